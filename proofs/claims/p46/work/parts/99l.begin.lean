/-! The law from its beginning to its end. -/
theorem zsel_priv {s : State} {args : Array Value} {y : MethodName} (hins : (Cond.instantiable RJ4 4).before args s = true) (hsm : (Cond.sameMethod RJ5 RJ5 "length" "()I").before args s = true) (hil : (Cond.instanceMethod yJ5_length_8abf5).before args s = true) (hy : y.cls = RJ5) (hpriv : (Cond.privateMethod y).before args s = true) (hinst : (Cond.instanceMethod y).before args s = true) : (Cond.selects RJ4 y y).before args s = true := by
  obtain ⟨c, k, hc, hk, -⟩ := Cond.instantiable_spec hins
  obtain ⟨mk, methM, hnamed, hmethM, -, -⟩ := Cond.instanceMethod_spec hinst
  obtain ⟨ml, methL, hnamedL, -, -, -⟩ := Cond.instanceMethod_spec hil
  have hMH : y.cls ≠ "java/lang/invoke/MethodHandle" ∧ y.cls ≠ "java/lang/invoke/VarHandle" := by rw [hy]; exact ⟨by decide +kernel, by decide +kernel⟩
  have hfound : s.methodFound? y.cls y.name y.desc = some mk := State.methodFound?_of_named hnamed hMH
  have hfoundL : s.methodFound? RJ5 "length" "()I" = some ml := State.methodFound?_of_named hnamedL ⟨by decide +kernel, by decide +kernel⟩
  have hc5 : s.vm.findClass RJ5 = some mk.cls := by rw [← hy]; exact findClass_of_methodNamed hnamed
  obtain ⟨-, k5, hk5, hni⟩ := Cond.sameMethod_spec hc5 hfoundL hsm
  have hsel : selectMethod {} s.vm c mk = .method mk := selectMethod_private hmethM (Cond.privateMethod_at hpriv mk methM hnamed hmethM)
  simp only [Cond.before, Cond.holds, Cond.value, hc, hfound, hnamed, hsel, hk5]
  simp
  exact hni
theorem zNB_of {s : State} {args : Array Value} (hts : ∀ w ∈ lw_tbl, w.before args s = true) : zNB s := by
  have h1 : (Cond.instantiable RJ4 4).before args s = true := hts _ (List.mem_of_getElem? (i := 1001) (by decide +kernel))
  have h2 : (Cond.sameMethod RJ5 RJ5 "length" "()I").before args s = true := hts _ (List.mem_of_getElem? (i := 1198) (by decide +kernel))
  have h3 : (Cond.instanceMethod yJ5_length_8abf5).before args s = true := hts _ (List.mem_of_getElem? (i := 1197) (by decide +kernel))
  refine ⟨fun y hy => ?_, va_Nw.of rfl (hts _ (List.mem_of_getElem? (i := 1069) (by decide +kernel)))⟩
  simp only [zPL, List.mem_cons, List.not_mem_nil, or_false] at hy
  rcases hy with rfl | rfl | rfl | rfl
  · exact va_Nw.of rfl (zsel_priv h1 h2 h3 rfl (hts _ (List.mem_of_getElem? (i := 1043) (by decide +kernel))) (hts _ (List.mem_of_getElem? (i := 1044) (by decide +kernel))))
  · exact va_Nw.of rfl (zsel_priv h1 h2 h3 rfl (hts _ (List.mem_of_getElem? (i := 1047) (by decide +kernel))) (hts _ (List.mem_of_getElem? (i := 1048) (by decide +kernel))))
  · exact va_Nw.of rfl (zsel_priv h1 h2 h3 rfl (hts _ (List.mem_of_getElem? (i := 1097) (by decide +kernel))) (hts _ (List.mem_of_getElem? (i := 1098) (by decide +kernel))))
  · exact va_Nw.of rfl (zsel_priv h1 h2 h3 rfl (hts _ (List.mem_of_getElem? (i := 1101) (by decide +kernel))) (hts _ (List.mem_of_getElem? (i := 1102) (by decide +kernel))))
/-- the world below stands -/
theorem zRep_low {V V1 : zW} {d d1 : zD} {H : Heap} (hv : zVv V V1) (hu : ∀ c, 440 ≤ c → zsh V c = none) (wf : zWf V) (hq : zKq V d V1 d1) (hZ : ∀ c j, zR (d c j)) (hP : zRep V1 d1 H) : zRep V d H := by
  obtain ⟨ad, sh, rfl⟩ := hv
  have lt : ∀ a, (zsh V a).isSome = true → a < 440 := fun a ha => by
    by_cases h : a < 440
    · exact h
    · rw [hu a (by omega)] at ha
      cases ha
  refine ⟨fun a x hx => ?_, fun a b ha hb e => ?_, hZ⟩
  · have ha : (zsh V a).isSome = true := by rw [hx]; rfl
    obtain ⟨q1, q2, q3⟩ := hq a (lt a ha)
    have g1 := (hP.1 a x (q1.trans hx)).1
    have g2 := (hP.1 a x (q1.trans hx)).2
    rw [q3] at g1
    have ea : ad a = zad V a := q2 ha
    have eE : zE (zW3 V ad sh) x (d a) = zE V x (d a) := zE_same fun k t hk => (hq t (lt t (wf a x hx k t hk))).2.1 (wf a x hx k t hk)
    rw [eE] at g1
    have g1' : va_at (zDD V) vwCl (ad a, zE V x (d a)) H := g1
    rw [ea] at g1'
    have g2' : zA V (ad a) := g2
    rw [ea] at g2'
    exact ⟨g1', g2'⟩
  · obtain ⟨p1, p2, -⟩ := hq a (lt a ha)
    obtain ⟨r1, r2, -⟩ := hq b (lt b hb)
    refine hP.2.1 a b (by rw [p1]; exact ha) (by rw [r1]; exact hb) ?_
    rw [p2 ha, r2 hb]
    exact e
/-- the text that the builder gave, as the world that knows it tells of it -/
theorem zTX_of {V V1 : zW} {d1 : zD} {s : State} {args : Array Value} {H : Heap} {qs b : Nat} {bs : List Int} (hts : ∀ w ∈ zT, w.before args s = true) (hv : zVv V V1) (hK : zK V s) (hP : zRep V1 d1 H) (hst : zSt V1 d1 qs b bs) : ∃ q1, zad V1 b = qs ∧ zad V1 (b + 1) = q1 ∧ (zsh V1 b).isSome = true ∧ (zsh V1 (b + 1)).isSome = true ∧ qs < H.size ∧ q1 < H.size ∧ zTX (zdrW V (qs, q1, bs.length, fun j => bs.getD j 0)) s H (qs, q1, bs.length, fun j => bs.getD j 0) := by
  obtain ⟨ad, sh, rfl⟩ := hv
  obtain ⟨q1, hb, hb1, h0, hbs⟩ := hst
  have c0 := (hP.1 b _ hb.1).1
  have c1 := (hP.1 (b + 1) _ hb1.1).1
  have l0 := c0.lt
  have l1 := c1.lt
  rw [hb.2] at c0 l0
  rw [hb1.2] at c1 l1
  obtain ⟨r', h1, cell, g1, g2, g3, g4⟩ := c0
  have hr : r' = (RJ0, TJ0, 4) := Option.some.inj (h1.symm.trans rfl)
  subst hr
  obtain ⟨hS1, hfc, kC, hkC, hkind⟩ := hK.1.1 13 (RJ0, TJ0, 4) rfl
  have nA : ∀ q, q = qs ∨ q = q1 → ¬ zA (zdrW V (qs, q1, bs.length, fun j => bs.getD j 0)) q := fun q hq h => by
    have := zA_dr.mp h
    rcases hq with rfl | rfl
    · exact this.2.1 rfl
    · exact this.2.2 rfl
  obtain ⟨cf0, kf0, fi0, f0, hi0, hsl0⟩ := hS1 0 (by decide)
  obtain ⟨cf1, kf1, fi1, f1, hi1, hsl1⟩ := hS1 1 (by decide)
  have st0 := (u_facts hfc hkC (u_lays hts cf13.2.1 (show 0 < 4 by decide)) hi0).1
  have st1 := (u_facts hfc hkC (u_lays hts cf13.2.1 (show 1 < 4 by decide)) hi1).1
  have hvm : cell.vm ≠ .unknown := fun h => by rw [g3] at h; cases h
  refine ⟨q1, hb.2, hb1.2, by rw [hb.1]; rfl, by rw [hb1.1]; rfl, l0, l1, ⟨cell, g1, by rw [g3]; rfl, by rw [g2]; exact hfc, nA _ (Or.inl rfl)⟩, ⟨cf1, kf1, fi1, f1, cell, hi1, st1, g1, hvm, ?_, nA _ (Or.inl rfl)⟩, ⟨cf0, kf0, fi0, f0, cell, hi0, st0, g1, hvm, ?_, nA _ (Or.inl rfl)⟩, ⟨_, c1, (hK.1.2 1 _ rfl).1 bs.length (fun j => .int (zI (d1 (b + 1) j))), (fun q => by cases q), ?_, ?_, fun j hj => ?_, nA _ (Or.inr rfl)⟩⟩
  · rw [hsl1]
    refine Eq.trans (show cell.slots[(zDD V).snd 13 1]? = some (zfv (zW3 V ad sh) 0 (d1 b 1)) from g4 1 (by decide)) ?_
    rw [h0]
    rfl
  · rw [hsl0]
    refine Eq.trans (show cell.slots[(zDD V).snd 13 0]? = some (Value.ref (zad (zW3 V ad sh) (b + 1))) from g4 0 (by decide)) ?_
    rw [hb1.2]
  · show bs.length ≤ (arrV (zct V 1) bs.length (fun j => .int (zI (d1 (b + 1) j)))).slots.size
    rw [arrV_size]
    exact Nat.le_refl _
  · show (arrV (zct V 1) bs.length (fun j => .int (zI (d1 (b + 1) j)))).slots.size.toInt32 = _
    rw [arrV_size]
  · have e := arrV_read (zct V 1) (fun j => Value.int (zI (d1 (b + 1) j))) hj
    refine Eq.trans e ?_
    show some (Value.int (zI (d1 (b + 1) j))) = _
    rw [hbs j hj]
theorem zTX.moved {V : zW} {u U : State} {H : Heap} {r : Nat × Nat × Nat × (Nat → Int)} (hW : u.WarmedH U.vm) (h : zTX V u H r) : zTX V U H r := ⟨h.1.moved hW.alike, h.2.1.moved hW.alike, h.2.2.1.moved hW.alike, h.2.2.2.moved hW.alike⟩
/-- the drawn text goes into the input and is loaded; what is read there are ints -/
theorem t_L_loadedZ {τ : zdW} {V : zW} (hT : zo11 V) (wf : zWf V) (hu : zsh V 430 = none) (hdx : zdX V τ) {d d1 dz : zD} {rv : Int} (h1 : f_L_feeds τ d = some (0, d1)) (h2 : (∀ c j, zR (d1 c j)) → f_X11_loadLine d1 = some (rv, dz)) : zMetA V 13 31 155 yL_loaded cL_loaded 2 (some .int) [.ref (zad V 0), .ref τ.1] d (some (.int (zI rv))) ((∀ c j, zR (d1 c j)) ∧ zR rv) dz := by
  refine zMetA_by RL pn99 rfl (Nat.le_of_ble_eq_true rfl) [some (.ref (zad V 0)), some (.ref τ.1)] rfl fun X C E => ?_
  refine zP_aload_n (pc := 0) C (x := zad V 0) dL_loaded_0 rfl rfl ?_
  refine zP_aload_n (pc := 1) C (x := τ.1) dL_loaded_1 rfl rfl ?_
  refine zP_callSA (pc := 2) (As := [.ref (zad V 0), .ref τ.1]) (st := []) C m99_35 dL_loaded_2 (t_L_feeds hT wf hu hdx h1) ⟨Nat.le_of_ble_eq_true rfl, Nat.le_of_ble_eq_true rfl⟩ rfl (Nat.le_of_ble_eq_true rfl) ⟨Nat.le_of_ble_eq_true rfl, Nat.le_of_ble_eq_true rfl⟩ fun _ => ?_
  refine zP_ints fun hZ => ?_
  refine zP_aload_n (pc := 5) C (x := zad V 0) dL_loaded_5 rfl rfl ?_
  refine zP_callV (pc := 6) (As := []) (st := []) C m99_39 dL_loaded_6 (s_X11 hT) rfl (t_X11_loadLine hT (h2 hZ)) ⟨Nat.le_of_ble_eq_true rfl, Nat.le_of_ble_eq_true rfl⟩ rfl (Nat.le_of_ble_eq_true rfl) ⟨Nat.le_of_ble_eq_true rfl, Nat.le_of_ble_eq_true rfl⟩ fun hw => ?_
  exact zP_nretA (pc := 9) C E ⟨Nat.le_of_ble_eq_true rfl, Nat.le_of_ble_eq_true rfl⟩ rfl ⟨hZ, hw⟩ rfl dL_loaded_9
section PAIRZ
variable {V : zW} {p : Program} {l : Launch} {e : Env} {R : Room} {s : State} {m : MethodId} {args : Array Value} {below : List Frame} {meth : Method} {c : Code} {Q : State → Prop} {k n pc nL : Nat} {L : List (Option Value)} {st : List Value} {rt : Option FieldType}
theorem W_loadedZ {cc : ByteArray} {τ : zdW} {R0 : Room} (C : zOk V (p, l, e, R, s, m, args, below, meth, c, Q) cc RL nL R0 rt) (hd : zdr V = none) (hτ : zdY4 τ) (hT : zo11 V) (wf : zWf V) (hu : zsh V 430 = none) {d d1 dz : zD} {rv : Int} (h1 : f_L_feeds τ d = some (0, d1)) (h2 : (∀ c j, zR (d1 c j)) → f_X11_loadLine d1 = some (rv, dz)) {ix : Nat} (hw : zMS RL ix yL_loaded cL_loaded 2 (some .int) 2) (hdg : decode cc pc = .ok (.invokestatic ix, 3)) (hfit : zfit 13 2 R0) (hc : (st.map fun v => v.category).sum ≤ 8) (hkn : k + 31 ≤ R0.cells ∧ n + 155 ≤ R0.slots)
    {ls : Array Slot} {H : Heap} {locs : List Loc} (hl : zLs ls nL L) (hP : zRep V d H) (hS : va_S (zA V) s.heap H locs) (hap : ∀ a x, zsh V a = some x → zad V a ≠ τ.1 ∧ zad V a ≠ τ.2.1) (htx : ∀ U : State, U.heap = H → s.WarmedH U.vm → zTX (zdrW V τ) U H τ) (hsz2 : τ.1 < H.size ∧ τ.2.1 < H.size)
    (kk : (∀ c j, zR (d1 c j)) ∧ zR rv → zP V (p, l, e, R, s, m, args, below, meth, c, Q) nL (k + 31) (n + 155) (pc + 3) L (.int (zI rv) :: st) dz) : W p l e R s m args below meth c H locs k n Q (F0 m pc ls (.ref τ.1 :: .ref (zad V 0) :: st)) := by
  obtain ⟨hx, hb, hml, hown, hts, hK, hlk, hR, hret, hsz⟩ := C
  obtain ⟨w1, w2, w4, w5, w7, w8⟩ := hw
  subst hR
  have hM := t_L_loadedZ (V := zdrW V τ) (τ := τ) (d := d) hT wf hu ⟨rfl, hτ.1, hτ.2⟩ h1 h2
  have cb : CallB R s args RL ix yL_loaded cL_loaded 2 (some .int) (zwsU yL_loaded cL_loaded 2 (some .int)) (zrmC 13 31 155) 31 155 2 := callB_of 2 hts (zgood w5) rfl rfl rfl (hts _ w4) (hts _ w1) ⟨w7.1, w7.2, w8⟩ hfit
  have hrun := va_runS (p := p) (e := e) (below := below) (meth := meth) (locs := locs) (cells := k) (slots := n) (As := [.ref (zad V 0), .ref τ.1]) (rest := st) (g := F0 m pc ls (([.ref (zad V 0), .ref τ.1] : List Value).reverse ++ st)) ⟨hx, hb, hml, hown, hts⟩ (hM l) ⟨cb, hts _ w2⟩
    ⟨zPre_blind, fun U hU hW => ⟨rfl, by rw [hU]; exact hP.dr hap, ⟨(hK.go hS hU hW).1, by rw [hU]; exact zRO.dr hd (by have := (hK.go hS hU hW).2; rw [hU] at this; exact this) (htx U hU hW)⟩, fun q hq => zA_dr.mpr (by
      rw [hU] at hq
      exact ⟨(hsz q (Nat.le_trans hS.1 hq)).1, by omega, by omega⟩)⟩⟩
    rfl rfl hl.1 rfl (zcat_sum hc) hdg hkn
  intro T' hT' X'
  obtain ⟨v, st₀, t, T2, L2, h0, X2, hL, e1, e2, ⟨⟨hv, hφ, hRep⟩, hz, hkp⟩, stp⟩ := hrun T' hT' X'
  cases hv
  rw [h0] at hz hkp
  obtain ⟨t2, a1, b1⟩ := kk hφ ls T2.heap (locs ++ L2) hl (by rw [e1]; exact hRep.undr hd) ⟨Nat.le_trans hS.1 (by rw [e1]; exact hz), fun q h1 h2 => by rw [e1, hkp q (Nat.lt_of_lt_of_le h1 hS.1) (fun z => h2 (zA_sub hd _ z))]; exact hS.2.1 q h1 h2, fun q hq => by
    rcases List.mem_append.mp hq with h | h
    · exact hS.2.2 q h
    · exact zA_sub hd _ (hL q h)⟩ T2 rfl X2
  exact ⟨t2, stp t2 a1, b1⟩
end PAIRZ
theorem nwL_26 : Cond.classLink RL 26 RX11 ∈ zT ∧ Cond.instantiable RX11 13 ∈ zT ∧ Cond.initialized RX11 ∈ zT := ⟨zin 53 (by decide +kernel) (by decide +kernel), zin 54 (by decide +kernel) (by decide +kernel), q22⟩
theorem ciL_160 : zMV1 RL 160 yX11_init cX11_init 2 none 0 := ⟨zin 55 (by decide +kernel) (by decide +kernel), zin 56 (by decide +kernel) (by decide +kernel), q22, zin 57 (by decide +kernel) (by decide +kernel), ⟨by decide +kernel, by decide +kernel⟩, by decide +kernel⟩
def zNs (X : zX) : Prop := match X with
  | (_, _, _, _, s, _, _, _, _, _, _) => zN s
theorem zP_callIL {V : zW} {X : zX} {cc : ByteArray} {own : String} {nL k n pc : Nat} {R0 : Room} {ret : Option FieldType} {L : List (Option Value)} {st : List Value} {d : zD} (C : zOk V X cc own nL R0 ret) (HN : zNs X) {ix np dp mc ms nn x : Nat} {y : MethodName} {b : ByteArray} {As : List Value} {P : zW → Prop} {S : Nat → Prop} {d1 : zD} (hw : zMV1 own ix y b nn none np) (hyn : y.name = "<init>") (hdg : decode cc pc = .ok (.invokespecial ix, 3)) (hM : zMetN V dp mc ms y b nn (.ref x :: As) d P S d1) (hfit : zfit dp nn R0) (hlen : As.length = np) (hc : (st.map fun v => v.category).sum ≤ 8) (hkn : k + mc ≤ R0.cells ∧ n + ms ≤ R0.slots) (kk : ∀ V1, zEy V V1 S → zWf V1 → P V1 → zP V1 X nL (k + mc) (n + ms) (pc + 3) L st d1) : zP V X nL k n pc L (As.reverse ++ .ref x :: st) d := by
  obtain ⟨p, l, e, R, s, m, args, below, meth, c, Q⟩ := X
  obtain ⟨hx, hb, hml, hown, hts, hK, hlk, hR, hret, hsz⟩ := C
  have HN : zN s := HN
  intro ls H locs hl hP hS
  obtain ⟨w1, w2, w4, w5, w7, w8⟩ := hw
  subst hR
  have hpre : PreS s H (va_Pc (.ref x :: As) (zPreN V d)) (.ref x :: As) := ⟨zPreN_blind, fun U hU hW => ⟨rfl, ⟨by rw [hU]; exact hP, hK.go hS hU hW, fun q hq => hsz q (Nat.le_trans hS.1 (by rw [hU] at hq; exact hq))⟩, HN.go hW⟩⟩
  have hrun : va_Run p l e R s m args below meth c H locs k n mc ms (F0 m pc ls (As.reverse ++ .ref x :: st)) st (zPostN V P S d1 (Value.ref x :: As).toArray) (zA V) :=
    va_runI ⟨hx, hb, hml, hown, hts⟩ (hM l) ⟨callB_of np hts (zgood w5) rfl rfl rfl (hts _ w4) (hts _ w1) ⟨w7.1, w7.2, w8⟩ hfit, hyn, hts _ w2⟩ hpre rfl hlen hl.1 rfl (zcat_sum hc) hdg hkn
  intro T' hT X'
  obtain ⟨v, st₀, t, T2, L2, h0, X2, hL, e1, e2, ⟨⟨hv, V1, hE, hw1, hP1, hRep⟩, hz, hkp⟩, stp⟩ := hrun T' hT X'
  cases hv
  rw [h0] at hz hkp
  have eA : zA V1 = zA V := hE.A
  obtain ⟨t2, a1, b1⟩ := kk V1 hE hw1 hP1 ls T2.heap (locs ++ L2) hl (by rw [e1]; exact hRep) (by
    rw [eA]
    exact ⟨Nat.le_trans hS.1 (by rw [e1]; exact hz), fun q h1 h2 => by rw [e1, hkp q (Nat.lt_of_lt_of_le h1 hS.1) h2]; exact hS.2.1 q h1 h2, fun q hq => by
      rcases List.mem_append.mp hq with h | h
      · exact hS.2.2 q h
      · exact hL q h⟩) T2 rfl X2
  exact ⟨t2, stp t2 a1, b1⟩
/-- what the class is born with -/
theorem first_c : ∃ d1 d2 ds, f_X7_readText (zdT (zdC zd0) 33) = some (1, d1) ∧ f_X11_beginAnew d1 = some (0, d2) ∧ GR (zu d2 10 1 0) ds := by
  obtain ⟨d1, d2, e1, e2, e3, r1, r2, r3, r4, r5, hg, hz, hz9⟩ := first_GR
  refine ⟨d1, d2, _, r1, r2, GR_cong hg (fun c hc => ?_) (fun c hc => rfl)⟩
  obtain ⟨x1, a1, a2, a3⟩ := k_begins (d := zu (zu d2 10 1 0) 400 13 (-1))
  have b1 := r3.symm.trans a1
  cases b1
  have z0 : e1 401 0 = 0 := a3 0 (by decide)
  have b2 := r4.symm.trans (e_lays (m := 1) z0 (by decide))
  have hE2 : ∀ c, c ≠ 401 → e2 c = e1 c := fun c hc => by
    have := congrArg Prod.snd (Option.some.inj b2)
    rw [show e2 = _ from this]
    unfold tD
    simp only [zu_row hc]
  have z1 : e2 401 0 = 1 := by
    have w : ∀ d : zD, zu d 401 0 (0 + 1) 401 0 = 1 := fun d => Eq.trans zu_eq rfl
    exact Eq.trans (congrFun (congrFun (congrArg Prod.snd (Option.some.inj b2)) 401) 0) (w (tD (tD (tD (tD (tD (tD e1 0 0 2) 0 1 2) 0 2 5) 0 3 1) 0 4 1) 0 15 1))
  have b3 := r5.symm.trans (e_lays (m := 2) z1 (by decide))
  have hE3 : ∀ c, c ≠ 401 → e3 c = e2 c := fun c hc => by
    have := congrArg Prod.snd (Option.some.inj b3)
    rw [show e3 = _ from this]
    unfold tD
    simp only [zu_row hc]
  have g : zu (zu e3 401 1 2) 401 31 1 c = zu d2 10 1 0 c := by
    have c1 : c ≠ 401 := by omega
    have c0 : c ≠ 400 := by omega
    rw [zu_row c1, zu_row c1, hE3 c c1, hE2 c c1, a2 c (by omega), zu_row c0]
  exact g.symm
theorem law_tail {V : zW} {X : zX} (C : zOk V X cL_law RL 10 room_1 (some .boolean)) (hqn : zqn V ≤ 260) (hT : zo11 V) {k n : Nat} (hkn : k ≤ 600086 ∧ n ≤ 7301442) (fin : ∀ k n L d, k ≤ 600086 → n ≤ 7301442 → zP V X 10 k n 323 L [.int (zI 1)] d) {many : Int} (hm : 1 ≤ many ∧ many ≤ 4) {d ds : zD} (g1 : GR d ds) (g2 : ds 401 0 = many) (g3 : ds 401 2 = 0) (g4 : ds 401 4 = 0) : zP V X 10 k n 25 [some (.ref (zqa V)), some (.ref (zad V 0)), some (.int (zI many)), none, none, none, none, none, none, none] [.int (zI many)] d := by
  refine zP_iload_n (pc := 25) C (x := zI many) dL_law_25 rfl rfl ?_
  refine zP_icmp_ne (β := Unit) (r := ()) (A := some ()) (B := none) (x := many) (y := many) (pc := 26) (tgt := 36) C dL_law_26 rfl ⟨by omega, by omega⟩ ⟨by omega, by omega⟩ (if_pos rfl) (fun h _ => absurd rfl h) (fun _ _ => ?_)
  refine zP_aload_n (pc := 29) C (x := zad V 0) dL_law_29 rfl rfl ?_
  refine zP_ints fun hZ2 => ?_
  refine zP_callS (pc := 30) (As := [.ref (zad V 0)]) (st := []) C m99_169 dL_law_30 (t_L_isSound hT (GR_sound g1 hZ2)) ⟨Nat.le_of_ble_eq_true rfl, Nat.le_of_ble_eq_true rfl⟩ rfl (Nat.le_of_ble_eq_true rfl) hkn fun _ => ?_
  refine zP_if_ne (β := Unit) (r := ()) (A := none) (B := some ()) (x := 1) (pc := 33) (tgt := 38) C dL_law_33 rfl (zRk rfl) (if_neg (by decide)) (fun _ _ => ?_) (fun h _ => absurd h (by decide))
  refine zP_aload_n (pc := 38) C (x := zqa V) dL_law_38 rfl rfl ?_
  refine zP_iconst (pc := 39) C dL_law_39 ?_
  refine zP_iconst (pc := 40) C dL_law_40 ?_
  refine zP_bipush (pc := 41) C dL_law_41 rfl ?_
  have hr := drw_R (V := V) (k := 1) (lo := 2) (hi := 20) (by omega)
  refine zP_callS (pc := 43) (As := [.ref (zqa V), .int (zI 1), .int (zI 2), .int (zI 20)]) (st := []) C m99_59 dL_law_43 (t_L_draw hqn (zRk rfl) (zRk rfl) (zRk rfl) (q_draw (V := V) (by omega) (by omega))) ⟨Nat.le_of_ble_eq_true rfl, Nat.le_of_ble_eq_true rfl⟩ rfl (Nat.le_of_ble_eq_true rfl) hkn fun _ => ?_
  obtain ⟨Rn, hRn⟩ := Int.eq_ofNat_of_zero_le (show 0 ≤ drw V 1 2 20 by omega)
  rw [hRn] at hr ⊢
  refine zP_istore_n (pc := 46) C (L' := [some (.ref (zqa V)), some (.ref (zad V 0)), some (.int (zI many)), some (.int (zI (Rn : Int))), none, none, none, none, none, none]) dL_law_46 rfl (Nat.le_of_ble_eq_true rfl) rfl rfl ?_
  refine zP_iconst (pc := 47) C dL_law_47 ?_
  refine zP_istore (pc := 48) C (L' := [some (.ref (zqa V)), some (.ref (zad V 0)), some (.int (zI many)), some (.int (zI (Rn : Int))), some (.int (zI ((0 : Nat) : Int))), none, none, none, none, none]) dL_law_48 (Nat.le_of_ble_eq_true rfl) rfl rfl ?_
  exact law_rounds hT hqn C hkn hm (R := Rn) (by omega) (fun d ds h1 h2 h3 h4 => law_end hT hqn C hkn (fun L d => fin _ _ L d hkn.1 hkn.2) h1 h3) Rn (j := 0) (by omega) g1 g2 (by omega) (by omega)

def zta (qs q1 : Nat) (bs : List Int) : zdW := (qs, q1, bs.length, fun j => bs.getD j 0)
theorem law_text {V : zW} {many : Int} (hm : 1 ≤ many ∧ many ≤ 4) {d ds : zD} (hg : GR d ds) (h10 : d 10 1 = 0) {qs q1 : Nat} {bs : List Int} (e : bs = aText V many) (hl4 : bs.length ≤ 400) (hbb : ∀ j, j < bs.length → 0 ≤ bs.getD j 0 ∧ bs.getD j 0 < 128) : ∃ dF dz ds', f_L_feeds (zta qs q1 bs) d = some (0, dF) ∧ ((∀ c j, zR (dF c j)) → f_X11_loadLine dF = some (many, dz) ∧ GR dz ds' ∧ ds' 401 0 = many ∧ ds' 401 2 = 0 ∧ ds' 401 4 = 0) := by
  obtain ⟨dF, f1, f2, f3, f4⟩ := F_feeds (τ := zta qs q1 bs) ⟨Nat.le_trans hl4 (by decide), hbb⟩ (Nat.le_trans hl4 (by decide)) h10
  by_cases hZF : ∀ c j, zR (dF c j)
  · have g3 : dF 10 1 = ((bs.length : Nat) : Int) := f3
    have g4 : ∀ i : Nat, i < bs.length → dF 11 i = bs.getD i 0 := f4
    have l5 : bs.length ≤ 580 := by omega
    rw [e] at g3 g4 l5 hbb
    exact Exists.elim (y_fed hm l5 hg f2 g3 g4 hbb hZF) fun dz w => Exists.elim w fun ds' w => ⟨dF, dz, ds', f1, fun _ => w⟩
  · exact ⟨dF, dF, dF, f1, fun h => absurd h hZF⟩
theorem zDr_ap {V V3 : zW} {d d3 : zD} {H : Heap} {qs b q1 : Nat} (hu : ∀ c, 440 ≤ c → zsh V c = none) (hb4 : 440 ≤ b) (hP : zRep V3 d3 H) (hq : zKq V d V3 d3) (z1 : zad V3 b = qs) (z2 : zad V3 (b + 1) = q1) (z3 : (zsh V3 b).isSome = true) (z4 : (zsh V3 (b + 1)).isSome = true) : ∀ a x, zsh V a = some x → zad V a ≠ qs ∧ zad V a ≠ q1 := fun a x hx => by
  have ha : (zsh V a).isSome = true := by rw [hx]; rfl
  have ha4 : a < 440 := by
    by_cases h : a < 440
    · exact h
    · rw [hu a (by omega)] at hx
      cases hx
  obtain ⟨k1, k2, -⟩ := hq a ha4
  have hs1 : (zsh V3 a).isSome = true := by rw [k1]; exact ha
  constructor
  · intro h
    have := hP.2.1 a b hs1 z3 (by rw [k2 ha, z1]; exact h)
    omega
  · intro h
    have := hP.2.1 a (b + 1) hs1 z4 (by rw [k2 ha, z2]; exact h)
    omega
theorem law_mid {V V3 : zW} {X : zX} (C : zOk V X cL_law RL 10 room_1 (some .boolean)) (hqn : zqn V ≤ 260) (hdr : zdr V = none) (hT : zo11 V) (wf : zWf V) (hu : ∀ c, 430 ≤ c → zsh V c = none) {k n : Nat} (hkn : k + 31 ≤ 600086 ∧ n + 155 ≤ 7301442) (fin : ∀ k n L d, k ≤ 600086 → n ≤ 7301442 → zP V X 10 k n 323 L [.int (zI 1)] d) {many : Int} (hm : 1 ≤ many ∧ many ≤ 4) {d d3 : zD} {bs : List Int} (hload : ∀ qs q1, ∃ dF dz ds', f_L_feeds (zta qs q1 bs) d = some (0, dF) ∧ ((∀ c j, zR (dF c j)) → f_X11_loadLine dF = some (many, dz) ∧ GR dz ds' ∧ ds' 401 0 = many ∧ ds' 401 2 = 0 ∧ ds' 401 4 = 0)) (hZ : ∀ c j, zR (d c j)) {qs b : Nat} (hb4 : 440 ≤ b) (hl4 : bs.length ≤ 400) (hbb : ∀ j, j < bs.length → 0 ≤ bs.getD j 0 ∧ bs.getD j 0 < 128) (hv3 : zVv V V3) (hst : zSt V3 d3 qs b bs) (hq : zKq V d V3 d3) : zP V3 X 10 k n 22 [some (.ref (zqa V)), some (.ref (zad V 0)), some (.int (zI many)), none, none, none, none, none, none, none] [.ref qs, .ref (zad V 0)] d3 := by
  obtain ⟨p, l, e, R, s, m, args, below, meth, c, Q⟩ := X
  intro ls H locs hl hP hS
  have eA : zA V3 = zA V := hv3.A
  rw [eA] at hS
  have hPl := zRep_low hv3 (fun c hc => hu c (by omega)) wf hq hZ hP
  obtain ⟨q1, z1, z2, z3, z4, z5, z6, z7⟩ := zTX_of (args := args) C.2.2.2.2.1 hv3 C.2.2.2.2.2.1 hP hst
  obtain ⟨dF, dz, ds', f1, hld⟩ := hload qs q1
  have hap := zDr_ap (fun c hc => hu c (by omega)) hb4 hP hq z1 z2 z3 z4
  exact W_loadedZ (V := V) (τ := zta qs q1 bs) (st := []) C hdr ⟨Nat.le_trans hl4 (by decide), hbb⟩ hT wf (hu 430 (by omega)) f1 (fun h => (hld h).1) m99_165 dL_law_22 ⟨Nat.le_of_ble_eq_true rfl, Nat.le_of_ble_eq_true rfl⟩ (Nat.le_of_ble_eq_true rfl) hkn hl hPl hS hap (fun U hU hW => z7.moved hW) ⟨z5, z6⟩ fun hφ => by
    obtain ⟨-, g1, g2, g3, g4⟩ := hld hφ.1
    exact law_tail C hqn hT hkn fin hm g1 g2 g3 g4
theorem law_from {V : zW} {X : zX} (C : zOk V X cL_law RL 10 room_1 (some .boolean)) (HN : zNs X) (HB : zNBX X) (hqn : zqn V ≤ 260) (hdr : zdr V = none) (wf : zWf V) (hu : ∀ c, zsh V c = none) (fin : ∀ V1 k n L d, zVv V V1 → k ≤ 600086 → n ≤ 7301442 → zP V1 X 10 k n 323 L [.int (zI 1)] d) : zP V X 10 0 0 0 [some (.ref (zqa V)), none, none, none, none, none, none, none, none, none] [] zd0 := by
  obtain ⟨d1, d2, ds, r1, r2, hg⟩ := first_c
  refine zP_newq (pc := 0) (a := 0) (fk := zF11) C zY11 cf11 zY11_p nwL_26 dL_law_0 wf (hu 0) (fun j => rfl) zF11_d zF11_r ⟨Nat.le_of_ble_eq_true rfl, Nat.le_of_ble_eq_true rfl⟩ fun V1 q0 e1 wf1 a0 => ?_
  have C1 := e1.v.ok C
  refine zP_dupr (pc := 3) C1 dL_law_3 ?_
  refine zP_callIL (pc := 4) (As := []) (st := [.ref q0]) C1 HN ciL_160 rfl dL_law_4 (t_X11_init wf1 a0 (fun c h => by rw [e1.2.2.1 c (by omega)]; exact hu c) (fun c j h => rfl) r1 r2) ⟨Nat.le_of_ble_eq_true rfl, Nat.le_of_ble_eq_true rfl⟩ rfl (Nat.le_of_ble_eq_true rfl) ⟨Nat.le_of_ble_eq_true rfl, Nat.le_of_ble_eq_true rfl⟩ fun V2 e2 wf2 hT => ?_
  have a0 := zAd.go e2 a0.1 a0.2
  have hv2 : zVv V V2 := e1.v.tr e2.v
  have C2 := hv2.ok C
  have hu2 : ∀ c, 360 ≤ c → zsh V2 c = none := fun c hc => by rw [e2.2.2.1 c (by omega), e1.2.2.1 c (by omega)]; exact hu c
  have eqa : zqa V = zqa V2 ∧ zqn V = zqn V2 ∧ zdr V = zdr V2 := by
    obtain ⟨ad, sh, rfl⟩ := id hv2
    exact ⟨rfl, rfl, rfl⟩
  have fin2 : ∀ k n L d, k ≤ 600086 → n ≤ 7301442 → zP V2 X 10 k n 323 L [.int (zI 1)] d := fun k n L d h1 h2 => fin V2 k n L d hv2 h1 h2
  rw [eqa.1]
  rw [eqa.2.1] at hqn
  rw [eqa.2.2] at hdr
  subst a0
  clear fin hv2 C C1 e1 e2 wf1 wf hu eqa
  generalize hdd : zu d2 10 1 0 = d at hg ⊢
  have h10 : d 10 1 = 0 := by rw [← hdd]; exact zu_eq
  refine zP_astore_n (pc := 7) C2 (L' := [some (.ref (zqa V2)), some (.ref (zad V2 0)), none, none, none, none, none, none, none, none]) dL_law_7 rfl (Nat.le_of_ble_eq_true rfl) rfl rfl ?_
  refine zP_aload_n (pc := 8) C2 (x := zqa V2) dL_law_8 rfl rfl ?_
  refine zP_iconst (pc := 9) C2 dL_law_9 ?_
  refine zP_iconst (pc := 10) C2 dL_law_10 ?_
  refine zP_iconst (pc := 11) C2 dL_law_11 ?_
  have hm := drw_R (V := V2) (k := 0) (lo := 1) (hi := 4) (by omega)
  refine zP_callS (pc := 12) (As := [.ref (zqa V2), .int (zI 0), .int (zI 1), .int (zI 4)]) (st := []) C2 m99_59 dL_law_12 (t_L_draw hqn (zRk rfl) (zRk rfl) (zRk rfl) (q_draw (V := V2) (by omega) (by omega))) ⟨Nat.le_of_ble_eq_true rfl, Nat.le_of_ble_eq_true rfl⟩ rfl (Nat.le_of_ble_eq_true rfl) ⟨Nat.le_of_ble_eq_true rfl, Nat.le_of_ble_eq_true rfl⟩ fun _ => ?_
  generalize drw V2 0 1 4 = many at hm ⊢
  refine zP_istore_n (pc := 15) C2 (L' := [some (.ref (zqa V2)), some (.ref (zad V2 0)), some (.int (zI many)), none, none, none, none, none, none, none]) dL_law_15 rfl (Nat.le_of_ble_eq_true rfl) rfl rfl ?_
  refine zP_aload_n (pc := 16) C2 (x := zad V2 0) dL_law_16 rfl rfl ?_
  refine zP_aload_n (pc := 17) C2 (x := zqa V2) dL_law_17 rfl rfl ?_
  refine zP_iload_n (pc := 18) C2 (x := zI many) dL_law_18 rfl rfl ?_
  refine zP_ints fun hZ => ?_
  refine zP_callSB (pc := 19) (As := [.ref (zqa V2), .int (zI many)]) (st := [.ref (zad V2 0)]) C2 HB m99_161 dL_law_19 (t_setup hqn wf2 (fun c hc => hu2 c (by omega)) hm) ⟨Nat.le_of_ble_eq_true rfl, Nat.le_of_ble_eq_true rfl⟩ rfl (Nat.le_of_ble_eq_true rfl) ⟨Nat.le_of_ble_eq_true rfl, Nat.le_of_ble_eq_true rfl⟩ fun ov V3 d3 hv3 hp => ?_
  obtain ⟨qs, b, rfl, hb4, ⟨hl4, hbb⟩, hst, hq⟩ := hp
  exact law_mid C2 hqn hdr hT wf2 (fun c hc => hu2 c (by omega)) ⟨Nat.le_of_ble_eq_true rfl, Nat.le_of_ble_eq_true rfl⟩ fin2 hm (fun qs q1 => law_text hm hg h10 rfl hl4 hbb) hZ hb4 hl4 hbb hv3 hst hq
