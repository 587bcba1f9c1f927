/-! The world that knows the drawn text. -/
def zdrW (V : zW) (τ : zdW) : zW := (V.1, V.2.1, V.2.2.1, V.2.2.2.1, V.2.2.2.2.1, V.2.2.2.2.2.1, V.2.2.2.2.2.2.1, V.2.2.2.2.2.2.2.1, zqa V, zqn V, zqf V, some τ)
theorem zA_dr {V : zW} {τ : zdW} {q : Nat} : zA (zdrW V τ) q ↔ zsz V ≤ q ∧ q ≠ τ.1 ∧ q ≠ τ.2.1 := by
  constructor
  · intro h
    exact ⟨h.1, h.2 τ rfl⟩
  · intro h
    exact ⟨h.1, fun r hr => by cases hr; exact h.2⟩
theorem zA_no {V : zW} (hd : zdr V = none) {q : Nat} : zA V q ↔ zsz V ≤ q := ⟨fun h => h.1, fun h => ⟨h, fun r hr => by rw [hd] at hr; cases hr⟩⟩
theorem va_O.sub {E : String} {t : Nat} {A A' : Nat → Prop} {U : State} {H : Heap} (h : va_O E t A U H) (hs : ∀ q, A' q → A q) : va_O E t A' U H := by
  obtain ⟨c, h1, h2, h3, h4⟩ := h
  exact ⟨c, h1, h2, h3, fun q => h4 (hs _ q)⟩
theorem va_OF.sub {o n d : String} {v : Value} {t : Nat} {A A' : Nat → Prop} {U : State} {H : Heap} (h : va_OF o n d v t A U H) (hs : ∀ q, A' q → A q) : va_OF o n d v t A' U H := by
  obtain ⟨c, k, i, f, cell, h1, h2, h3, h4, h5, h6⟩ := h
  exact ⟨c, k, i, f, cell, h1, h2, h3, h4, h5, fun q => h6 (hs _ q)⟩
theorem va_T.sub {ty : FieldType} {t N : Nat} {f : Nat → Value} {A A' : Nat → Prop} {U : State} {H : Heap} (h : va_T ty t N f A U H) (hs : ∀ q, A' q → A q) : va_T ty t N f A' U H := by
  obtain ⟨c, h1, h2, h3, h4, h5, h6, h7⟩ := h
  exact ⟨c, h1, h2, h3, h4, h5, h6, fun q => h7 (hs _ q)⟩
theorem va_Z.sub {C n d : String} {v : Value} {A A' : Nat → Prop} {U : State} {H : Heap} (h : va_Z C n d v A U H) (hs : ∀ q, A' q → A q) : va_Z C n d v A' U H := by
  obtain ⟨cf, kf, fi, f, a, cell, h1, h2, h3, h4, h5, h6, h7, h8⟩ := h
  exact ⟨cf, kf, fi, f, a, cell, h1, h2, h3, h4, h5, h6, h7, fun q => h8 (hs _ q)⟩
theorem va_Zq.sub {C n d : String} {A A' : Nat → Prop} {U : State} {H : Heap} (h : va_Zq C n d A U H) (hs : ∀ q, A' q → A q) : va_Zq C n d A' U H := by
  rcases h with h | ⟨t, h⟩
  · exact Or.inl (h.sub hs)
  · exact Or.inr ⟨t, h.sub hs⟩
theorem zA_sub {V : zW} {τ : zdW} (hd : zdr V = none) : ∀ q, zA (zdrW V τ) q → zA V q := fun _ h => (zA_no hd).mpr (zA_dr.mp h).1
theorem zRO.dr {V : zW} {τ : zdW} {U : State} {H : Heap} (hd : zdr V = none) (h : zRO V U H) (ht : zTX (zdrW V τ) U H τ) : zRO (zdrW V τ) U H := by
  have hs := zA_sub (τ := τ) hd
  obtain ⟨h1, h2, h3, h4, h5, h6, h7, -⟩ := h
  refine ⟨fun i hi => ?_, fun t ht => ?_, h3.sub hs, h4.sub hs, fun t ht => ⟨(h5 t ht).1.sub hs, (h5 t ht).2.sub hs⟩, h6.sub hs, h7, fun r hr => ?_⟩
  · obtain ⟨g1, g2, g3, g4, g5⟩ := h1 i hi
    exact ⟨g1.sub hs, g2.sub hs, g3.sub hs, g4.sub hs, g5⟩
  · obtain ⟨g1, g2, g3⟩ := h2 t ht
    exact ⟨g1.sub hs, g2.sub hs, g3⟩
  · cases (show some τ = some r from hr)
    exact ht
theorem zE_dr {V : zW} {τ : zdW} {x : zS} {da : Nat → Int} : zE (zdrW V τ) x da = zE V x da := rfl
theorem zRep.dr {V : zW} {τ : zdW} {d : zD} {H : Heap} (h : zRep V d H) (hap : ∀ a x, zsh V a = some x → zad V a ≠ τ.1 ∧ zad V a ≠ τ.2.1) : zRep (zdrW V τ) d H :=
  ⟨fun a x hx => ⟨(h.1 a x hx).1, zA_dr.mpr ⟨(h.1 a x hx).2.1, hap a x hx⟩⟩, h.2⟩
theorem zRep.undr {V : zW} {τ : zdW} {d : zD} {H : Heap} (hd : zdr V = none) (h : zRep (zdrW V τ) d H) : zRep V d H :=
  ⟨fun a x hx => ⟨(h.1 a x hx).1, zA_sub hd _ (h.1 a x hx).2⟩, h.2⟩
section PAIR
variable {V : zW} {p : Program} {l : Launch} {e : Env} {R : Room} {s : State} {m : MethodId} {args : Array Value} {below : List Frame} {meth : Method} {c : Code} {Q : State → Prop} {k n pc nL : Nat} {L : List (Option Value)} {st : List Value} {rt : Option FieldType}
/-- the drawn text is loaded -/
theorem W_loaded {cc : ByteArray} {τ : zdW} {R0 : Room} (C : zOk V (p, l, e, R, s, m, args, below, meth, c, Q) cc RL nL R0 rt) (hd : zdr V = none) (hτ : zdY4 τ) (hT : zo11 V) (wf : zWf V) (hu : zsh V 430 = none) {d d1 dz : zD} {rv : Int} (h1 : f_L_feeds τ d = some (0, d1)) (h2 : f_X11_loadLine d1 = some (rv, dz)) {ix : Nat} (hw : zMS RL ix yL_loaded cL_loaded 2 (some .int) 2) (hdg : decode cc pc = .ok (.invokestatic ix, 3)) (hfit : zfit 13 2 R0) (hc : (st.map fun v => v.category).sum ≤ 8) (hkn : k + 31 ≤ R0.cells ∧ n + 155 ≤ R0.slots)
    {ls : Array Slot} {H : Heap} {locs : List Loc} (hl : zLs ls nL L) (hP : zRep V d H) (hS : va_S (zA V) s.heap H locs) (hap : ∀ a x, zsh V a = some x → zad V a ≠ τ.1 ∧ zad V a ≠ τ.2.1) (htx : ∀ U : State, U.heap = H → s.WarmedH U.vm → zTX (zdrW V τ) U H τ) (hsz2 : τ.1 < H.size ∧ τ.2.1 < H.size)
    (kk : zR rv → zP V (p, l, e, R, s, m, args, below, meth, c, Q) nL (k + 31) (n + 155) (pc + 3) L (.int (zI rv) :: st) dz) : W p l e R s m args below meth c H locs k n Q (F0 m pc ls (.ref τ.1 :: .ref (zad V 0) :: st)) := by
  obtain ⟨hx, hb, hml, hown, hts, hK, hlk, hR, hret, hsz⟩ := C
  obtain ⟨w1, w2, w4, w5, w7, w8⟩ := hw
  subst hR
  have hM := t_L_loaded (V := zdrW V τ) (τ := τ) (d := d) hT wf hu ⟨rfl, hτ.1, hτ.2⟩ h1 h2
  have cb : CallB R s args RL ix yL_loaded cL_loaded 2 (some .int) (zwsU yL_loaded cL_loaded 2 (some .int)) (zrmC 13 31 155) 31 155 2 := callB_of 2 hts (zgood w5) rfl rfl rfl (hts _ w4) (hts _ w1) ⟨w7.1, w7.2, w8⟩ hfit
  have hrun := va_runS (p := p) (e := e) (below := below) (meth := meth) (locs := locs) (cells := k) (slots := n) (As := [.ref (zad V 0), .ref τ.1]) (rest := st) (g := F0 m pc ls (([.ref (zad V 0), .ref τ.1] : List Value).reverse ++ st)) ⟨hx, hb, hml, hown, hts⟩ (hM l) ⟨cb, hts _ w2⟩
    ⟨zPre_blind, fun U hU hW => ⟨rfl, by rw [hU]; exact hP.dr hap, ⟨(hK.go hS hU hW).1, by rw [hU]; exact zRO.dr hd (by have := (hK.go hS hU hW).2; rw [hU] at this; exact this) (htx U hU hW)⟩, fun q hq => zA_dr.mpr (by
      rw [hU] at hq
      exact ⟨(hsz q (Nat.le_trans hS.1 hq)).1, by omega, by omega⟩)⟩⟩
    rfl rfl hl.1 rfl (zcat_sum hc) hdg hkn
  intro T' hT' X'
  obtain ⟨v, st₀, t, T2, L2, h0, X2, hL, e1, e2, ⟨⟨hv, hφ, hRep⟩, hz, hkp⟩, stp⟩ := hrun T' hT' X'
  cases hv
  rw [h0] at hz hkp
  obtain ⟨t2, a1, b1⟩ := kk hφ ls T2.heap (locs ++ L2) hl (by rw [e1]; exact hRep.undr hd) ⟨Nat.le_trans hS.1 (by rw [e1]; exact hz), fun q h1 h2 => by rw [e1, hkp q (Nat.lt_of_lt_of_le h1 hS.1) (fun z => h2 (zA_sub hd _ z))]; exact hS.2.1 q h1 h2, fun q hq => by
    rcases List.mem_append.mp hq with h | h
    · exact hS.2.2 q h
    · exact zA_sub hd _ (hL q h)⟩ T2 rfl X2
  exact ⟨t2, stp t2 a1, b1⟩
end PAIR
