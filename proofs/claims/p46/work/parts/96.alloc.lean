/-! Static methods that make cells. -/
def zMetA (V : zW) (dp mc ms : Nat) (y : MethodName) (b : ByteArray) (nn : Nat) (rt : Option FieldType) (av : List Value) (d : zD) (ov : Option Value) (φ : Prop) (d' : zD) : Prop :=
  ∀ l : Launch, Met l y (zwsU y b nn rt) (zrmC dp mc ms) (va_Pc av (zPre V d)) (zPost V ov φ d') mc ms (zA V)
def zEndA (V : zW) (X : zX) (ov : Option Value) (φ : Prop) (mc ms : Nat) (d' : zD) : Prop := match X with
  | (_, _, _, _, s, _, args, below, _, _, Q) => Q = MQ below (zPost V ov φ d') args s mc ms (zA V)
theorem zMetA_by {V : zW} {dp mc ms nn : Nat} {y : MethodName} {b : ByteArray} {rt : Option FieldType} {av : List Value} {d d' : zD} {ov : Option Value} {φ : Prop} (own : String) (hy : plainName y.cls = true) (hyo : y.cls = own) (hle : (lg_sl av).length ≤ nn) (L0 : List (Option Value)) (hL0 : lv_args 0 av = zLp 0 L0)
    (body : ∀ (X : zX), zOk V X b own nn (zrmC dp mc ms) rt → zEndA V X ov φ mc ms d' → zP V X nn 0 0 0 L0 [] d) : zMetA V dp mc ms y b nn rt av d ov φ d' := by
  intro l
  refine Met.ofW (cc := b) (maxL := nn) (ret := rt) hy rfl ?_
  intro p e s m args below meth c s₁ B hml hv
  obtain ⟨rfl, hP, hK, hsz⟩ := hv
  have hts := atoms_spec (ws := zwsU y b nn rt) B.pre
  have hl := lv_entry av (n := nn) hle
  rw [lg_entry_eq]
  generalize (lg_sl av ++ List.replicate (nn - (lg_sl av).length) Slot.unset).toArray = ls at hl ⊢
  exact body (p, l, e, (headSpec (zwsU y b nn rt) (zrmC dp mc ms)).room, s, m, av.toArray, below, meth, c, MQ below (zPost V ov φ d') av.toArray s mc ms (zA V)) ⟨B.exec, B.bytes, hml, by rw [← hyo]; exact findClass_of_methodNamed B.named, fun w hw => hts w (List.mem_cons_of_mem _ hw), hK, B.notSynchronized, rfl, B.returns, hsz⟩ rfl ls s.heap [] (by unfold zLs; rw [← hL0]; exact hl) hP va_S.rf
/-- a world that grew, as it was before -/
theorem zRep.back {V V1 : zW} {d : zD} {H : Heap} {lo hi : Nat} (h : zRep V1 d H) (e : zEx V V1 lo hi) (wf : zWf V) (hn : ∀ c, lo ≤ c → c < hi → zsh V c = none) : zRep V d H := by
  obtain ⟨⟨ad, sh, rfl⟩, e2, e3, e4⟩ := e
  have hsh : ∀ c x, zsh V c = some x → sh c = some x := fun c x hx => by
    have hc : c < lo ∨ hi ≤ c := by
      by_cases q : c < lo ∨ hi ≤ c
      · exact q
      · rw [hn c (by omega) (by omega)] at hx
        cases hx
    exact (e3 c hc).trans hx
  refine ⟨fun a x hx => ?_, fun a b ha hb hab => ?_, h.2.2⟩
  · obtain ⟨g1, g2⟩ := h.1 a x (hsh a x hx)
    have ea : ad a = zad V a := e2 a (by rw [hx]; rfl)
    have eE : zE (zW3 V ad sh) x (d a) = zE V x (d a) := zE_same fun k t hk => e2 t (wf a x hx k t hk)
    rw [eE] at g1
    have g1' : va_at (zDD V) vwCl (ad a, zE V x (d a)) H := g1
    rw [ea] at g1'
    have g2' : zA V (ad a) := g2
    rw [ea] at g2'
    exact ⟨g1', g2'⟩
  · exact h.2.1 a b (e4 a ha) (e4 b hb) ((e2 a ha).trans (hab.trans (e2 b hb).symm))
section ALLOC
variable {V : zW} {X : zX} {cc : ByteArray} {own : String} {nL k n pc : Nat} {R0 : Room} {ret : Option FieldType} {L L' : List (Option Value)} {st : List Value} {d d' : zD}
theorem zP_vretA (C : zOk V X cc own nL R0 none) {V0 : zW} {lo hi mc ms : Nat} {φ : Prop} (E : zEndA V0 X none φ mc ms d') (hE : zEx V0 V lo hi) (wf : zWf V0) (hn : ∀ c, lo ≤ c → c < hi → zsh V0 c = none) (hk : k ≤ mc ∧ n ≤ ms) (hφ : φ) (hd : d = d') (hdg : decode cc pc = .ok (.return_, 1)) : zP V X nL k n pc L [] d := by
  obtain ⟨p, l, e, R, s, m, args, below, meth, c, Q⟩ := X
  obtain ⟨hxx, hb, hml, hown, hts, hK, hlk, hR, hret, hsz⟩ := C
  subst hd
  change Q = _ at E
  subst E
  intro ls H locs hl hP hS
  have eA : zA V0 = zA V := hE.A.symm
  rw [eA]
  intro T hT Y
  exact (W.vret hxx hb hret (fun t ht hW => ⟨⟨rfl, hφ, by rw [ht]; exact hP.back hE wf hn⟩, by rw [ht]; exact hS.1, fun q h1 h2 => by rw [ht]; exact hS.2.1 q h1 (by rw [← eA]; exact h2)⟩) hS.2.2 hdg hlk) T hT (stand_widen Y hk.1 hk.2)
theorem zP_nretA {ty : FieldType} (C : zOk V X cc own nL R0 (some ty)) {mc ms : Nat} {x : Int} {φ : Prop} (E : zEndA V X (some (.int (zI x))) φ mc ms d') (hk : k ≤ mc ∧ n ≤ ms) (hn : narrow ty (.int (zI x)) = .int (zI x)) (hφ : φ) (hd : d = d') (hdg : decode cc pc = .ok (.ireturn, 1)) : zP V X nL k n pc L [.int (zI x)] d := by
  obtain ⟨p, l, e, R, s, m, args, below, meth, c, Q⟩ := X
  obtain ⟨hxx, hb, hml, hown, hts, hK, hlk, hR, hret, hsz⟩ := C
  subst hd
  change Q = _ at E
  subst E
  intro ls H locs hl hP hS T hT Y
  exact (W.zret hxx hb hret hn (fun t ht hW => ⟨⟨rfl, hφ, by rw [ht]; exact hP⟩, by rw [ht]; exact hS.1, fun q h1 h2 => by rw [ht]; exact hS.2.1 q h1 h2⟩) hS.2.2 hdg hlk) T hT (stand_widen Y hk.1 hk.2)
theorem zP_callSA (C : zOk V X cc own nL R0 ret) {ix np dp nn mc ms : Nat} {y : MethodName} {b : ByteArray} {rt : Option FieldType} {As : List Value} {ov : Option Value} {φ : Prop} {d1 : zD} (hw : zMS own ix y b nn rt np) (hdg : decode cc pc = .ok (.invokestatic ix, 3)) (hM : zMetA V dp mc ms y b nn rt As d ov φ d1) (hfit : zfit dp nn R0) (hlen : As.length = np) (hc : (st.map fun v => v.category).sum ≤ 8) (hkn : k + mc ≤ R0.cells ∧ n + ms ≤ R0.slots) (kk : φ → zP V X nL (k + mc) (n + ms) (pc + 3) L (ov.toList ++ st) d1) : zP V X nL k n pc L (As.reverse ++ st) d := by
  obtain ⟨p, l, e, R, s, m, args, below, meth, c, Q⟩ := X
  obtain ⟨hx, hb, hml, hown, hts, hK, hlk, hR, hret, hsz⟩ := C
  intro ls H locs hl hP hS
  obtain ⟨w1, w2, w4, w5, w7, w8⟩ := hw
  subst hR
  have cb : CallB R s args own ix y b nn rt (zwsU y b nn rt) (zrmC dp mc ms) mc ms np := callB_of np hts (zgood w5) rfl rfl rfl (hts _ w4) (hts _ w1) ⟨w7.1, w7.2, w8⟩ hfit
  have hrun := va_runS (p := p) (e := e) (below := below) (meth := meth) (locs := locs) (cells := k) (slots := n) (As := As) (rest := st) (g := F0 m pc ls (As.reverse ++ st)) ⟨hx, hb, hml, hown, hts⟩ (hM l) ⟨cb, hts _ w2⟩
    ⟨zPre_blind, fun U hU hW => ⟨rfl, by rw [hU]; exact hP, hK.go hS hU hW, fun q hq => hsz q (Nat.le_trans hS.1 (by rw [hU] at hq; exact hq))⟩⟩
    rfl hlen hl.1 rfl (zcat_sum hc) hdg hkn
  intro T' hT X'
  obtain ⟨v, st₀, t, T2, L2, h0, X2, hL, e1, e2, ⟨⟨hv, hφ, hRep⟩, hz, hkp⟩, stp⟩ := hrun T' hT X'
  cases hv
  rw [h0] at hz hkp
  obtain ⟨t2, a1, b1⟩ := kk hφ ls T2.heap (locs ++ L2) hl (by rw [e1]; exact hRep) ⟨Nat.le_trans hS.1 (by rw [e1]; exact hz), fun q h1 h2 => by rw [e1, hkp q (Nat.lt_of_lt_of_le h1 hS.1) h2]; exact hS.2.1 q h1 h2, fun q hq => by
    rcases List.mem_append.mp hq with h | h
    · exact hS.2.2 q h
    · exact hL q h⟩ T2 rfl X2
  exact ⟨t2, stp t2 a1, b1⟩
end ALLOC
