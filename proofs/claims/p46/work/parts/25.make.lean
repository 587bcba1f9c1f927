/-! Makers: rules for what only they do, and their contracts. -/
def zEy (V V1 : zW) (S : Nat → Prop) : Prop := (∃ ad sh, V1 = zW3 V ad sh) ∧ (∀ c, (zsh V c).isSome = true → zad V1 c = zad V c) ∧ (∀ c, ¬ S c → zsh V1 c = zsh V c) ∧ ∀ c, (zsh V c).isSome = true → (zsh V1 c).isSome = true
theorem zEx.y {V V1 : zW} {a : Nat} (h : zEx V V1 a (a + 1)) : zEy V V1 (fun c => c = a) := ⟨h.1, h.2.1, fun c hc => h.2.2.1 c (by omega), h.2.2.2⟩
theorem zEy.rf {V : zW} {S : Nat → Prop} : zEy V V S := ⟨⟨zad V, zsh V, rfl⟩, fun _ _ => rfl, fun _ _ => rfl, fun _ h => h⟩
theorem zEy.tr {V V1 V2 : zW} {S S1 S2 : Nat → Prop} (h : zEy V V1 S1) (g : zEy V1 V2 S2) (h1 : ∀ c, S1 c → S c) (h2 : ∀ c, S2 c → S c) : zEy V V2 S := by
  obtain ⟨⟨ad, sh, rfl⟩, a2, a3, a4⟩ := h
  obtain ⟨⟨ad', sh', rfl⟩, b2, b3, b4⟩ := g
  exact ⟨⟨ad', sh', rfl⟩, fun c hc => (b2 c (a4 c hc)).trans (a2 c hc), fun c hc => (b3 c (fun q => hc (h2 c q))).trans (a3 c (fun q => hc (h1 c q))), fun c hc => b4 c (a4 c hc)⟩
theorem zEy.ok {V V1 : zW} {S : Nat → Prop} (h : zEy V V1 S) {X : zX} {cc : ByteArray} {own : String} {nL : Nat} {R0 : Room} {ret : Option FieldType} (C : zOk V X cc own nL R0 ret) : zOk V1 X cc own nL R0 ret := by
  obtain ⟨⟨ad, sh, rfl⟩, -⟩ := h
  exact C
theorem zEy.A {V V1 : zW} {S : Nat → Prop} (h : zEy V V1 S) : zA V1 = zA V := by
  obtain ⟨⟨ad, sh, rfl⟩, -⟩ := h
  rfl
def zAt (V : zW) (c q : Nat) (x : zS) : Prop := zsh V c = some x ∧ zad V c = q
theorem zAt.go {V V1 : zW} {S : Nat → Prop} {c q : Nat} {x : zS} (E : zEy V V1 S) (h : zAt V c q x) (hc : ¬ S c) : zAt V1 c q x := ⟨(E.2.2.1 c hc).trans h.1, (E.2.1 c (by rw [h.1]; rfl)).trans h.2⟩
theorem zAd.go {V V1 : zW} {S : Nat → Prop} {c q : Nat} {x : zS} (E : zEy V V1 S) (hs : zsh V c = some x) (h : zad V c = q) : zad V1 c = q := (E.2.1 c (by rw [hs]; rfl)).trans h
theorem zUn.go {V V1 : zW} {S : Nat → Prop} {lo hi : Nat} (E : zEy V V1 S) (h : ∀ c, lo ≤ c → c < hi → zsh V c = none) {l1 h1 : Nat} (g1 : lo ≤ l1) (g2 : h1 ≤ hi) (hS : ∀ c, l1 ≤ c → c < h1 → ¬ S c) : ∀ c, l1 ≤ c → c < h1 → zsh V1 c = none := fun c a b => (E.2.2.1 c (hS c a b)).trans (h c (by omega) (by omega))
/-- links to members of a nest mate, and the array class over lines -/
def zNl : List (String × Nat × MethodName × String) := [("PolledLine", 9, yX6_init, "PolledLine"),
  ("PolledLine$Line", 11, yX3_init, "PolledLine"),
  ("PolledLine$Line", 20, yX4_init, "PolledLine"),
  ("PolledLine$Line", 27, yX8_init, "PolledLine"),
  ("PolledLine$Line", 34, yX10_init, "PolledLine"),
  ("PolledLine", 52, yX9_init, "PolledLine"),
  ("PolledLine$SetupReader", 11, yX6_init, "PolledLine")]
def zN (U : State) : Prop := (∀ q ∈ zNl, va_Nw (.methodLinkNest q.1 q.2.1 q.2.2.1 q.2.2.2) U) ∧ va_AO RX2 U
theorem zN.go {s U : State} (hW : s.WarmedH U.vm) (h : zN s) : zN U := ⟨fun q hq => (h.1 q hq).warmM hW, h.2.moved hW.alike⟩
theorem zN.same {s U : State} (hv : s.vm = U.vm) (h : zN s) : zN U := ⟨fun q hq => (h.1 q hq).same rfl hv, h.2.moved (by rw [hv]; exact Vm.Alike.refl _)⟩
def zPreN (V : zW) (d : zD) (U : State) : Prop := zPre V d U ∧ zN U
theorem zPreN_blind {V : zW} {d : zD} {av : List Value} : FrameBlind (va_Pc av (zPreN V d)) := fun a U g mk q => by
  obtain ⟨q0, ⟨q1, ⟨q2, q3⟩, q4⟩, q5⟩ := q
  exact ⟨q0, ⟨q1, ⟨va_K.moved (u := U) (U := U.calling g mk a) (Vm.Alike.refl U.vm) q2, zRO.same (u := U) rfl q3⟩, q4⟩, q5.same (U := U.calling g mk a) rfl⟩
def zPostN (V : zW) (P : zW → Prop) (S : Nat → Prop) (d' : zD) : Array Value → State → Outcome → State → Prop := fun _ st o t => (o = .returned none ∧ ∃ V1, zEy V V1 S ∧ zWf V1 ∧ P V1 ∧ zRep V1 d' t.heap) ∧ va_F (zA V) st t
def zMetN (V : zW) (dp mc ms : Nat) (y : MethodName) (b : ByteArray) (nn : Nat) (av : List Value) (d : zD) (P : zW → Prop) (S : Nat → Prop) (d' : zD) : Prop :=
  ∀ l : Launch, Met l y (zwsU y b nn none) (zrmC dp mc ms) (va_Pc av (zPreN V d)) (zPostN V P S d') mc ms (zA V)
def zEndN (V : zW) (X : zX) (P : zW → Prop) (S : Nat → Prop) (mc ms : Nat) (d' : zD) : Prop := match X with
  | (_, _, _, _, s, _, args, below, meth, _, Q) => Q = MQ below (zPostN V P S d') args s mc ms (zA V) ∧ meth.name = "<init>" ∧ zN s
def zNX (X : zX) : Prop := match X with
  | (_, _, _, _, s, _, _, _, meth, _, _) => meth.name = "<init>" ∧ zN s
theorem zEndN.x {V : zW} {X : zX} {P : zW → Prop} {S : Nat → Prop} {mc ms : Nat} {d' : zD} (h : zEndN V X P S mc ms d') : zNX X := by
  obtain ⟨p, l, e, R, s, m, args, below, meth, c, Q⟩ := X
  exact h.2
theorem zMetN_by {V : zW} {dp mc ms nn : Nat} {y : MethodName} {b : ByteArray} {av : List Value} {d d' : zD} {P : zW → Prop} {S : Nat → Prop} (own : String) (hy : plainName y.cls = true) (hyo : y.cls = own) (hyi : y.name = "<init>") (hle : (lg_sl av).length ≤ nn) (L0 : List (Option Value)) (hL0 : lv_args 0 av = zLp 0 L0)
    (body : ∀ (X : zX), zOk V X b own nn (zrmC dp mc ms) none → zEndN V X P S mc ms d' → zP V X nn 0 0 0 L0 [] d) : zMetN V dp mc ms y b nn av d P S d' := by
  intro l
  refine Met.ofW (cc := b) (maxL := nn) (ret := none) hy rfl ?_
  intro p e s m args below meth c s₁ B hml hv
  obtain ⟨rfl, ⟨hP, hK, hsz⟩, hN⟩ := hv
  have hts := atoms_spec (ws := zwsU y b nn none) B.pre
  have hl := lv_entry av (n := nn) hle
  rw [lg_entry_eq]
  generalize (lg_sl av ++ List.replicate (nn - (lg_sl av).length) Slot.unset).toArray = ls at hl ⊢
  have hin : meth.name = "<init>" := by
    have h1 := (name_of_methodNamed B.named B.method).1
    rw [← hyi]
    exact h1
  exact body (p, l, e, (headSpec (zwsU y b nn none) (zrmC dp mc ms)).room, s, m, av.toArray, below, meth, c, MQ below (zPostN V P S d') av.toArray s mc ms (zA V)) ⟨B.exec, B.bytes, hml, by rw [← hyo]; exact findClass_of_methodNamed B.named, fun w hw => hts w (List.mem_cons_of_mem _ hw), hK, B.notSynchronized, rfl, B.returns, hsz⟩ ⟨rfl, hin, hN⟩ ls s.heap [] (by unfold zLs; rw [← hL0]; exact hl) hP va_S.rf
/-- a maker's call: by the class's own link, or by a nest mate's -/
def zCI (own : String) (ix : Nat) (y : MethodName) (b : ByteArray) (nn np : Nat) : Prop :=
  (Cond.methodLink own ix y ∈ zT ∨ (own, ix, y, "PolledLine") ∈ zNl) ∧ Cond.instanceMethod y ∈ zT ∧ Cond.initialized y.cls ∈ zT ∧ Cond.code y b nn none ∈ zT ∧ y.name = "<init>" ∧ (y.cls ≠ "java/lang/invoke/MethodHandle" ∧ y.cls ≠ "java/lang/invoke/VarHandle") ∧ (parseMethodDescriptor y.desc).map (fun d => d.parameters.length) = some np
section MAKE
variable {V : zW} {X : zX} {cc : ByteArray} {own : String} {nL k n pc : Nat} {R0 : Room} {ret : Option FieldType} {L L' : List (Option Value)} {st : List Value} {d d' : zD}
theorem zP_vretN (C : zOk V X cc own nL R0 none) {V0 : zW} {P : zW → Prop} {S : Nat → Prop} (E : zEndN V0 X P S k n d') (hE : zEy V0 V S) (wf : zWf V) (hp : P V) (hd : d = d') (hdg : decode cc pc = .ok (.return_, 1)) : zP V X nL k n pc L [] d := by
  obtain ⟨p, l, e, R, s, m, args, below, meth, c, Q⟩ := X
  obtain ⟨hxx, hb, hml, hown, hts, hK, hlk, hR, hret, hsz⟩ := C
  subst hd
  change Q = _ ∧ _ at E
  obtain ⟨E, -⟩ := E
  subst E
  intro ls H locs hl hP hS
  have eA : zA V0 = zA V := hE.A.symm
  rw [eA]
  refine W.vret hxx hb hret (fun t ht hW => ⟨⟨rfl, V, hE, wf, hp, by rw [ht]; exact hP⟩, by rw [ht]; exact hS.1, fun q h1 h2 => by rw [ht]; exact hS.2.1 q h1 (by rw [← eA]; exact h2)⟩) hS.2.2 hdg hlk
theorem zP_callI (C : zOk V X cc own nL R0 ret) (HN : zNX X) {ix np dp mc ms nn x : Nat} {y : MethodName} {b : ByteArray} {av As : List Value} {P : zW → Prop} {S : Nat → Prop} {d1 : zD} (hw : zCI own ix y b nn np) (hdg : decode cc pc = .ok (.invokespecial ix, 3)) (hM : zMetN V dp mc ms y b nn av d P S d1) (hav : av = .ref x :: As) (hfit : zfit dp nn R0) (hlen : As.length = np) (hc : (st.map fun v => v.category).sum ≤ 8) (hkn : k + mc ≤ R0.cells ∧ n + ms ≤ R0.slots) (kk : ∀ V1, zEy V V1 S → zWf V1 → P V1 → zP V1 X nL (k + mc) (n + ms) (pc + 3) L st d1) : zP V X nL k n pc L (As.reverse ++ .ref x :: st) d := by
  subst hav
  obtain ⟨p, l, e, R, s, m, args, below, meth, c, Q⟩ := X
  obtain ⟨hx, hb, hml, hown, hts, hK, hlk, hR, hret, hsz⟩ := C
  obtain ⟨-, HN⟩ := HN
  intro ls H locs hl hP hS
  obtain ⟨w1, w2, w4, w5, w6, w7, w8⟩ := hw
  subst hR
  have hpre : PreS s H (va_Pc (.ref x :: As) (zPreN V d)) (.ref x :: As) := ⟨zPreN_blind, fun U hU hW => ⟨rfl, ⟨by rw [hU]; exact hP, hK.go hS hU hW, fun q hq => hsz q (Nat.le_trans hS.1 (by rw [hU] at hq; exact hq))⟩, HN.go hW⟩⟩
  have hrun : va_Run p l e R s m args below meth c H locs k n mc ms (F0 m pc ls (As.reverse ++ .ref x :: st)) st (zPostN V P S d1 (Value.ref x :: As).toArray) (zA V) := by
    rcases w1 with w1 | w1
    · exact va_runI ⟨hx, hb, hml, hown, hts⟩ (hM l) ⟨callB_of np hts (zgood w5) rfl rfl rfl (hts _ w4) (hts _ w1) ⟨w7.1, w7.2, w8⟩ hfit, w6, hts _ w2⟩ hpre rfl hlen hl.1 rfl (zcat_sum hc) hdg hkn
    · exact va_runIN ⟨hx, hb, hml, hown, hts⟩ (hM l) ⟨va_cnB (host := "PolledLine") np hts (zgood w5) rfl rfl rfl (HN.1 _ w1) (hts _ w4) ⟨w7.1, w7.2, w8⟩ hfit, w6, hts _ w2⟩ hpre rfl hlen hl.1 rfl (zcat_sum hc) hdg hkn
  intro T' hT X'
  obtain ⟨v, st₀, t, T2, L2, h0, X2, hL, e1, e2, ⟨⟨hv, V1, hE, hw1, hP1, hRep⟩, hz, hkp⟩, stp⟩ := hrun T' hT X'
  cases hv
  rw [h0] at hz hkp
  have eA : zA V1 = zA V := hE.A
  obtain ⟨t2, a1, b1⟩ := kk V1 hE hw1 hP1 ls T2.heap (locs ++ L2) hl (by rw [e1]; exact hRep) (by
    rw [eA]
    exact ⟨Nat.le_trans hS.1 (by rw [e1]; exact hz), fun q h1 h2 => by rw [e1, hkp q (Nat.lt_of_lt_of_le h1 hS.1) h2]; exact hS.2.1 q h1 h2, fun q hq => by
      rcases List.mem_append.mp hq with h | h
      · exact hS.2.2 q h
      · exact hL q h⟩) T2 rfl X2
  exact ⟨t2, stp t2 a1, b1⟩
theorem zputR_at {V : zW} {d : zD} {H1 : Heap} {ci kf a t : Nat} {fk : Nat → Nat} {N : Nat} {C : String} {T : u_T} (hc : vwCl[ci]? = some (C, T, N)) (hk : kf < N) (h : t_OB (zad V a) ((zDD V).1 ci) N ((zDD V).2 ci) H1 (updV (vp_V (zfs V ci fk (d a))) kf (.ref (zad V t)))) : va_at (zDD V) vwCl (zad V a, zE V (0, ci, zfu fk kf (t + 2)) (d a)) H1 := by
  refine ⟨_, hc, ?_⟩
  refine t_OB.to h fun j hj => ?_
  show updV (vp_V (zfs V ci fk (d a))) kf (.ref (zad V t)) j = (zfs V ci (zfu fk kf (t + 2)) (d a)).getD j .null
  have e1 : (zfs V ci (zfu fk kf (t + 2)) (d a)).getD j .null = zfv V (zfu fk kf (t + 2) j) (d a j) := by
    rw [List.getD_eq_getElem?_getD, zfs_at (by rw [znf_of hc]; exact hj)]
    rfl
  rw [e1]
  unfold updV zfu
  by_cases hjk : j = kf
  · rw [if_pos hjk, if_pos hjk]
    rfl
  · rw [if_neg hjk, if_neg hjk]
    show (zfs V ci fk (d a)).getD j .null = _
    rw [List.getD_eq_getElem?_getD, zfs_at (by rw [znf_of hc]; exact hj)]
    rfl
/-- a field that comes to hold a cell -/
def zFR (own : String) (ix ci kf : Nat) : Prop := ∃ C T N, zCF ci C T N ∧ kf < N ∧ Cond.fieldLink own ix (T kf).1 (T kf).2.1 (T kf).2.2.1 ∈ zT ∧ (T kf).1 = own ∧ ∃ ty, parseFieldDescriptor (T kf).2.2.1 = some ty ∧ ∀ q, narrow ty (.ref q) = .ref q ∧ fits ty (.ref q) = true
theorem zP_putR (C : zOk V X cc own nL R0 ret) (HN : zNX X) {ix ci kf a t q q1 : Nat} {fk : Nat → Nat} (hF : zFR own ix ci kf) (hdg : decode cc pc = .ok (.putfield ix, 3)) (ha : zAt V a q (0, ci, fk)) (ht : zad V t = q1) (htt : (zsh V t).isSome = true) (wf : zWf V) (kk : ∀ V1, zEy V V1 (fun c => c = a) → zWf V1 → zAt V1 a q (0, ci, zfu fk kf (t + 2)) → zP V1 X nL k n (pc + 3) L st d) : zP V X nL k n pc L (.ref q1 :: .ref q :: st) d := by
  subst ht
  obtain ⟨hs, rfl⟩ := ha
  obtain ⟨p, l, e, R, s, m, args, below, meth, c, Q⟩ := X
  obtain ⟨hx, hb, hml, hown, hts, hK, hlk, hR, hret, hsz⟩ := C
  obtain ⟨hini, -⟩ := HN
  intro ls H locs hl hP hS
  obtain ⟨Cn, T, N, ⟨hc, hin, hnm, ty0, hty⟩, hk, hw, hdecl, ty, hd, hty1⟩ := hF
  obtain ⟨hn, hfit⟩ := hty1 (zad V t)
  have hap := va_apart (own := own) hts hin ty0 hty hnm hK.1 hc
  obtain ⟨r', h1, cell, q1, q2, q3, q4⟩ := (hP.1 a _ hs).1
  have hr : r' = (Cn, T, N) := Option.some.inj (h1.symm.trans hc)
  subst hr
  obtain ⟨hS1, hfc, kC, hkC, hkind⟩ := hK.1.1 ci _ hc
  obtain ⟨cf, kf', fi, f, hi, hsl⟩ := hS1 kf hk
  have hlay := hts _ (hin _ (u_in_lay hk))
  have hst := (u_facts hfc hkC (u_lays hts hin hk) hi).1
  have hwf : zWf (zsts V a (0, ci, zfu fk kf (t + 2))) := zsts_wf wf fun j t' hj => by
    unfold zfu at hj
    by_cases hjk : j = kf
    · rw [show (0, ci, fun j => if j = kf then t + 2 else fk j).2.2 j = t + 2 from if_pos hjk] at hj
      have : t' = t := by omega
      rw [this]
      exact htt
    · rw [show (0, ci, fun j => if j = kf then t + 2 else fk j).2.2 j = fk j from if_neg hjk] at hj
      exact wf a _ hs j t' hj
  have fin : ∀ H' : Heap, H'[zad V a]? = some (cell.setSlot f.slot (.ref (zad V t))) → H'.size = H.size → (∀ q : Nat, q ≠ zad V a → H'[q]? = H[q]?) → W p l e R s m args below meth c H' (locs ++ [⟨zad V a, f.slot⟩]) k n Q (F0 m (pc + 3) ls st) := fun H' e1 e2 e3 => by
    rw [hsl] at e1 ⊢
    exact kk _ zsts_ex.y hwf ⟨zsts_at, rfl⟩ ls H' _ hl (hP.reshape hs (zputR_at hc hk ⟨_, e1, q2, q3, t_set q4 hap hk _⟩) e3) (hS.put e2 e3 (hP.1 a _ hs).2)
  unfold u_lay at hlay
  by_cases hfin : (T kf).2.2.2 = true
  · rw [if_pos hfin] at hlay
    have hcf : m.cls = cf := by
      obtain ⟨_, _, c', _, _, _, -, -, hf', -, -, -, hown2, -⟩ := Cond.laysFinal_spec hlay
      have e1 : c' = cf := by have := hi.symm.trans hf'; simp at this; exact this.1.symm
      rw [hdecl] at hown2
      rw [← e1]; exact Option.some.inj (hown.symm.trans hown2)
    have h6 := u_fits hfc hkC hkind (Or.inr hlay) hi hd hn hfit
    exact W.putFinK hx hb hown (hts _ hw) hi hst hcf hini (by rw [q2]; exact h6) q1 q3 (by rw [hsl]; exact k2_hasslot (q4 kf hk)) rfl rfl hdg fin
  · rw [if_neg hfin] at hlay
    have h6 := u_store hfc hkC hkind hlay hi hd hn hfit
    exact W.putK hx hb (f := f) ⟨hown, hts _ hw, ⟨_, _, _, hi⟩, hst⟩ (by rw [q2]; exact h6) q1 q3 (by rw [hsl]; exact k2_hasslot (q4 kf hk)) rfl rfl hdg fin
theorem zP_putq (C : zOk V X cc own nL R0 ret) {ix ci kf a q : Nat} {fk : Nat → Nat} {v : Int} (hF : zFP own ix ci kf) (hdg : decode cc pc = .ok (.putfield ix, 3)) (ha : zAt V a q (0, ci, fk)) (hf : fk kf = 0) (hv : zR v) (kk : zP V X nL k n (pc + 3) L st (zu d a kf v)) : zP V X nL k n pc L (.int (zI v) :: .ref q :: st) d := by
  obtain ⟨hs, rfl⟩ := ha
  exact zP_put0 C hF hdg hs hf hv rfl rfl kk
theorem zu_same {d : zD} {a k : Nat} {v : Int} (h : d a k = v) : zu d a k v = d := by
  funext b j
  unfold zu
  by_cases hq : b = a ∧ j = k
  · rw [if_pos hq, hq.1, hq.2, h]
  · rw [if_neg hq]
/-- a field that holds nothing new -/
theorem zP_putqz (C : zOk V X cc own nL R0 ret) {ix ci kf a q : Nat} {fk : Nat → Nat} {v : Int} (hF : zFP own ix ci kf) (hdg : decode cc pc = .ok (.putfield ix, 3)) (ha : zAt V a q (0, ci, fk)) (hf : fk kf = 0) (hv : zR v) (hd : d a kf = v) (kk : zP V X nL k n (pc + 3) L st d) : zP V X nL k n pc L (.int (zI v) :: .ref q :: st) d :=
  zP_putq C hF hdg ha hf hv (by rw [zu_same hd]; exact kk)
theorem zP_getq (C : zOk V X cc own nL R0 ret) {ix ci kf a t q q1 : Nat} {fk : Nat → Nat} (hF : zFL own ix ci kf) (hdg : decode cc pc = .ok (.getfield ix, 3)) (ha : zAt V a q (0, ci, fk)) (hf : fk kf = t + 2) (ht : zad V t = q1) (kk : zP V X nL k n (pc + 3) L (.ref q1 :: st) d) : zP V X nL k n pc L (.ref q :: st) d := by
  obtain ⟨hs, rfl⟩ := ha
  subst ht
  exact zP_getR C hF hdg hs hf kk
theorem zP_newq (C : zOk V X cc own nL R0 ret) {ix ci a N : Nat} {Cn : String} {T : u_T} {fk : Nat → Nat} (ty : Nat → FieldType) (hcf : zCF ci Cn T N) (hty : ∀ k, k < N → parseFieldDescriptor (T k).2.2.1 = some (ty k)) (hw : Cond.classLink own ix Cn ∈ zT ∧ Cond.instantiable Cn N ∈ zT ∧ Cond.initialized Cn ∈ zT) (hdg : decode cc pc = .ok (.new ix, 3)) (wf : zWf V) (hu : zsh V a = none) (hd : ∀ j, d a j = 0) (hfk : ∀ j, j < N → defaultValue (ty j) = zfv V (fk j) 0) (hfk2 : ∀ j t, fk j = t + 2 → False) (hroom : k + 1 ≤ R0.cells ∧ n + N ≤ R0.slots)
    (kk : ∀ V1 q, zEy V V1 (fun c => c = a) → zWf V1 → zAt V1 a q (0, ci, fk) → zP V1 X nL (k + 1) (n + N) (pc + 3) L (.ref q :: st) d) : zP V X nL k n pc L st d :=
  zP_new C ty hcf hty hw hdg wf hu hd hfk hfk2 hroom fun V1 e w s => kk V1 _ e.y w ⟨s, rfl⟩
theorem zP_dupr (C : zOk V X cc own nL R0 ret) {q : Nat} (hdg : decode cc pc = .ok (.dup, 1)) (kk : zP V X nL k n (pc + 1) L (.ref q :: .ref q :: st) d) : zP V X nL k n pc L (.ref q :: st) d := zP_dup C hdg rfl kk
/-- a new row into a field of one's own -/
theorem zP_row (C : zOk V X cc own nL R0 ret) (HN : zNX X) {ix ci kf a t q N : Nat} {fk : Nat → Nat} {z : Int} (hF : zFR own ix ci kf) (hdg : decode cc pc = .ok (.newarray .int, 2)) (hdg2 : decode cc (pc + 2) = .ok (.putfield ix, 3)) (ha : zAt V a q (0, ci, fk)) (wf : zWf V) (hu : zsh V t = none) (hd : ∀ j, d t j = 0) (hz : zR z) (h0 : 0 ≤ z) (hN : z.toNat = N) (hbytes : N * 4 ≤ 536870912) (hroom : k + 1 ≤ R0.cells ∧ n + N ≤ R0.slots)
    (kk : ∀ V1, zEy V V1 (fun c => c = a ∨ c = t) → zWf V1 → zAt V1 a q (0, ci, zfu fk kf (t + 2)) → zsh V1 t = some (1, N, zk0) → zP V1 X nL (k + 1) (n + N) (pc + 2 + 3) L st d) : zP V X nL k n pc L (.int (zI z) :: .ref q :: st) d := by
  refine zP_newI C hdg wf hu hd hz h0 hN hbytes hroom fun V1 e1 w1 s1 => ?_
  have hat : a ≠ t := fun h => by
    rw [← h, ha.1] at hu
    cases hu
  refine zP_putR (e1.ok C) HN hF hdg2 (ha.go e1.y hat) rfl (by rw [s1]; rfl) w1 fun V2 e2 w2 s2 => ?_
  exact kk V2 (e1.y.tr e2 (fun c h => Or.inr h) (fun c h => Or.inl h)) w2 s2 ((e2.2.2.1 t (fun h => hat h.symm)).trans s1)
theorem zP_rowB (C : zOk V X cc own nL R0 ret) (HN : zNX X) {ix ci kf a t q N : Nat} {fk : Nat → Nat} {z : Int} (hF : zFR own ix ci kf) (hdg : decode cc pc = .ok (.newarray .byte, 2)) (hdg2 : decode cc (pc + 2) = .ok (.putfield ix, 3)) (ha : zAt V a q (0, ci, fk)) (wf : zWf V) (hu : zsh V t = none) (hd : ∀ j, d t j = 0) (hz : zR z) (h0 : 0 ≤ z) (hN : z.toNat = N) (hbytes : N * 1 ≤ 536870912) (hroom : k + 1 ≤ R0.cells ∧ n + N ≤ R0.slots)
    (kk : ∀ V1, zEy V V1 (fun c => c = a ∨ c = t) → zWf V1 → zAt V1 a q (0, ci, zfu fk kf (t + 2)) → zsh V1 t = some (2, N, zk0) → zP V1 X nL (k + 1) (n + N) (pc + 2 + 3) L st d) : zP V X nL k n pc L (.int (zI z) :: .ref q :: st) d := by
  refine zP_newB C hdg wf hu hd hz h0 hN hbytes hroom fun V1 e1 w1 s1 => ?_
  have hat : a ≠ t := fun h => by
    rw [← h, ha.1] at hu
    cases hu
  refine zP_putR (e1.ok C) HN hF hdg2 (ha.go e1.y hat) rfl (by rw [s1]; rfl) w1 fun V2 e2 w2 s2 => ?_
  exact kk V2 (e1.y.tr e2 (fun c h => Or.inr h) (fun c h => Or.inl h)) w2 s2 ((e2.2.2.1 t (fun h => hat h.symm)).trans s1)
/-- a new row of lines, with nothing in it -/
theorem zP_newL (C : zOk V X cc own nL R0 ret) (HN : zNX X) {ix N a : Nat} {z : Int} (hw : Cond.classLink own ix RX2 ∈ zT) (hdg : decode cc pc = .ok (.anewarray ix, 3)) (wf : zWf V) (hu : zsh V a = none) (hz : zR z) (h0 : 0 ≤ z) (hN : z.toNat = N) (hbytes : N * 4 ≤ 536870912) (hroom : k + 1 ≤ R0.cells ∧ n + N ≤ R0.slots)
    (kk : ∀ V1 q, zEy V V1 (fun c => c = a) → zWf V1 → zAt V1 a q (3, N, zk0) → zP V1 X nL (k + 1) (n + N) (pc + 3) L (.ref q :: st) d) : zP V X nL k n pc L (.int (zI z) :: st) d := by
  obtain ⟨p, l, e, R, s, m, args, below, meth, c, Q⟩ := X
  obtain ⟨hx, hb, hml, hown, hts, hK, hlk, hR, hret, hsz⟩ := C
  obtain ⟨-, HN⟩ := HN
  subst hR
  intro ls H locs hl hP hS
  have hng : ¬ zI z < 0 := fun q => by
    have := (zI_lt hz (y := 0) ⟨by omega, by omega⟩).mp q
    omega
  have hcl := zI_cl hz
  rw [hN] at hcl
  refine W.anew hx hb hown (hts _ hw) (HN.2.use) (g := F0 m pc ls (.int (zI z) :: st)) rfl hdg rfl hng (by rw [hcl]; exact hbytes) hroom.1 (by rw [hcl]; exact hroom.2) fun cA kA comp f1 f2 f3 f4 => ?_
  rw [hcl]
  have hRA := (hK.1.2 2 _ (show (zty V)[2]? = some (zct V 2, .object RX2) from rfl)).2
  have hcA : cA = zct V 2 := by
    obtain ⟨kA', comp', k1, k2, k3, k4⟩ := hRA
    exact Option.some.inj (f1.symm.trans k4)
  have o1 : ∀ q : Nat, q < H.size → (H.push { cls := cA, slots := Array.replicate N .null, vm := .none })[q]? = H[q]? := fun q hq => by
    rw [Array.getElem?_push, if_neg (Nat.ne_of_lt hq)]
  have he : va_at (zDD V) vwCl (H.size, zE V (3, N, zk0) (d a)) (H.push { cls := cA, slots := Array.replicate N .null, vm := .none }) := by
    show (H.push _)[H.size]? = some (vp_cell _ _)
    rw [vp_cell_q, Array.getElem?_push, if_pos rfl]
    have e9 := arrV_new cA N (defaultValue (.object RX2))
    rw [← hcA]
    exact congrArg some e9
  have hR := hP.grow (x := (3, N, zk0)) wf hu (fun k t h => by cases h) he (hsz _ hS.1) o1
  have hza : zad (zset V a (3, N, zk0) H.size) a = H.size := zset_aa
  exact kk _ _ (zset_ex hu).y (zset_wf hu wf (fun k t h => by cases h)) ⟨zset_at, hza⟩ ls _ locs hl hR ⟨Nat.le_trans hS.1 (by simp), fun x h1 h2 => (o1 x (Nat.lt_of_lt_of_le h1 hS.1)).trans (hS.2.1 x h1 h2), hS.2.2⟩
theorem zP_aastq (C : zOk V X cc own nL R0 ret) {a t q q1 N : Nat} {i : Int} {fk fk2 : Nat → Nat} (hdg : decode cc pc = .ok (.aastore, 1)) (ha : zAt V a q (3, N, fk)) (ht : zAt V t q1 (0, 2, fk2)) (wf : zWf V) (hi : zR i) (hin : 0 ≤ i ∧ i < (N : Int)) (kk : ∀ V1, zEy V V1 (fun c => c = a) → zWf V1 → zAt V1 a q (3, N, zfu fk i.toNat (t + 2)) → zP V1 X nL k n (pc + 1) L st d) : zP V X nL k n pc L (.ref q1 :: .int (zI i) :: .ref q :: st) d := by
  obtain ⟨hs, rfl⟩ := ha
  obtain ⟨hst, rfl⟩ := ht
  obtain ⟨p, l, e, R, s, m, args, below, meth, c, Q⟩ := X
  obtain ⟨hx, hb, hml, hown, hts, hK, hlk, hR, hret, hsz⟩ := C
  intro ls H locs hl hP hS
  have hin2 := zI_in hi hin
  have h0 : ¬ zI i < 0 := fun q => hin2 (Or.inl q)
  have hlt : (zI i).toNatClampNeg < N := Nat.not_le.mp fun q => hin2 (Or.inr q)
  obtain ⟨cellV, g1, g3, g2⟩ := va_recv hK.1 (hP.one hst) (q0 := 0) (ci := 2) (q := (RX2, TX2, 16)) rfl rfl
  obtain ⟨kA, comp, k1, k2, k3, -⟩ := (hK.1.2 2 _ (show (zty V)[2]? = some (zct V 2, .object RX2) from rfl)).2
  obtain ⟨kE, hkE, -⟩ := Vm.findClass_spec k3
  obtain ⟨kC, hkC, -⟩ := Vm.findClass_spec g2
  have hcell : H[zad V a]? = some (vp_cell (zct V 2) (N, .inr (.inr (.inr (.inr fun j => match fk j with
    | t + 2 => some (zad V t)
    | _ => none))))) := (hP.1 a _ hs).1
  have hwf : zWf (zsts V a (3, N, zfu fk i.toNat (t + 2))) := zsts_wf wf fun j t' hj => by
    unfold zfu at hj
    by_cases hjk : j = i.toNat
    · rw [show (3, N, fun j => if j = i.toNat then t + 2 else fk j).2.2 j = t + 2 from if_pos hjk] at hj
      have : t' = t := by omega
      rw [this, hst]
      rfl
    · rw [show (3, N, fun j => if j = i.toNat then t + 2 else fk j).2.2 j = fk j from if_neg hjk] at hj
      exact wf a _ hs j t' hj
  refine W.aast hx hb hcell (fun q h => by cases h) (fun h => by cases h) k1 k2 rfl hkE ⟨h0, by show _ < (arrV _ _ _).slots.size; rw [arrV_size]; exact hlt⟩ g1 (fun q h => by rw [h] at g3; cases g3) hkC (vb_asgS _ _ k3 g2) rfl rfl hdg fun H1 e z oq => ?_
  refine kk _ zsts_ex.y hwf ⟨zsts_at, rfl⟩ ls H1 _ hl (hP.reshape hs ?_ oq) (hS.put z oq (hP.1 a _ hs).2)
  show H1[zad V a]? = some (vp_cell _ _)
  rw [e]
  rw [vp_cell_q, vp_cell_q, arrV_store, zI_cl hi]
  congr 2
  funext q
  by_cases hq : q = i.toNat
  · subst hq
    simp [updV, zfu, va_rf]
  · have e1 : zfu fk i.toNat (t + 2) q = fk q := if_neg hq
    simp only [e1]
    exact if_neg hq
end MAKE
