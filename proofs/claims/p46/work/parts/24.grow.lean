/-! A growing world: objects and rows that are made, fields that come to hold them, makers' contracts. -/
def zW3 (V : zW) (ad : Nat → Nat) (sh : Nat → Option zS) : zW := (V.1, ad, sh, V.2.2.2)
/-- V1 grew from V: cells of lo .. hi - 1 may be new, or of another shape -/
def zEx (V V1 : zW) (lo hi : Nat) : Prop := (∃ ad sh, V1 = zW3 V ad sh) ∧ (∀ c, (zsh V c).isSome = true → zad V1 c = zad V c) ∧ (∀ c, c < lo ∨ hi ≤ c → zsh V1 c = zsh V c) ∧ ∀ c, (zsh V c).isSome = true → (zsh V1 c).isSome = true
theorem zEx.rf {V : zW} {lo hi : Nat} : zEx V V lo hi := ⟨⟨zad V, zsh V, rfl⟩, fun _ _ => rfl, fun _ _ => rfl, fun _ h => h⟩
theorem zEx.tr {V V1 V2 : zW} {lo hi lo1 hi1 : Nat} (h : zEx V V1 lo hi) (g : zEx V1 V2 lo1 hi1) (h1 : lo ≤ lo1) (h2 : hi1 ≤ hi) : zEx V V2 lo hi := by
  obtain ⟨⟨ad, sh, rfl⟩, a2, a3, a4⟩ := h
  obtain ⟨⟨ad', sh', rfl⟩, b2, b3, b4⟩ := g
  refine ⟨⟨ad', sh', rfl⟩, fun c hc => (b2 c (a4 c hc)).trans (a2 c hc), fun c hc => (b3 c (by omega)).trans (a3 c hc), fun c hc => b4 c (a4 c hc)⟩
theorem zEx.ok {V V1 : zW} {lo hi : Nat} (h : zEx V V1 lo hi) {X : zX} {cc : ByteArray} {own : String} {nL : Nat} {R0 : Room} {ret : Option FieldType} (C : zOk V X cc own nL R0 ret) : zOk V1 X cc own nL R0 ret := by
  obtain ⟨⟨ad, sh, rfl⟩, -⟩ := h
  exact C
theorem zEx.A {V V1 : zW} {lo hi : Nat} (h : zEx V V1 lo hi) : zA V1 = zA V := by
  obtain ⟨⟨ad, sh, rfl⟩, -⟩ := h
  rfl
/-- what a shape names is there -/
def zWf (V : zW) : Prop := ∀ c x, zsh V c = some x → ∀ k t, x.2.2 k = t + 2 → (zsh V t).isSome = true
theorem zE_same {V : zW} {ad : Nat → Nat} {sh : Nat → Option zS} {x : zS} {da : Nat → Int} (h : ∀ k t, x.2.2 k = t + 2 → ad t = zad V t) : zE (zW3 V ad sh) x da = zE V x da := by
  obtain ⟨kd, ci, fk⟩ := x
  match kd with
  | 0 =>
    show Sum.inr (ci, _) = Sum.inr (ci, _)
    congr 2
    refine List.map_congr_left fun j _ => ?_
    show zfv (zW3 V ad sh) (fk j) (da j) = zfv V (fk j) (da j)
    match hf : fk j with
    | 0 => rfl
    | 1 => rfl
    | t + 2 =>
      show Value.ref (ad t) = Value.ref (zad V t)
      rw [h j t hf]
  | 1 => rfl
  | 2 => rfl
  | 3 =>
    refine congrArg (fun f => (Sum.inl (zct V 2, ci, Sum.inr (Sum.inr (Sum.inr (Sum.inr f)))) : va_E)) (a₁ := fun j => match fk j with | t + 2 => some (ad t) | _ => none) (a₂ := fun j => match fk j with | t + 2 => some (zad V t) | _ => none) ?_
    funext j
    show (match fk j with | t + 2 => some (ad t) | _ => none) = (match fk j with | t + 2 => some (zad V t) | _ => none)
    match hf : fk j with
    | 0 => rfl
    | 1 => rfl
    | t + 2 =>
      show some (ad t) = some (zad V t)
      rw [h j t hf]
  | k + 4 => rfl
/-- a new cell -/
def zset (V : zW) (a : Nat) (x : zS) (q : Nat) : zW := zW3 V (fun c => if c = a then q else zad V c) (fun c => if c = a then some x else zsh V c)
/-- another shape -/
def zsts (V : zW) (a : Nat) (x : zS) : zW := zW3 V (zad V) (fun c => if c = a then some x else zsh V c)
theorem zset_at {V : zW} {a q : Nat} {x : zS} : zsh (zset V a x q) a = some x := by
  show (if a = a then some x else zsh V a) = some x
  rw [if_pos rfl]
theorem zset_ne {V : zW} {a q c : Nat} {x : zS} (h : c ≠ a) : zsh (zset V a x q) c = zsh V c := by
  show (if c = a then some x else zsh V c) = zsh V c
  rw [if_neg h]
theorem zset_ad {V : zW} {a q c : Nat} {x : zS} (h : c ≠ a) : zad (zset V a x q) c = zad V c := by
  show (if c = a then q else zad V c) = zad V c
  rw [if_neg h]
theorem zset_aa {V : zW} {a q : Nat} {x : zS} : zad (zset V a x q) a = q := by
  show (if a = a then q else zad V a) = q
  rw [if_pos rfl]
theorem zset_ex {V : zW} {a q : Nat} {x : zS} (hu : zsh V a = none) : zEx V (zset V a x q) a (a + 1) := by
  have ne : ∀ c, (zsh V c).isSome = true → c ≠ a := fun c hc e => by rw [e, hu] at hc; cases hc
  exact ⟨⟨_, _, rfl⟩, fun c hc => zset_ad (ne c hc), fun c hc => zset_ne (by omega), fun c hc => by rw [zset_ne (ne c hc)]; exact hc⟩
theorem zset_wf {V : zW} {a q : Nat} {x : zS} (hu : zsh V a = none) (wf : zWf V) (hx : ∀ k t, x.2.2 k = t + 2 → False) : zWf (zset V a x q) := by
  intro c y hy k t hk
  by_cases hc : c = a
  · subst hc
    rw [zset_at] at hy
    cases hy
    exact (hx k t hk).elim
  · rw [zset_ne hc] at hy
    have h1 := wf c y hy k t hk
    exact (zset_ex hu).2.2.2 t h1
theorem zsts_at {V : zW} {a : Nat} {x : zS} : zsh (zsts V a x) a = some x := by
  show (if a = a then some x else zsh V a) = some x
  rw [if_pos rfl]
theorem zsts_ne {V : zW} {a c : Nat} {x : zS} (h : c ≠ a) : zsh (zsts V a x) c = zsh V c := by
  show (if c = a then some x else zsh V c) = zsh V c
  rw [if_neg h]
theorem zsts_ex {V : zW} {a : Nat} {x : zS} : zEx V (zsts V a x) a (a + 1) := by
  refine ⟨⟨_, _, rfl⟩, fun c hc => rfl, fun c hc => zsts_ne (by omega), fun c hc => ?_⟩
  by_cases h : c = a
  · rw [h, zsts_at]
    rfl
  · rw [zsts_ne h]
    exact hc
theorem zsts_wf {V : zW} {a : Nat} {x : zS} (wf : zWf V) (hx : ∀ k t, x.2.2 k = t + 2 → (zsh V t).isSome = true) : zWf (zsts V a x) := by
  intro c y hy k t hk
  by_cases hc : c = a
  · subst hc
    rw [zsts_at] at hy
    cases hy
    exact (zsts_ex (V := V) (a := c) (x := x)).2.2.2 t (hx k t hk)
  · rw [zsts_ne hc] at hy
    exact (zsts_ex (V := V) (a := a) (x := x)).2.2.2 t (wf c y hy k t hk)
theorem zRep.grow {V : zW} {d : zD} {H H1 : Heap} {a : Nat} {x : zS} (h : zRep V d H) (wf : zWf V) (hu : zsh V a = none) (hx : ∀ k t, x.2.2 k = t + 2 → False) (he : va_at (zDD V) vwCl (H.size, zE V x (d a)) H1) (hz : zA V H.size) (oq : ∀ q : Nat, q < H.size → H1[q]? = H[q]?) : zRep (zset V a x H.size) d H1 := by
  refine ⟨fun c y hy => ?_, fun c1 c2 h1 h2 e => ?_, h.2.2⟩
  · by_cases hc : c = a
    · subst hc
      rw [zset_at] at hy
      cases hy
      rw [zset_aa]
      refine ⟨?_, hz⟩
      have e : zE (zset V c x H.size) x (d c) = zE V x (d c) := zE_same fun k t hk => (hx k t hk).elim
      rw [e]
      exact he
    · rw [zset_ne hc] at hy
      rw [zset_ad hc]
      obtain ⟨g1, g2⟩ := h.1 c y hy
      have e : zE (zset V a x H.size) y (d c) = zE V y (d c) := zE_same fun k t hk => by
        show (if t = a then H.size else zad V t) = zad V t
        rw [if_neg]
        intro e9
        have := wf c y hy k t hk
        rw [e9, hu] at this
        cases this
      rw [e]
      exact ⟨g1.kept (oq _ g1.lt), g2⟩
  · have lt : ∀ c, c ≠ a → (zsh (zset V a x H.size) c).isSome = true → zad (zset V a x H.size) c < H.size := fun c hc hs => by
      rw [zset_ne hc] at hs
      rw [zset_ad hc]
      obtain ⟨y, hy⟩ := Option.isSome_iff_exists.mp hs
      exact (h.1 c y hy).1.lt
    by_cases e1 : c1 = a
    · by_cases e2 : c2 = a
      · rw [e1, e2]
      · have := lt c2 e2 h2
        rw [← e, e1, zset_aa] at this
        omega
    · by_cases e2 : c2 = a
      · have := lt c1 e1 h1
        rw [e, e2, zset_aa] at this
        omega
      · rw [zset_ne e1] at h1
        rw [zset_ne e2] at h2
        rw [zset_ad e1, zset_ad e2] at e
        exact h.2.1 c1 c2 h1 h2 e
theorem zRep.reshape {V : zW} {d : zD} {H H1 : Heap} {a : Nat} {x y : zS} (h : zRep V d H) (hy : zsh V a = some y) (he : va_at (zDD V) vwCl (zad V a, zE V x (d a)) H1) (oq : ∀ q : Nat, q ≠ zad V a → H1[q]? = H[q]?) : zRep (zsts V a x) d H1 := by
  have eE : ∀ z da, zE (zsts V a x) z da = zE V z da := fun z da => zE_same fun k t hk => rfl
  refine ⟨fun c z hz => ?_, fun c1 c2 h1 h2 e => ?_, h.2.2⟩
  · rw [eE]
    by_cases hc : c = a
    · subst hc
      rw [zsts_at] at hz
      cases hz
      exact ⟨he, (h.1 c y hy).2⟩
    · rw [zsts_ne hc] at hz
      exact ⟨(h.1 c z hz).1.kept (oq _ fun e => hc (h.2.1 c a (by rw [hz]; rfl) (by rw [hy]; rfl) e)), (h.1 c z hz).2⟩
  · have b : ∀ c, (zsh (zsts V a x) c).isSome = true → (zsh V c).isSome = true := fun c hc => by
      by_cases h9 : c = a
      · rw [h9, hy]
        rfl
      · rw [zsts_ne h9] at hc
        exact hc
    exact h.2.1 c1 c2 (b c1 h1) (b c2 h2) e
def zfu (fk : Nat → Nat) (k v : Nat) : Nat → Nat := fun j => if j = k then v else fk j
theorem zA_int : Cond.arrayClass .int ∈ zT := zin 96 (by decide +kernel) (by decide +kernel)
theorem zA_byte : Cond.arrayClass .byte ∈ zT := zin 671 (by decide +kernel) (by decide +kernel)
def zrmC (dp mc ms : Nat) : Room := { frames := dp, cells := mc, slots := ms, locals := 30 * dp }
/-- a maker's end -/
def zPostC (V : zW) (P : zW → Prop) (lo hi : Nat) (d' : zD) : Array Value → State → Outcome → State → Prop := fun _ st o t => (o = .returned none ∧ ∃ V1, zEx V V1 lo hi ∧ zWf V1 ∧ P V1 ∧ zRep V1 d' t.heap) ∧ va_F (zA V) st t
def zMetC (V : zW) (dp mc ms : Nat) (y : MethodName) (b : ByteArray) (nn : Nat) (av : List Value) (d : zD) (P : zW → Prop) (lo hi : Nat) (d' : zD) : Prop :=
  ∀ l : Launch, Met l y (zwsU y b nn none) (zrmC dp mc ms) (va_Pc av (zPre V d)) (zPostC V P lo hi d') mc ms (zA V)
def zEndC (V : zW) (X : zX) (P : zW → Prop) (lo hi mc ms : Nat) (d' : zD) : Prop := match X with
  | (_, _, _, _, s, _, args, below, _, _, Q) => Q = MQ below (zPostC V P lo hi d') args s mc ms (zA V)
def zIni (X : zX) : Prop := match X with
  | (_, _, _, _, _, _, _, _, meth, _, _) => meth.name = "<init>"
theorem zMetC_by {V : zW} {dp mc ms nn : Nat} {y : MethodName} {b : ByteArray} {av : List Value} {d d' : zD} {P : zW → Prop} {lo hi : Nat} (own : String) (hy : plainName y.cls = true) (hyo : y.cls = own) (hyi : y.name = "<init>") (hle : (lg_sl av).length ≤ nn) (L0 : List (Option Value)) (hL0 : lv_args 0 av = zLp 0 L0)
    (body : ∀ (X : zX), zOk V X b own nn (zrmC dp mc ms) none → zIni X → zEndC V X P lo hi mc ms d' → zP V X nn 0 0 0 L0 [] d) : zMetC V dp mc ms y b nn av d P lo hi d' := by
  intro l
  refine Met.ofW (cc := b) (maxL := nn) (ret := none) hy rfl ?_
  intro p e s m args below meth c s₁ B hml hv
  obtain ⟨rfl, hP, hK, hsz⟩ := hv
  have hts := atoms_spec (ws := zwsU y b nn none) B.pre
  have hl := lv_entry av (n := nn) hle
  rw [lg_entry_eq]
  generalize (lg_sl av ++ List.replicate (nn - (lg_sl av).length) Slot.unset).toArray = ls at hl ⊢
  have hin : meth.name = "<init>" := by
    have h1 := (name_of_methodNamed B.named B.method).1
    rw [← hyi]
    exact h1
  exact body (p, l, e, (headSpec (zwsU y b nn none) (zrmC dp mc ms)).room, s, m, av.toArray, below, meth, c, MQ below (zPostC V P lo hi d') av.toArray s mc ms (zA V)) ⟨B.exec, B.bytes, hml, by rw [← hyo]; exact findClass_of_methodNamed B.named, fun w hw => hts w (List.mem_cons_of_mem _ hw), hK, B.notSynchronized, rfl, B.returns, hsz⟩ hin rfl ls s.heap [] (by unfold zLs; rw [← hL0]; exact hl) hP va_S.rf
section GROW
variable {V : zW} {X : zX} {cc : ByteArray} {own : String} {nL k n pc : Nat} {R0 : Room} {ret : Option FieldType} {L L' : List (Option Value)} {st : List Value} {d d' : zD}
theorem zP_oinit (C : zOk V X cc own nL R0 ret) {ix : Nat} {x : Nat} (hw : Cond.methodLink own ix Lib.objectInit ∈ zT ∧ Cond.instanceMethod Lib.objectInit ∈ zT ∧ Cond.code Lib.objectInit ⟨#[0xb1]⟩ 1 none ∈ zT) (hdg : decode cc pc = .ok (.invokespecial ix, 3)) (hroom : 1 ≤ R0.frames ∧ (st.map fun v => v.category).sum + 12 ≤ R0.locals) (kk : zP V X nL k n (pc + 3) L st d) : zP V X nL k n pc L (.ref x :: st) d := by
  obtain ⟨p, l, e, R, s, m, args, below, meth, c, Q⟩ := X
  obtain ⟨hx, hb, hml, hown, hts, hK, hlk, hR, hret, hsz⟩ := C
  subst hR
  intro ls H locs hl hP hS
  exact W.objInit hx hb hown (hts _ hw.1) (hts _ hw.2.1) (hts _ hw.2.2) (g := F0 m pc ls (.ref x :: st)) rfl (by rw [hml]; exact hl.1) rfl hdg hroom.1 (by show 2 * 0 + _ + 12 ≤ _; have := hroom.2; omega) (kk ls H locs hl hP hS)
theorem zP_new (C : zOk V X cc own nL R0 ret) {ix ci a N : Nat} {Cn : String} {T : u_T} {fk : Nat → Nat} (ty : Nat → FieldType) (hcf : zCF ci Cn T N) (hty : ∀ k, k < N → parseFieldDescriptor (T k).2.2.1 = some (ty k)) (hw : Cond.classLink own ix Cn ∈ zT ∧ Cond.instantiable Cn N ∈ zT ∧ Cond.initialized Cn ∈ zT) (hdg : decode cc pc = .ok (.new ix, 3)) (wf : zWf V) (hu : zsh V a = none) (hd : ∀ j, d a j = 0) (hfk : ∀ j, j < N → defaultValue (ty j) = zfv V (fk j) 0) (hfk2 : ∀ j t, fk j = t + 2 → False) (hroom : k + 1 ≤ R0.cells ∧ n + N ≤ R0.slots)
    (kk : ∀ V1, zEx V V1 a (a + 1) → zWf V1 → zsh V1 a = some (0, ci, fk) → zP V1 X nL (k + 1) (n + N) (pc + 3) L (.ref (zad V1 a) :: st) d) : zP V X nL k n pc L st d := by
  obtain ⟨p, l, e, R, s, m, args, below, meth, c, Q⟩ := X
  obtain ⟨hx, hb, hml, hown, hts, hK, hlk, hR, hret, hsz⟩ := C
  subst hR
  intro ls H locs hl hP hS
  obtain ⟨hc, hin, hnm, ty0, hty0⟩ := hcf
  have hin' : ∀ w ∈ u_ws Cn T N, w ∈ zT := hin
  have hKn := hK.1.1 ci _ hc
  refine W.newcK hx hb hown (hts _ hw.1) (hts _ hw.2.1) (hts _ hw.2.2) rfl hdg hroom.1 hroom.2 hKn.2.1 rfl fun H1 kC hkC e1 z1 o1 => ?_
  have hb1 := u_born ty hts hin' hKn hkC e1 hty
  have he : va_at (zDD V) vwCl (H.size, zE V (0, ci, fk) (d a)) H1 := by
    refine ⟨_, hc, hb1.to fun j hj => ?_⟩
    show defaultValue (ty j) = (zfs V ci fk (d a)).getD j .null
    rw [List.getD_eq_getElem?_getD, zfs_at (by rw [znf_of hc]; exact hj), hfk j hj, hd j]
    rfl
  have hR := hP.grow (x := (0, ci, fk)) wf hu hfk2 he (hsz _ hS.1) o1
  have hz : zad (zset V a (0, ci, fk) H.size) a = H.size := zset_aa
  have kq := kk _ (zset_ex hu) (zset_wf hu wf hfk2) zset_at ls H1 locs hl hR ⟨Nat.le_trans hS.1 (by omega), fun x h1 h2 => (o1 x (Nat.lt_of_lt_of_le h1 hS.1)).trans (hS.2.1 x h1 h2), hS.2.2⟩
  rw [hz] at kq
  exact kq
theorem zP_newarr0 (C : zOk V X cc own nL R0 ret) {at_ : ArrayType} {kd N a t : Nat} {z : Int} (ht : (zty V)[t]? = some (zct V t, newarray.typeOf at_)) (hra : ∀ U : State, va_RA U (zct V t) (newarray.typeOf at_) → U.vm.findClass ("[" ++ (newarray.typeOf at_).toString) = some (zct V t)) (harr : Cond.arrayClass (newarray.typeOf at_) ∈ zT) (hdg : decode cc pc = .ok (.newarray at_, 2)) (wf : zWf V) (hu : zsh V a = none) (hz : zR z) (h0 : 0 ≤ z) (hN : z.toNat = N) (hbytes : N * componentBytes (newarray.typeOf at_) ≤ 536870912) (hroom : k + 1 ≤ R0.cells ∧ n + N ≤ R0.slots)
    (hE : ∀ (cA : ClassId), cA = zct V t → ∀ H1 : Heap, ∀ q : Nat, H1[q]? = some (arrV cA N (fun _ => defaultValue (newarray.typeOf at_))) → va_at (zDD V) vwCl (q, zE V (kd, N, zk0) (d a)) H1)
    (kk : ∀ V1, zEx V V1 a (a + 1) → zWf V1 → zsh V1 a = some (kd, N, zk0) → zP V1 X nL (k + 1) (n + N) (pc + 2) L (.ref (zad V1 a) :: st) d) : zP V X nL k n pc L (.int (zI z) :: st) d := by
  obtain ⟨p, l, e, R, s, m, args, below, meth, c, Q⟩ := X
  obtain ⟨hx, hb, hml, hown, hts, hK, hlk, hR, hret, hsz⟩ := C
  subst hR
  intro ls H locs hl hP hS
  have hng : ¬ zI z < 0 := fun q => by
    have := (zI_lt hz (y := 0) ⟨by omega, by omega⟩).mp q
    omega
  refine va_newaK hx hb (hts _ harr) (g := F0 m pc ls (.int (zI z) :: st)) rfl hdg rfl hng (by rw [zI_cl hz]; exact hN) hbytes hroom.1 hroom.2 rfl fun H1 cA e1 z1 o1 _ hcl => ?_
  have hcA : cA = zct V t := Option.some.inj (hcl.symm.trans (hra _ (hK.1.2 t _ ht).2))
  have hR := hP.grow (x := (kd, N, zk0)) wf hu (fun k t h => by cases h) (hE cA hcA H1 _ e1) (hsz _ hS.1) o1
  have hza : zad (zset V a (kd, N, zk0) H.size) a = H.size := zset_aa
  have kq := kk _ (zset_ex hu) (zset_wf hu wf (fun k t h => by cases h)) zset_at ls H1 locs hl hR ⟨Nat.le_trans hS.1 (by omega), fun x h1 h2 => (o1 x (Nat.lt_of_lt_of_le h1 hS.1)).trans (hS.2.1 x h1 h2), hS.2.2⟩
  rw [hza] at kq
  exact kq
theorem zP_newI (C : zOk V X cc own nL R0 ret) {N a : Nat} {z : Int} (hdg : decode cc pc = .ok (.newarray .int, 2)) (wf : zWf V) (hu : zsh V a = none) (hd : ∀ j, d a j = 0) (hz : zR z) (h0 : 0 ≤ z) (hN : z.toNat = N) (hbytes : N * 4 ≤ 536870912) (hroom : k + 1 ≤ R0.cells ∧ n + N ≤ R0.slots)
    (kk : ∀ V1, zEx V V1 a (a + 1) → zWf V1 → zsh V1 a = some (1, N, zk0) → zP V1 X nL (k + 1) (n + N) (pc + 2) L (.ref (zad V1 a) :: st) d) : zP V X nL k n pc L (.int (zI z) :: st) d := by
  refine zP_newarr0 (at_ := .int) (kd := 1) (t := 0) C rfl (fun _ h => h) zA_int hdg wf hu hz h0 hN hbytes hroom (fun cA hcA H1 q h => ?_) kk
  subst hcA
  show H1[q]? = some (vp_cell _ _)
  rw [h, vp_cell_i]
  congr 2
  funext j
  show Value.int 0 = .int (zI (d a j))
  rw [hd j]
  rfl
theorem zP_newB (C : zOk V X cc own nL R0 ret) {N a : Nat} {z : Int} (hdg : decode cc pc = .ok (.newarray .byte, 2)) (wf : zWf V) (hu : zsh V a = none) (hd : ∀ j, d a j = 0) (hz : zR z) (h0 : 0 ≤ z) (hN : z.toNat = N) (hbytes : N * 1 ≤ 536870912) (hroom : k + 1 ≤ R0.cells ∧ n + N ≤ R0.slots)
    (kk : ∀ V1, zEx V V1 a (a + 1) → zWf V1 → zsh V1 a = some (2, N, zk0) → zP V1 X nL (k + 1) (n + N) (pc + 2) L (.ref (zad V1 a) :: st) d) : zP V X nL k n pc L (.int (zI z) :: st) d := by
  refine zP_newarr0 (at_ := .byte) (kd := 2) (t := 1) C rfl (fun _ h => h) zA_byte hdg wf hu hz h0 hN hbytes hroom (fun cA hcA H1 q h => ?_) kk
  subst hcA
  show H1[q]? = some (vp_cell _ _)
  rw [h, vp_cell_i]
  congr 2
  funext j
  show Value.int 0 = .int (zI (d a j))
  rw [hd j]
  rfl
end GROW
