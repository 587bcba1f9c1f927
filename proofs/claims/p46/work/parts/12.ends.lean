/-! Ends, statics, texts, copies, switches over the pure heap. -/
def zz {β : Type} (x : Int) (y : Option β) : Option β := if x = 0 ∨ x = 1 then y else none
theorem zz_h {β : Type} {x : Int} {y : Option β} {r : β} (h : zz x y = some r) : (x = 0 ∨ x = 1) ∧ y = some r := by
  unfold zz at h
  split at h
  · exact ⟨by assumption, h⟩
  · cases h
theorem zRk {x : Int} (h : (decide (-2147483648 ≤ x) && decide (x ≤ 2147483647)) = true) : zR x := by
  simp at h
  exact h
/-- what a walk ends at -/
def zEnd (V : zW) (X : zX) (ov : Option Value) (φ : Prop) (d' : zD) : Prop := match X with
  | (_, _, _, _, s, _, args, below, _, _, Q) => Q = MQ below (zPost V ov φ d') args s 0 0 (zA V)
theorem zMet_by {V : zW} {dp nn : Nat} {y : MethodName} {b : ByteArray} {rt : Option FieldType} {av : List Value} {d d' : zD} {ov : Option Value} {φ : Prop} (own : String) (hy : plainName y.cls = true) (hyo : y.cls = own) (hle : (lg_sl av).length ≤ nn) (L0 : List (Option Value)) (hL0 : lv_args 0 av = zLp 0 L0)
    (body : ∀ (X : zX), zOk V X b own nn (zrm dp) rt → zEnd V X ov φ d' → zP V X nn 0 0 0 L0 [] d) : zMet V dp y b nn rt av d ov φ d' := by
  refine zMet_of own hy hyo hle L0 hL0 fun X C hQ => body X C ?_
  obtain ⟨p, l, e, R, s, m, args, below, meth, c, Q⟩ := X
  obtain ⟨s1, h1, h2⟩ := hQ
  change s1 = s at h2
  subst h2
  exact h1
/-- a run of ints laid over -/
def zcp (d : zD) (f : Nat → Int) (sp a dp n : Nat) : zD := fun b j => if b = a ∧ dp ≤ j ∧ j < dp + n then f (sp + (j - dp)) else d b j
def zcg {β : Type} (n0 n1 : Nat) (sp dp n : Int) (x : Option β) : Option β := if 0 ≤ sp ∧ 0 ≤ dp ∧ 0 ≤ n ∧ sp + n ≤ (n0 : Int) ∧ dp + n ≤ (n1 : Int) then x else none
theorem zcg_h {β : Type} {n0 n1 : Nat} {sp dp n : Int} {x : Option β} {r : β} (h : zcg n0 n1 sp dp n x = some r) : (0 ≤ sp ∧ 0 ≤ dp ∧ 0 ≤ n ∧ sp + n ≤ (n0 : Int) ∧ dp + n ≤ (n1 : Int)) ∧ x = some r := by
  unfold zcg at h
  split at h
  · exact ⟨by assumption, h⟩
  · cases h
/-- one way out of a switch -/
def zsw {β : Type} (x : Int) (cs : List (Int × Option β)) (df : Option β) : Option β := match cs with
  | [] => df
  | (q, b) :: cs => if x = q then b else zsw x cs df
/-- what is owed at each case of a switch -/
def zswk {β : Type} (V : zW) (X : zX) (nL k n pc : Nat) (L : List (Option Value)) (st : List Value) (d : zD) (r : β) (x : Int) : List (Int × Option β) → List Int → Prop
  | (q, b) :: cs, o :: os => (x = q → b = some r → ∃ tgt : Nat, (pc : Int) + o = (tgt : Int) ∧ zP V X nL k n tgt L st d) ∧ zswk V X nL k n pc L st d r x cs os
  | _, _ => True
section ENDS
variable {V : zW} {X : zX} {cc : ByteArray} {own : String} {nL k n pc : Nat} {R0 : Room} {ret : Option FieldType} {L L' : List (Option Value)} {st : List Value} {d d' : zD} {φ : Prop} {β : Type} {r : β}
theorem zP_iret (C : zOk V X cc own nL R0 (some .int)) {x v : Int} (E : zEnd V X (some (.int (zI v))) (zR v) d') (hdg : decode cc pc = .ok (.ireturn, 1)) (hx : zR x) (h : (some (x, d) : Option (Int × zD)) = some (v, d')) : zP V X nL 0 0 pc L [.int (zI x)] d := by
  obtain ⟨p, l, e, R, s, m, args, below, meth, c, Q⟩ := X
  obtain ⟨hxx, hb, hml, hown, hts, hK, hlk, hR, hret, hsz⟩ := C
  cases h
  change Q = _ at E
  subst E
  intro ls H locs hl hP hS
  refine W.iret hxx hb hret (fun t ht hW => ⟨⟨rfl, hx, by rw [ht]; exact hP⟩, by rw [ht]; exact hS.1, fun q h1 h2 => by rw [ht]; exact hS.2.1 q h1 h2⟩) hS.2.2 hdg hlk
theorem zP_zret (C : zOk V X cc own nL R0 (some .boolean)) {x v : Int} (E : zEnd V X (some (.int (zI v))) (v = 0 ∨ v = 1) d') (hdg : decode cc pc = .ok (.ireturn, 1)) (h01 : x = 0 ∨ x = 1) (h : (some (x, d) : Option (Int × zD)) = some (v, d')) : zP V X nL 0 0 pc L [.int (zI x)] d := by
  obtain ⟨p, l, e, R, s, m, args, below, meth, c, Q⟩ := X
  obtain ⟨hxx, hb, hml, hown, hts, hK, hlk, hR, hret, hsz⟩ := C
  cases h
  change Q = _ at E
  subst E
  intro ls H locs hl hP hS
  refine W.zret hxx hb hret (by rcases h01 with rfl | rfl <;> rfl) (fun t ht hW => ⟨⟨rfl, h01, by rw [ht]; exact hP⟩, by rw [ht]; exact hS.1, fun q h1 h2 => by rw [ht]; exact hS.2.1 q h1 h2⟩) hS.2.2 hdg hlk
theorem zP_vret (C : zOk V X cc own nL R0 none) {v : Int} (E : zEnd V X none (v = 0) d') (hdg : decode cc pc = .ok (.return_, 1)) (h : (some (0, d) : Option (Int × zD)) = some (v, d')) : zP V X nL 0 0 pc L [] d := by
  obtain ⟨p, l, e, R, s, m, args, below, meth, c, Q⟩ := X
  obtain ⟨hxx, hb, hml, hown, hts, hK, hlk, hR, hret, hsz⟩ := C
  cases h
  change Q = _ at E
  subst E
  intro ls H locs hl hP hS
  refine W.vret hxx hb hret (fun t ht hW => ⟨⟨rfl, rfl, by rw [ht]; exact hP⟩, by rw [ht]; exact hS.1, fun q h1 h2 => by rw [ht]; exact hS.2.1 q h1 h2⟩) hS.2.2 hdg hlk
theorem zP_gets (C : zOk V X cc own nL R0 ret) {ix t : Nat} (ht : t < 3) (hw : Cond.fieldLink own ix "PolledLine" (ztn t) "[I" ∈ zT) (hdg : decode cc pc = .ok (.getstatic ix, 3)) (kk : zP V X nL k n (pc + 3) L (.ref (zst V t) :: st) d) : zP V X nL k n pc L st d := by
  obtain ⟨p, l, e, R, s, m, args, below, meth, c, Q⟩ := X
  obtain ⟨hx, hb, hml, hown, hts, hK, hlk, hR, hret, hsz⟩ := C
  intro ls H locs hl hP hS
  exact va_gets hx hb ((hK.2.2.1 t ht).1) hS hown (hts _ hw) (fun _ h => h) hdg (kk ls H locs hl hP hS)
theorem zP_getsN (C : zOk V X cc "PolledLine$SetupReader" nL R0 ret) {t : Nat} (ht : t < 3) (hdg : decode cc pc = .ok (.getstatic (zsx t), 3)) (kk : zP V X nL k n (pc + 3) L (.ref (zst V t) :: st) d) : zP V X nL k n pc L st d := by
  obtain ⟨p, l, e, R, s, m, args, below, meth, c, Q⟩ := X
  obtain ⟨hx, hb, hml, hown, hts, hK, hlk, hR, hret, hsz⟩ := C
  intro ls H locs hl hP hS
  obtain ⟨⟨cf, kf, fi, f, a, cell, h1, h2, h3, h4, h5, h6, h7, h8⟩, -, hN⟩ := hK.2.2.1 t ht
  intro T hT Y
  obtain ⟨vm', Y', st'⟩ := Y.getstaticNest hx hown (hN.use rfl) h1 h2 h3 h4 (show T.heap[a]? = some cell by rw [hT, hS.2.1 a (Array.getElem?_eq_some_iff.mp h5).1 h8]; exact h5) (fun q => by rw [q] at h6; cases h6) h7 (g := F0 m pc ls st) rfl (by rw [hb]; exact hdg)
  obtain ⟨t1, a1, b1⟩ := kk ls H locs hl hP hS (T.setVm vm') hT Y'
  exact ⟨t1, st' t1 a1, b1⟩
theorem ztab_R (t j : Nat) : zR (ztab t j) := by
  have e : ∀ (l : List Int), (∀ x ∈ l, zR x) → zR (l.getD j 0) := by
    intro l hl
    rw [List.getD_eq_getElem?_getD]
    cases h : l[j]? with
    | none => exact zRk rfl
    | some x => exact hl x (List.mem_of_getElem? h)
  have e2 : ∀ (l : List Int), (l.all fun x => decide (-2147483648 ≤ x) && decide (x ≤ 2147483647)) = true → ∀ x ∈ l, zR x := fun l hl x hx => zRk (List.all_eq_true.mp hl x hx)
  unfold ztab
  split
  · exact e _ (e2 _ rfl)
  · exact e _ (e2 _ rfl)
  · exact e _ (e2 _ rfl)
theorem zP_stld (C : zOk V X cc own nL R0 ret) {t : Nat} {i : Int} {K : Int → Option β} (ht : t < 3) (hdg : decode cc pc = .ok (.iaload, 1)) (hi : zR i) (h : zg 6 i (zl (ztab t i.toNat) K) = some r) (kk : ∀ v, zR v → K v = some r → zP V X nL k n (pc + 1) L (.int (zI v) :: st) d) : zP V X nL k n pc L (.int (zI i) :: .ref (zst V t) :: st) d := by
  obtain ⟨p, l, e, R, s, m, args, below, meth, c, Q⟩ := X
  obtain ⟨hx, hb, hml, hown, hts, hK, hlk, hR, hret, hsz⟩ := C
  intro ls H locs hl hP hS
  obtain ⟨hg, h⟩ := zg_h h
  refine va_ti hx hb ((hK.2.2.1 t ht).2.1) hS (zI_in hi hg) (v := .int (zI (ztab t i.toNat))) (by rw [zI_cl hi]) hdg ?_
  exact kk _ (ztab_R _ _) h ls H locs hl hP hS
theorem zP_ldcT (C : zOk V X cc own nL R0 ret) {i ix : Nat} (hi : zbad i < 1) (ho : (zt1 i).1 = own) (hix : (zt1 i).2.1 = ix) (hdg : decode cc pc = .ok (.ldc ix, 2)) (kk : zP V X nL k n (pc + 2) L (.ref (zsa V i) :: st) d) : zP V X nL k n pc L st d := by
  obtain ⟨p, l, e, R, s, m, args, below, meth, c, Q⟩ := X
  obtain ⟨hx, hb, hml, hown, hts, hK, hlk, hR, hret, hsz⟩ := C
  intro ls H locs hl hP hS
  exact va_ldcS hx hb hown (by rw [← ho, ← hix]; exact (hK.2.1 i hi).2.2.2.2) hdg (kk ls H locs hl hP hS)
theorem zP_ldcwT (C : zOk V X cc own nL R0 ret) {i ix : Nat} (hi : zbad i < 1) (ho : (zt1 i).1 = own) (hix : (zt1 i).2.1 = ix) (hdg : decode cc pc = .ok (.ldc_w ix, 3)) (kk : zP V X nL k n (pc + 3) L (.ref (zsa V i) :: st) d) : zP V X nL k n pc L st d := by
  obtain ⟨p, l, e, R, s, m, args, below, meth, c, Q⟩ := X
  obtain ⟨hx, hb, hml, hown, hts, hK, hlk, hR, hret, hsz⟩ := C
  intro ls H locs hl hP hS
  have hZ := (hK.2.1 i hi).2.2.2.2
  rw [ho, hix] at hZ
  intro T hT Y
  obtain ⟨t, a1, b1⟩ := kk ls H locs hl hP hS T hT Y
  obtain ⟨c0, cf, i0, a0, hk, hcf, hcp, -, hr, hev'⟩ := Cond.stringRef_spec hown hZ.1
  cases (show (Term.string own ix).eval _ s none [] s = some (.ref (zsa V i)) from hZ.2).symm.trans hev'
  obtain ⟨c1, hk', he⟩ := Y.warmed.alike.2.2 _ _ hk
  have hr' : c1.resolved[ix]? = some (some (.string (zsa V i))) := by
    rcases Y.warmed.entry hk hk' ix with h | ⟨h, -⟩
    · rw [h]; exact hr
    · rw [hr] at h; cases h
  refine ⟨t, ?_, b1⟩
  have hdg' : decode c.code pc = .ok (.ldc_w ix, 3) := by rw [hb]; exact hdg
  jvm_step Y.here [hx, hdg', ldc_w.wp_string (e := e) (s := T) (f := F0 m pc ls st) Y.here.top hk' (by rw [he]; exact hcf) hcp hr']
  exact a1
theorem zcp_R {d : zD} {f : Nat → Int} {sp a dp n : Nat} (hd : ∀ b j, zR (d b j)) (hf : ∀ j, zR (f j)) (b j : Nat) : zR (zcp d f sp a dp n b j) := by
  unfold zcp
  split
  · exact hf _
  · exact hd _ _
theorem zRep.setA {W : zW} {d d1 : zD} {H H1 : Heap} (h : zRep W d H) {a : Nat} {x : zS} (hx : zsh W a = some x) (hv : ∀ b j, zR (d1 b j)) (ho : ∀ b, b ≠ a → d1 b = d b) (he : va_at (zDD W) vwCl (zad W a, zE W x (d1 a)) H1) (oq : ∀ q : Nat, q ≠ zad W a → H1[q]? = H[q]?) : zRep W d1 H1 := by
  refine ⟨fun b y hy => ⟨?_, (h.1 b y hy).2⟩, h.2.1, hv⟩
  by_cases hb : b = a
  · subst hb
    cases hx.symm.trans hy
    exact he
  · rw [ho b hb]
    exact (h.1 b y hy).1.kept (oq _ fun e => hb (h.2.1 b a (by rw [hy]; rfl) (by rw [hx]; rfl) e))
/-- the copying of a run of ints, from any row that reads so -/
theorem zP_copy0 (C : zOk V X cc own nL R0 ret) {ix n0 n1 a src : Nat} {sp dp cnt : Int} {f : Nat → Int} {fk : Nat → Nat} (hw : Cond.methodLink own ix arraycopyName ∈ zT ∧ Cond.native arraycopyName ∈ zT ∧ Cond.static arraycopyName ∈ zT ∧ Cond.initialized "java/lang/System" ∈ zT) (hdg : decode cc pc = .ok (.invokestatic ix, 3))
    (hsrc : ∀ (U : State) (H : Heap), zRep V d H → (∀ q : Nat, q < U.heap.size → ¬ zA V q → H[q]? = U.heap[q]?) → zK V U → ∃ scr : Cell, H[src]? = some scr ∧ U.isArrayOf scr .int ∧ scr.vm ≠ .unknown ∧ n0 ≤ scr.slots.size ∧ (∀ j : Nat, j < n0 → scr.slots[j]? = some (.int (zI (f j)))))
    (hf : (∀ b j, zR (d b j)) → ∀ j, zR (f j)) (hs : zsh V a = some (1, n1, fk)) (h1 : zR sp) (h2 : zR dp) (h3 : zR cnt) (hg : 0 ≤ sp ∧ 0 ≤ dp ∧ 0 ≤ cnt ∧ sp + cnt ≤ (n0 : Int) ∧ dp + cnt ≤ (n1 : Int)) (hroom : 1 ≤ R0.frames ∧ (st.map fun v => v.category).sum + (nativeFrameWords "java/lang/System" "arraycopy" 5 + 11) ≤ R0.locals)
    (kk : zP V X nL k n (pc + 3) L st (zcp d f sp.toNat a dp.toNat cnt.toNat)) : zP V X nL k n pc L (.int (zI cnt) :: .int (zI dp) :: .ref (zad V a) :: .int (zI sp) :: .ref src :: st) d := by
  obtain ⟨p, l, e, R, s, m, args, below, meth, c, Q⟩ := X
  obtain ⟨hx, hb, hml, hown, hts, hK, hlk, hR, hret, hsz⟩ := C
  intro ls H locs hl hP hS
  subst hR
  have ls0 : ∀ {z : Int}, zR z → 0 ≤ z → ¬ zI z < 0 := fun hz h0 q => by
    have := (zI_lt hz (y := 0) ⟨by omega, by omega⟩).mp q
    omega
  obtain ⟨g1, g2, g3, g4, g5⟩ := hg
  obtain ⟨w1, w2, w3, w4⟩ := hw
  intro T hT Y
  obtain ⟨scr, s1, ⟨s2, k0, hk0, cm0, hkk0⟩, s3, s4, s5⟩ := hsrc s H hP hS.2.1 hK
  have hc1 : H[zad V a]? = some (vp_cell (zct V 0) (n1, .inl fun j => zI (d a j))) := (hP.1 a _ hs).1
  obtain ⟨-, k1, hk1, cm1, hkk1⟩ := (hK.1.2 0 _ rfl).1 n1 (fun j => .int (zI (d a j)))
  obtain ⟨vm', Y', step⟩ := Y.arraycopy hx hown (hts _ w1) (hts _ w2) (hts _ w3) (hts _ w4) (src := src) (dst := zad V a) (cs := scr) (cd := vp_cell (zct V 0) (n1, .inl fun j => zI (d a j))) (srcPos := zI sp) (destPos := zI dp) (n := zI cnt) (by rw [hT]; exact s1) (by rw [hT]; exact hc1)
    s2 (fun _ h => by cases h) s3 (fun h => by cases h) hk0 hk1 hkk0 hkk1 (by simp [refKind]) (ls0 h1 g1) (ls0 h2 g2) (ls0 h3 g3)
    (by rw [zI_toInt h1, zI_toInt h3]; omega)
    (by rw [zI_toInt h2, zI_toInt h3]; show ¬ _ > ((arrV (zct V 0) n1 (fun j => .int (zI (d a j)))).slots.size : Int); rw [arrV_size]; omega)
    (fun vm₁ _ i hi => by
      rw [zI_cl h3] at hi
      have e : scr.slots.getD ((zI sp).toNatClampNeg + i) .null = .int (zI (f (sp.toNat + i))) := by
        rw [Array.getD_eq_getD_getElem?, zI_cl h1, s5 _ (by omega)]
        rfl
      rw [e]
      exact ⟨rfl, trivial⟩)
    (g := F0 m pc ls (.int (zI cnt) :: .int (zI dp) :: .ref (zad V a) :: .int (zI sp) :: .ref src :: st)) rfl (by rw [hml]; exact hl.1) (rest := st) rfl (by rw [hb]; exact hdg) hroom.1 (by show 2 * 0 + _ + _ ≤ _; omega)
  have e1 : copied scr (vp_cell (zct V 0) (n1, .inl fun j => zI (d a j))) (zI sp) (zI dp) (zI cnt) = vp_cell (zct V 0) (n1, .inl (va_cpy (fun j => zI (f j)) (fun j => zI (d a j)) sp.toNat dp.toNat cnt.toNat)) := by
    have := va_copiedX (n1 := n1) (dp := dp.toNat) (fun z => .int z) scr (zct V 0) (fun j => zI (f j)) (fun j => zI (d a j)) s5 (sp := sp.toNat) (n := cnt.toNat) (by omega)
    unfold copied
    rw [zI_cl h1, zI_cl h2, zI_cl h3]
    exact this
  rw [e1] at Y' step
  have hlt : zad V a < H.size := (Array.getElem?_eq_some_iff.mp hc1).1
  have hheap : ((T.setVm vm').setCell (zad V a) (vp_cell (zct V 0) (n1, .inl (va_cpy (fun j => zI (f j)) (fun j => zI (d a j)) sp.toNat dp.toNat cnt.toNat)))).heap = H.setIfInBounds (zad V a) (vp_cell (zct V 0) (n1, .inl (va_cpy (fun j => zI (f j)) (fun j => zI (d a j)) sp.toNat dp.toNat cnt.toNat))) := by rw [← hT]; rfl
  have oq : ∀ q : Nat, q ≠ zad V a → (H.setIfInBounds (zad V a) (vp_cell (zct V 0) (n1, .inl (va_cpy (fun j => zI (f j)) (fun j => zI (d a j)) sp.toNat dp.toNat cnt.toNat))))[q]? = H[q]? := fun q hq => by simp [Array.getElem?_setIfInBounds, Ne.symm hq]
  have hRep : zRep V (zcp d f sp.toNat a dp.toNat cnt.toNat) (H.setIfInBounds (zad V a) (vp_cell (zct V 0) (n1, .inl (va_cpy (fun j => zI (f j)) (fun j => zI (d a j)) sp.toNat dp.toNat cnt.toNat)))) := by
    refine hP.setA hs (zcp_R hP.2.2 (hf hP.2.2)) (fun b hb => ?_) ?_ oq
    · funext j
      unfold zcp
      rw [if_neg (fun q => hb q.1)]
    · show (H.setIfInBounds (zad V a) _)[zad V a]? = some (vp_cell _ _)
      rw [show (H.setIfInBounds (zad V a) (vp_cell (zct V 0) (n1, .inl (va_cpy (fun j => zI (f j)) (fun j => zI (d a j)) sp.toNat dp.toNat cnt.toNat))))[zad V a]? = some (vp_cell (zct V 0) (n1, .inl (va_cpy (fun j => zI (f j)) (fun j => zI (d a j)) sp.toNat dp.toNat cnt.toNat))) by simp [Array.getElem?_setIfInBounds, hlt]]
      congr 4
      funext j
      unfold va_cpy zcp
      by_cases hj : dp.toNat ≤ j ∧ j < dp.toNat + cnt.toNat
      · rw [if_pos hj, if_pos ⟨rfl, hj⟩]
      · rw [if_neg hj, if_neg (fun q => hj q.2)]
  obtain ⟨t, a1, b1⟩ := kk ls _ _ hl hRep ⟨by simp; exact hS.1, fun q q1 q2 => by
      rw [oq q (fun e => q2 (by rw [e]; exact (hP.1 a _ hs).2))]
      exact hS.2.1 q q1 q2, fun q hq => by
      rcases List.mem_append.mp hq with h | h
      · exact hS.2.2 q h
      · obtain ⟨z, -, hz⟩ := List.mem_map.mp h
        rw [← hz]
        exact (hP.1 a _ hs).2⟩ _ hheap Y'
  exact ⟨t, step t a1, b1⟩
theorem zP_copy (C : zOk V X cc own nL R0 ret) {ix n0 n1 a a0 : Nat} {sp dp cnt : Int} {fk fk0 : Nat → Nat} {K : zD → Option β} (hw : Cond.methodLink own ix arraycopyName ∈ zT ∧ Cond.native arraycopyName ∈ zT ∧ Cond.static arraycopyName ∈ zT ∧ Cond.initialized "java/lang/System" ∈ zT) (hdg : decode cc pc = .ok (.invokestatic ix, 3)) (hs0 : zsh V a0 = some (1, n0, fk0)) (hs : zsh V a = some (1, n1, fk)) (h1 : zR sp) (h2 : zR dp) (h3 : zR cnt) (hroom : 1 ≤ R0.frames ∧ (st.map fun v => v.category).sum + (nativeFrameWords "java/lang/System" "arraycopy" 5 + 11) ≤ R0.locals)
    (h : zcg n0 n1 sp dp cnt (zl (zcp d (d a0) sp.toNat a dp.toNat cnt.toNat) K) = some r) (kk : ∀ d1, K d1 = some r → zP V X nL k n (pc + 3) L st d1) : zP V X nL k n pc L (.int (zI cnt) :: .int (zI dp) :: .ref (zad V a) :: .int (zI sp) :: .ref (zad V a0) :: st) d := by
  obtain ⟨hg, h⟩ := zcg_h h
  refine zP_copy0 C hw hdg (n0 := n0) (f := d a0) (fun U H hP hq hK => ?_) (fun hr j => hr a0 j) hs h1 h2 h3 hg hroom (kk _ h)
  have hc0 : H[zad V a0]? = some (vp_cell (zct V 0) (n0, .inl fun j => zI (d a0 j))) := (hP.1 a0 _ hs0).1
  exact ⟨_, hc0, (hK.1.2 0 _ rfl).1 n0 (fun j => .int (zI (d a0 j))), (fun q => by cases q), (by show n0 ≤ (arrV (zct V 0) n0 (fun j => .int (zI (d a0 j)))).slots.size; rw [arrV_size]; exact Nat.le_refl _), fun j hj => arrV_read _ _ hj⟩
theorem zP_copyS (C : zOk V X cc own nL R0 ret) {ix n1 a t : Nat} {sp dp cnt : Int} {fk : Nat → Nat} {K : zD → Option β} (ht : t < 3) (hw : Cond.methodLink own ix arraycopyName ∈ zT ∧ Cond.native arraycopyName ∈ zT ∧ Cond.static arraycopyName ∈ zT ∧ Cond.initialized "java/lang/System" ∈ zT) (hdg : decode cc pc = .ok (.invokestatic ix, 3)) (hs : zsh V a = some (1, n1, fk)) (h1 : zR sp) (h2 : zR dp) (h3 : zR cnt) (hroom : 1 ≤ R0.frames ∧ (st.map fun v => v.category).sum + (nativeFrameWords "java/lang/System" "arraycopy" 5 + 11) ≤ R0.locals)
    (h : zcg 6 n1 sp dp cnt (zl (zcp d (ztab t) sp.toNat a dp.toNat cnt.toNat) K) = some r) (kk : ∀ d1, K d1 = some r → zP V X nL k n (pc + 3) L st d1) : zP V X nL k n pc L (.int (zI cnt) :: .int (zI dp) :: .ref (zad V a) :: .int (zI sp) :: .ref (zst V t) :: st) d := by
  obtain ⟨hg, h⟩ := zcg_h h
  refine zP_copy0 C hw hdg (n0 := 6) (f := ztab t) (fun U H hP hq hK => ?_) (fun _ j => ztab_R t j) hs h1 h2 h3 hg hroom (kk _ h)
  obtain ⟨scr, s1, s2, s3, s4, -, s5, s6⟩ := (hK.2.2.1 t ht).2.1
  exact ⟨scr, by rw [hq _ (Array.getElem?_eq_some_iff.mp s1).1 s6]; exact s1, s2, s3, s4, s5⟩
/-- a switch -/
theorem zswk.at {x : Int} {i : Nat} {q : Int} {b : Option β} : ∀ {cs : List (Int × Option β)} {os : List Int}, zswk V X nL k n pc L st d r x cs os → cs[i]? = some (q, b) → i < os.length → x = q → b = some r → ∃ (off : Int) (tgt : Nat), os[i]? = some off ∧ (pc : Int) + off = (tgt : Int) ∧ zP V X nL k n tgt L st d := by
  induction i with
  | zero =>
    intro cs os h h1 h2 h3 h4
    match cs, os with
    | [], _ => cases h1
    | _ :: _, [] => cases h2
    | c :: cs, o :: os =>
      cases h1
      obtain ⟨tgt, g1, g2⟩ := h.1 h3 h4
      exact ⟨o, tgt, rfl, g1, g2⟩
  | succ i ih =>
    intro cs os h h1 h2 h3 h4
    match cs, os with
    | [], _ => cases h1
    | _ :: _, [] => cases h2
    | c :: cs, o :: os => exact ih (cs := cs) (os := os) h.2 h1 (Nat.lt_of_succ_lt_succ h2) h3 h4
theorem zP_sw (C : zOk V X cc own nL R0 ret) {dflt lo hi : Int} {offs : Array Int} {len : Nat} {x : Int} {cs : List (Int × Option β)} {df : Option β} (hdg : decode cc pc = .ok (.tableswitch dflt lo hi offs, len)) (hx : zR x) (hm : cs.map (·.1) = (List.range offs.size).map fun (i : Nat) => lo + (i : Int)) (hhi : hi = lo + (offs.size : Int) - 1) (h : zsw x cs df = some r)
    (kd : (x < lo ∨ hi < x) → df = some r → ∃ tgt : Nat, (pc : Int) + dflt = (tgt : Int) ∧ zP V X nL k n tgt L st d)
    (kc : zswk V X nL k n pc L st d r x cs offs.toList) : zP V X nL k n pc L (.int (zI x) :: st) d := by
  have key : ∀ (cs : List (Int × Option β)), zsw x cs df = some r → ((∀ q ∈ cs.map (·.1), x ≠ q) ∧ df = some r) ∨ ∃ (i : Nat) (q : Int) (b : Option β), cs[i]? = some (q, b) ∧ x = q ∧ b = some r := by
    intro cs
    induction cs with
    | nil => intro h; exact Or.inl ⟨by simp, h⟩
    | cons c cs ih =>
      intro h
      unfold zsw at h
      split at h
      · exact Or.inr ⟨0, c.1, c.2, rfl, by assumption, h⟩
      · rcases ih h with ⟨i1, i2⟩ | ⟨i, q, b, i1, i2, i3⟩
        · refine Or.inl ⟨fun q hq => ?_, i2⟩
          rcases List.mem_cons.mp hq with rfl | hq
          · assumption
          · exact i1 q hq
        · exact Or.inr ⟨i + 1, q, b, i1, i2, i3⟩
  rcases key cs h with ⟨i1, i2⟩ | ⟨i, q, b, i1, i2, i3⟩
  · have hout : x < lo ∨ hi < x := by
      by_cases q1 : x < lo
      · exact Or.inl q1
      by_cases q2 : hi < x
      · exact Or.inr q2
      exfalso
      refine i1 x ?_ rfl
      rw [hm]
      refine List.mem_map.mpr ⟨(x - lo).toNat, List.mem_range.mpr (by omega), by omega⟩
    obtain ⟨tgt, ht, kk⟩ := kd hout i2
    obtain ⟨p, l, e, R, s, m, args, below, meth, c, Q⟩ := X
    obtain ⟨hxx, hb, hml, hown, hts, hK, hlk, hR, hret, hsz⟩ := C
    intro ls H locs hl hP hS
    exact lv_tableOut hxx hb hdg (by rw [zI_toInt hx]; exact hout) ht (kk ls H locs hl hP hS)
  · have hlt : i < offs.size := by
      have e2 := congrArg List.length hm
      rw [List.length_map, List.length_map, List.length_range] at e2
      rw [← e2]
      exact (List.getElem?_eq_some_iff.mp i1).1
    obtain ⟨off, tgt, ho, ht, kk⟩ := kc.at i1 (by simpa using hlt) i2 i3
    have hq : q = lo + (i : Int) := by
      have e1 : (cs.map (·.1))[i]? = some q := by rw [List.getElem?_map, i1]; rfl
      rw [hm, List.getElem?_map, List.getElem?_range hlt] at e1
      exact (Option.some.inj e1).symm
    rw [Array.getElem?_toList] at ho
    obtain ⟨p, l, e, R, s, m, args, below, meth, c, Q⟩ := X
    obtain ⟨hxx, hb, hml, hown, hts, hK, hlk, hR, hret, hsz⟩ := C
    intro ls H locs hl hP hS
    refine lv_tableIn hxx hb hdg (by rw [zI_toInt hx]; omega) (by rw [zI_toInt hx]; omega) (off := off) ?_ ht (kk ls H locs hl hP hS)
    rw [zI_toInt hx, show (x - lo).toNat = i by omega]
    exact ho
end ENDS
