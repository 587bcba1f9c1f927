/-! Rules that only the builder wants. -/
theorem b_fits0 : ∀ n, n < 128 → fits .byte (.int (zI ((n : Nat) : Int))) = true ∧ narrow .byte (.int (zI ((n : Nat) : Int))) = .int (zI ((n : Nat) : Int)) ∧ zb8 ((n : Nat) : Int) = ((n : Nat) : Int) := by decide +kernel
theorem b_fits {x : Int} (h : 0 ≤ x ∧ x < 128) : fits .byte (.int (zI x)) = true ∧ narrow .byte (.int (zI x)) = .int (zI x) ∧ zb8 x = x := by
  obtain ⟨n, hn⟩ := Int.eq_ofNat_of_zero_le h.1
  rw [hn]
  exact b_fits0 n (by omega)
/-- a field that may come to hold another cell -/
def zFQ (own : String) (ix ci kf : Nat) : Prop := ∃ C T N, zCF ci C T N ∧ kf < N ∧ Cond.fieldLink own ix (T kf).1 (T kf).2.1 (T kf).2.2.1 ∈ zT ∧ (T kf).2.2.2 = false ∧ ∃ ty, parseFieldDescriptor (T kf).2.2.1 = some ty ∧ ∀ q, narrow ty (.ref q) = .ref q ∧ fits ty (.ref q) = true
theorem fit_arr (q : Nat) : narrow (.array .byte) (.ref q) = .ref q ∧ fits (.array .byte) (.ref q) = true := ⟨rfl, rfl⟩
theorem f12_15 : zFQ RJ5 15 12 0 := ⟨RJ4, TJ4, 4, cf12, by decide, q1017, rfl, .array .byte, rfl, fit_arr⟩
theorem f13_9 : zFR RJ0 9 13 0 := ⟨RJ0, TJ0, 4, cf13, by decide, q1224, rfl, .array .byte, rfl, fit_arr⟩
theorem k12_22 : ∃ C T N, zCF 12 C T N ∧ 1 < N ∧ Cond.fieldLink RJ5 22 (T 1).1 (T 1).2.1 (T 1).2.2.1 ∈ zT ∧ (T 1).2.2.2 = false ∧ parseFieldDescriptor (T 1).2.2.1 = some .byte := ⟨RJ4, TJ4, 4, cf12, by decide, q1018, rfl, rfl⟩
section BRULES
variable {V : zW} {X : zX} {cc : ByteArray} {own : String} {nL k n pc : Nat} {R0 : Room} {ret : Option FieldType} {L L' : List (Option Value)} {st : List Value} {d d' : zD} {P : Option Value → zW → zD → Prop}
theorem zP_giq (C : zOk V X cc own nL R0 ret) {ix ci kf a q : Nat} {fk : Nat → Nat} {v : Int} (hF : zFL own ix ci kf) (hdg : decode cc pc = .ok (.getfield ix, 3)) (ha : zAt V a q (0, ci, fk)) (hf : fk kf = 0) (hv : d a kf = v) (kk : zP V X nL k n (pc + 3) L (.int (zI v) :: st) d) : zP V X nL k n pc L (.ref q :: st) d := by
  obtain ⟨hs, rfl⟩ := ha
  exact zP_get C hF hdg hs (v := .int (zI v)) (by rw [hf, hv]; rfl) fun _ => kk
theorem zP_alenB (C : zOk V X cc own nL R0 ret) {a q N : Nat} {fk : Nat → Nat} (hdg : decode cc pc = .ok (.arraylength, 1)) (ha : zAt V a q (2, N, fk)) (kk : zP V X nL k n (pc + 1) L (.int (zI N) :: st) d) : zP V X nL k n pc L (.ref q :: st) d := by
  obtain ⟨hs, rfl⟩ := ha
  obtain ⟨p, l, e, R, s, m, args, below, meth, c, Q⟩ := X
  obtain ⟨hx, hb, hml, hown, hts, hK, hlk, hR, hret, hsz⟩ := C
  intro ls H locs hl hP hS
  exact va_alen (D := zDD V) (tys := zty V) (ws := [(zad V a, zE V (2, N, fk) (d a))]) hx hb hK.1 (hP.one hs) 0 1 rfl rfl rfl hdg (kk ls H locs hl hP hS)
theorem zP_bastq (C : zOk V X cc own nL R0 ret) {a q N : Nat} {i v : Int} {fk : Nat → Nat} (hdg : decode cc pc = .ok (.bastore, 1)) (ha : zAt V a q (2, N, fk)) (hi : zR i) (hg : 0 ≤ i ∧ i < (N : Int)) (hv : 0 ≤ v ∧ v < 128) (kk : zP V X nL k n (pc + 1) L st (zu d a i.toNat v)) : zP V X nL k n pc L (.int (zI v) :: .int (zI i) :: .ref q :: st) d := by
  obtain ⟨hs, rfl⟩ := ha
  refine zP_bast (K := fun d => some d) (r := zu d a i.toNat v) C hdg hs hi (by rw [zg_t hg, zl_n, (b_fits hv).2.2]) fun d1 h => ?_
  cases h
  exact kk
theorem zP_getD (C : zOk V X cc own nL R0 ret) {ix t : Nat} (ht : t < 2) (hw : Cond.fieldLink own ix "java/lang/Integer" (zdn t) "[B" ∈ zT) (hdg : decode cc pc = .ok (.getstatic ix, 3)) (kk : zP V X nL k n (pc + 3) L (.ref (zst V (3 + t)) :: st) d) : zP V X nL k n pc L st d := by
  obtain ⟨p, l, e, R, s, m, args, below, meth, c, Q⟩ := X
  obtain ⟨hx, hb, hml, hown, hts, hK, hlk, hR, hret, hsz⟩ := C
  intro ls H locs hl hP hS
  exact va_gets hx hb ((hK.2.2.2.2.2.1 t ht).1) hS hown (hts _ hw) (fun _ h => h) hdg (kk ls H locs hl hP hS)
theorem zP_dld (C : zOk V X cc own nL R0 ret) {t : Nat} {i : Int} (ht : t < 2) (hi : zR i) (hg : 0 ≤ i ∧ i < 100) (hdg : decode cc pc = .ok (.baload, 1)) (kk : zP V X nL k n (pc + 1) L (.int (zI (zdg t i.toNat)) :: st) d) : zP V X nL k n pc L (.int (zI i) :: .ref (zst V (3 + t)) :: st) d := by
  obtain ⟨p, l, e, R, s, m, args, below, meth, c, Q⟩ := X
  obtain ⟨hx, hb, hml, hown, hts, hK, hlk, hR, hret, hsz⟩ := C
  intro ls H locs hl hP hS
  exact va_tb hx hb ((hK.2.2.2.2.2.1 t ht).2) hS (zI_in hi hg) (v := .int (zI (zdg t i.toNat))) (by rw [zI_cl hi]) hdg (kk ls H locs hl hP hS)
theorem zP_dupx1 (C : zOk V X cc own nL R0 ret) {va vb : Value} (hdg : decode cc pc = .ok (.dup_x1, 1)) (hva : va.category = 1) (hvb : vb.category = 1) (kk : zP V X nL k n (pc + 1) L (va :: vb :: va :: st) d) : zP V X nL k n pc L (va :: vb :: st) d := by
  obtain ⟨p, l, e, R, s, m, args, below, meth, c, Q⟩ := X
  obtain ⟨hx, hb, hml, hown, hts, hK, hlk, hR, hret, hsz⟩ := C
  intro ls H locs hl hP hS
  exact lv_dup_x1 hx hb hdg hva hvb (kk ls H locs hl hP hS)
theorem zP_nonnull (C : zOk V X cc own nL R0 ret) {x : Nat} {off : Int} {tgt : Nat} (hdg : decode cc pc = .ok (.ifnonnull off, 3)) (ht : (pc : Int) + off = (tgt : Int)) (kk : zP V X nL k n tgt L st d) : zP V X nL k n pc L (.ref x :: st) d := by
  obtain ⟨p, l, e, R, s, m, args, below, meth, c, Q⟩ := X
  obtain ⟨hx, hb, hml, hown, hts, hK, hlk, hR, hret, hsz⟩ := C
  intro ls H locs hl hP hS
  exact lv_ifnonnull hx hb hdg ht (kk ls H locs hl hP hS)
theorem zP_null (C : zOk V X cc own nL R0 ret) (hdg : decode cc pc = .ok (.aconst_null, 1)) (kk : zP V X nL k n (pc + 1) L (.null :: st) d) : zP V X nL k n pc L st d := by
  obtain ⟨p, l, e, R, s, m, args, below, meth, c, Q⟩ := X
  obtain ⟨hx, hb, hml, hown, hts, hK, hlk, hR, hret, hsz⟩ := C
  intro ls H locs hl hP hS
  exact lv_null hx hb hdg (kk ls H locs hl hP hS)
theorem zP_ineg (C : zOk V X cc own nL R0 ret) {x : Int} (hdg : decode cc pc = .ok (.ineg, 1)) (kk : zP V X nL k n (pc + 1) L (.int (zI (-x)) :: st) d) : zP V X nL k n pc L (.int (zI x) :: st) d := by
  obtain ⟨p, l, e, R, s, m, args, below, meth, c, Q⟩ := X
  obtain ⟨hx, hb, hml, hown, hts, hK, hlk, hR, hret, hsz⟩ := C
  intro ls H locs hl hP hS
  refine lv_ineg hx hb hdg ?_
  rw [show -zI x = zI (-x) from (Int32.ofInt_neg x).symm]
  exact kk ls H locs hl hP hS
theorem zP_iaddC (C : zOk V X cc own nL R0 ret) {x y v : Int} (hdg : decode cc pc = .ok (.iadd, 1)) (hv : x + y = v) (hr : -2147483648 ≤ v ∧ v ≤ 2147483647) (kk : zP V X nL k n (pc + 1) L (.int (zI v) :: st) d) : zP V X nL k n pc L (.int (zI y) :: .int (zI x) :: st) d :=
  zP_iadd (K := fun v => some v) (r := v) C hdg (by rw [zl_n, hv, zw_id hr.1 hr.2]) fun w _ h => by cases h; exact kk
theorem zP_isubC (C : zOk V X cc own nL R0 ret) {x y v : Int} (hdg : decode cc pc = .ok (.isub, 1)) (hv : x - y = v) (hr : -2147483648 ≤ v ∧ v ≤ 2147483647) (kk : zP V X nL k n (pc + 1) L (.int (zI v) :: st) d) : zP V X nL k n pc L (.int (zI y) :: .int (zI x) :: st) d :=
  zP_isub (K := fun v => some v) (r := v) C hdg (by rw [zl_n, hv, zw_id hr.1 hr.2]) fun w _ h => by cases h; exact kk
theorem zP_imulC (C : zOk V X cc own nL R0 ret) {x y v : Int} (hdg : decode cc pc = .ok (.imul, 1)) (hv : x * y = v) (hr : -2147483648 ≤ v ∧ v ≤ 2147483647) (kk : zP V X nL k n (pc + 1) L (.int (zI v) :: st) d) : zP V X nL k n pc L (.int (zI y) :: .int (zI x) :: st) d :=
  zP_imul (K := fun v => some v) (r := v) C hdg (by rw [zl_n, hv, zw_id hr.1 hr.2]) fun w _ h => by cases h; exact kk
theorem zP_iincC (C : zOk V X cc own nL R0 ret) {i : Nat} {z x v : Int} (hdg : decode cc pc = .ok (.iinc i z, 3)) (hl : L[i]? = some (some (.int (zI x)))) (hn : i < nL) (hc : zcat L = true) (hv : x + z = v) (hr : -2147483648 ≤ v ∧ v ≤ 2147483647) (hL : L.set i (some (.int (zI v))) = L') (kk : zP V X nL k n (pc + 3) L' st d) : zP V X nL k n pc L st d :=
  zP_iinc (K := fun v => some v) (r := v) C hdg hl hn hc (by rw [zl_n, hv, zw_id hr.1 hr.2]) fun w _ h => by cases h; rw [hL]; exact kk
theorem zP_ishr0 (C : zOk V X cc own nL R0 ret) {x : Int} (hdg : decode cc pc = .ok (.ishr, 1)) (kk : zP V X nL k n (pc + 1) L (.int (zI x) :: st) d) : zP V X nL k n pc L (.int (zI 0) :: .int (zI x) :: st) d := by
  refine zP_ishr (K := fun v => some v) (r := zshr x 0) C hdg rfl fun w _ h => ?_
  cases h
  have e : zI (zshr x 0) = zI x := by
    show zI (zI x >>> (zI 0 &&& 31)).toInt = _
    rw [zI_of, show (zI 0 &&& 31 : Int32) = 0 by decide +kernel]
    exact Int32.shiftRight_zero
  rw [e]
  exact kk
theorem zP_ishl0 (C : zOk V X cc own nL R0 ret) {x : Int} (hdg : decode cc pc = .ok (.ishl, 1)) (kk : zP V X nL k n (pc + 1) L (.int (zI x) :: st) d) : zP V X nL k n pc L (.int (zI 0) :: .int (zI x) :: st) d := by
  refine zP_ishl (K := fun v => some v) (r := zshl x 0) C hdg rfl fun w _ h => ?_
  cases h
  have e : zI (zshl x 0) = zI x := by
    show zI (zI x <<< (zI 0 &&& 31)).toInt = _
    rw [zI_of, show (zI 0 &&& 31 : Int32) = 0 by decide +kernel]
    exact Int32.shiftLeft_zero
  rw [e]
  exact kk
/-- a field comes to hold another cell -/
theorem zP_putRn (C : zOk V X cc own nL R0 ret) {ix ci kf a t q q1 : Nat} {fk : Nat → Nat} (hF : zFQ own ix ci kf) (hdg : decode cc pc = .ok (.putfield ix, 3)) (ha : zAt V a q (0, ci, fk)) (ht : zad V t = q1) (htt : (zsh V t).isSome = true) (wf : zWf V) (kk : ∀ V1, zEy V V1 (fun c => c = a) → zWf V1 → zAt V1 a q (0, ci, zfu fk kf (t + 2)) → zP V1 X nL k n (pc + 3) L st d) : zP V X nL k n pc L (.ref q1 :: .ref q :: st) d := by
  subst ht
  obtain ⟨hs, rfl⟩ := ha
  obtain ⟨p, l, e, R, s, m, args, below, meth, c, Q⟩ := X
  obtain ⟨hx, hb, hml, hown, hts, hK, hlk, hR, hret, hsz⟩ := C
  intro ls H locs hl hP hS
  obtain ⟨Cn, T, N, ⟨hc, hin, hnm, ty0, hty⟩, hk, hw, hfin, ty, hd, hty1⟩ := hF
  obtain ⟨hn, hfit⟩ := hty1 (zad V t)
  have hap := va_apart (own := own) hts hin ty0 hty hnm hK.1 hc
  obtain ⟨r', h1, cell, q1, q2, q3, q4⟩ := (hP.1 a _ hs).1
  have hr : r' = (Cn, T, N) := Option.some.inj (h1.symm.trans hc)
  subst hr
  obtain ⟨hS1, hfc, kC, hkC, hkind⟩ := hK.1.1 ci _ hc
  obtain ⟨cf, kf', fi, f, hi, hsl⟩ := hS1 kf hk
  have hlay := hts _ (hin _ (u_in_lay hk))
  have hst := (u_facts hfc hkC (u_lays hts hin hk) hi).1
  have hwf : zWf (zsts V a (0, ci, zfu fk kf (t + 2))) := zsts_wf wf fun j t' hj => by
    unfold zfu at hj
    by_cases hjk : j = kf
    · rw [show (0, ci, fun j => if j = kf then t + 2 else fk j).2.2 j = t + 2 from if_pos hjk] at hj
      have : t' = t := by omega
      rw [this]
      exact htt
    · rw [show (0, ci, fun j => if j = kf then t + 2 else fk j).2.2 j = fk j from if_neg hjk] at hj
      exact wf a _ hs j t' hj
  have fin : ∀ H' : Heap, H'[zad V a]? = some (cell.setSlot f.slot (.ref (zad V t))) → H'.size = H.size → (∀ q : Nat, q ≠ zad V a → H'[q]? = H[q]?) → W p l e R s m args below meth c H' (locs ++ [⟨zad V a, f.slot⟩]) k n Q (F0 m (pc + 3) ls st) := fun H' e1 e2 e3 => by
    rw [hsl] at e1 ⊢
    exact kk _ zsts_ex.y hwf ⟨zsts_at, rfl⟩ ls H' _ hl (hP.reshape hs (zputR_at hc hk ⟨_, e1, q2, q3, t_set q4 hap hk _⟩) e3) (hS.put e2 e3 (hP.1 a _ hs).2)
  unfold u_lay at hlay
  rw [if_neg (by rw [hfin]; decide)] at hlay
  have h6 := u_store hfc hkC hkind hlay hi hd hn hfit
  exact W.putK hx hb (f := f) ⟨hown, hts _ hw, ⟨_, _, _, hi⟩, hst⟩ (by rw [q2]; exact h6) q1 q3 (by rw [hsl]; exact k2_hasslot (q4 kf hk)) rfl rfl hdg fin
/-- a field of one's own, in a maker, comes to hold a cell -/
theorem zP_putRi (C : zOk V X cc own nL R0 ret) (HI : zIni X) {ix ci kf a t q q1 : Nat} {fk : Nat → Nat} (hF : zFR own ix ci kf) (hdg : decode cc pc = .ok (.putfield ix, 3)) (ha : zAt V a q (0, ci, fk)) (ht : zad V t = q1) (htt : (zsh V t).isSome = true) (wf : zWf V) (kk : ∀ V1, zEy V V1 (fun c => c = a) → zWf V1 → zAt V1 a q (0, ci, zfu fk kf (t + 2)) → zP V1 X nL k n (pc + 3) L st d) : zP V X nL k n pc L (.ref q1 :: .ref q :: st) d := by
  subst ht
  obtain ⟨hs, rfl⟩ := ha
  obtain ⟨p, l, e, R, s, m, args, below, meth, c, Q⟩ := X
  obtain ⟨hx, hb, hml, hown, hts, hK, hlk, hR, hret, hsz⟩ := C
  have hini : meth.name = "<init>" := HI
  intro ls H locs hl hP hS
  obtain ⟨Cn, T, N, ⟨hc, hin, hnm, ty0, hty⟩, hk, hw, hdecl, ty, hd, hty1⟩ := hF
  obtain ⟨hn, hfit⟩ := hty1 (zad V t)
  have hap := va_apart (own := own) hts hin ty0 hty hnm hK.1 hc
  obtain ⟨r', h1, cell, q1, q2, q3, q4⟩ := (hP.1 a _ hs).1
  have hr : r' = (Cn, T, N) := Option.some.inj (h1.symm.trans hc)
  subst hr
  obtain ⟨hS1, hfc, kC, hkC, hkind⟩ := hK.1.1 ci _ hc
  obtain ⟨cf, kf', fi, f, hi, hsl⟩ := hS1 kf hk
  have hlay := hts _ (hin _ (u_in_lay hk))
  have hst := (u_facts hfc hkC (u_lays hts hin hk) hi).1
  have hwf : zWf (zsts V a (0, ci, zfu fk kf (t + 2))) := zsts_wf wf fun j t' hj => by
    unfold zfu at hj
    by_cases hjk : j = kf
    · rw [show (0, ci, fun j => if j = kf then t + 2 else fk j).2.2 j = t + 2 from if_pos hjk] at hj
      have : t' = t := by omega
      rw [this]
      exact htt
    · rw [show (0, ci, fun j => if j = kf then t + 2 else fk j).2.2 j = fk j from if_neg hjk] at hj
      exact wf a _ hs j t' hj
  have fin : ∀ H' : Heap, H'[zad V a]? = some (cell.setSlot f.slot (.ref (zad V t))) → H'.size = H.size → (∀ q : Nat, q ≠ zad V a → H'[q]? = H[q]?) → W p l e R s m args below meth c H' (locs ++ [⟨zad V a, f.slot⟩]) k n Q (F0 m (pc + 3) ls st) := fun H' e1 e2 e3 => by
    rw [hsl] at e1 ⊢
    exact kk _ zsts_ex.y hwf ⟨zsts_at, rfl⟩ ls H' _ hl (hP.reshape hs (zputR_at hc hk ⟨_, e1, q2, q3, t_set q4 hap hk _⟩) e3) (hS.put e2 e3 (hP.1 a _ hs).2)
  unfold u_lay at hlay
  by_cases hfin : (T kf).2.2.2 = true
  · rw [if_pos hfin] at hlay
    have hcf : m.cls = cf := by
      obtain ⟨_, _, c', _, _, _, -, -, hf', -, -, -, hown2, -⟩ := Cond.laysFinal_spec hlay
      have e1 : c' = cf := by have := hi.symm.trans hf'; simp at this; exact this.1.symm
      rw [hdecl] at hown2
      rw [← e1]; exact Option.some.inj (hown.symm.trans hown2)
    have h6 := u_fits hfc hkC hkind (Or.inr hlay) hi hd hn hfit
    exact W.putFinK hx hb hown (hts _ hw) hi hst hcf hini (by rw [q2]; exact h6) q1 q3 (by rw [hsl]; exact k2_hasslot (q4 kf hk)) rfl rfl hdg fin
  · rw [if_neg hfin] at hlay
    have h6 := u_store hfc hkC hkind hlay hi hd hn hfit
    exact W.putK hx hb (f := f) ⟨hown, hts _ hw, ⟨_, _, _, hi⟩, hst⟩ (by rw [q2]; exact h6) q1 q3 (by rw [hsl]; exact k2_hasslot (q4 kf hk)) rfl rfl hdg fin
/-- a byte of one's own that never changes is laid -/
theorem zP_putBf (C : zOk V X cc own nL R0 ret) (HI : zIni X) {ix ci kf a q : Nat} {fk : Nat → Nat} {v : Int} (hF : ∃ C T N, zCF ci C T N ∧ kf < N ∧ Cond.fieldLink own ix (T kf).1 (T kf).2.1 (T kf).2.2.1 ∈ zT ∧ (T kf).1 = own ∧ (T kf).2.2.2 = true ∧ parseFieldDescriptor (T kf).2.2.1 = some .byte) (hdg : decode cc pc = .ok (.putfield ix, 3)) (ha : zAt V a q (0, ci, fk)) (hf : fk kf = 0) (hv : 0 ≤ v ∧ v < 128) (kk : zP V X nL k n (pc + 3) L st (zu d a kf v)) : zP V X nL k n pc L (.int (zI v) :: .ref q :: st) d := by
  obtain ⟨hs, rfl⟩ := ha
  obtain ⟨p, l, e, R, s, m, args, below, meth, c, Q⟩ := X
  obtain ⟨hx, hb, hml, hown, hts, hK, hlk, hR, hret, hsz⟩ := C
  have hini : meth.name = "<init>" := HI
  intro ls H locs hl hP hS
  obtain ⟨Cn, T, N, ⟨hc, hin, hnm, ty0, hty⟩, hk, hw, hdecl, hfin, hd⟩ := hF
  obtain ⟨hfit, hn, -⟩ := b_fits hv
  have hap := va_apart (own := own) hts hin ty0 hty hnm hK.1 hc
  obtain ⟨r', h1, cell, q1, q2, q3, q4⟩ := (hP.1 a _ hs).1
  have hr : r' = (Cn, T, N) := Option.some.inj (h1.symm.trans hc)
  subst hr
  obtain ⟨hS1, hfc, kC, hkC, hkind⟩ := hK.1.1 ci _ hc
  obtain ⟨cf, kf', fi, f, hi, hsl⟩ := hS1 kf hk
  have hlay := hts _ (hin _ (u_in_lay hk))
  have hst := (u_facts hfc hkC (u_lays hts hin hk) hi).1
  unfold u_lay at hlay
  rw [if_pos hfin] at hlay
  have hcf : m.cls = cf := by
    obtain ⟨_, _, c', _, _, _, -, -, hf', -, -, -, hown2, -⟩ := Cond.laysFinal_spec hlay
    have e1 : c' = cf := by have := hi.symm.trans hf'; simp at this; exact this.1.symm
    rw [hdecl] at hown2
    rw [← e1]; exact Option.some.inj (hown.symm.trans hown2)
  have h6 := u_fits hfc hkC hkind (Or.inr hlay) hi hd hn hfit
  refine W.putFinK hx hb hown (hts _ hw) hi hst hcf hini (by rw [q2]; exact h6) q1 q3 (by rw [hsl]; exact k2_hasslot (q4 kf hk)) rfl rfl hdg fun H' e1 e2 e3 => ?_
  rw [hsl] at e1 ⊢
  exact kk ls H' _ hl (hP.set hs ⟨by omega, by omega⟩ (zput_at hc hf hk ⟨_, e1, q2, q3, t_set q4 hap hk _⟩) e3) (hS.put e2 e3 (hP.1 a _ hs).2)
/-- bytes are laid over, from any row that reads so -/
theorem zP_copyB0 (C : zOk V X cc own nL R0 ret) {ix n0 n1 a q src : Nat} {sp dp cnt : Int} {f : Nat → Int} {fk : Nat → Nat} (hw : Cond.methodLink own ix arraycopyName ∈ zT) (hdg : decode cc pc = .ok (.invokestatic ix, 3))
    (hsrc : ∀ (U : State) (H : Heap), zRep V d H → (∀ q : Nat, q < U.heap.size → ¬ zA V q → H[q]? = U.heap[q]?) → zK V U → ∃ scr : Cell, H[src]? = some scr ∧ U.isArrayOf scr .byte ∧ scr.vm ≠ .unknown ∧ n0 ≤ scr.slots.size ∧ (∀ j : Nat, j < n0 → scr.slots[j]? = some (.int (zI (f j)))))
    (hf : ∀ j, j < n0 → 0 ≤ f j ∧ f j < 128) (ha : zAt V a q (2, n1, fk)) (h1 : zR sp) (h2 : zR dp) (h3 : zR cnt) (hg : 0 ≤ sp ∧ 0 ≤ dp ∧ 0 ≤ cnt ∧ sp + cnt ≤ (n0 : Int) ∧ dp + cnt ≤ (n1 : Int)) (hroom : 1 ≤ R0.frames ∧ (st.map fun v => v.category).sum + (nativeFrameWords "java/lang/System" "arraycopy" 5 + 11) ≤ R0.locals)
    (kk : zP V X nL k n (pc + 3) L st (zcp d f sp.toNat a dp.toNat cnt.toNat)) : zP V X nL k n pc L (.int (zI cnt) :: .int (zI dp) :: .ref q :: .int (zI sp) :: .ref src :: st) d := by
  obtain ⟨hs, rfl⟩ := ha
  obtain ⟨p, l, e, R, s, m, args, below, meth, c, Q⟩ := X
  obtain ⟨hx, hb, hml, hown, hts, hK, hlk, hR, hret, hsz⟩ := C
  intro ls H locs hl hP hS
  subst hR
  have ls0 : ∀ {z : Int}, zR z → 0 ≤ z → ¬ zI z < 0 := fun hz h0 q => by
    have := (zI_lt hz (y := 0) ⟨by omega, by omega⟩).mp q
    omega
  obtain ⟨g1, g2, g3, g4, g5⟩ := hg
  intro T hT Y
  obtain ⟨scr, s1, ⟨s2, k0, hk0, cm0, hkk0⟩, s3, s4, s5⟩ := hsrc s H hP hS.2.1 hK
  have hc1 : H[zad V a]? = some (vp_cell (zct V 1) (n1, .inl fun j => zI (d a j))) := (hP.1 a _ hs).1
  obtain ⟨-, k1, hk1, cm1, hkk1⟩ := (hK.1.2 1 _ rfl).1 n1 (fun j => .int (zI (d a j)))
  obtain ⟨vm', Y', step⟩ := Y.arraycopy hx hown (hts _ hw) (hts _ q514) (hts _ q513) (hts _ q38) (src := src) (dst := zad V a) (cs := scr) (cd := vp_cell (zct V 1) (n1, .inl fun j => zI (d a j))) (srcPos := zI sp) (destPos := zI dp) (n := zI cnt) (by rw [hT]; exact s1) (by rw [hT]; exact hc1)
    s2 (fun _ h => by cases h) s3 (fun h => by cases h) hk0 hk1 hkk0 hkk1 (by simp [refKind]) (ls0 h1 g1) (ls0 h2 g2) (ls0 h3 g3)
    (by rw [zI_toInt h1, zI_toInt h3]; omega)
    (by rw [zI_toInt h2, zI_toInt h3]; show ¬ _ > ((arrV (zct V 1) n1 (fun j => .int (zI (d a j)))).slots.size : Int); rw [arrV_size]; omega)
    (fun vm₁ _ i hi => by
      rw [zI_cl h3] at hi
      have e : scr.slots.getD ((zI sp).toNatClampNeg + i) .null = .int (zI (f (sp.toNat + i))) := by
        rw [Array.getD_eq_getD_getElem?, zI_cl h1, s5 _ (by omega)]
        rfl
      rw [e]
      exact ⟨(b_fits (hf _ (by omega))).1, trivial⟩)
    (g := F0 m pc ls (.int (zI cnt) :: .int (zI dp) :: .ref (zad V a) :: .int (zI sp) :: .ref src :: st)) rfl (by rw [hml]; exact hl.1) (rest := st) rfl (by rw [hb]; exact hdg) hroom.1 (by show 2 * 0 + _ + _ ≤ _; omega)
  have e1 : copied scr (vp_cell (zct V 1) (n1, .inl fun j => zI (d a j))) (zI sp) (zI dp) (zI cnt) = vp_cell (zct V 1) (n1, .inl (va_cpy (fun j => zI (f j)) (fun j => zI (d a j)) sp.toNat dp.toNat cnt.toNat)) := by
    have := va_copiedX (n1 := n1) (dp := dp.toNat) (fun z => .int z) scr (zct V 1) (fun j => zI (f j)) (fun j => zI (d a j)) s5 (sp := sp.toNat) (n := cnt.toNat) (by omega)
    unfold copied
    rw [zI_cl h1, zI_cl h2, zI_cl h3]
    exact this
  rw [e1] at Y' step
  have hlt : zad V a < H.size := (Array.getElem?_eq_some_iff.mp hc1).1
  have hheap : ((T.setVm vm').setCell (zad V a) (vp_cell (zct V 1) (n1, .inl (va_cpy (fun j => zI (f j)) (fun j => zI (d a j)) sp.toNat dp.toNat cnt.toNat)))).heap = H.setIfInBounds (zad V a) (vp_cell (zct V 1) (n1, .inl (va_cpy (fun j => zI (f j)) (fun j => zI (d a j)) sp.toNat dp.toNat cnt.toNat))) := by rw [← hT]; rfl
  have oq : ∀ q : Nat, q ≠ zad V a → (H.setIfInBounds (zad V a) (vp_cell (zct V 1) (n1, .inl (va_cpy (fun j => zI (f j)) (fun j => zI (d a j)) sp.toNat dp.toNat cnt.toNat))))[q]? = H[q]? := fun q hq => by simp [Array.getElem?_setIfInBounds, Ne.symm hq]
  have hRep : zRep V (zcp d f sp.toNat a dp.toNat cnt.toNat) (H.setIfInBounds (zad V a) (vp_cell (zct V 1) (n1, .inl (va_cpy (fun j => zI (f j)) (fun j => zI (d a j)) sp.toNat dp.toNat cnt.toNat)))) := by
    refine hP.setA hs (fun b j => ?_) (fun b hb => ?_) ?_ oq
    · unfold zcp
      by_cases hq : b = a ∧ dp.toNat ≤ j ∧ j < dp.toNat + cnt.toNat
      · rw [if_pos hq]
        have := hf (sp.toNat + (j - dp.toNat)) (by omega)
        exact ⟨by omega, by omega⟩
      · rw [if_neg hq]
        exact hP.2.2 b j
    · funext j
      unfold zcp
      rw [if_neg (fun q => hb q.1)]
    · show (H.setIfInBounds (zad V a) _)[zad V a]? = some (vp_cell _ _)
      rw [show (H.setIfInBounds (zad V a) (vp_cell (zct V 1) (n1, .inl (va_cpy (fun j => zI (f j)) (fun j => zI (d a j)) sp.toNat dp.toNat cnt.toNat))))[zad V a]? = some (vp_cell (zct V 1) (n1, .inl (va_cpy (fun j => zI (f j)) (fun j => zI (d a j)) sp.toNat dp.toNat cnt.toNat))) by simp [Array.getElem?_setIfInBounds, hlt]]
      congr 4
      funext j
      unfold va_cpy zcp
      by_cases hj : dp.toNat ≤ j ∧ j < dp.toNat + cnt.toNat
      · rw [if_pos hj, if_pos ⟨rfl, hj⟩]
      · rw [if_neg hj, if_neg (fun q => hj q.2)]
  obtain ⟨t, a1, b1⟩ := kk ls _ _ hl hRep ⟨by simp; exact hS.1, fun q q1 q2 => by
      rw [oq q (fun e => q2 (by rw [e]; exact (hP.1 a _ hs).2))]
      exact hS.2.1 q q1 q2, fun q hq => by
      rcases List.mem_append.mp hq with h | h
      · exact hS.2.2 q h
      · obtain ⟨z, -, hz⟩ := List.mem_map.mp h
        rw [← hz]
        exact (hP.1 a _ hs).2⟩ _ hheap Y'
  exact ⟨t, step t a1, b1⟩
theorem zP_copyBB (C : zOk V X cc own nL R0 ret) {ix n0 n1 a q a0 q0 : Nat} {sp dp cnt : Int} {fk fk0 : Nat → Nat} (hw : Cond.methodLink own ix arraycopyName ∈ zT) (hdg : decode cc pc = .ok (.invokestatic ix, 3)) (ha0 : zAt V a0 q0 (2, n0, fk0)) (hf : ∀ j, j < n0 → 0 ≤ d a0 j ∧ d a0 j < 128) (ha : zAt V a q (2, n1, fk)) (h1 : zR sp) (h2 : zR dp) (h3 : zR cnt) (hg : 0 ≤ sp ∧ 0 ≤ dp ∧ 0 ≤ cnt ∧ sp + cnt ≤ (n0 : Int) ∧ dp + cnt ≤ (n1 : Int)) (hroom : 1 ≤ R0.frames ∧ (st.map fun v => v.category).sum + (nativeFrameWords "java/lang/System" "arraycopy" 5 + 11) ≤ R0.locals)
    (kk : zP V X nL k n (pc + 3) L st (zcp d (d a0) sp.toNat a dp.toNat cnt.toNat)) : zP V X nL k n pc L (.int (zI cnt) :: .int (zI dp) :: .ref q :: .int (zI sp) :: .ref q0 :: st) d := by
  obtain ⟨hs0, rfl⟩ := ha0
  refine zP_copyB0 C hw hdg (n0 := n0) (f := d a0) (fun U H hP hq hK => ?_) hf ha h1 h2 h3 hg hroom kk
  have hc0 : H[zad V a0]? = some (vp_cell (zct V 1) (n0, .inl fun j => zI (d a0 j))) := (hP.1 a0 _ hs0).1
  exact ⟨_, hc0, (hK.1.2 1 _ rfl).1 n0 (fun j => .int (zI (d a0 j))), (fun q => by cases q), (by show n0 ≤ (arrV (zct V 1) n0 (fun j => .int (zI (d a0 j)))).slots.size; rw [arrV_size]; exact Nat.le_refl _), fun j hj => arrV_read _ _ hj⟩
theorem zP_copyBT (C : zOk V X cc own nL R0 ret) {ix n1 a q t : Nat} {sp dp cnt : Int} {fk : Nat → Nat} (ht : zbad t < 1) (hw : Cond.methodLink own ix arraycopyName ∈ zT) (hdg : decode cc pc = .ok (.invokestatic ix, 3)) (ha : zAt V a q (2, n1, fk)) (h1 : zR sp) (h2 : zR dp) (h3 : zR cnt) (hg : 0 ≤ sp ∧ 0 ≤ dp ∧ 0 ≤ cnt ∧ sp + cnt ≤ (zslen t : Int) ∧ dp + cnt ≤ (n1 : Int)) (hroom : 1 ≤ R0.frames ∧ (st.map fun v => v.category).sum + (nativeFrameWords "java/lang/System" "arraycopy" 5 + 11) ≤ R0.locals)
    (kk : zP V X nL k n (pc + 3) L st (zcp d (zsch t) sp.toNat a dp.toNat cnt.toNat)) : zP V X nL k n pc L (.int (zI cnt) :: .int (zI dp) :: .ref q :: .int (zI sp) :: .ref (zsv V t) :: st) d := by
  refine zP_copyB0 C hw hdg (n0 := zslen t) (f := zsch t) (fun U H hP hq hK => ?_) (zsc_ok0 t (zbad_lt ht)) ha h1 h2 h3 hg hroom kk
  obtain ⟨scr, s1, s2, s3, s4, -, s5, s6⟩ := (hK.2.1 t ht).2.2.2.1
  exact ⟨scr, by rw [hq _ (Array.getElem?_eq_some_iff.mp s1).1 s6]; exact s1, s2, s3, s4, s5⟩
/-- a row of bytes is doubled -/
theorem zP_cloneB (C : zOk V X cc own nL R0 ret) (HB : zNBX X) {ix a q b N : Nat} (hw : Cond.methodLink own ix ⟨"[B", "clone", "()Ljava/lang/Object;"⟩ ∈ zT) (hdg : decode cc pc = .ok (.invokevirtual ix, 3)) (ha : zAt V a q (2, N, zk0)) (wf : zWf V) (hu : zsh V b = none) (hd : ∀ j, d b j = d a j) (hby : ∀ j, j < N → 0 ≤ d a j ∧ d a j < 128) (hroom : 1 ≤ R0.frames ∧ (st.map fun v => v.category).sum + 14 ≤ R0.locals) (hkn : k + 1 ≤ R0.cells ∧ n + N ≤ R0.slots)
    (kk : ∀ V1 q1, zEy V V1 (fun c => c = b) → zWf V1 → zAt V1 b q1 (2, N, zk0) → zP V1 X nL (k + 1) (n + N) (pc + 3) L (.ref q1 :: st) d) : zP V X nL k n pc L (.ref q :: st) d := by
  obtain ⟨hs, rfl⟩ := ha
  obtain ⟨p, l, e, R, s, m, args, below, meth, c, Q⟩ := X
  obtain ⟨hx, hb, hml, hown, hts, hK, hlk, hR, hret, hsz⟩ := C
  subst hR
  intro ls H locs hl hP hS T hT Y
  have hB : zNB s := HB
  have hnm : s.vm.findClass "[B" = some (zct V 1) := va_nm_byte (hK.1.2 1 _ rfl).2
  obtain ⟨c0, t0, f1, f2, f3⟩ := Cond.castable_spec (va_Nw.use (A := args) rfl hB.2)
  cases hnm.symm.trans f1
  have hcell : H[zad V a]? = some (vp_cell (zct V 1) (N, .inl fun j => zI (d a j))) := (hP.1 a _ hs).1
  obtain ⟨-, kA, hkA, comp, hkind⟩ := State.isArrayOf_alike Y.warmed.alike ((hK.1.2 1 _ rfl).1 0 (fun _ => .null))
  obtain ⟨-, kS, hkS, compS, hkindS⟩ := (hK.1.2 1 _ rfl).1 0 (fun _ => .null)
  have w1 : (Cond.sameMethod "[B" "java/lang/Object" "clone" "()Ljava/lang/Object;").before args s = true := hts _ (zin 1065 (by decide +kernel) (by decide +kernel))
  have w2 : (Cond.native ⟨"java/lang/Object", "clone", "()Ljava/lang/Object;"⟩).before args s = true := hts _ (zin 1066 (by decide +kernel) (by decide +kernel))
  have w3 : (Cond.instanceMethod ⟨"java/lang/Object", "clone", "()Ljava/lang/Object;"⟩).before args s = true := hts _ (zin 1067 (by decide +kernel) (by decide +kernel))
  have w4 : (Cond.selects "[B" ⟨"[B", "clone", "()Ljava/lang/Object;"⟩ ⟨"java/lang/Object", "clone", "()Ljava/lang/Object;"⟩).before args s = true := hts _ (zin 1068 (by decide +kernel) (by decide +kernel))
  have hz1 : (vp_cell (zct V 1) (N, .inl fun j => zI (d a j))).slots.size = N := arrV_size _ _ _
  obtain ⟨vm', Y', step⟩ := Y.cloneArray hx hown (hts _ hw) w1 w2 w3 w4 (a := zad V a) (cell := vp_cell (zct V 1) (N, .inl fun j => zI (d a j))) (by rw [hT]; exact hcell) (fun k h => by cases h) (fun h => by cases h) hnm f2 f3
    (fun i v hv => by
      have hk' : T.vm.classes[zct V 1]? = some kA := hkA
      have hfit : fits .byte v = true := va_fit (cA := zct V 1) (n := N) (F := fun j => .int (zI (d a j))) (fun i hi => (b_fits (hby i hi)).1) i v hv
      have hcl : (vp_cell (zct V 1) (N, .inl fun j => zI (d a j))).cls = zct V 1 := rfl
      rw [hcl]
      simpa [State.fitsSlot, State.slotType?, hk', hkind] using hfit)
    (g := F0 m pc ls (.ref (zad V a) :: st)) rfl (by rw [hml]; exact hl.1) rfl (by rw [hb]; exact hdg) hroom.1 (by show 2 * 0 + _ + 14 ≤ _; omega) hkn.1 (by rw [hz1]; exact hkn.2) (hloader := Vm.clonesLoader_of_array hkS hkindS)
  have hcE : ({ cls := (vp_cell (zct V 1) (N, .inl fun j => zI (d a j))).cls, slots := (vp_cell (zct V 1) (N, .inl fun j => zI (d a j))).slots } : Cell) = vp_cell (zct V 1) (N, .inl fun j => zI (d a j)) := rfl
  rw [hcE, hz1] at Y'
  have z1 : (H.push (vp_cell (zct V 1) (N, .inl fun j => zI (d a j)))).size = H.size + 1 := by rw [Array.size_push]
  have o1 : ∀ q : Nat, q < H.size → (H.push (vp_cell (zct V 1) (N, .inl fun j => zI (d a j))))[q]? = H[q]? := fun q hq => by rw [Array.getElem?_push, if_neg (Nat.ne_of_lt hq)]
  have he : va_at (zDD V) vwCl (H.size, zE V (2, N, zk0) (d b)) (H.push (vp_cell (zct V 1) (N, .inl fun j => zI (d a j)))) := by
    show (H.push _)[H.size]? = some (vp_cell _ _)
    rw [Array.getElem?_push, if_pos rfl]
    congr 4
    funext j
    rw [hd j]
  have hR := hP.grow (x := (2, N, zk0)) wf hu (fun k t h => by cases h) he (hsz _ hS.1) o1
  have hza : zad (zset V b (2, N, zk0) H.size) b = H.size := zset_aa
  obtain ⟨t, b1, b2⟩ := kk _ _ (zset_ex hu).y (zset_wf hu wf (fun k t h => by cases h)) ⟨zset_at, hza⟩ ls _ locs hl hR ⟨Nat.le_trans hS.1 (by omega), fun x h1 h2 => (o1 x (Nat.lt_of_lt_of_le h1 hS.1)).trans (hS.2.1 x h1 h2), hS.2.2⟩
    ((T.setVm vm').pushCell (vp_cell (zct V 1) (N, .inl fun j => zI (d a j)))) (by rw [← hT]; rfl) Y'
  refine ⟨t, step t ?_, b2⟩
  rw [hcE, hT]
  exact b1
theorem zP_castB (C : zOk V X cc own nL R0 ret) {ix a q N : Nat} {fk : Nat → Nat} (hw : Cond.classLink own ix "[B" ∈ zT) (hdg : decode cc pc = .ok (.checkcast ix, 3)) (ha : zAt V a q (2, N, fk)) (kk : zP V X nL k n (pc + 3) L (.ref q :: st) d) : zP V X nL k n pc L (.ref q :: st) d := by
  obtain ⟨hs, rfl⟩ := ha
  obtain ⟨p, l, e, R, s, m, args, below, meth, c, Q⟩ := X
  obtain ⟨hx, hb, hml, hown, hts, hK, hlk, hR, hret, hsz⟩ := C
  intro ls H locs hl hP hS
  exact va_castA (D := zDD V) (cl := vwCl) (ws := [(zad V a, zE V (2, N, fk) (d a))]) hx hb hown (hts _ hw) (hP.one hs) 0 rfl (va_nm_byte (hK.1.2 1 _ rfl).2) hdg (kk ls H locs hl hP hS)
end BRULES
