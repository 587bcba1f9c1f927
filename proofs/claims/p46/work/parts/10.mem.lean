/-! Fields, arrays, calls and ends over the pure heap. -/
theorem zI_cl {i : Int} (hi : zR i) : (zI i).toNatClampNeg = i.toNat := by
  show (zI i).toInt.toNat = i.toNat
  rw [zI_toInt hi]
theorem zI_in {i : Int} {n : Nat} (hi : zR i) (h : 0 ≤ i ∧ i < (n : Int)) : vp_in (zI i) n := by
  rintro (q | q)
  · have := (zI_lt hi (y := 0) ⟨by omega, by omega⟩).mp q
    omega
  · rw [zI_cl hi] at q
    omega
/-- a class of the system: its number, its fields, their words -/
def zCF (ci : Nat) (C : String) (T : u_T) (N : Nat) : Prop := vwCl[ci]? = some (C, T, N) ∧ (∀ w ∈ u_ws C T N, w ∈ zT) ∧ (∀ a, a < N → ∀ b, b < N → a ≠ b → (T a).2.1 ≠ (T b).2.1) ∧ ∃ ty0 : Nat → FieldType, ∀ k, k < N → parseFieldDescriptor (T k).2.2.1 = some (ty0 k)
/-- a field of class ci, the kf-th, as entry ix of the class own names it -/
def zFL (own : String) (ix ci kf : Nat) : Prop := ∃ C T N, zCF ci C T N ∧ kf < N ∧ Cond.fieldLink own ix (T kf).1 (T kf).2.1 (T kf).2.2.1 ∈ zT
/-- .. an int that may be written -/
def zFP (own : String) (ix ci kf : Nat) : Prop := ∃ C T N, zCF ci C T N ∧ kf < N ∧ Cond.fieldLink own ix (T kf).1 (T kf).2.1 (T kf).2.2.1 ∈ zT ∧ (T kf).2.2.2 = false ∧ parseFieldDescriptor (T kf).2.2.1 = some .int
/-- .. a boolean that may be written -/
def zFZ (own : String) (ix ci kf : Nat) : Prop := ∃ C T N, zCF ci C T N ∧ kf < N ∧ Cond.fieldLink own ix (T kf).1 (T kf).2.1 (T kf).2.2.1 ∈ zT ∧ (T kf).2.2.2 = false ∧ parseFieldDescriptor (T kf).2.2.1 = some .boolean
def zfs (V : zW) (ci : Nat) (fk : Nat → Nat) (da : Nat → Int) : List Value := (List.range (znf ci)).map fun j => zfv V (fk j) (da j)
theorem znf_of {ci : Nat} {C : String} {T : u_T} {N : Nat} (h : vwCl[ci]? = some (C, T, N)) : znf ci = N := by
  unfold znf
  rw [h]
theorem zfs_at {V : zW} {ci : Nat} {fk : Nat → Nat} {da : Nat → Int} {kf : Nat} (h : kf < znf ci) : (zfs V ci fk da)[kf]? = some (zfv V (fk kf) (da kf)) := by
  unfold zfs
  rw [List.getElem?_map, List.getElem?_range h]
  rfl
section MEM
variable {V : zW} {X : zX} {cc : ByteArray} {own : String} {nL k n pc : Nat} {R0 : Room} {ret : Option FieldType} {L L' : List (Option Value)} {st : List Value} {d : zD} {β : Type} {r : β}
theorem zP_get (C : zOk V X cc own nL R0 ret) {ix ci kf a : Nat} {fk : Nat → Nat} {v : Value} (hF : zFL own ix ci kf) (hdg : decode cc pc = .ok (.getfield ix, 3)) (hs : zsh V a = some (0, ci, fk)) (hv : zfv V (fk kf) (d a kf) = v) (kk : (∀ b j, zR (d b j)) → zP V X nL k n (pc + 3) L (v :: st) d) : zP V X nL k n pc L (.ref (zad V a) :: st) d := by
  obtain ⟨p, l, e, R, s, m, args, below, meth, c, Q⟩ := X
  obtain ⟨hx, hb, hml, hown, hts, hK, hlk, hR, hret, hsz⟩ := C
  intro ls H locs hl hP hS
  obtain ⟨C, T, N, ⟨hc, hin, hnm, ty0, hty⟩, hk, hw⟩ := hF
  refine va_get (D := zDD V) (ci := ci) (tys := zty V) (v := v) (C := C) (T := T) (N := N) (ws := [(zad V a, zE V (0, ci, fk) (d a))]) (fs := zfs V ci fk (d a)) hx hb hts hin hown hK.1 (hP.one hs) 0 rfl hc kf hk (hts _ hw) (fun _ h9 => h9) ?_ hdg (kk hP.2.2 ls H locs hl hP hS)
  rw [zfs_at (by rw [znf_of hc]; exact hk), hv]
theorem zP_getI (C : zOk V X cc own nL R0 ret) {ix ci kf a : Nat} {fk : Nat → Nat} {K : Int → Option β} (hF : zFL own ix ci kf) (hdg : decode cc pc = .ok (.getfield ix, 3)) (hs : zsh V a = some (0, ci, fk)) (hf : fk kf = 0) (h : zl (d a kf) K = some r) (kk : ∀ v, zR v → K v = some r → zP V X nL k n (pc + 3) L (.int (zI v) :: st) d) : zP V X nL k n pc L (.ref (zad V a) :: st) d :=
  zP_get C hF hdg hs (v := .int (zI (d a kf))) (by rw [hf]; rfl) fun hr => kk _ (hr a kf) h
theorem zP_getR (C : zOk V X cc own nL R0 ret) {ix ci kf a t : Nat} {fk : Nat → Nat} (hF : zFL own ix ci kf) (hdg : decode cc pc = .ok (.getfield ix, 3)) (hs : zsh V a = some (0, ci, fk)) (hf : fk kf = t + 2) (kk : zP V X nL k n (pc + 3) L (.ref (zad V t) :: st) d) : zP V X nL k n pc L (.ref (zad V a) :: st) d :=
  zP_get C hF hdg hs (v := .ref (zad V t)) (by rw [hf]; rfl) fun _ => kk
theorem zput_at {V : zW} {d : zD} {H1 : Heap} {ci kf a : Nat} {fk : Nat → Nat} {v : Int} {N : Nat} {C : String} {T : u_T} (hc : vwCl[ci]? = some (C, T, N)) (hf : fk kf = 0) (hk : kf < N) (h : t_OB (zad V a) ((zDD V).1 ci) N ((zDD V).2 ci) H1 (updV (vp_V (zfs V ci fk (d a))) kf (.int (zI v)))) : va_at (zDD V) vwCl (zad V a, zE V (0, ci, fk) (zu d a kf v a)) H1 := by
  refine ⟨_, hc, ?_⟩
  refine t_OB.to h fun j hj => ?_
  show updV (vp_V (zfs V ci fk (d a))) kf (.int (zI v)) j = (zfs V ci fk (zu d a kf v a)).getD j .null
  have e1 : (zfs V ci fk (zu d a kf v a)).getD j .null = zfv V (fk j) (zu d a kf v a j) := by
    rw [List.getD_eq_getElem?_getD, zfs_at (by rw [znf_of hc]; exact hj)]
    rfl
  rw [e1]
  unfold updV
  by_cases hjk : j = kf
  · rw [if_pos hjk, hjk, hf, zu_eq]
    rfl
  · rw [if_neg hjk, zu_ne (Or.inr hjk)]
    show (zfs V ci fk (d a)).getD j .null = _
    rw [List.getD_eq_getElem?_getD, zfs_at (by rw [znf_of hc]; exact hj)]
    rfl
theorem zP_put0 (C : zOk V X cc own nL R0 ret) {ix ci kf a : Nat} {fk : Nat → Nat} {v : Int} {ty : FieldType} (hF : ∃ C T N, zCF ci C T N ∧ kf < N ∧ Cond.fieldLink own ix (T kf).1 (T kf).2.1 (T kf).2.2.1 ∈ zT ∧ (T kf).2.2.2 = false ∧ parseFieldDescriptor (T kf).2.2.1 = some ty) (hdg : decode cc pc = .ok (.putfield ix, 3)) (hs : zsh V a = some (0, ci, fk)) (hf : fk kf = 0) (hv : zR v) (hn : narrow ty (.int (zI v)) = .int (zI v)) (hfit : fits ty (.int (zI v)) = true) (kk : zP V X nL k n (pc + 3) L st (zu d a kf v)) : zP V X nL k n pc L (.int (zI v) :: .ref (zad V a) :: st) d := by
  obtain ⟨p, l, e, R, s, m, args, below, meth, c, Q⟩ := X
  obtain ⟨hx, hb, hml, hown, hts, hK, hlk, hR, hret, hsz⟩ := C
  intro ls H locs hl hP hS
  obtain ⟨C, T, N, ⟨hc, hin, hnm, ty0, hty⟩, hk, hw, hfin, hd⟩ := hF
  have hap := va_apart (own := own) hts hin ty0 hty hnm hK.1 hc
  obtain ⟨r', h1, cell, q1, q2, q3, q4⟩ := (hP.1 a _ hs).1
  have hr : r' = (C, T, N) := Option.some.inj (h1.symm.trans hc)
  subst hr
  obtain ⟨hS1, hfc, kC, hkC, hkind⟩ := hK.1.1 ci _ hc
  obtain ⟨cf, kf', fi, f, hi, hsl⟩ := hS1 kf hk
  have hlay := hts _ (hin _ (u_in_lay hk))
  unfold u_lay at hlay
  rw [if_neg (by rw [hfin]; decide)] at hlay
  have hst := (u_facts hfc hkC (u_lays hts hin hk) hi).1
  have h6 := u_store hfc hkC hkind hlay hi hd hn hfit
  refine W.putK hx hb (f := f) ⟨hown, hts _ hw, ⟨_, _, _, hi⟩, hst⟩ (by rw [q2]; exact h6) q1 q3 (by rw [hsl]; exact k2_hasslot (q4 kf hk)) rfl rfl hdg fun H' e1 e2 e3 => ?_
  rw [hsl] at e1 ⊢
  exact kk ls H' _ hl (hP.set hs hv (zput_at hc hf hk ⟨_, e1, q2, q3, t_set q4 hap hk _⟩) e3) (hS.put e2 e3 (hP.1 a _ hs).2)
theorem zP_putI (C : zOk V X cc own nL R0 ret) {ix ci kf a : Nat} {fk : Nat → Nat} {v : Int} {K : zD → Option β} (hF : zFP own ix ci kf) (hdg : decode cc pc = .ok (.putfield ix, 3)) (hs : zsh V a = some (0, ci, fk)) (hf : fk kf = 0) (hv : zR v) (h : zl (zu d a kf v) K = some r) (kk : ∀ d1, K d1 = some r → zP V X nL k n (pc + 3) L st d1) : zP V X nL k n pc L (.int (zI v) :: .ref (zad V a) :: st) d :=
  zP_put0 C hF hdg hs hf hv rfl rfl (kk _ h)
theorem zP_putZ (C : zOk V X cc own nL R0 ret) {ix ci kf a : Nat} {fk : Nat → Nat} {v : Int} {K : zD → Option β} (hF : zFZ own ix ci kf) (hdg : decode cc pc = .ok (.putfield ix, 3)) (hs : zsh V a = some (0, ci, fk)) (hf : fk kf = 0) (h01 : v = 0 ∨ v = 1) (h : zl (zu d a kf v) K = some r) (kk : ∀ d1, K d1 = some r → zP V X nL k n (pc + 3) L st d1) : zP V X nL k n pc L (.int (zI v) :: .ref (zad V a) :: st) d := by
  rcases h01 with rfl | rfl
  · exact zP_put0 C hF hdg hs hf ⟨by omega, by omega⟩ rfl rfl (kk _ h)
  · exact zP_put0 C hF hdg hs hf ⟨by omega, by omega⟩ rfl rfl (kk _ h)
theorem zP_iald (C : zOk V X cc own nL R0 ret) {a N : Nat} {i : Int} {fk : Nat → Nat} {K : Int → Option β} (hdg : decode cc pc = .ok (.iaload, 1)) (hs : zsh V a = some (1, N, fk)) (hi : zR i) (h : zg N i (zl (d a i.toNat) K) = some r) (kk : ∀ v, zR v → K v = some r → zP V X nL k n (pc + 1) L (.int (zI v) :: st) d) : zP V X nL k n pc L (.int (zI i) :: .ref (zad V a) :: st) d := by
  obtain ⟨p, l, e, R, s, m, args, below, meth, c, Q⟩ := X
  obtain ⟨hx, hb, hml, hown, hts, hK, hlk, hR, hret, hsz⟩ := C
  intro ls H locs hl hP hS
  obtain ⟨hg, h⟩ := zg_h h
  refine va_iald (D := zDD V) (tys := zty V) (ws := [(zad V a, zE V (1, N, fk) (d a))]) (f := fun j => zI (d a j)) hx hb hK.1 (hP.one hs) 0 0 rfl rfl (zI_in hi hg) hdg ?_
  rw [zI_cl hi]
  exact kk _ (hP.2.2 _ _) h ls H locs hl hP hS
theorem zP_bald (C : zOk V X cc own nL R0 ret) {a N : Nat} {i : Int} {fk : Nat → Nat} {K : Int → Option β} (hdg : decode cc pc = .ok (.baload, 1)) (hs : zsh V a = some (2, N, fk)) (hi : zR i) (h : zg N i (zl (d a i.toNat) K) = some r) (kk : ∀ v, zR v → K v = some r → zP V X nL k n (pc + 1) L (.int (zI v) :: st) d) : zP V X nL k n pc L (.int (zI i) :: .ref (zad V a) :: st) d := by
  obtain ⟨p, l, e, R, s, m, args, below, meth, c, Q⟩ := X
  obtain ⟨hx, hb, hml, hown, hts, hK, hlk, hR, hret, hsz⟩ := C
  intro ls H locs hl hP hS
  obtain ⟨hg, h⟩ := zg_h h
  refine va_bald (D := zDD V) (tys := zty V) (ws := [(zad V a, zE V (2, N, fk) (d a))]) (f := fun j => zI (d a j)) hx hb hK.1 (hP.one hs) 0 1 rfl rfl (zI_in hi hg) hdg ?_
  rw [zI_cl hi]
  exact kk _ (hP.2.2 _ _) h ls H locs hl hP hS
theorem zst_at {V : zW} {d : zD} {H1 : Heap} {a N kd : Nat} {i v : Int} {fk : Nat → Nat} {cA : ClassId} (hE : ∀ da : Nat → Int, zE V (kd, N, fk) da = .inl (cA, N, .inl fun j => zI (da j))) (h : H1[zad V a]? = some (vp_cell cA (N, .inl (upd (fun j => zI (d a j)) i.toNat (zI v))))) : va_at (zDD V) vwCl (zad V a, zE V (kd, N, fk) (zu d a i.toNat v a)) H1 := by
  rw [hE]
  show H1[zad V a]? = some (vp_cell _ _)
  rw [h]
  congr 4
  funext j
  unfold upd
  by_cases hj : j = i.toNat
  · rw [if_pos hj, hj, zu_eq]
  · rw [if_neg hj, zu_ne (Or.inr hj)]
theorem zP_iast (C : zOk V X cc own nL R0 ret) {a N : Nat} {i v : Int} {fk : Nat → Nat} {K : zD → Option β} (hdg : decode cc pc = .ok (.iastore, 1)) (hs : zsh V a = some (1, N, fk)) (hi : zR i) (hv : zR v) (h : zg N i (zl (zu d a i.toNat v) K) = some r) (kk : ∀ d1, K d1 = some r → zP V X nL k n (pc + 1) L st d1) : zP V X nL k n pc L (.int (zI v) :: .int (zI i) :: .ref (zad V a) :: st) d := by
  obtain ⟨p, l, e, R, s, m, args, below, meth, c, Q⟩ := X
  obtain ⟨hx, hb, hml, hown, hts, hK, hlk, hR, hret, hsz⟩ := C
  intro ls H locs hl hP hS
  obtain ⟨hg, h⟩ := zg_h h
  refine W.iast hx hb (hP.1 a _ hs).1 ((hK.1.2 0 _ rfl).1 N (fun j => .int (zI (d a j)))) (fun q => by cases q) (by show ¬ (zI i < 0 ∨ (arrV _ _ _).slots.size ≤ _); rw [arrV_size]; exact zI_in hi hg) rfl rfl hdg fun H1 e1 e2 e3 => ?_
  refine kk _ h ls H1 _ hl (hP.set hs hv (zst_at (cA := zct V 0) (fun _ => rfl) ?_) e3) (hS.put e2 e3 (hP.1 a _ hs).2)
  rw [e1, zI_cl hi]
  show some ((arrV _ _ _).setSlot _ _) = some (vp_cell _ _)
  rw [vp_cell_i, arrV_store]
  congr 2
  funext q
  by_cases hq : q = i.toNat
  · subst hq
    simp [updV, upd]
  · simp [updV, upd, hq]
theorem zP_bast (C : zOk V X cc own nL R0 ret) {a N : Nat} {i v : Int} {fk : Nat → Nat} {K : zD → Option β} (hdg : decode cc pc = .ok (.bastore, 1)) (hs : zsh V a = some (2, N, fk)) (hi : zR i) (h : zg N i (zl (zu d a i.toNat (zb8 v)) K) = some r) (kk : ∀ d1, K d1 = some r → zP V X nL k n (pc + 1) L st d1) : zP V X nL k n pc L (.int (zI v) :: .int (zI i) :: .ref (zad V a) :: st) d := by
  obtain ⟨p, l, e, R, s, m, args, below, meth, c, Q⟩ := X
  obtain ⟨hx, hb, hml, hown, hts, hK, hlk, hR, hret, hsz⟩ := C
  intro ls H locs hl hP hS
  obtain ⟨hg, h⟩ := zg_h h
  refine W.bast hx hb (hP.1 a _ hs).1 ((hK.1.2 1 _ rfl).1 N (fun j => .int (zI (d a j)))) (fun q => by cases q) (by show ¬ (zI i < 0 ∨ (arrV _ _ _).slots.size ≤ _); rw [arrV_size]; exact zI_in hi hg) rfl rfl hdg fun H1 e1 e2 e3 => ?_
  refine kk _ h ls H1 _ hl (hP.set hs (zR_of _) (zst_at (cA := zct V 1) (fun _ => rfl) ?_) e3) (hS.put e2 e3 (hP.1 a _ hs).2)
  rw [e1, zI_cl hi, show zI (zb8 v) = (zI v).toInt8.toInt32 from zI_of _]
  show some ((arrV _ _ _).setSlot _ _) = some (vp_cell _ _)
  rw [vp_cell_i, arrV_store]
  congr 2
  funext q
  by_cases hq : q = i.toNat
  · subst hq
    simp [updV, upd, narrow]
  · simp [updV, upd, hq]
theorem zP_aald (C : zOk V X cc own nL R0 ret) {a N : Nat} {i : Int} {t : Nat} {fk : Nat → Nat} {x : Option β} (hdg : decode cc pc = .ok (.aaload, 1)) (hs : zsh V a = some (3, N, fk)) (hi : zR i) (h : zg N i x = some r) (hf : 0 ≤ i ∧ i < (N : Int) → fk i.toNat = t + 2) (kk : 0 ≤ i ∧ i < (N : Int) → x = some r → zP V X nL k n (pc + 1) L (.ref (zad V t) :: st) d) : zP V X nL k n pc L (.int (zI i) :: .ref (zad V a) :: st) d := by
  obtain ⟨p, l, e, R, s, m, args, below, meth, c, Q⟩ := X
  obtain ⟨hx, hb, hml, hown, hts, hK, hlk, hR, hret, hsz⟩ := C
  intro ls H locs hl hP hS
  obtain ⟨hg, h⟩ := zg_h h
  refine va_aldq (D := zDD V) (tys := zty V) (C := RX2) (f := fun j => match fk j with
    | t + 2 => some (zad V t)
    | _ => none) (ws := [(zad V a, zE V (3, N, fk) (d a))]) hx hb hK.1 (hP.one hs) 0 2 rfl rfl (zI_in hi hg) hdg ?_
  rw [zI_cl hi, hf hg]
  exact kk hg h ls H locs hl hP hS
end MEM
