/-! The class reads the drawn text as a whole, and loads it. -/
/-- the terminals' statements from the i-th on, r of them, and what stands behind -/
def rTs (V : zW) (X : List Int) : Nat → Nat → List Int
  | 0, _ => X
  | r + 1, i => ztx 1 ++ sT1 i (drw V (2 + 3 * ((i : Nat) : Int)) 1 4) (drw V (3 + 3 * ((i : Nat) : Int)) 1 4) (drw V (4 + 3 * ((i : Nat) : Int)) 0 20) (rTs V X r (i + 1))
theorem aTerms_r {V : zW} {X : List Int} : ∀ r i, aTerms V (i + r) ++ X = aTerms V i ++ rTs V X r i := by
  intro r
  induction r with
  | zero => intro i; rfl
  | succ r ih =>
    intro i
    rw [show i + (r + 1) = i + 1 + r by omega, ih (i + 1)]
    show aTerm V ((i : Nat) : Int) (aTerms V i) ++ rTs V X r (i + 1) = aTerms V i ++ (ztx 1 ++ sT1 i _ _ _ (rTs V X r (i + 1)))
    unfold aTerm sT1
    rw [e32, e33, e34, e35]
    simp only [List.append_assoc]
def pls (V : zW) (many : Int) : Nat → Nat → List Int
  | 0, _ => []
  | r + 1, i => drw V (21 + ((i : Nat) : Int)) 0 (many - 1) :: pls V many r (i + 1)
theorem pls_l {V : zW} {many : Int} : ∀ r i, (pls V many r i).length = r := by
  intro r
  induction r with
  | zero => intro i; rfl
  | succ r ih => intro i; show (pls V many r (i + 1)).length + 1 = r + 1; rw [ih]
theorem pls_b {V : zW} {many : Int} (hm : 1 ≤ many ∧ many ≤ 4) : ∀ r i y, y ∈ pls V many r i → 0 ≤ y ∧ y < many := by
  intro r
  induction r with
  | zero => intro i y hy; cases hy
  | succ r ih =>
    intro i y hy
    rcases List.mem_cons.mp hy with rfl | hy
    · have := drw_R (V := V) (k := 21 + ((i : Nat) : Int)) (lo := 0) (hi := many - 1) (by omega)
      omega
    · exact ih _ y hy
theorem aPls_r {V : zW} {many : Int} {bs X : List Int} : ∀ r i, aPls V many bs (i + r) ++ X = aPls V many bs i ++ sPl (pls V many r i) X := by
  intro r
  induction r with
  | zero => intro i; rfl
  | succ r ih =>
    intro i
    rw [show i + (r + 1) = i + 1 + r by omega, ih (i + 1)]
    show (aPls V many bs i ++ [32] ++ [97 + drw V (21 + ((i : Nat) : Int)) 0 (many - 1)]) ++ sPl (pls V many r (i + 1)) X = aPls V many bs i ++ ([32] ++ ([97 + drw V (21 + ((i : Nat) : Int)) 0 (many - 1)] ++ sPl (pls V many r (i + 1)) X))
    simp only [List.append_assoc]
/-- the tail, its first word read -/
def sTail (V : zW) : List Int := [32] ++ (dgs (drw V 28 1 8) ++ ([32] ++ (dgs (drw V 29 1 5) ++ ([32] ++ (dgs (drw V 30 1 3) ++ ([32] ++ (dgs (drw V 31 0 6) ++ ([59] ++ (ztx 4 ++ ([32] ++ (dgs (drw V 32 0 3) ++ ([59] ++ (ztx 5 ++ ([32] ++ (dgs (drw V 33 0 60) ++ ([32] ++ (dgs (drw V 34 0 9999) ++ ([59] ++ []))))))))))))))))))
theorem aText_r {V : zW} {many : Int} : aText V many = rTs V (ztx 2 ++ sPl (pls V many (drw V 20 1 6).toNat 0) ([59] ++ (ztx 3 ++ sTail V))) many.toNat 0 := by
  have h1 := aTerms_r (V := V) (X := ztx 2 ++ sPl (pls V many (drw V 20 1 6).toNat 0) ([59] ++ (ztx 3 ++ sTail V))) many.toNat 0
  rw [Nat.zero_add] at h1
  have h2 := aPls_r (V := V) (many := many) (bs := aTerms V many.toNat ++ ztx 36) (X := [59] ++ (ztx 3 ++ sTail V)) (drw V 20 1 6).toNat 0
  rw [Nat.zero_add] at h2
  have h3 : aTerms V 0 ++ rTs V (ztx 2 ++ sPl (pls V many (drw V 20 1 6).toNat 0) ([59] ++ (ztx 3 ++ sTail V))) many.toNat 0 = rTs V (ztx 2 ++ sPl (pls V many (drw V 20 1 6).toNat 0) ([59] ++ (ztx 3 ++ sTail V))) many.toNat 0 := rfl
  rw [← h3, ← h1]
  have h4 : aPls V many (aTerms V many.toNat ++ ztx 36) 0 = aTerms V many.toNat ++ ztx 36 := rfl
  rw [h4] at h2
  have h5 : aTerms V many.toNat ++ (ztx 2 ++ sPl (pls V many (drw V 20 1 6).toNat 0) ([59] ++ (ztx 3 ++ sTail V))) = aTerms V many.toNat ++ ztx 36 ++ sPl (pls V many (drw V 20 1 6).toNat 0) ([59] ++ (ztx 3 ++ sTail V)) := by rw [e36, List.append_assoc]
  rw [h5, ← h2]
  unfold aText aHead sTail
  rw [e37, e38, e39]
  simp only [List.append_assoc, List.append_nil]
section RDT
variable {V : zW} {many : Int}
theorem y_terms {Y : List Int} (hY : nL Y) : ∀ (r q i : Nat) {x : Int} {d : zD} {t0 : Nat}, TK d 0 t0 (ztx 1) (sT1 i (drw V (2 + 3 * ((i : Nat) : Int)) 1 4) (drw V (3 + 3 * ((i : Nat) : Int)) 1 4) (drw V (4 + 3 * ((i : Nat) : Int)) 0 20) (rTs V (ztx 2 ++ Y) r (i + 1))) → YN d i → i + r + 1 ≤ 4 → 0 ≤ x ∧ x + (r : Int) < 50 → ∃ d' t', l_X7_readText_46 (q + r + 1) x d = l_X7_readText_46 q (x + (r : Int) + 1) d' ∧ TK d' 0 t' (ztx 2) Y ∧ YN d' (i + r + 1) ∧ d' 12 = d 12 := by
  intro r
  induction r with
  | zero =>
    intro q i x d t0 h hn hi hx
    have r1 := drw_R (V := V) (k := 2 + 3 * ((i : Nat) : Int)) (lo := 1) (hi := 4) (by omega)
    have r2 := drw_R (V := V) (k := 3 + 3 * ((i : Nat) : Int)) (lo := 1) (hi := 4) (by omega)
    have r3 := drw_R (V := V) (k := 4 + 3 * ((i : Nat) : Int)) (lo := 0) (hi := 20) (by omega)
    obtain ⟨d1, t1, a1, a2, a3, a4⟩ := y_term h hn (by omega) r1 r2 r3
    obtain ⟨d2, t2, b1, b2, b3⟩ := v_zt (t := 2) false (by decide) (show Nx d1 (t1 + [(59 : Int)].length) ([] ++ (ztx 2 ++ Y)) from a2.nx) hY
    refine ⟨d2, t2, ?_, b2, a3.t b3, by rw [b3.1 12 (by omega), a4]⟩
    rw [show q + 0 + 1 = q + 1 from rfl, y_stm (by omega) (by rw [h.1]; decide) a1 a2 b1, show x + ((0 : Nat) : Int) + 1 = x + 1 by omega]
  | succ r ih =>
    intro q i x d t0 h hn hi hx
    have r1 := drw_R (V := V) (k := 2 + 3 * ((i : Nat) : Int)) (lo := 1) (hi := 4) (by omega)
    have r2 := drw_R (V := V) (k := 3 + 3 * ((i : Nat) : Int)) (lo := 1) (hi := 4) (by omega)
    have r3 := drw_R (V := V) (k := 4 + 3 * ((i : Nat) : Int)) (lo := 0) (hi := 20) (by omega)
    obtain ⟨d1, t1, a1, a2, a3, a4⟩ := y_term h hn (by omega) r1 r2 r3
    obtain ⟨d2, t2, b1, b2, b3⟩ := v_zt (t := 1) false (by decide) (show Nx d1 (t1 + [(59 : Int)].length) ([] ++ (ztx 1 ++ sT1 (i + 1) (drw V (2 + 3 * (((i + 1) : Nat) : Int)) 1 4) (drw V (3 + 3 * (((i + 1) : Nat) : Int)) 1 4) (drw V (4 + 3 * (((i + 1) : Nat) : Int)) 0 20) (rTs V (ztx 2 ++ Y) r (i + 1 + 1)))) from a2.nx) (nL_c (by decide))
    obtain ⟨d3, t3, c1, c2, c3, c4⟩ := ih q (i + 1) (x := x + 1) b2 (a3.t b3) (by omega) (by omega)
    refine ⟨d3, t3, ?_, c2, by rw [show i + (r + 1) + 1 = i + 1 + r + 1 by omega]; exact c3, by rw [c4, b3.1 12 (by omega), a4]⟩
    rw [show q + (r + 1) + 1 = (q + r + 1) + 1 by omega, y_stm (by omega) (by rw [h.1]; decide) a1 a2 b1, c1, show x + 1 + (r : Int) + 1 = x + ((r + 1 : Nat) : Int) + 1 by omega]
theorem zF_n (r : Nat) (h : r ≤ 10) : ∃ q, zF = q + 5 + r + 1 := ⟨100000 - 6 - r, by unfold zF; omega⟩
/-- the drawn text is read -/
theorem y_read {d : zD} (hm : 1 ≤ many ∧ many ≤ 4) (hR : Rd d 0 (aText V many)) : ∃ d2, f_X7_readText d = some (1, d2) ∧ d2 13 0 = many := by
  obtain ⟨m, hmm⟩ : ∃ m : Nat, many = ((m + 1 : Nat) : Int) := ⟨(many - 1).toNat, by omega⟩
  have hmN : many.toNat = m + 1 := by omega
  have r20 := drw_R (V := V) (k := 20) (lo := 1) (hi := 6) (by omega)
  obtain ⟨p, hp⟩ : ∃ p : Nat, (drw V 20 1 6).toNat = p + 1 := ⟨(drw V 20 1 6).toNat - 1, by omega⟩
  rw [aText_r, hmN, hp] at hR
  generalize hd0 : zu (zu (zu (zcp (zu d 13 0 0) (ztab 2) (0 : Int).toNat 18 (0 : Int).toNat (6 : Int).toNat) 12 4 0) 12 5 1) 12 6 0 = d0
  have k0 : ∀ c, c < 12 → d0 c = d c := fun c hc => by rw [← hd0, zu_row (by omega), zu_row (by omega), zu_row (by omega), zcp_row (by omega), zu_row (by omega)]
  have k13 : d0 13 0 = 0 := by rw [← hd0, zu_row (by omega), zu_row (by omega), zu_row (by omega), zcp_row (by omega), zu_eq]
  have k4 : d0 12 4 = 0 := by rw [← hd0, zu_ne (by omega), zu_ne (by omega), zu_eq]
  have k6 : d0 12 6 = 0 := by rw [← hd0, zu_eq]
  have f0 : FT2 d0 (zu (zu (zu d0 10 5 0) 10 6 (-1)) 10 4 0) := ((FT2.u (by omega)).tr (FT2.u (by omega))).tr (FT2.u (by omega))
  have hY : nL (sPl (pls V many (p + 1) 0) ([59] ++ (ztx 3 ++ sTail V))) := nL_c (by decide)
  obtain ⟨d1, t1, a1, a2, a3⟩ := v_zt (t := 1) (p := 0) false (by decide) (show Nx (zu (zu (zu d0 10 5 0) 10 6 (-1)) 10 4 0) 0 ([] ++ (ztx 1 ++ sT1 0 (drw V (2 + 3 * ((0 : Nat) : Int)) 1 4) (drw V (3 + 3 * ((0 : Nat) : Int)) 1 4) (drw V (4 + 3 * ((0 : Nat) : Int)) 0 20) (rTs V (ztx 2 ++ sPl (pls V many (p + 1) 0) ([59] ++ (ztx 3 ++ sTail V))) m (0 + 1)))) from ⟨zu_eq, (hR.c (k0 10 (by omega)) (k0 11 (by omega))).t f0⟩) (nL_c (by decide))
  have n1 : YN d1 0 := ⟨by rw [a3.1 13 (by omega), f0.1 13 (by omega), k13]; rfl, by omega, fun x hx => by omega⟩
  obtain ⟨q, hq⟩ := zF_n m (by omega)
  obtain ⟨d2, t2, b1, b2, b3, b4⟩ := y_terms hY m (q + 5) 0 (x := 0) a2 n1 (by omega) (by omega)
  have g12 : d2 12 = d0 12 := by rw [b4, a3.1 12 (by omega), f0.1 12 (by omega)]
  have hpb : ∀ y, y ∈ pls V many (p + 1) 0 → 0 ≤ y ∧ y < ((0 + m + 1 : Nat) : Int) := fun y hy => by
    have := pls_b hm (p + 1) 0 y hy
    omega
  have hpl : (pls V many p 1).length = p := pls_l p 1
  obtain ⟨d3, t3, c1, c2, c3, c4⟩ := y_list b2 b3 hpb (by rw [hpl]; omega) (by rw [g12]; exact k4) (by rw [g12]; exact k6)
  obtain ⟨d4, t4, e1, e2, e3⟩ := v_zt (t := 3) false (by decide) (show Nx d3 (t3 + [(59 : Int)].length) ([] ++ (ztx 3 ++ sTail V)) from c2.nx) (nL_c (by decide))
  unfold sTail at e2
  obtain ⟨d5, t5, g1, g2, g3, g4⟩ := y_line e2 (c3.t e3) (drw_R (by omega)) (drw_R (by omega)) (drw_R (by omega)) (drw_R (by omega)) (by rw [e3.1 12 (by omega)]; exact c4)
  obtain ⟨d6, t6, i1, i2, i3⟩ := v_zt (t := 4) false (by decide) (show Nx d5 (t5 + [(59 : Int)].length) ([] ++ (ztx 4 ++ _)) from g2.nx) (nL_c (by decide))
  obtain ⟨d7, t7, j1, j2, j3, j4⟩ := y_burst i2 (g3.t i3) (drw_R (by omega)) (by rw [i3.1 12 (by omega)]; exact g4)
  obtain ⟨d8, t8, l1, l2, l3⟩ := v_zt (t := 5) false (by decide) (show Nx d7 (t7 + [(59 : Int)].length) ([] ++ (ztx 5 ++ _)) from j2.nx) (nL_c (by decide))
  obtain ⟨d9, t9, m1, m2, m3⟩ := y_noise l2 (j3.t l3) (drw_R (by omega)) (drw_R (by omega)) (by rw [l3.1 12 (by omega)]; exact j4)
  obtain ⟨dE, o1, o2, o3⟩ := v_end (show Nx d9 (t9 + [(59 : Int)].length) [] from m2.nx)
  have nE := m3.t o3
  refine ⟨dE, ?_, by rw [nE.1, hmm]; omega⟩
  unfold f_X7_readText
  rw [zl_n, zcg_t (by omega), zl_n, zl_n, zl_n, zl_n, hd0]
  unfold f_X9_begin
  rw [zl_n, zl_n, zl_n, a1, zc_n, zc_n, hq, b1, show q + 5 = q + 1 + 1 + 1 + 1 + 1 from rfl, y_stm (by omega) (by rw [b2.1]; decide) c1 c2 e1, y_stm (by omega) (by rw [e2.1]; decide) g1 g2 i1, y_stm (by omega) (by rw [i2.1]; decide) j1 j2 l1, y_stm (by omega) (by rw [l2.1]; decide) m1 m2 o1, y_last (by omega) o2 nE (by omega)]
end RDT
/-- .. and loaded -/
theorem y_loaded {dc ds d2 : zD} {many : Int} (hg : GR dc ds) (hR : ∀ c j, zR (dc c j)) (hr : f_X7_readText dc = some (1, d2)) (hm : d2 13 0 = many) : ∃ dc' ds', f_X11_loadLine dc = some (many, dc') ∧ GR dc' ds' ∧ ds' 401 0 = many ∧ ds' 401 2 = 0 ∧ ds' 401 4 = 0 := by
  obtain ⟨v, dc', v', ds', c1, -, c3, -⟩ := G_loadLine hg hR
  obtain ⟨d3, s1, s2, s3, -⟩ := k_setup (d := zu d2 10 1 0)
  obtain ⟨d4, b1, b2, b3⟩ := k_begin (b := 30) (d := d3) (by omega)
  have e : f_X11_loadLine dc = some (d4 1 0, zu (zu d4 8 2 0) 0 12 0) := by
    unfold f_X11_loadLine
    rw [hr, zc_n, zl_n, if_neg (by decide)]
    unfold f_X11_beginAnew
    rw [s1, zc_n, b1, zc_n, zl_n, zl_n, zc_n, zl_n, zu_row (by omega), zu_row (by omega)]
  have e1 : d4 1 0 = many := by rw [b2 1 (by omega), s3, zu_row (by omega), hm]
  rw [e1] at e
  have e2 := e.symm.trans c1
  cases e2
  refine ⟨_, ds', e, c3, ?_, ?_, ?_⟩
  · rw [← LR_m c3.1, zu_row (by omega), zu_row (by omega), e1]
  · obtain ⟨K, L, h, -⟩ := c3.1
    have h2 := h.1.2.2.2.2.2.2.2.2
    rw [← h2, zu_row (by omega), zu_row (by omega)]
    exact b3.1.2.2.2.2.2.2.2.2
  · obtain ⟨K, L, h, -⟩ := c3.1
    have h2 := h.1.2.2.1
    rw [← h2, zu_row (by omega), zu_row (by omega)]
    exact b3.1.2.2.1
/-- the drawn text in the input: what the class reads, and what it leaves -/
theorem y_fed {V : zW} {d ds d1 : zD} {many : Int} (hm : 1 ≤ many ∧ many ≤ 4) (hl : (aText V many).length ≤ 580) (hg : GR d ds) (hf : FO d d1) (h1 : d1 10 1 = (((aText V many).length : Nat) : Int)) (hi : ∀ i : Nat, i < (aText V many).length → d1 11 i = (aText V many).getD i 0) (hb : ∀ i, i < (aText V many).length → 0 ≤ (aText V many).getD i 0 ∧ (aText V many).getD i 0 < 128) (hR : ∀ c j, zR (d1 c j)) : ∃ dz ds', f_X11_loadLine d1 = some (many, dz) ∧ GR dz ds' ∧ ds' 401 0 = many ∧ ds' 401 2 = 0 ∧ ds' 401 4 = 0 := by
  obtain ⟨d2, r1, r2⟩ := y_read hm (d := d1) (V := V) ⟨by omega, by rw [Nat.zero_add]; exact h1, fun i hi2 => by rw [Nat.zero_add]; exact hi i hi2⟩
  -- the other side's input is the same
  have hg1 : GR (fun c => if c = 430 then d 430 else d1 c) (fun c j => if c = 405 then (if j < (aText V many).length then (aText V many).getD j 0 else 0) else if c = 400 ∧ j = 11 then (((aText V many).length : Nat) : Int) else ds c j) := by
    refine GR_I hg ⟨?_, ?_, fun j j0 j1 => ?_⟩ ⟨fun c c1 c2 => ?_, fun j j1 => ?_⟩ ⟨fun c c1 c2 => ?_, fun j j0 j1 => ?_⟩
    · show (if (10 : Nat) = 430 then d 430 else d1 10) 1 = _
      rw [if_neg (by decide)]
      exact h1
    · show 0 ≤ (((aText V many).length : Nat) : Int) ∧ (((aText V many).length : Nat) : Int) ≤ 600
      omega
    · have j1' : j < (((aText V many).length : Nat) : Int) := j1
      have hj : j.toNat < (aText V many).length := by omega
      have e1 : (if (11 : Nat) = 430 then d 430 else d1 11) j.toNat = (aText V many).getD j.toNat 0 := by
        rw [if_neg (by decide)]
        exact hi _ hj
      have e2 : (if (405 : Nat) = 405 then (if j.toNat < (aText V many).length then (aText V many).getD j.toNat 0 else 0) else if (405 : Nat) = 400 ∧ j.toNat = 11 then (((aText V many).length : Nat) : Int) else ds 405 j.toNat) = (aText V many).getD j.toNat 0 := by
        rw [if_pos rfl, if_pos hj]
      have hb1 := hb _ hj
      refine ⟨e1.trans ?_, by rw [show (fun c => if c = 430 then d 430 else d1 c) 11 j.toNat = _ from e1]; omega, by rw [show (fun c => if c = 430 then d 430 else d1 c) 11 j.toNat = _ from e1]; omega⟩
      show _ = zand (if (405 : Nat) = 405 then (if j.toNat < (aText V many).length then (aText V many).getD j.toNat 0 else 0) else if (405 : Nat) = 400 ∧ j.toNat = 11 then (((aText V many).length : Nat) : Int) else ds 405 j.toNat) 255
      rw [e2]
      obtain ⟨n, hn⟩ := Int.eq_ofNat_of_zero_le hb1.1
      rw [hn]
      exact (zsc_ok1 n (by omega)).1.symm
    · show (if c = 430 then d 430 else d1 c) = d c
      by_cases e : c = 430
      · rw [if_pos e, e]
      · rw [if_neg e]
        exact hf.1 c e c1 c2
    · show (if (10 : Nat) = 430 then d 430 else d1 10) j = d 10 j
      rw [if_neg (by decide)]
      exact hf.2 j j1
    · funext j
      show (if c = 405 then _ else if c = 400 ∧ j = 11 then _ else ds c j) = ds c j
      rw [if_neg c2, if_neg (fun q => c1 q.1)]
    · show (if (400 : Nat) = 405 then _ else if (400 : Nat) = 400 ∧ j = 11 then _ else ds 400 j) = ds 400 j
      rw [if_neg (by decide), if_neg (fun q => j1 q.2)]
  have hg2 := GR_cong (dc' := d1) hg1 (fun c hc => by
    show d1 c = if c = 430 then d 430 else d1 c
    rw [if_neg (by omega)]) (fun c hc => rfl)
  exact y_loaded hg2 hR r1 r2
