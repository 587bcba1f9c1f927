/-! Many turns, and what is taken back. -/
def gTT : Nat → zD → zD → Prop
  | 0, a, c => a = c
  | n + 1, a, c => ∃ b, f_X12_turns a = some (0, b) ∧ gTT n b c
theorem gTT_fun : ∀ {n : Nat} {a b c : zD}, gTT n a b → gTT n a c → b = c
  | 0, _, _, _, h, g => h.symm.trans g
  | n + 1, _, _, _, ⟨x, h1, h2⟩, ⟨y, g1, g2⟩ => by
    rw [h1] at g1
    cases g1
    exact gTT_fun h2 g2
theorem gTT_add : ∀ {n k : Nat} {a b c : zD}, gTT n a b → gTT k b c → gTT (n + k) a c
  | 0, k, _, _, _, h, g => by
    cases h
    rw [Nat.zero_add]
    exact g
  | n + 1, k, _, _, _, ⟨x, h1, h2⟩, g => by
    rw [Nat.succ_add]
    exact ⟨x, h1, gTT_add h2 g⟩
theorem T_loop {g b : Nat} (hg : 6 ≤ g ∧ g < b) {n : Int} (hn : n ≤ 1000) : ∀ (k q : Nat) {d ds : zD} {i : Int}, LR d b (ds 401) → 0 ≤ i → i + k = n → ds 401 4 + k ≤ 19000 → k < q → ∃ d' ds', l_X1_makeTurns_2 g b q n i d = some (0, d') ∧ gTT k ds ds' ∧ LR d' b (ds' 401) ∧ ds' 401 4 = ds 401 4 + k ∧ Fg g b d d' ∧ Fz (ds 401) (ds' 401) := by
  intro k
  induction k with
  | zero =>
    intro q d ds i h i0 ik h4 hq
    obtain ⟨q, rfl⟩ : ∃ q0, q = q0 + 1 := ⟨q - 1, by omega⟩
    refine ⟨d, ds, ?_, rfl, h, by omega, Fg.rf, Fz.rf⟩
    show l_X1_makeTurns_2F g b _ n i d = _
    unfold l_X1_makeTurns_2F
    rw [if_pos (by omega)]
  | succ k ih =>
    intro q d ds i h i0 ik h4 hq
    obtain ⟨q, rfl⟩ : ∃ q0, q = q0 + 1 := ⟨q - 1, by omega⟩
    obtain ⟨d1, s1, r1, r2, r3, r4, r5, r6, r7⟩ := R_turn h hg (by omega)
    obtain ⟨d2, s2, q1, q2, q3, q4, q5, q6⟩ := ih q (i := i + 1) r3 (by omega) (by omega) (by omega) (by omega)
    refine ⟨d2, s2, ?_, ⟨s1, r2, q2⟩, q3, by omega, Fg.tr r5 q5, Fz.tr r7 q6⟩
    show l_X1_makeTurns_2F g b _ n i d = _
    unfold l_X1_makeTurns_2F
    rw [if_neg (by omega), r1, zc_n, zl_n, zw_id (by omega) (by omega), q1]
theorem T_run {g b : Nat} {n : Int} {d ds : zD} (h : LR d b (ds 401)) (hg : 6 ≤ g ∧ g < b) (hn : 0 ≤ n ∧ n ≤ 1000) (h4 : ds 401 4 + n ≤ 19000) : ∃ d' ds', f_X1_makeTurns g b n d = some (0, d') ∧ gTT n.toNat ds ds' ∧ LR d' b (ds' 401) ∧ ds' 401 4 = ds 401 4 + n ∧ Fg g b d d' ∧ Fz (ds 401) (ds' 401) := by
  have := zF_big
  obtain ⟨d', ds', a1, a2, a3, a4, a5, a6⟩ := T_loop hg hn.2 n.toNat zF h (i := 0) (by omega) (by omega) (by omega) (by omega)
  exact ⟨d', ds', a1, a2, a3, by omega, a5, a6⟩
theorem cnt_full {p : Int → Bool} : ∀ (k : Nat) (m : Int), cnt p m k = k ↔ ∀ y, m ≤ y → y < m + k → p y = true := by
  intro k
  induction k with
  | zero => intro m; exact ⟨fun _ y h1 h2 => by omega, fun _ => rfl⟩
  | succ k ih =>
    intro m
    have hR := cnt_R (p := p) (m := m + 1) (k := k)
    show (if p m = true then 1 else 0) + cnt p (m + 1) k = ((k + 1 : Nat) : Int) ↔ _
    constructor
    · intro h y h1 h2
      by_cases hp : p m = true
      · rw [if_pos hp] at h
        by_cases e : y = m
        · rw [e]; exact hp
        · exact (ih (m + 1)).mp (by omega) y (by omega) (by omega)
      · rw [if_neg hp] at h
        omega
    · intro h
      rw [if_pos (h m (by omega) (by omega)), (ih (m + 1)).mpr fun y h1 h2 => h y (by omega) (by omega)]
      omega
theorem cSt_full {s s' : Nat → Int} (h2 : 0 ≤ s 2 ∧ s 2 ≤ 40) (h : cSt s 3 = s 2) (hz : Fz s s') : cSt s' 3 = s' 2 := by
  have e2 : s' 2 = s 2 := hz.1 2 (by omega) (by omega) (by omega) (by omega)
  have h1 := (cnt_full (p := fun m => decide (rM s m 3 = 3)) (s 2).toNat 0).mp (by unfold cSt at h; omega)
  have h3 := (cnt_full (p := fun m => decide (rM s' m 3 = 3)) (s 2).toNat 0).mpr fun y y0 y1 => by
    have := h1 y y0 y1
    exact decide_eq_true (hz.2 y (of_decide_eq_true this))
  unfold cSt
  rw [e2]
  omega
theorem L_quiet : ∀ (k q : Nat) {d ds : zD} {i : Int}, LR d 60 (ds 401) → 0 ≤ i → i + k = 201 → ds 401 4 + k ≤ 18000 → k < q → ∃ v d', l_X11_quietIn_13 q i d = some (v, d') ∧ Fg 7 60 d d' ∧ (v = -1 ∨ (i ≤ v ∧ v ≤ 200) ∧ ∃ e, gTT (v - i).toNat ds e ∧ LR d' 60 (e 401) ∧ e 401 4 ≤ 18000 ∧ cSt (e 401) 3 = e 401 2) := by
  intro k
  induction k with
  | zero =>
    intro q d ds i h i0 ik h4 hq
    obtain ⟨q, rfl⟩ : ∃ q0, q = q0 + 1 := ⟨q - 1, by omega⟩
    refine ⟨-1, d, ?_, Fg.rf, Or.inl rfl⟩
    show l_X11_quietIn_13F _ i d = _
    unfold l_X11_quietIn_13F
    rw [if_pos (by omega)]
  | succ k ih =>
    intro q d ds i h i0 ik h4 hq
    obtain ⟨q, rfl⟩ : ∃ q0, q = q0 + 1 := ⟨q - 1, by omega⟩
    have sm := LR_s2 h
    by_cases hd : cSt (ds 401) 3 = ds 401 2
    · refine ⟨i, d, ?_, Fg.rf, Or.inr ⟨by omega, ds, ?_, h, by omega, hd⟩⟩
      · show l_X11_quietIn_13F _ i d = _
        unfold l_X11_quietIn_13F
        rw [if_neg (by omega), k_delivered h, zc_n, zl_n, sm, if_pos hd]
      · rw [show (i - i).toNat = 0 by omega]; rfl
    · obtain ⟨d1, s1, r1, r2, r3, r4, r5, r6, r7⟩ := R_turn (g := 7) h (by omega) (by omega)
      obtain ⟨v, d2, p1, p2, p3⟩ := ih q (i := i + 1) r3 (by omega) (by omega) (by omega) (by omega)
      refine ⟨v, d2, ?_, Fg.tr r5 p2, ?_⟩
      · show l_X11_quietIn_13F _ i d = _
        unfold l_X11_quietIn_13F
        rw [if_neg (by omega), k_delivered h, zc_n, zl_n, sm, if_neg hd, r1, zc_n, zl_n, zw_id (by omega) (by omega)]
        exact p1
      · rcases p3 with p3 | ⟨p3, e, p4, p5⟩
        · exact Or.inl p3
        · refine Or.inr ⟨by omega, e, ?_, p5⟩
          rw [show (v - i).toNat = (v - (i + 1)).toNat + 1 by omega]
          exact ⟨s1, r2, p4⟩
theorem L_deliver {x : Int} : ∀ (k q : Nat) {d ds : zD} {i : Int}, LR d 60 (ds 401) → (0 ≤ x ∧ x < ds 401 2) → 0 ≤ i → i + k = 201 → ds 401 4 + k ≤ 18000 → k < q → ∃ v d', l_X11_deliversIn_35 q x i d = some (v, d') ∧ Fg 7 60 d d' ∧ (v = -1 ∨ (i ≤ v ∧ v ≤ 200) ∧ (∃ e, gTT (v - i).toNat ds e ∧ LR d' 60 (e 401) ∧ e 401 4 ≤ 18000 ∧ rM (e 401) x 3 = 3) ∧ ∀ (n : Nat) e, i + n < v → gTT n ds e → rM (e 401) x 3 ≠ 3) := by
  intro k
  induction k with
  | zero =>
    intro q d ds i h hx i0 ik h4 hq
    obtain ⟨q, rfl⟩ : ∃ q0, q = q0 + 1 := ⟨q - 1, by omega⟩
    refine ⟨-1, d, ?_, Fg.rf, Or.inl rfl⟩
    show l_X11_deliversIn_35F _ x i d = _
    unfold l_X11_deliversIn_35F
    rw [if_pos (by omega)]
  | succ k ih =>
    intro q d ds i h hx i0 ik h4 hq
    obtain ⟨q, rfl⟩ : ∃ q0, q = q0 + 1 := ⟨q - 1, by omega⟩
    obtain ⟨-, -, i2, -⟩ := LR_2 h
    have hl := h
    obtain ⟨K, L, hr, -⟩ := hl
    obtain ⟨-, -, -, hM, -⟩ := hr
    have q5 := ((hM x hx.1 hx.2).2.2.2.2.2.2 (fun _ _ _ hq => by cases hq)).1
    by_cases hd : rM (ds 401) x 3 = 3
    · refine ⟨i, d, ?_, Fg.rf, Or.inr ⟨by omega, ⟨ds, ?_, h, by omega, hd⟩, fun n e hn => by omega⟩⟩
      · show l_X11_deliversIn_35F _ x i d = _
        unfold l_X11_deliversIn_35F
        rw [if_neg (by omega), zg_t (by omega), zl_n, q5, if_pos hd]
      · rw [show (i - i).toNat = 0 by omega]; rfl
    · obtain ⟨d1, s1, r1, r2, r3, r4, r5, r6, r7⟩ := R_turn (g := 7) h (by omega) (by omega)
      obtain ⟨v, d2, p1, p2, p3⟩ := ih q (i := i + 1) r3 (by rw [r7.1 2 (by omega) (by omega) (by omega) (by omega)]; exact hx) (by omega) (by omega) (by omega) (by omega)
      refine ⟨v, d2, ?_, Fg.tr r5 p2, ?_⟩
      · show l_X11_deliversIn_35F _ x i d = _
        unfold l_X11_deliversIn_35F
        rw [if_neg (by omega), zg_t (by omega), zl_n, q5, if_neg hd, r1, zc_n, zl_n, zw_id (by omega) (by omega)]
        exact p1
      · rcases p3 with p3 | ⟨p3, ⟨e, p4, p5⟩, p6⟩
        · exact Or.inl p3
        · refine Or.inr ⟨by omega, ⟨e, ?_, p5⟩, fun n e hn ht => ?_⟩
          · rw [show (v - i).toNat = (v - (i + 1)).toNat + 1 by omega]
            exact ⟨s1, r2, p4⟩
          · cases n with
            | zero =>
              cases ht
              exact hd
            | succ n =>
              obtain ⟨s2, t1, t2⟩ := ht
              rw [r2] at t1
              cases t1
              exact p6 n e (by omega) t2
/-- cells that a look ahead leaves -/
def FA (d d' : zD) : Prop := ∀ c, c ≠ 7 → c < 60 ∨ 90 ≤ c → d' c = d c
theorem A_quiet {d ds : zD} (h : LR d 30 (ds 401)) (h4 : ds 401 4 ≤ 9999) : ∃ v d', f_X11_quietIn d = some (v, d') ∧ FA d d' ∧ (v = -1 ∨ (0 ≤ v ∧ v ≤ 200) ∧ ∃ e dx, gTT v.toNat ds e ∧ LR dx 60 (e 401) ∧ e 401 4 ≤ 18000 ∧ cSt (e 401) 3 = e 401 2) := by
  have := zF_big
  obtain ⟨d1, r1, r2, r3⟩ := R_copy (d := d) (b := 60) h (by omega) (by omega)
  obtain ⟨v, d2, p1, p2, p3⟩ := L_quiet 201 zF r3 (i := 0) (by omega) (by omega) (by omega) (by omega)
  refine ⟨v, d2, ?_, fun c c1 c2 => by rw [p2 c c1 (by omega), r2 c (by omega)], ?_⟩
  · unfold f_X11_quietIn
    rw [r1, zc_n]
    exact p1
  · rcases p3 with p3 | ⟨p3, e, p4, p5⟩
    · exact Or.inl p3
    · exact Or.inr ⟨p3, e, d2, by rw [Int.sub_zero] at p4; exact p4, p5⟩
theorem A_delivered {d ds : zD} {n : Int} (h : LR d 30 (ds 401)) (hn : 0 ≤ n ∧ n ≤ 100) (h4 : ds 401 4 ≤ 9999) : ∃ d' e, f_X11_deliveredIn n d = some (cSt (e 401) 3, d') ∧ FA d d' ∧ gTT n.toNat ds e := by
  obtain ⟨d1, r1, r2, r3⟩ := R_copy (d := d) (b := 60) h (by omega) (by omega)
  obtain ⟨d2, e, p1, p2, p3, p4, p5, p6⟩ := T_run (g := 7) (n := n) r3 (by omega) (by omega) (by omega)
  refine ⟨d2, e, ?_, fun c c1 c2 => by rw [p5 c c1 (by omega), r2 c (by omega)], p2⟩
  unfold f_X11_deliveredIn
  rw [if_neg (by omega), if_pos hn.2, r1, zc_n, p1, zc_n, k_delivered p3, zc_n]
theorem A_delivers {d ds : zD} {x : Int} (h : LR d 30 (ds 401)) (hx : 0 ≤ x ∧ x < ds 401 2) (h4 : ds 401 4 ≤ 9999) : ∃ v d', f_X11_deliversIn x d = some (v, d') ∧ FA d d' ∧ (v = -1 ∨ (0 ≤ v ∧ v ≤ 200) ∧ (∃ e dx, gTT v.toNat ds e ∧ LR dx 60 (e 401) ∧ e 401 4 ≤ 18000 ∧ rM (e 401) x 3 = 3) ∧ ∀ (n : Nat) e, n < v → gTT n ds e → rM (e 401) x 3 ≠ 3) := by
  have := zF_big
  have sm := LR_s2 h
  obtain ⟨d1, r1, r2, r3⟩ := R_copy (d := d) (b := 60) h (by omega) (by omega)
  obtain ⟨v, d2, p1, p2, p3⟩ := L_deliver (x := x) 201 zF r3 hx (i := 0) (by omega) (by omega) (by omega) (by omega)
  refine ⟨v, d2, ?_, fun c c1 c2 => by rw [p2 c c1 (by omega), r2 c (by omega)], ?_⟩
  · unfold f_X11_deliversIn
    rw [e_has3, zc_n, if_pos (show 0 ≤ x ∧ x < d (30 + 1) 0 by rw [sm]; exact hx), if_neg (show ¬ (1 : Int) = 0 by decide), r1, zc_n]
    exact p1
  · rcases p3 with p3 | ⟨p3, ⟨e, p4, p5⟩, p6⟩
    · exact Or.inl p3
    · exact Or.inr ⟨p3, ⟨e, d2, by rw [Int.sub_zero] at p4; exact p4, p5⟩, fun n e hn ht => p6 n e (by omega) ht⟩
theorem R_keepH {d d' : zD} {s : Nat → Int} (h : LR d 30 s) (hb : 0 ≤ d 8 1 ∧ d 8 1 < 8) (hn : 0 ≤ d 8 2 ∧ d 8 2 ≤ 8) (e : f_X0_remember 30 d = some (0, d')) : LR d' (120 + 30 * ((d' 8 1 + (d' 8 2 - 1)) % 8).toNat) s ∧ (1 ≤ d' 8 2 ∧ d' 8 2 ≤ 8) ∧ 0 ≤ d' 8 1 ∧ d' 8 1 < 8 := by
  have hrem := zrem_of (d 8 1 + d 8 2) 8 (by omega) (by omega) (by omega) (by omega)
  have hrem2 := zrem_of (d 8 1 + 1) 8 (by omega) (by omega) (by omega) (by omega)
  obtain ⟨d1, r1, r2, r3⟩ := R_copy (d := d) (b := 120 + 30 * ((d 8 1 + d 8 2) % 8).toNat) h (by omega) (by omega)
  have e81 : d1 8 = d 8 := r2 8 (by omega)
  unfold f_X0_remember at e
  rw [zl_n, zl_n, zl_n, zw_id (x := d 8 1 + d 8 2) (by omega) (by omega), zn_8, zl_n, hrem, zg_t (by omega), r1, zc_n, zl_n, e81] at e
  by_cases hc : 8 ≤ d 8 2
  · rw [if_pos hc, zl_n, zl_n, zw_id (x := d 8 1 + 1) (by omega) (by omega), zn_8, zl_n, hrem2, zl_n] at e
    cases e
    have e1 : zu d1 8 1 ((d 8 1 + 1) % 8) 8 2 = d 8 2 := by rw [zu_ne (by omega), e81]
    rw [zu_eq, e1, show ((d 8 1 + 1) % 8 + (d 8 2 - 1)) % 8 = (d 8 1 + d 8 2) % 8 by omega]
    exact ⟨LR_d r3 fun c hc => zu_row (by omega), by omega, by omega⟩
  · rw [if_neg hc, zl_n, zl_n, zw_id (x := d 8 2 + 1) (by omega) (by omega), zl_n] at e
    cases e
    have e1 : zu d1 8 2 (d 8 2 + 1) 8 1 = d 8 1 := by rw [zu_ne (by omega), e81]
    rw [zu_eq, e1, show (d 8 1 + (d 8 2 + 1 - 1)) % 8 = (d 8 1 + d 8 2) % 8 by omega]
    exact ⟨LR_d r3 fun c hc => zu_row (by omega), by omega, by omega⟩
theorem A_run {d ds : zD} {n : Int} (hg : GR d ds) (hn : 1 ≤ n ∧ n ≤ 100) (h4 : ds 401 4 + n ≤ 9999) : ∃ d' e, f_X11_run n d = some (cSt (e 401) 3 - cSt (ds 401) 3, d') ∧ gTT n.toNat ds e ∧ LR d' 30 (e 401) ∧ Fz (ds 401) (e 401) ∧ LR d' (120 + 30 * ((d' 8 1 + (d' 8 2 - 1)) % 8).toNat) (ds 401) ∧ (1 ≤ d' 8 2 ∧ d' 8 2 ≤ 8) ∧ (0 ≤ d' 8 1 ∧ d' 8 1 < 8) ∧ ∀ c, c ≠ 6 → c ≠ 8 → c < 30 ∨ (60 ≤ c ∧ c < 120) → d' c = d c := by
  obtain ⟨i0, i1, i2, i4, -⟩ := LR_2 hg.1
  obtain ⟨s10, -⟩ := LR_10 hg.1
  obtain ⟨d1, s1, a1, a2, a3, a4, a5, a6⟩ := R_keep hg
  have hH := hg.2.2.1
  obtain ⟨b1, b2, b3, -⟩ := hH
  obtain ⟨k1, k2, k3⟩ := R_keepH hg.1 b1 (by rw [b2]; exact b3) a1
  have hl1 : LR d1 30 (ds 401) := LR_d hg.1 fun c hc => a4 c (by omega) (by omega)
  obtain ⟨d2, e, t1, t2, t3, t4, t5, t6⟩ := T_run (g := 6) (n := n) hl1 (by omega) (by omega) (by omega)
  obtain ⟨-, -, j2, -⟩ := LR_2 t3
  have z1 := cSt_R (s := ds 401) (v := 3) i2
  have z2 := cSt_R (v := 3) j2
  have e8 : d2 8 = d1 8 := t5 8 (by omega) (by omega)
  refine ⟨d2, e, ?_, t2, t3, t6, ?_, by rw [e8]; exact k2, by rw [e8]; exact k3, fun c c6 c8 hc => by rw [t5 c c6 (by omega), a4 c c8 (by omega)]⟩
  · unfold f_X11_run
    rw [if_neg (by omega), if_neg (by omega), zl_n, s10, zl_n, zw_id (by omega) (by omega), if_pos (by omega), a1, zc_n, k_delivered hl1, zc_n, t1, zc_n, k_delivered t3, zc_n, zl_n, zw_id (by omega) (by omega)]
  · rw [e8]
    exact LR_d k1 fun c hc => t5 c (by omega) (by omega)
theorem A_undo {d : zD} {s : Nat → Int} (h2 : 1 ≤ d 8 2 ∧ d 8 2 ≤ 8) (h1 : 0 ≤ d 8 1 ∧ d 8 1 < 8) (h : LR d (120 + 30 * ((d 8 1 + (d 8 2 - 1)) % 8).toNat) s) : ∃ d', f_X11_undo d = some (d 8 2 - 1, d') ∧ LR d' 30 s ∧ ∀ c, c ≠ 8 → c < 30 ∨ 60 ≤ c → d' c = d c := by
  have hrem := zrem_of (d 8 1 + (d 8 2 - 1)) 8 (by omega) (by omega) (by omega) (by omega)
  obtain ⟨d1, r1, r2, r3⟩ := R_copy (d := zu d 8 2 (d 8 2 - 1)) (b := 30) (b1 := 120 + 30 * ((d 8 1 + (d 8 2 - 1)) % 8).toNat) (s := s) (LR_d h fun c hc => zu_row (by omega)) (by omega) (by omega)
  refine ⟨d1, ?_, r3, fun c c1 c2 => by rw [r2 c c2, zu_row c1]⟩
  unfold f_X11_undo f_X0_takeBack
  rw [zl_n, if_neg (show ¬ d 8 2 = 0 by omega), zl_n, if_neg (show ¬ d 8 2 ≤ 0 by omega), zl_n, zl_n, zw_id (by omega) (by omega), zl_n, zl_n, zl_n, zu_eq, zu_ne (by omega), zl_n, zw_id (by omega) (by omega), zn_8, zl_n, hrem, zg_t (by omega), r1, zc_n, zc_n, zl_n, r2 8 (by omega), zu_eq]
theorem A_restore {d : zD} {s : Nat → Int} (h0 : d 0 12 = 1) (h : LR d 90 s) : ∃ d', f_X11_restoreState d = some (s 3, d') ∧ LR d' 30 s ∧ d' 8 2 = 0 := by
  obtain ⟨d1, r1, r2, r3⟩ := R_copy (d := d) (b := 30) h (by omega) (by omega)
  have l1 : LR (zu d1 8 2 0) 30 s := LR_d r3 fun c hc => zu_row (by omega)
  refine ⟨zu d1 8 2 0, ?_, l1, zu_eq⟩
  unfold f_X11_restoreState
  rw [zl_n, h0, if_neg (by decide), r1, zc_n, zl_n, zl_n, LR_3 l1]
theorem A_save {d ds : zD} (hg : GR d ds) : ∃ d' ds', f_X11_saveState d = some (ds 401 3, d') ∧ GR d' ds' ∧ ds' 401 = ds 401 ∧ LR d' 90 (ds 401) ∧ d' 0 12 = 1 := by
  obtain ⟨h1, h2, ⟨a1, a2, a3, a4⟩, ⟨b1, b2, b3⟩, ⟨c1, c2, c3⟩, ⟨f1, f2⟩, ⟨g1, g2, g3⟩⟩ := hg
  obtain ⟨d1, r1, r2, r3⟩ := R_copy (d := d) (b := 90) h1 (by omega) (by omega)
  have ec : ∀ c, c ≠ 0 → c < 90 ∨ 120 ≤ c → zu d1 0 12 1 c = d c := fun c c1 c2 => by rw [zu_row c1, r2 c c2]
  have e0 : zu d1 0 12 1 0 11 = d 0 11 := by rw [zu_ne (by omega), r2 0 (by omega)]
  have hL : ∀ {bb : Nat} {s : Nat → Int}, LR d bb s → (bb + 30 ≤ 90 ∨ 120 ≤ bb) → 6 ≤ bb → LR (zu d1 0 12 1) bb s := fun h hb hb6 => LR_d h fun c hc => ec c (by omega) (by omega)
  have h9 : LR (zu d1 0 12 1) 90 (ds 401) := LR_d r3 fun c hc => zu_row (by omega)
  generalize hE : (fun c j => if c = 403 then ds 401 j else if c = 400 ∧ j = 6 then 1 else ds c j : zD) = E
  have E3 : E 403 = ds 401 := by
    rw [← hE]
    funext j
    exact if_pos rfl
  have E6 : E 400 6 = 1 := by
    rw [← hE]
    show (if (400 : Nat) = 403 then _ else if (400 : Nat) = 400 ∧ (6 : Nat) = 6 then (1 : Int) else _) = 1
    rw [if_neg (by decide), if_pos (by decide)]
  have Ec : ∀ c, c ≠ 403 → c ≠ 400 → E c = ds c := fun c x y => by
    rw [← hE]
    funext j
    show (if c = 403 then _ else if c = 400 ∧ j = 6 then (1 : Int) else _) = _
    rw [if_neg x, if_neg (fun q => y q.1)]
  have Ej : ∀ j, j ≠ 6 → E 400 j = ds 400 j := fun j hj => by
    rw [← hE]
    show (if (400 : Nat) = 403 then _ else if (400 : Nat) = 400 ∧ j = 6 then (1 : Int) else _) = _
    rw [if_neg (by decide), if_neg (fun q => hj q.2)]
  have ep : ∀ i, pst E i = pst ds i := fun i => by
    unfold pst
    rw [Ec 404 (by omega) (by omega)]
  have o401 : E 401 = ds 401 := Ec 401 (by omega) (by omega)
  refine ⟨zu d1 0 12 1, E, ?_, ⟨by rw [o401]; exact hL h1 (by omega) (by omega), by rw [o401]; exact h2, ⟨by rw [ec 8 (by omega) (by omega)]; exact a1, by rw [ec 8 (by omega) (by omega), Ej 5 (by omega)]; exact a2, by rw [Ej 5 (by omega)]; exact a3, fun i hi => ?_⟩, ⟨?_, ?_, fun _ => ⟨?_, ?_⟩⟩, ?_, ?_, ?_⟩, o401, h9, zu_eq⟩
  · unfold f_X11_saveState
    rw [r1, zc_n, zl_n, zl_n, ec 30 (by omega) (by omega), LR_3 h1]
  · rw [Ej 5 (by omega)] at hi
    rw [ep, ec 8 (by omega) (by omega)]
    exact ⟨hL (a4 i hi).1 (by omega) (by omega), (a4 i hi).2⟩
  · rw [zu_eq, E6]
  · rw [E6]; exact Or.inr rfl
  · rw [E3]; exact h9
  · rw [E3]; exact h2
  · unfold IR
    rw [ec 10 (by omega) (by omega), ec 11 (by omega) (by omega), Ej 11 (by omega), Ec 405 (by omega) (by omega)]
    exact ⟨c1, c2, c3⟩
  · unfold ER
    rw [ec 10 (by omega) (by omega), Ej 12 (by omega), Ej 13 (by omega)]
    exact ⟨f1, f2⟩
  · unfold OR
    rw [e0, ec 25 (by omega) (by omega), Ej 24 (by omega), Ec 408 (by omega) (by omega)]
    exact ⟨g1, g2, g3⟩
theorem FA.gr {d d' ds : zD} (f : FA d d') (hg : GR d ds) : GR d' ds := GR_d hg fun c _ c7 hc => f c c7 hc
/-- what was told of quiet ahead -/
theorem A_still {ds e E dx : zD} {v n : Int} (h1 : gTT v.toNat ds e) (h2 : LR dx 60 (e 401)) (h3 : e 401 4 ≤ 18000) (h4 : gTT n.toNat ds E) (hv : 0 ≤ v ∧ v ≤ n ∧ n ≤ 100) : Fz (e 401) (E 401) := by
  obtain ⟨d2, E', p1, p2, p3, p4, p5, p6⟩ := T_run (g := 7) (n := n - v) h2 (by omega) (by omega) (by omega)
  have h5 := gTT_add h1 p2
  rw [show v.toNat + (n - v).toNat = n.toNat by omega] at h5
  rw [gTT_fun h4 h5]
  exact p6
