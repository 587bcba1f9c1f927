/-! The class' rows of messages: chains. -/
theorem zu_t {d : zD} {a b : Nat} {x y : Int} {v : Int} (hx : 0 ≤ x) (hy : 0 ≤ y) : zu d a x.toNat v b y.toNat = if b = a ∧ y = x then v else d b y.toNat := by
  unfold zu
  by_cases h : b = a ∧ y = x
  · rw [if_pos h, if_pos ⟨h.1, by rw [h.2]⟩]
  · rw [if_neg h, if_neg (fun q => h ⟨q.1, by omega⟩)]
theorem zu_o {d : zD} {a b : Nat} {k j : Nat} {v : Int} (h : b ≠ a) : zu d a k v b j = d b j := zu_ne (Or.inl h)
def lst : List Int → Int
  | [] => -1
  | [a] => a
  | _ :: b :: l => lst (b :: l)
theorem lst_mem : ∀ {l : List Int}, l ≠ [] → lst l ∈ l
  | [a], _ => List.mem_singleton.mpr rfl
  | _ :: b :: l, _ => List.mem_cons_of_mem _ (lst_mem (l := b :: l) (fun h => by cases h))
theorem lst_snoc {m : Int} : ∀ {l : List Int}, lst (l ++ [m]) = m
  | [] => rfl
  | [_] => rfl
  | _ :: b :: l => lst_snoc (l := b :: l)
def kch (d : zD) (b : Nat) (r : Int) : List Int → Prop
  | a :: c :: l => d (b + 14) (r * 40 + a).toNat = c ∧ kch d b r (c :: l)
  | _ => True
theorem kch_congr {d d' : zD} {b : Nat} {r : Int} : ∀ {l : List Int}, (∀ a, a ∈ l → lst l ≠ a → d' (b + 14) (r * 40 + a).toNat = d (b + 14) (r * 40 + a).toNat) → l.Nodup → kch d b r l → kch d' b r l
  | [], _, _, _ => trivial
  | [_], _, _, _ => trivial
  | a :: c :: l, h, hn, hk => by
    have hn2 := List.nodup_cons.mp hn
    have ha : lst (a :: c :: l) ≠ a := fun e => hn2.1 (by
      have h1 : lst (c :: l) ∈ c :: l := lst_mem (fun h => by cases h)
      have h2 : lst (a :: c :: l) = lst (c :: l) := rfl
      rw [← h2, e] at h1
      exact h1)
    refine ⟨(h a (List.mem_cons_self) ha).trans hk.1, kch_congr (fun x hx hl => h x (List.mem_cons_of_mem _ hx) hl) hn2.2 hk.2⟩
theorem kch_snoc {d : zD} {b : Nat} {r m : Int} : ∀ {l : List Int}, kch d b r l → (l ≠ [] → d (b + 14) (r * 40 + lst l).toNat = m) → kch d b r (l ++ [m])
  | [], _, _ => trivial
  | [a], _, h => ⟨h (fun q => by cases q), trivial⟩
  | a :: c :: l, hk, h => ⟨hk.1, kch_snoc (l := c :: l) hk.2 (fun _ => h (fun q => by cases q))⟩
def krw (d : zD) (b : Nat) (r x : Int) (l : List Int) : Prop := d (b + 13) (r * 8 + x).toNat = l.length ∧ (l ≠ [] → d (b + 11) (r * 8 + x).toNat = hd1 l ∧ d (b + 12) (r * 8 + x).toNat = lst l) ∧ kch d b r l
/-- all rows: their chains, that nothing stands twice, whose they are -/
def uK (K : Int → Int → List Int) (r x : Int) (l : List Int) : Int → Int → List Int := fun r' x' => if r' = r ∧ x' = x then l else K r' x'
theorem uK_eq {K : Int → Int → List Int} {r x : Int} {l : List Int} : uK K r x l r x = l := if_pos ⟨rfl, rfl⟩
theorem uK_ne {K : Int → Int → List Int} {r x r' x' : Int} {l : List Int} (h : r' ≠ r ∨ x' ≠ x) : uK K r x l r' x' = K r' x' := if_neg (fun q => by omega)
def own (M : Int → Int → Int) (r m : Int) : Int := M m (if r = 0 then 0 else 1)
def KR (K : Int → Int → List Int) (d : zD) (b : Nat) (n : Int) (M : Int → Int → Int) : Prop := ∀ r x, 0 ≤ r → r < 3 → 0 ≤ x → x < 8 → krw d b r x (K r x) ∧ (K r x).Nodup ∧ ∀ m, m ∈ K r x → (0 ≤ m ∧ m < n) ∧ own M r m = x
theorem KR_s {K : Int → Int → List Int} {d : zD} {b : Nat} {n n' : Int} {M M' : Int → Int → Int} (h : KR K d b n M) (h2 : n ≤ n') (ho : ∀ m, 0 ≤ m → m < n → M' m 0 = M m 0 ∧ M' m 1 = M m 1) : KR K d b n' M' := by
  intro r x r0 r3 x0 x8
  obtain ⟨h1, hn, hm⟩ := h r x r0 r3 x0 x8
  refine ⟨h1, hn, fun m hmm => ?_⟩
  obtain ⟨g1, g2⟩ := hm m hmm
  refine ⟨by omega, ?_⟩
  rw [← g2]
  have := ho m g1.1 g1.2
  unfold own
  split
  · exact this.1
  · exact this.2
theorem kch_d {d d' : zD} {b : Nat} {r : Int} {l : List Int} (h : d' (b + 14) = d (b + 14)) (hk : kch d b r l) : kch d' b r l := by
  induction l with
  | nil => trivial
  | cons a l ih =>
    cases l with
    | nil => trivial
    | cons c l => exact ⟨by rw [h]; exact hk.1, ih hk.2⟩
theorem KR_d {K : Int → Int → List Int} {d d' : zD} {b : Nat} {n : Int} {M : Int → Int → Int} (h : KR K d b n M) (hd : ∀ c, b + 11 ≤ c → c ≤ b + 14 → d' c = d c) : KR K d' b n M := by
  intro r x r0 r3 x0 x8
  obtain ⟨⟨h1, h2, h3⟩, hn, hm⟩ := h r x r0 r3 x0 x8
  refine ⟨⟨?_, fun hne => ?_, kch_d (hd _ (by omega) (by omega)) h3⟩, hn, hm⟩
  · rw [hd _ (by omega) (by omega)]; exact h1
  · rw [hd _ (by omega) (by omega), hd _ (by omega) (by omega)]; exact h2 hne
theorem e_sizeOf {d : zD} {b : Nat} {r x : Int} (h : (0 ≤ r ∧ r < 3) ∧ 0 ≤ x ∧ x < 8) : f_X4_sizeOf b r x d = some (d (b + 13) (r * 8 + x).toNat, d) := by
  simp (disch := omega) only [f_X4_sizeOf, zl, zw_id, zg_t]
  rw [if_neg (by omega), if_neg (by omega)]
theorem e_firstOf {d : zD} {b : Nat} {r x : Int} (h : (0 ≤ r ∧ r < 3) ∧ 0 ≤ x ∧ x < 8) : f_X4_firstOf b r x d = some (if d (b + 13) (r * 8 + x).toNat ≤ 0 then -1 else d (b + 11) (r * 8 + x).toNat, d) := by
  simp (disch := omega) only [f_X4_firstOf, zl, zw_id, zg_t]
  rw [if_neg (by omega), if_neg (by omega)]
  split <;> rfl
theorem e_nextOf {d : zD} {b : Nat} {r m : Int} (h : (0 ≤ r ∧ r < 3) ∧ 0 ≤ m ∧ m < 40) : f_X4_nextOf b r m d = some (d (b + 14) (r * 40 + m).toNat, d) := by
  simp (disch := omega) only [f_X4_nextOf, zl, zw_id, zg_t]
  rw [if_neg (by omega), if_neg (by omega)]
theorem KR_size {K : Int → Int → List Int} {d : zD} {b : Nat} {n : Int} {M : Int → Int → Int} {r x : Int} (h : KR K d b n M) (hr : (0 ≤ r ∧ r < 3) ∧ 0 ≤ x ∧ x < 8) : f_X4_sizeOf b r x d = some (((K r x).length : Int), d) := by
  rw [e_sizeOf hr, (h r x hr.1.1 hr.1.2 hr.2.1 hr.2.2).1.1]
theorem KR_first {K : Int → Int → List Int} {d : zD} {b : Nat} {n : Int} {M : Int → Int → Int} {r x : Int} (h : KR K d b n M) (hr : (0 ≤ r ∧ r < 3) ∧ 0 ≤ x ∧ x < 8) : f_X4_firstOf b r x d = some (hd1 (K r x), d) := by
  obtain ⟨⟨h1, h2, h3⟩, -⟩ := h r x hr.1.1 hr.1.2 hr.2.1 hr.2.2
  rw [e_firstOf hr, h1]
  cases hl : K r x with
  | nil => rfl
  | cons a l =>
    rw [if_neg (by simp), (h2 (by rw [hl]; exact fun q => by cases q)).1, hl]
theorem hd1_mem : ∀ {l : List Int}, l ≠ [] → hd1 l ∈ l
  | _ :: _, _ => List.mem_cons_self
theorem KR_len {K : Int → Int → List Int} {d : zD} {b : Nat} {n : Int} {M : Int → Int → Int} {r x : Int} (h : KR K d b n M) (hr : (0 ≤ r ∧ r < 3) ∧ 0 ≤ x ∧ x < 8) (h40 : n ≤ 40) (h0 : 0 ≤ n) : ((K r x).length : Int) ≤ n := by
  obtain ⟨-, hn, hm⟩ := h r x hr.1.1 hr.1.2 hr.2.1 hr.2.2
  have h1 := cnt_of (p := fun j => decide (j ∈ K r x)) (m := 0) (k := (n).toNat) hn fun j => by
    constructor
    · intro hj
      have := (hm j hj).1
      exact ⟨by omega, decide_eq_true hj⟩
    · intro hj
      exact of_decide_eq_true hj.2
  have h2 := cnt_R (p := fun j => decide (j ∈ K r x)) (m := 0) (k := (n).toNat)
  omega
theorem KR_append {K : Int → Int → List Int} {d : zD} {b : Nat} {n : Int} {M : Int → Int → Int} {r x m : Int} (h : KR K d b n M) (hr : (0 ≤ r ∧ r < 3) ∧ 0 ≤ x ∧ x < 8) (h40 : 0 ≤ n ∧ n ≤ 40) (hm : 0 ≤ m ∧ m < n) (ho : own M r m = x) (hnm : m ∉ K r x) : ∃ d', f_X4_append b r x m d = some (0, d') ∧ KR (uK K r x (K r x ++ [m])) d' b n M ∧ ∀ c, c < b + 11 ∨ b + 14 < c → d' c = d c := by
  obtain ⟨⟨h1, h2, h3⟩, hn, hmm⟩ := h r x hr.1.1 hr.1.2 hr.2.1 hr.2.2
  have hlen := KR_len h hr h40.2 h40.1
  have key : ∀ d1 : zD, (d1 = d ∧ K r x = [] ∨ K r x ≠ [] ∧ d1 = zu d (b + 14) (r * 40 + lst (K r x)).toNat m) → KR (uK K r x (K r x ++ [m])) (zu (zu (if K r x = [] then zu d1 (b + 11) (r * 8 + x).toNat m else d1) (b + 12) (r * 8 + x).toNat m) (b + 13) (r * 8 + x).toNat ((K r x).length + 1)) b n M := by
    intro d1 hd1 r' x' r0 r3 x0 x8
    by_cases hq : r' = r ∧ x' = x
    · obtain ⟨rfl, rfl⟩ := hq
      rw [uK_eq]
      refine ⟨⟨?_, fun _ => ⟨?_, ?_⟩, ?_⟩, ?_, fun a ha => ?_⟩
      · rw [zu_eq]; simp
      · rw [zu_o (by omega), zu_o (by omega)]
        by_cases hl : K r' x' = []
        · rw [if_pos hl, zu_eq, hl]; rfl
        · rw [if_neg hl]
          rcases hd1 with ⟨-, e⟩ | ⟨-, rfl⟩
          · exact absurd e hl
          · rw [zu_o (by omega), (h2 hl).1]
            cases hk : K r' x' with
            | nil => exact absurd hk hl
            | cons a l => rfl
      · rw [zu_o (by omega), zu_eq, lst_snoc]
      · refine kch_d (d := d1) ?_ ?_
        · rw [zu_row (by omega), zu_row (by omega)]
          split
          · rw [zu_row (by omega)]
          · rfl
        · rcases hd1 with ⟨rfl, e⟩ | ⟨hne, rfl⟩
          · rw [e]; trivial
          · refine kch_snoc (kch_congr (fun a ha hla => ?_) hn h3) (fun _ => zu_eq)
            have g1 := (hmm a ha).1
            have g2 := (hmm _ (lst_mem hne)).1
            exact zu_ne (Or.inr (by omega))
      · refine List.nodup_append.mpr ⟨hn, by simp, fun a ha c hc => ?_⟩
        rw [List.mem_singleton.mp hc]
        intro e
        rw [e] at ha
        exact hnm ha
      · rcases List.mem_append.mp ha with ha | ha
        · exact hmm a ha
        · rw [List.mem_singleton.mp ha]
          exact ⟨hm, ho⟩
    · rw [uK_ne (by omega)]
      obtain ⟨⟨g1, g2, g3⟩, gn, gm⟩ := h r' x' r0 r3 x0 x8
      have hix : (r' * 8 + x').toNat ≠ (r * 8 + x).toNat := by omega
      have e1 : ∀ c, c = b + 11 ∨ c = b + 12 ∨ c = b + 13 → zu (zu (if K r x = [] then zu d1 (b + 11) (r * 8 + x).toNat m else d1) (b + 12) (r * 8 + x).toNat m) (b + 13) (r * 8 + x).toNat ((K r x).length + 1) c (r' * 8 + x').toNat = d c (r' * 8 + x').toNat := fun c hc => by
        rw [zu_ne (Or.inr hix), zu_ne (Or.inr hix)]
        have : d1 c (r' * 8 + x').toNat = d c (r' * 8 + x').toNat := by
          rcases hd1 with ⟨rfl, -⟩ | ⟨-, rfl⟩
          · rfl
          · exact zu_o (by omega)
        split
        · rw [zu_ne (Or.inr hix), this]
        · exact this
      refine ⟨⟨?_, fun hne => ⟨?_, ?_⟩, ?_⟩, gn, gm⟩
      · rw [e1 _ (by omega)]; exact g1
      · rw [e1 _ (by omega)]; exact (g2 hne).1
      · rw [e1 _ (by omega)]; exact (g2 hne).2
      · refine kch_congr (fun a ha hla => ?_) gn g3
        have ga := gm a ha
        have e2 : zu (zu (if K r x = [] then zu d1 (b + 11) (r * 8 + x).toNat m else d1) (b + 12) (r * 8 + x).toNat m) (b + 13) (r * 8 + x).toNat ((K r x).length + 1) (b + 14) = d1 (b + 14) := by
          rw [zu_row (by omega), zu_row (by omega)]
          split
          · rw [zu_row (by omega)]
          · rfl
        rw [e2]
        rcases hd1 with ⟨rfl, -⟩ | ⟨hne, rfl⟩
        · rfl
        · have gl := hmm _ (lst_mem hne)
          refine zu_ne (Or.inr fun e => ?_)
          by_cases hrr : r' = r
          · subst hrr
            have e3 : a = lst (K r' x) := by omega
            rw [e3] at ga
            exact hq ⟨rfl, ga.2.symm.trans gl.2⟩
          · omega
  have fin : ∀ d1 : zD, (d1 = d ∨ ∃ v, d1 = zu d (b + 14) (r * 40 + lst (K r x)).toNat v) → ∀ c, c < b + 11 ∨ b + 14 < c → (zu (zu (if K r x = [] then zu d1 (b + 11) (r * 8 + x).toNat m else d1) (b + 12) (r * 8 + x).toNat m) (b + 13) (r * 8 + x).toNat ((K r x).length + 1)) c = d c := by
    intro d1 hd1 c hc
    rw [zu_row (by omega), zu_row (by omega)]
    have : d1 c = d c := by
      rcases hd1 with rfl | ⟨v, rfl⟩
      · rfl
      · rw [zu_row (by omega)]
    split
    · rw [zu_row (by omega), this]
    · exact this
  simp (disch := omega) only [f_X4_append, j_X4_append_76, zl, zw_id, zg_t]
  rw [if_neg (by omega), if_pos (by omega), h1]
  by_cases hl : K r x = []
  · rw [if_pos (by rw [hl]; rfl)]
    refine ⟨_, ?_, key d (Or.inl ⟨rfl, hl⟩), fin d (Or.inl rfl)⟩
    rw [if_pos hl]
    congr 2
    rw [zu_o (by omega), zu_o (by omega), h1, hl]
    rfl
  · have hpos : 0 < (K r x).length := List.length_pos_iff.mpr hl
    have gl := (hmm _ (lst_mem hl)).1
    rw [if_neg (by omega), (h2 hl).2, zw_id (by omega) (by omega), if_neg (by omega), if_neg (by omega)]
    refine ⟨_, ?_, key _ (Or.inr ⟨hl, rfl⟩), fin _ (Or.inr ⟨_, rfl⟩)⟩
    rw [if_neg hl]
    congr 2
    rw [zu_o (by omega), zu_o (by omega), h1, zw_id (by omega) (by omega)]
theorem KR_remove {K : Int → Int → List Int} {d : zD} {b : Nat} {n : Int} {M : Int → Int → Int} {r x a : Int} {l : List Int} (h : KR K d b n M) (hr : (0 ≤ r ∧ r < 3) ∧ 0 ≤ x ∧ x < 8) (h40 : 0 ≤ n ∧ n ≤ 40) (hl : K r x = a :: l) : ∃ d', f_X4_removeFirst b r x d = some (0, d') ∧ KR (uK K r x l) d' b n M ∧ ∀ c, c < b + 11 ∨ b + 14 < c → d' c = d c := by
  obtain ⟨⟨h1, h2, h3⟩, hn, hmm⟩ := h r x hr.1.1 hr.1.2 hr.2.1 hr.2.2
  have hlen := KR_len h hr h40.2 h40.1
  rw [hl] at h1 h2 h3 hn hmm hlen
  have ha := (hmm a List.mem_cons_self).1
  have hh := h2 (fun q => by cases q)
  simp (disch := omega) only [f_X4_removeFirst, zl, zw_id, zg_t]
  rw [if_neg (by omega), if_neg (by omega), h1, if_neg (by simp)]
  rw [zu_o (by omega), hh.1]
  show ∃ d', zc (f_X4_nextOf b r a _) _ = some (0, d') ∧ _
  rw [e_nextOf (by omega), zc_t, zu_o (by omega)]
  refine ⟨_, rfl, ?_, fun c hc => by rw [zu_row (by omega), zu_row (by omega)]⟩
  intro r' x' r0 r3 x0 x8
  by_cases hq : r' = r ∧ x' = x
  · obtain ⟨rfl, rfl⟩ := hq
    rw [uK_eq]
    refine ⟨⟨?_, fun hne => ⟨?_, ?_⟩, kch_d (d := d) (by rw [zu_row (by omega), zu_row (by omega)]) ?_⟩, (List.nodup_cons.mp hn).2, fun c hc => hmm c (List.mem_cons_of_mem _ hc)⟩
    · rw [zu_o (by omega), zu_eq]
      simp
    · rw [zu_eq]
      cases l with
      | nil => exact absurd rfl hne
      | cons c l => exact h3.1
    · rw [zu_o (by omega), zu_o (by omega), hh.2]
      cases l with
      | nil => exact absurd rfl hne
      | cons c l => rfl
    · cases l with
      | nil => trivial
      | cons c l => exact h3.2
  · rw [uK_ne (by omega)]
    obtain ⟨⟨g1, g2, g3⟩, gn, gm⟩ := h r' x' r0 r3 x0 x8
    have hix : (r' * 8 + x').toNat ≠ (r * 8 + x).toNat := by omega
    refine ⟨⟨?_, fun hne => ⟨?_, ?_⟩, kch_d (d := d) (by rw [zu_row (by omega), zu_row (by omega)]) g3⟩, gn, gm⟩
    · rw [zu_ne (Or.inr hix), zu_ne (Or.inr hix)]; exact g1
    · rw [zu_ne (Or.inr hix), zu_ne (Or.inr hix)]; exact (g2 hne).1
    · rw [zu_ne (Or.inr hix), zu_ne (Or.inr hix)]; exact (g2 hne).2
