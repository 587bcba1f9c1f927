/-! The statements of a script. -/
def adx (ds : zD) (m k a r l : Int) : zD := zu (zu (zu (zu (zu ds 406 (4 * m).toNat k) 406 (4 * m + 1).toNat a) 406 (4 * m + 2).toNat r) 406 (4 * m + 3).toNat l) 400 21 (m + 1)
def RRst (x1 : Int) (d : zD) : Option (Int × zD) :=
  if x1 = 0 then (
    zc (f_X12_readsPost d) fun _ d =>
    j_X12_readsStatement_99 d)
  else (
    if x1 = 3 then (
      zc (f_X12_number 1 50 d) fun v55 d =>
      zc (f_X12_adds 3 v55 0 0 d) fun _ d =>
      j_X12_readsStatement_99 d)
    else (
      if x1 = 5 then (
        zc (f_X12_number 0 15 d) fun v77 d =>
        zc (f_X12_adds 5 v77 0 0 d) fun _ d =>
        j_X12_readsStatement_99 d)
      else (
        zc (f_X12_terminal0 d) fun v91 d =>
        zc (f_X12_adds x1 v91 0 0 d) fun _ d =>
        j_X12_readsStatement_99 d)))
theorem RRst_of {x1 : Int} {d : zD} : j_X12_readsStatement_29 x1 d = zc (f_X12_goesOn d) fun _ d => RRst x1 d := rfl
theorem B_99 {d : zD} (h : BD d) : j_X12_readsStatement_99 d = some (0, d) := by
  unfold j_X12_readsStatement_99
  rw [B_semi h, zc_n]
theorem B_RR {x : Int} {d : zD} (h : BD d) : RRst x d = some (0, d) := by
  unfold RRst f_X12_terminal0
  rw [B_post h, zc_n, B_num h, zc_n, B_num h, zc_n, B_adds h, zc_n, B_adds h, zc_n, B_th h, zc_n, B_on h, zc_n, zc_n, B_adds h, zc_n, B_99 h]
  split
  · rfl
  · split
    · rfl
    · split <;> rfl
/-- what a statement may hold -/
def okS (N k a r l : Int) : Prop := (k = 0 ∧ (-1 ≤ a ∧ a < N) ∧ (-1 ≤ r ∧ r < N) ∧ a ≠ r ∧ 1 ≤ l ∧ l ≤ 20) ∨ ((k = 1 ∨ k = 2 ∨ k = 4) ∧ 0 ≤ a ∧ a < N) ∨ (k = 3 ∧ 1 ≤ a ∧ a ≤ 50) ∨ (k = 5 ∧ 0 ≤ a ∧ a ≤ 15)
def SC (N : Int) (dc ds : zD) (m : Int) : Prop := dc 20 6 = m ∧ ds 400 21 = m ∧ (0 ≤ m ∧ m ≤ 30) ∧ ∀ i, 0 ≤ i → i < m → dc 21 i.toNat = ds 406 (4 * i).toNat ∧ dc 22 i.toNat = ds 406 (4 * i + 1).toNat ∧ (ds 406 (4 * i).toNat = 0 → dc 23 i.toNat = ds 406 (4 * i + 2).toNat ∧ dc 24 i.toNat = ds 406 (4 * i + 3).toNat) ∧ okS N (ds 406 (4 * i).toNat) (ds 406 (4 * i + 1).toNat) (ds 406 (4 * i + 2).toNat) (ds 406 (4 * i + 3).toNat)
section K5
variable {B : Int → Int} {n : Int}
theorem e_adds {dc ds : zD} {m k a r l : Int} (h : PG B n dc ds) (hm : ds 400 21 = m) (hm0 : 0 ≤ m ∧ m < 30) : f_X12_adds k a r l ds = some (0, adx ds m k a r l) := by
  unfold f_X12_adds
  rw [e_good h.2.2.1, zc_n, if_neg (show ¬ (1 : Int) = 0 by decide), zl_n, hm, zl_n, zw_id (x := 4 * m) (by omega) (by omega), zg_t (by omega), zl_n, zl_n, zw_id (x := 4 * m + 1) (by omega) (by omega), zg_t (by omega), zl_n, zl_n, zw_id (x := 4 * m + 2) (by omega) (by omega), zg_t (by omega), zl_n, zl_n, zw_id (x := 4 * m + 3) (by omega) (by omega), zg_t (by omega), zl_n, zl_n, zu_ne (by omega), zu_ne (by omega), zu_ne (by omega), zu_ne (by omega), hm, zl_n, zw_id (by omega) (by omega), zl_n]
  rfl
theorem P_rest {dc ds : zD} {m v : Int} (h : PG B n dc ds) (hN : NS 1 dc ds) (hm : dc 20 6 = m) (hm0 : 0 ≤ m ∧ m < 30) (hs : ds 400 21 = m) (hv : 0 ≤ v ∧ v ≤ 5) : (∃ a r l dc1 ds1, f_X5_readRest v dc = some (1, dc1) ∧ RRst v ds = j_X12_readsStatement_99 (adx ds1 m v a r l) ∧ PG B n dc1 ds1 ∧ okS (ds 401 0) v a r l ∧ dc1 22 m.toNat = a ∧ (v = 0 → dc1 23 m.toNat = r ∧ dc1 24 m.toNat = l) ∧ FV m.toNat dc dc1 ∧ FS2 ds ds1) ∨ ∃ dc1 ds1, f_X5_readRest v dc = some (0, dc1) ∧ RRst v ds = some (0, ds1) ∧ PB dc1 ds1 ∧ FV m.toNat dc dc1 ∧ FS2 ds ds1 := by
  have h5 : v = 0 ∨ v = 3 ∨ v = 5 ∨ (v = 1 ∨ v = 2 ∨ v = 4) := by omega
  rcases h5 with e | e | e | e
  · subst e
    have cl : f_X5_readRest 0 dc = zc (f_X5_readPost dc) fun v37 d => some (v37, d) := rfl
    have re : RRst 0 ds = zc (f_X12_readsPost ds) fun _ d => j_X12_readsStatement_99 d := rfl
    rcases P_post h hN hm hm0 with ⟨a, r, l, dc1, ds1, a1, a2, a3, a4, a5, a6, a7, a8, a9⟩ | ⟨dc1, ds1, a1, a2, a3, a4, a5⟩
    · refine Or.inl ⟨a, r, l, dc1, ds1, by rw [cl, a1, zc_n], ?_, a3, Or.inl ⟨rfl, a4⟩, a5, fun _ => ⟨a6, a7⟩, a8, a9⟩
      rw [re, a2, e_adds a3 (by rw [a9.2 21 (by omega), hs]) hm0, zc_n, zc_n]
    · exact Or.inr ⟨dc1, ds1, by rw [cl, a1, zc_n], by rw [re, a2, zc_n, B_99 a3.2.2], a3, a4, a5⟩
  · subst e
    obtain ⟨w, w', dc1, ds1, a1, a2, a3, a4, a5⟩ := P_num (x := 1) (y := 50) h (by omega)
    have q : dc1 20 6 = m := by rw [a4.1 20 (by omega), hm]
    have cl : f_X5_readRest 3 dc = if w = -1 then some (0, zu dc1 22 m.toNat w) else some (1, zu dc1 22 m.toNat w) := by
      show (zl (dc 20 6) fun v46 => zc (f_X9_readNumber 1 50 dc) fun v56 d => zg 30 v46 <| zl (zu d 22 (v46 : Int).toNat v56) fun d => zl (d 20 6) fun v65 => zg 30 v65 <| zl (d 22 (v65 : Int).toNat) fun v68 => if (v68 : Int) = (-1) then (some (0, d)) else (some (1, d))) = _
      rw [zl_n, hm, a1, zc_n, zg_t (by omega), zl_n, zl_n, zu_ne (by omega), q, zg_t (by omega), zl_n, zu_eq]
    have re : RRst 3 ds = zc (f_X12_number 1 50 ds) fun v55 d => zc (f_X12_adds 3 v55 0 0 d) fun _ d => j_X12_readsStatement_99 d := rfl
    rcases a3 with ⟨k1, k2, k3⟩ | ⟨k1, k2, k3⟩
    · refine Or.inl ⟨w, 0, 0, _, ds1, by rw [cl, if_neg (by omega)], ?_, PG_c k3 (zu_row (by omega)) (zu_row (by omega)), Or.inr (Or.inr (Or.inl ⟨rfl, k2⟩)), zu_eq, fun q => absurd q (by decide), a4.v.tr (FV.u (by omega)), a5⟩
      rw [re, a2, zc_n, e_adds k3 (by rw [a5.2 21 (by omega), hs]) hm0, zc_n, k1]
    · obtain ⟨t1, t2, t3⟩ := id k3
      refine Or.inr ⟨_, ds1, by rw [cl, if_pos k1], ?_, ⟨by rw [zu_ne (by omega)]; exact t1, by rw [zu_ne (by omega)]; exact t2, t3⟩, a4.v.tr (FV.u (by omega)), a5⟩
      rw [re, a2, zc_n, B_adds t3, zc_n, B_99 t3]
  · subst e
    obtain ⟨w, w', dc1, ds1, a1, a2, a3, a4, a5⟩ := P_num (x := 0) (y := 15) h (by omega)
    have q : dc1 20 6 = m := by rw [a4.1 20 (by omega), hm]
    have cl : f_X5_readRest 5 dc = if w = -1 then some (0, zu dc1 22 m.toNat w) else some (1, zu dc1 22 m.toNat w) := by
      show (zl (dc 20 6) fun v46 => zc (f_X9_readNumber 0 15 dc) fun v56 d => zg 30 v46 <| zl (zu d 22 (v46 : Int).toNat v56) fun d => zl (d 20 6) fun v65 => zg 30 v65 <| zl (d 22 (v65 : Int).toNat) fun v68 => if (v68 : Int) = (-1) then (some (0, d)) else (some (1, d))) = _
      rw [zl_n, hm, a1, zc_n, zg_t (by omega), zl_n, zl_n, zu_ne (by omega), q, zg_t (by omega), zl_n, zu_eq]
    have re : RRst 5 ds = zc (f_X12_number 0 15 ds) fun v55 d => zc (f_X12_adds 5 v55 0 0 d) fun _ d => j_X12_readsStatement_99 d := rfl
    rcases a3 with ⟨k1, k2, k3⟩ | ⟨k1, k2, k3⟩
    · refine Or.inl ⟨w, 0, 0, _, ds1, by rw [cl, if_neg (by omega)], ?_, PG_c k3 (zu_row (by omega)) (zu_row (by omega)), Or.inr (Or.inr (Or.inr ⟨rfl, k2⟩)), zu_eq, fun q => absurd q (by decide), a4.v.tr (FV.u (by omega)), a5⟩
      rw [re, a2, zc_n, e_adds k3 (by rw [a5.2 21 (by omega), hs]) hm0, zc_n, k1]
    · obtain ⟨t1, t2, t3⟩ := id k3
      refine Or.inr ⟨_, ds1, by rw [cl, if_pos k1], ?_, ⟨by rw [zu_ne (by omega)]; exact t1, by rw [zu_ne (by omega)]; exact t2, t3⟩, a4.v.tr (FV.u (by omega)), a5⟩
      rw [re, a2, zc_n, B_adds t3, zc_n, B_99 t3]
  · have cl : f_X5_readRest v dc = zc (f_X9_isAtWord 15 dc) fun v123 d => if (v123 : Int) = 0 then (zl (d 20 6) fun v143 => zc (f_X5_readWho (-2) d) fun v149 d => zg 30 v143 <| zl (zu d 22 (v143 : Int).toNat v149) fun d => zl (d 20 6) fun v158 => zg 30 v158 <| zl (d 22 (v158 : Int).toNat) fun v161 => if (v161 : Int) = (-2) then (some (0, d)) else (some (1, d))) else (zc (f_X9_fail 1 d) fun v134 d => some (v134, d)) := by
      rcases e with e | e | e <;> subst e <;> rfl
    have re : RRst v ds = zc (f_X12_terminal0 ds) fun v91 d => zc (f_X12_adds v v91 0 0 d) fun _ d => j_X12_readsStatement_99 d := by
      rcases e with e | e | e <;> subst e <;> rfl
    have hN2 := hN.2.1
    rcases P_term h hN with ⟨w, b1, b2, b3, b4⟩ | ⟨w, dc1, ds1, b1, b2, b3, b4, b5⟩
    · rcases j57 (x := -2) (v := w) h with ⟨-, d1, s1, a1, a2, a3, a4, a5⟩ | ⟨e, -⟩
      · have q : d1 20 6 = m := by rw [a4.1 20 (by omega), hm]
        refine Or.inl ⟨w, 0, 0, zu d1 22 m.toNat w, s1, ?_, ?_, PG_c a3 (zu_row (by omega)) (zu_row (by omega)), Or.inr (Or.inl ⟨e, b1⟩), zu_eq, fun q => absurd q (by omega), a4.v.tr (FV.u (by omega)), a5⟩
        · rw [cl, b3, zc_n, if_pos (show (0 : Int) = 0 from rfl), zl_n, hm, b4, a1, zc_n, zg_t (by omega), zl_n, zl_n, zu_ne (by omega), q, zg_t (by omega), zl_n, zu_eq, if_neg (by omega)]
        · rw [re]
          unfold f_X12_terminal0
          rw [b2, zc_n, a2, zc_n, zc_n, e_adds a3 (by rw [a5.2 21 (by omega), hs]) hm0, zc_n]
      · omega
    · obtain ⟨t1, t2, t3⟩ := id b2
      have re2 : RRst v ds = some (0, ds1) := by
        rw [re]
        unfold f_X12_terminal0
        rw [b1, zc_n, B_on t3, zc_n, zc_n, B_adds t3, zc_n, B_99 t3]
      rcases b5 with ⟨b5, b6⟩ | ⟨b5, b6⟩
      · refine Or.inr ⟨dc1, ds1, ?_, re2, b2, b3.v, b4⟩
        rw [cl, b5, zc_n, if_neg (show ¬ (1 : Int) = 0 by decide), b6, zc_n]
      · have q : dc1 20 6 = m := by rw [b3.1 20 (by omega), hm]
        refine Or.inr ⟨zu dc1 22 m.toNat (-2), ds1, ?_, re2, ⟨by rw [zu_ne (by omega)]; exact t1, by rw [zu_ne (by omega)]; exact t2, t3⟩, b3.v.tr (FV.u (by omega)), b4⟩
        rw [cl, b5, zc_n, if_pos (show (0 : Int) = 0 from rfl), zl_n, hm, b6, zc_n, zg_t (by omega), zl_n, zl_n, zu_ne (by omega), q, zg_t (by omega), zl_n, zu_eq, if_pos (show (-2 : Int) = -2 from rfl)]
/-- frames of a script's reading -/
def FW (d d' : zD) : Prop := (∀ c, c ≠ 10 → c < 20 ∨ 24 < c → d' c = d c) ∧ (∀ j, j < 2 ∨ 6 < j → d' 10 j = d 10 j)
def FX (d d' : zD) : Prop := (∀ c, c ≠ 400 → c ≠ 406 → d' c = d c) ∧ ∀ j, j < 12 ∨ 18 < j → j ≠ 21 → d' 400 j = d 400 j
theorem FW.tr {a b c : zD} (h : FW a b) (q : FW b c) : FW a c := ⟨fun k k1 k2 => (q.1 k k1 k2).trans (h.1 k k1 k2), fun j j1 => (q.2 j j1).trans (h.2 j j1)⟩
theorem FX.tr {a b c : zD} (h : FX a b) (q : FX b c) : FX a c := ⟨fun k k1 k2 => (q.1 k k1 k2).trans (h.1 k k1 k2), fun j j1 j2 => (q.2 j j1 j2).trans (h.2 j j1 j2)⟩
theorem FT2.w {a b : zD} (h : FT2 a b) : FW a b := ⟨fun k k1 _ => h.1 k k1, h.2⟩
theorem FV.w {m : Nat} {a b : zD} (h : FV m a b) : FW a b := ⟨fun k k1 k2 => h.1 k k1 (by omega) (by omega) (by omega), h.2.1⟩
theorem FS2.x {a b : zD} (h : FS2 a b) : FX a b := ⟨fun k k1 _ => h.1 k k1, fun j j1 _ => h.2 j j1⟩
theorem FW.u {c i : Nat} {a : zD} {v : Int} (h : 20 ≤ c ∧ c ≤ 24) : FW a (zu a c i v) := ⟨fun k k1 k2 => zu_row (by omega), fun j j1 => zu_ne (by omega)⟩
theorem adx_F {ds : zD} {m k a r l : Int} : FX ds (adx ds m k a r l) := ⟨fun c c1 c2 => by unfold adx; rw [zu_row c1, zu_row c2, zu_row c2, zu_row c2, zu_row c2], fun j _ j2 => by unfold adx; rw [zu_ne (Or.inr j2), zu_row (by omega), zu_row (by omega), zu_row (by omega), zu_row (by omega)]⟩
theorem adx_o {ds : zD} {m k a r l : Int} {j : Nat} (h : j < (4 * m).toNat) (hm : 0 ≤ m) : adx ds m k a r l 406 j = ds 406 j := by
  unfold adx
  rw [zu_row (by omega), zu_ne (by omega), zu_ne (by omega), zu_ne (by omega), zu_ne (by omega)]
theorem adx_v {ds : zD} {m k a r l : Int} (hm : 0 ≤ m) : adx ds m k a r l 406 (4 * m).toNat = k ∧ adx ds m k a r l 406 (4 * m + 1).toNat = a ∧ adx ds m k a r l 406 (4 * m + 2).toNat = r ∧ adx ds m k a r l 406 (4 * m + 3).toNat = l := by
  unfold adx
  refine ⟨?_, ?_, ?_, ?_⟩
  · rw [zu_row (by omega), zu_ne (by omega), zu_ne (by omega), zu_ne (by omega), zu_eq]
  · rw [zu_row (by omega), zu_ne (by omega), zu_ne (by omega), zu_eq]
  · rw [zu_row (by omega), zu_ne (by omega), zu_eq]
  · rw [zu_row (by omega), zu_eq]
end K5
