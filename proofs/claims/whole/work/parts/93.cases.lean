/-! The law's cases. -/
theorem GR_cong9 {dc ds dc' ds' : zD} (h : GR dc ds) (ec : ∀ c, c < 360 → dc' c = dc c) (es : ∀ c, 400 ≤ c → ds' c = ds c) : GR dc' ds' := by
  obtain ⟨h1, h2, ⟨a1, a2, a3, a4⟩, ⟨b1, b2, b3⟩, ⟨c1, c2, c3⟩, ⟨f1, f2⟩, ⟨g1, g2, g3⟩⟩ := h
  have ep : ∀ i, pst ds' i = pst ds i := fun i => by
    unfold pst
    rw [es 404 (by omega)]
  unfold GR HR SR IR ER OR
  rw [ec 8 (by omega), ec 0 (by omega), ec 10 (by omega), ec 11 (by omega), ec 25 (by omega), es 400 (by omega), es 401 (by omega), es 403 (by omega), es 405 (by omega), es 408 (by omega)]
  refine ⟨LR_d h1 fun c hc => ec c (by omega), h2, ⟨a1, a2, a3, fun i hi => ?_⟩, ⟨b1, b2, fun q => ⟨LR_d (b3 q).1 fun c hc => ec c (by omega), (b3 q).2⟩⟩, ⟨c1, c2, c3⟩, ⟨f1, f2⟩, ⟨g1, g2, g3⟩⟩
  rw [ep i]
  exact ⟨LR_d (a4 i hi).1 fun c hc => ec c (by omega), (a4 i hi).2⟩
/-- the class runs, the law writes a cell of its own, the reference runs -/
theorem GO_run {es : List Nat} {mc mr : zD → Option (Int × zD)} (hG : GO es mc mr) {d : zD} (hg : GR d d) (hR : ∀ c j, zR (d c j)) : ∃ v dc, mc d = some (v, dc) ∧ (zR v ∨ ∃ i j : Nat, es[i]? = some j ∧ v = 4294967296 + (j : Int)) ∧ ∀ dz : zD, (∀ c, c < 360 → dz c = dc c) → (∀ c, 400 ≤ c → dz c = dc c) → ∃ v' ds', mr dz = some (v', ds') ∧ GR ds' ds' ∧ (∀ c, c < 400 → ds' c = dz c) ∧ GX es v v' (ds' 400 0) := by
  obtain ⟨v, dc, v0, ds0, h1, h2, h3, hc, hm, hx⟩ := hG hg hR
  refine ⟨v, dc, h1, ?_, fun dz e1 e2 => ?_⟩
  · rcases hx with ⟨-, -, q⟩ | ⟨i, j, q1, -, q2⟩
    · exact Or.inl q
    · exact Or.inr ⟨i, j, q1, q2⟩
  · have hg2 : GR d dz := GR_cong9 hg (fun _ _ => rfl) (fun c hc4 => (e2 c hc4).trans (hc c hc4))
    obtain ⟨v1, dc1, v', ds', g1, g2, g3, gc, gm, gx⟩ := hG hg2 hR
    have e := Option.some.inj (h1.symm.trans g1)
    have ev : v = v1 := congrArg Prod.fst e
    have ed : dc = dc1 := congrArg Prod.snd e
    subst ev
    subst ed
    exact ⟨v', ds', g2, GR_cong9 g3 (fun c hc9 => (gm c (by omega)).trans (e1 c hc9)) (fun _ _ => rfl), gm, gx⟩
theorem GO_runA {mc mr : zD → Option (Int × zD)} (hG : GO [] mc mr) {d : zD} (hg : GR d d) (hR : ∀ c j, zR (d c j)) : ∃ v dc ds', mc d = some (v, dc) ∧ mr dc = some (v, ds') ∧ GR ds' ds' ∧ zR v := by
  obtain ⟨v, dc, h1, -, hq⟩ := GO_run hG hg hR
  obtain ⟨v', ds', h2, h3, -, hx⟩ := hq dc (fun _ _ => rfl) (fun _ _ => rfl)
  rcases hx with ⟨-, e, q⟩ | ⟨i, j, q1, -⟩
  · subst e
    exact ⟨v, dc, ds', h1, h2, h3, q⟩
  · cases (show (none : Option Nat) = some j from q1)
theorem GO_runT {es : List Nat} {mc mr : zD → Option (Int × zD)} (hG : GO es mc mr) {d : zD} (hg : GR d d) (hR : ∀ c j, zR (d c j)) : ∃ v dc dz kv v' ds', mc d = some (v, dc) ∧ ((zR v ∧ kv = 0 ∧ dz = zu dc 399 0 v) ∨ ∃ i j : Nat, es[i]? = some j ∧ v = 4294967296 + (j : Int) ∧ kv = (i : Int) + 1 ∧ dz = dc) ∧ mr dz = some (v', ds') ∧ GR ds' ds' ∧ ds' 400 0 = kv ∧ (kv = 0 → ds' 399 0 = v') := by
  obtain ⟨v, dc, h1, hv, hq⟩ := GO_run hG hg hR
  rcases hv with hv | ⟨i, j, e1, e2⟩
  · obtain ⟨v', ds', h2, h3, h4, hx⟩ := hq (zu dc 399 0 v) (fun c hc => zu_row (by omega)) (fun c hc => zu_row (by omega))
    refine ⟨v, dc, zu dc 399 0 v, 0, v', ds', h1, Or.inl ⟨hv, rfl, rfl⟩, h2, h3, ?_, fun _ => ?_⟩
    · rcases hx with ⟨q, -⟩ | ⟨i, j, -, -, q⟩
      · exact q
      · obtain ⟨-, hv⟩ := hv
        omega
    · rcases hx with ⟨-, q, -⟩ | ⟨i, j, -, -, q⟩
      · rw [h4 399 (by omega), zu_eq, q]
      · obtain ⟨-, hv⟩ := hv
        omega
  · obtain ⟨v', ds', h2, h3, h4, hx⟩ := hq dc (fun _ _ => rfl) (fun _ _ => rfl)
    rcases hx with ⟨-, -, q⟩ | ⟨i1, j1, q1, q2, q3⟩
    · obtain ⟨-, q⟩ := q
      omega
    · exact ⟨v, dc, dc, (i1 : Int) + 1, v', ds', h1, Or.inr ⟨i1, j1, q1, q3, rfl, rfl⟩, h2, h3, q2, fun q => by omega⟩
theorem e_thrown {d : zD} : f_X12_thrown d = some (d 400 0, d) := by
  unfold f_X12_thrown
  rw [zl_n]
theorem zflt_n {t w : Int} (h : zR w) : vf_n32 (zflt t w) := by
  unfold zflt
  split
  · show FP.fconst1 &&& 0x7fffffff ≤ 0x7f800000
    decide
  · exact NN32_ok t w h (by assumption)
theorem GR_t0 {d : zD} (h : GR d d) : GR (zu d 400 0 0) (zu d 400 0 0) :=
  GR_cong9 (GR_s h (fun c c0 _ _ => zu_row c0) (fun k _ => by rw [zu_row (show 401 ≠ 400 by omega)]) (fun j j0 _ _ _ => zu_ne (Or.inr j0))) (fun c hc => zu_row (by omega)) (fun _ _ => rfl)
theorem mvL_100 : zMV RL 100 RX11 yX11_appendInput cX11_appendInput 6 (some .int) 5 := ⟨(zin 763 (by decide +kernel) (by decide +kernel)), (zin 764 (by decide +kernel) (by decide +kernel)), (zin 765 (by decide +kernel) (by decide +kernel)), (zin 112 (by decide +kernel) (by decide +kernel)), (zin 766 (by decide +kernel) (by decide +kernel)), rfl, ⟨by decide +kernel, by decide +kernel⟩, by decide +kernel⟩
theorem mvL_104 : zMV RL 104 RX12 yX12_appendInput cX12_appendInput 6 (some .int) 5 := ⟨(zin 1506 (by decide +kernel) (by decide +kernel)), (zin 1507 (by decide +kernel) (by decide +kernel)), (zin 1508 (by decide +kernel) (by decide +kernel)), (zin 129 (by decide +kernel) (by decide +kernel)), (zin 1509 (by decide +kernel) (by decide +kernel)), rfl, ⟨by decide +kernel, by decide +kernel⟩, by decide +kernel⟩
theorem mvL_105 : zMV RL 105 RX11 yX11_truncateInput cX11_truncateInput 2 (some .boolean) 1 := ⟨(zin 772 (by decide +kernel) (by decide +kernel)), (zin 773 (by decide +kernel) (by decide +kernel)), (zin 774 (by decide +kernel) (by decide +kernel)), (zin 112 (by decide +kernel) (by decide +kernel)), (zin 775 (by decide +kernel) (by decide +kernel)), rfl, ⟨by decide +kernel, by decide +kernel⟩, by decide +kernel⟩
theorem mvL_109 : zMV RL 109 RX12 yX12_truncateInput cX12_truncateInput 2 (some .boolean) 1 := ⟨(zin 1514 (by decide +kernel) (by decide +kernel)), (zin 1515 (by decide +kernel) (by decide +kernel)), (zin 1516 (by decide +kernel) (by decide +kernel)), (zin 129 (by decide +kernel) (by decide +kernel)), (zin 1517 (by decide +kernel) (by decide +kernel)), rfl, ⟨by decide +kernel, by decide +kernel⟩, by decide +kernel⟩
theorem mvL_110 : zMV RL 110 RX11 yX11_loadLine cX11_loadLine 2 (some .int) 0 := ⟨(zin 776 (by decide +kernel) (by decide +kernel)), (zin 777 (by decide +kernel) (by decide +kernel)), (zin 778 (by decide +kernel) (by decide +kernel)), (zin 112 (by decide +kernel) (by decide +kernel)), (zin 779 (by decide +kernel) (by decide +kernel)), rfl, ⟨by decide +kernel, by decide +kernel⟩, by decide +kernel⟩
theorem mvL_113 : zMV RL 113 RX12 yX12_loadLine cX12_loadLine 1 (some .int) 0 := ⟨(zin 1529 (by decide +kernel) (by decide +kernel)), (zin 1530 (by decide +kernel) (by decide +kernel)), (zin 1531 (by decide +kernel) (by decide +kernel)), (zin 129 (by decide +kernel) (by decide +kernel)), (zin 1532 (by decide +kernel) (by decide +kernel)), rfl, ⟨by decide +kernel, by decide +kernel⟩, by decide +kernel⟩
theorem mvL_114 : zMV RL 114 RX11 yX11_playScript cX11_playScript 3 (some .int) 0 := ⟨(zin 780 (by decide +kernel) (by decide +kernel)), (zin 781 (by decide +kernel) (by decide +kernel)), (zin 782 (by decide +kernel) (by decide +kernel)), (zin 112 (by decide +kernel) (by decide +kernel)), (zin 783 (by decide +kernel) (by decide +kernel)), rfl, ⟨by decide +kernel, by decide +kernel⟩, by decide +kernel⟩
theorem mvL_117 : zMV RL 117 RX12 yX12_playScript cX12_playScript 2 (some .int) 0 := ⟨(zin 1633 (by decide +kernel) (by decide +kernel)), (zin 1634 (by decide +kernel) (by decide +kernel)), (zin 1635 (by decide +kernel) (by decide +kernel)), (zin 129 (by decide +kernel) (by decide +kernel)), (zin 1636 (by decide +kernel) (by decide +kernel)), rfl, ⟨by decide +kernel, by decide +kernel⟩, by decide +kernel⟩
theorem mvL_118 : zMV RL 118 RX11 yX11_errorCode cX11_errorCode 1 (some .int) 0 := ⟨(zin 987 (by decide +kernel) (by decide +kernel)), (zin 988 (by decide +kernel) (by decide +kernel)), (zin 989 (by decide +kernel) (by decide +kernel)), (zin 112 (by decide +kernel) (by decide +kernel)), (zin 990 (by decide +kernel) (by decide +kernel)), rfl, ⟨by decide +kernel, by decide +kernel⟩, by decide +kernel⟩
theorem mvL_121 : zMV RL 121 RX12 yX12_errorCode cX12_errorCode 1 (some .int) 0 := ⟨(zin 1521 (by decide +kernel) (by decide +kernel)), (zin 1522 (by decide +kernel) (by decide +kernel)), (zin 1523 (by decide +kernel) (by decide +kernel)), (zin 129 (by decide +kernel) (by decide +kernel)), (zin 1524 (by decide +kernel) (by decide +kernel)), rfl, ⟨by decide +kernel, by decide +kernel⟩, by decide +kernel⟩
theorem mvL_122 : zMV RL 122 RX11 yX11_errorOffset cX11_errorOffset 1 (some .int) 0 := ⟨(zin 991 (by decide +kernel) (by decide +kernel)), (zin 992 (by decide +kernel) (by decide +kernel)), (zin 993 (by decide +kernel) (by decide +kernel)), (zin 112 (by decide +kernel) (by decide +kernel)), (zin 994 (by decide +kernel) (by decide +kernel)), rfl, ⟨by decide +kernel, by decide +kernel⟩, by decide +kernel⟩
theorem mvL_125 : zMV RL 125 RX12 yX12_errorOffset cX12_errorOffset 1 (some .int) 0 := ⟨(zin 1525 (by decide +kernel) (by decide +kernel)), (zin 1526 (by decide +kernel) (by decide +kernel)), (zin 1527 (by decide +kernel) (by decide +kernel)), (zin 129 (by decide +kernel) (by decide +kernel)), (zin 1528 (by decide +kernel) (by decide +kernel)), rfl, ⟨by decide +kernel, by decide +kernel⟩, by decide +kernel⟩
theorem mtL_126 : zMT RL 126 yL_count cL_count 4 [(0, 9, 12, 13)] 3 := ⟨(zin 1081 (by decide +kernel) (by decide +kernel)), (zin 1082 (by decide +kernel) (by decide +kernel)), (zin 111 (by decide +kernel) (by decide +kernel)), (zin 1083 (by decide +kernel) (by decide +kernel)), ⟨by decide +kernel, by decide +kernel⟩, by decide +kernel⟩
theorem mvL_131 : zMV RL 131 RX12 yX12_count cX12_count 2 (some .int) 1 := ⟨(zin 1820 (by decide +kernel) (by decide +kernel)), (zin 1821 (by decide +kernel) (by decide +kernel)), (zin 1822 (by decide +kernel) (by decide +kernel)), (zin 129 (by decide +kernel) (by decide +kernel)), (zin 1823 (by decide +kernel) (by decide +kernel)), rfl, ⟨by decide +kernel, by decide +kernel⟩, by decide +kernel⟩
theorem mvL_132 : zMV RL 132 RX12 yX12_thrown cX12_thrown 1 (some .int) 0 := ⟨(zin 1404 (by decide +kernel) (by decide +kernel)), (zin 1405 (by decide +kernel) (by decide +kernel)), (zin 1406 (by decide +kernel) (by decide +kernel)), (zin 129 (by decide +kernel) (by decide +kernel)), (zin 1407 (by decide +kernel) (by decide +kernel)), rfl, ⟨by decide +kernel, by decide +kernel⟩, by decide +kernel⟩
theorem mtL_135 : zMT RL 135 yL_account cL_account 4 [(0, 9, 12, 13)] 3 := ⟨(zin 1157 (by decide +kernel) (by decide +kernel)), (zin 1158 (by decide +kernel) (by decide +kernel)), (zin 111 (by decide +kernel) (by decide +kernel)), (zin 1159 (by decide +kernel) (by decide +kernel)), ⟨by decide +kernel, by decide +kernel⟩, by decide +kernel⟩
theorem mvL_137 : zMV RL 137 RX12 yX12_account cX12_account 2 (some .int) 1 := ⟨(zin 1828 (by decide +kernel) (by decide +kernel)), (zin 1829 (by decide +kernel) (by decide +kernel)), (zin 1830 (by decide +kernel) (by decide +kernel)), (zin 129 (by decide +kernel) (by decide +kernel)), (zin 1831 (by decide +kernel) (by decide +kernel)), rfl, ⟨by decide +kernel, by decide +kernel⟩, by decide +kernel⟩
theorem mtL_138 : zMT RL 138 yL_setting cL_setting 4 [(0, 9, 12, 13)] 3 := ⟨(zin 1164 (by decide +kernel) (by decide +kernel)), (zin 1165 (by decide +kernel) (by decide +kernel)), (zin 111 (by decide +kernel) (by decide +kernel)), (zin 1166 (by decide +kernel) (by decide +kernel)), ⟨by decide +kernel, by decide +kernel⟩, by decide +kernel⟩
theorem mvL_140 : zMV RL 140 RX12 yX12_setting cX12_setting 2 (some .int) 1 := ⟨(zin 1832 (by decide +kernel) (by decide +kernel)), (zin 1833 (by decide +kernel) (by decide +kernel)), (zin 1834 (by decide +kernel) (by decide +kernel)), (zin 129 (by decide +kernel) (by decide +kernel)), (zin 1835 (by decide +kernel) (by decide +kernel)), rfl, ⟨by decide +kernel, by decide +kernel⟩, by decide +kernel⟩
theorem mtL_141 : zMT RL 141 yL_terminal cL_terminal 5 [(0, 10, 13, 25), (0, 10, 17, 13)] 4 := ⟨(zin 1171 (by decide +kernel) (by decide +kernel)), (zin 1172 (by decide +kernel) (by decide +kernel)), (zin 111 (by decide +kernel) (by decide +kernel)), (zin 1173 (by decide +kernel) (by decide +kernel)), ⟨by decide +kernel, by decide +kernel⟩, by decide +kernel⟩
theorem mvL_144 : zMV RL 144 RX12 yX12_terminal cX12_terminal 3 (some .int) 2 := ⟨(zin 1836 (by decide +kernel) (by decide +kernel)), (zin 1837 (by decide +kernel) (by decide +kernel)), (zin 1838 (by decide +kernel) (by decide +kernel)), (zin 129 (by decide +kernel) (by decide +kernel)), (zin 1839 (by decide +kernel) (by decide +kernel)), rfl, ⟨by decide +kernel, by decide +kernel⟩, by decide +kernel⟩
theorem mtL_145 : zMT RL 145 yL_nameLetter cL_nameLetter 5 [(0, 10, 13, 25)] 4 := ⟨(zin 1199 (by decide +kernel) (by decide +kernel)), (zin 1200 (by decide +kernel) (by decide +kernel)), (zin 111 (by decide +kernel) (by decide +kernel)), (zin 1201 (by decide +kernel) (by decide +kernel)), ⟨by decide +kernel, by decide +kernel⟩, by decide +kernel⟩
theorem mvL_147 : zMV RL 147 RX12 yX12_nameLetter cX12_nameLetter 3 (some .int) 2 := ⟨(zin 1852 (by decide +kernel) (by decide +kernel)), (zin 1853 (by decide +kernel) (by decide +kernel)), (zin 1854 (by decide +kernel) (by decide +kernel)), (zin 129 (by decide +kernel) (by decide +kernel)), (zin 1855 (by decide +kernel) (by decide +kernel)), rfl, ⟨by decide +kernel, by decide +kernel⟩, by decide +kernel⟩
theorem mtL_148 : zMT RL 148 yL_message cL_message 5 [(0, 10, 13, 25), (0, 10, 17, 13)] 4 := ⟨(zin 1206 (by decide +kernel) (by decide +kernel)), (zin 1207 (by decide +kernel) (by decide +kernel)), (zin 111 (by decide +kernel) (by decide +kernel)), (zin 1208 (by decide +kernel) (by decide +kernel)), ⟨by decide +kernel, by decide +kernel⟩, by decide +kernel⟩
theorem mvL_150 : zMV RL 150 RX12 yX12_message cX12_message 3 (some .int) 2 := ⟨(zin 1862 (by decide +kernel) (by decide +kernel)), (zin 1863 (by decide +kernel) (by decide +kernel)), (zin 1864 (by decide +kernel) (by decide +kernel)), (zin 129 (by decide +kernel) (by decide +kernel)), (zin 1865 (by decide +kernel) (by decide +kernel)), rfl, ⟨by decide +kernel, by decide +kernel⟩, by decide +kernel⟩
theorem mtL_151 : zMT RL 151 yL_inRow cL_inRow 6 [(0, 12, 15, 25), (0, 12, 19, 13)] 5 := ⟨(zin 1214 (by decide +kernel) (by decide +kernel)), (zin 1215 (by decide +kernel) (by decide +kernel)), (zin 111 (by decide +kernel) (by decide +kernel)), (zin 1216 (by decide +kernel) (by decide +kernel)), ⟨by decide +kernel, by decide +kernel⟩, by decide +kernel⟩
theorem mvL_154 : zMV RL 154 RX12 yX12_inRow cX12_inRow 4 (some .int) 3 := ⟨(zin 1866 (by decide +kernel) (by decide +kernel)), (zin 1867 (by decide +kernel) (by decide +kernel)), (zin 1868 (by decide +kernel) (by decide +kernel)), (zin 129 (by decide +kernel) (by decide +kernel)), (zin 1869 (by decide +kernel) (by decide +kernel)), rfl, ⟨by decide +kernel, by decide +kernel⟩, by decide +kernel⟩
theorem mtL_155 : zMT RL 155 yL_place cL_place 4 [(0, 9, 12, 25)] 3 := ⟨(zin 1227 (by decide +kernel) (by decide +kernel)), (zin 1228 (by decide +kernel) (by decide +kernel)), (zin 111 (by decide +kernel) (by decide +kernel)), (zin 1229 (by decide +kernel) (by decide +kernel)), ⟨by decide +kernel, by decide +kernel⟩, by decide +kernel⟩
theorem mvL_157 : zMV RL 157 RX12 yX12_place cX12_place 2 (some .int) 1 := ⟨(zin 1870 (by decide +kernel) (by decide +kernel)), (zin 1871 (by decide +kernel) (by decide +kernel)), (zin 1872 (by decide +kernel) (by decide +kernel)), (zin 129 (by decide +kernel) (by decide +kernel)), (zin 1873 (by decide +kernel) (by decide +kernel)), rfl, ⟨by decide +kernel, by decide +kernel⟩, by decide +kernel⟩
theorem mvL_158 : zMV RL 158 RX11 yX11_off cX11_off 3 (some .int) 0 := ⟨(zin 995 (by decide +kernel) (by decide +kernel)), (zin 996 (by decide +kernel) (by decide +kernel)), (zin 997 (by decide +kernel) (by decide +kernel)), (zin 112 (by decide +kernel) (by decide +kernel)), (zin 998 (by decide +kernel) (by decide +kernel)), rfl, ⟨by decide +kernel, by decide +kernel⟩, by decide +kernel⟩
theorem mvL_161 : zMV RL 161 RX12 yX12_off cX12_off 3 (some .int) 0 := ⟨(zin 1874 (by decide +kernel) (by decide +kernel)), (zin 1875 (by decide +kernel) (by decide +kernel)), (zin 1876 (by decide +kernel) (by decide +kernel)), (zin 129 (by decide +kernel) (by decide +kernel)), (zin 1877 (by decide +kernel) (by decide +kernel)), rfl, ⟨by decide +kernel, by decide +kernel⟩, by decide +kernel⟩
theorem mtL_162 : zMT RL 162 yL_turn cL_turn 5 [(0, 10, 13, 25), (0, 10, 17, 13)] 4 := ⟨(zin 1235 (by decide +kernel) (by decide +kernel)), (zin 1236 (by decide +kernel) (by decide +kernel)), (zin 111 (by decide +kernel) (by decide +kernel)), (zin 1237 (by decide +kernel) (by decide +kernel)), ⟨by decide +kernel, by decide +kernel⟩, by decide +kernel⟩
theorem mvL_164 : zMV RL 164 RX12 yX12_turn cX12_turn 3 (some .int) 2 := ⟨(zin 1878 (by decide +kernel) (by decide +kernel)), (zin 1879 (by decide +kernel) (by decide +kernel)), (zin 1880 (by decide +kernel) (by decide +kernel)), (zin 129 (by decide +kernel) (by decide +kernel)), (zin 1881 (by decide +kernel) (by decide +kernel)), rfl, ⟨by decide +kernel, by decide +kernel⟩, by decide +kernel⟩
theorem mvL_165 : zMV RL 165 RX11 yX11_nextKind cX11_nextKind 1 (some .int) 0 := ⟨(zin 999 (by decide +kernel) (by decide +kernel)), (zin 1000 (by decide +kernel) (by decide +kernel)), (zin 1001 (by decide +kernel) (by decide +kernel)), (zin 112 (by decide +kernel) (by decide +kernel)), (zin 1002 (by decide +kernel) (by decide +kernel)), rfl, ⟨by decide +kernel, by decide +kernel⟩, by decide +kernel⟩
theorem mvL_168 : zMV RL 168 RX12 yX12_nextKind cX12_nextKind 1 (some .int) 0 := ⟨(zin 1882 (by decide +kernel) (by decide +kernel)), (zin 1883 (by decide +kernel) (by decide +kernel)), (zin 1884 (by decide +kernel) (by decide +kernel)), (zin 129 (by decide +kernel) (by decide +kernel)), (zin 1885 (by decide +kernel) (by decide +kernel)), rfl, ⟨by decide +kernel, by decide +kernel⟩, by decide +kernel⟩
theorem mvL_169 : zMV RL 169 RX11 yX11_nextTerminal cX11_nextTerminal 1 (some .int) 0 := ⟨(zin 1004 (by decide +kernel) (by decide +kernel)), (zin 1005 (by decide +kernel) (by decide +kernel)), (zin 1006 (by decide +kernel) (by decide +kernel)), (zin 112 (by decide +kernel) (by decide +kernel)), (zin 1007 (by decide +kernel) (by decide +kernel)), rfl, ⟨by decide +kernel, by decide +kernel⟩, by decide +kernel⟩
theorem mvL_172 : zMV RL 172 RX12 yX12_nextTerminal cX12_nextTerminal 1 (some .int) 0 := ⟨(zin 1886 (by decide +kernel) (by decide +kernel)), (zin 1887 (by decide +kernel) (by decide +kernel)), (zin 1888 (by decide +kernel) (by decide +kernel)), (zin 129 (by decide +kernel) (by decide +kernel)), (zin 1889 (by decide +kernel) (by decide +kernel)), rfl, ⟨by decide +kernel, by decide +kernel⟩, by decide +kernel⟩
theorem mvL_173 : zMV RL 173 RX11 yX11_gap cX11_gap 3 (some .int) 0 := ⟨(zin 1008 (by decide +kernel) (by decide +kernel)), (zin 1009 (by decide +kernel) (by decide +kernel)), (zin 1010 (by decide +kernel) (by decide +kernel)), (zin 112 (by decide +kernel) (by decide +kernel)), (zin 1011 (by decide +kernel) (by decide +kernel)), rfl, ⟨by decide +kernel, by decide +kernel⟩, by decide +kernel⟩
theorem mvL_176 : zMV RL 176 RX12 yX12_gap cX12_gap 1 (some .int) 0 := ⟨(zin 1890 (by decide +kernel) (by decide +kernel)), (zin 1891 (by decide +kernel) (by decide +kernel)), (zin 1892 (by decide +kernel) (by decide +kernel)), (zin 129 (by decide +kernel) (by decide +kernel)), (zin 1893 (by decide +kernel) (by decide +kernel)), rfl, ⟨by decide +kernel, by decide +kernel⟩, by decide +kernel⟩
theorem mtL_177 : zMT RL 177 yL_deliveredIn cL_deliveredIn 4 [(0, 9, 12, 13)] 3 := ⟨(zin 1246 (by decide +kernel) (by decide +kernel)), (zin 1247 (by decide +kernel) (by decide +kernel)), (zin 111 (by decide +kernel) (by decide +kernel)), (zin 1248 (by decide +kernel) (by decide +kernel)), ⟨by decide +kernel, by decide +kernel⟩, by decide +kernel⟩
theorem mvL_179 : zMV RL 179 RX12 yX12_deliveredIn cX12_deliveredIn 2 (some .int) 1 := ⟨(zin 1894 (by decide +kernel) (by decide +kernel)), (zin 1895 (by decide +kernel) (by decide +kernel)), (zin 1896 (by decide +kernel) (by decide +kernel)), (zin 129 (by decide +kernel) (by decide +kernel)), (zin 1897 (by decide +kernel) (by decide +kernel)), rfl, ⟨by decide +kernel, by decide +kernel⟩, by decide +kernel⟩
theorem mtL_180 : zMT RL 180 yL_timeIn cL_timeIn 4 [(0, 9, 12, 13)] 3 := ⟨(zin 1253 (by decide +kernel) (by decide +kernel)), (zin 1254 (by decide +kernel) (by decide +kernel)), (zin 111 (by decide +kernel) (by decide +kernel)), (zin 1255 (by decide +kernel) (by decide +kernel)), ⟨by decide +kernel, by decide +kernel⟩, by decide +kernel⟩
theorem mvL_182 : zMV RL 182 RX12 yX12_timeIn cX12_timeIn 3 (some .int) 1 := ⟨(zin 1910 (by decide +kernel) (by decide +kernel)), (zin 1911 (by decide +kernel) (by decide +kernel)), (zin 1912 (by decide +kernel) (by decide +kernel)), (zin 129 (by decide +kernel) (by decide +kernel)), (zin 1913 (by decide +kernel) (by decide +kernel)), rfl, ⟨by decide +kernel, by decide +kernel⟩, by decide +kernel⟩
theorem mtL_183 : zMT RL 183 yL_deliversIn cL_deliversIn 4 [(0, 9, 12, 25)] 3 := ⟨(zin 1260 (by decide +kernel) (by decide +kernel)), (zin 1261 (by decide +kernel) (by decide +kernel)), (zin 111 (by decide +kernel) (by decide +kernel)), (zin 1262 (by decide +kernel) (by decide +kernel)), ⟨by decide +kernel, by decide +kernel⟩, by decide +kernel⟩
theorem mvL_185 : zMV RL 185 RX12 yX12_deliversIn cX12_deliversIn 3 (some .int) 1 := ⟨(zin 1914 (by decide +kernel) (by decide +kernel)), (zin 1915 (by decide +kernel) (by decide +kernel)), (zin 1916 (by decide +kernel) (by decide +kernel)), (zin 129 (by decide +kernel) (by decide +kernel)), (zin 1917 (by decide +kernel) (by decide +kernel)), rfl, ⟨by decide +kernel, by decide +kernel⟩, by decide +kernel⟩
theorem mvL_186 : zMV RL 186 RX11 yX11_quietIn cX11_quietIn 2 (some .int) 0 := ⟨(zin 1016 (by decide +kernel) (by decide +kernel)), (zin 1017 (by decide +kernel) (by decide +kernel)), (zin 1018 (by decide +kernel) (by decide +kernel)), (zin 112 (by decide +kernel) (by decide +kernel)), (zin 1019 (by decide +kernel) (by decide +kernel)), rfl, ⟨by decide +kernel, by decide +kernel⟩, by decide +kernel⟩
theorem mvL_189 : zMV RL 189 RX12 yX12_quietIn cX12_quietIn 2 (some .int) 0 := ⟨(zin 1918 (by decide +kernel) (by decide +kernel)), (zin 1919 (by decide +kernel) (by decide +kernel)), (zin 1920 (by decide +kernel) (by decide +kernel)), (zin 129 (by decide +kernel) (by decide +kernel)), (zin 1921 (by decide +kernel) (by decide +kernel)), rfl, ⟨by decide +kernel, by decide +kernel⟩, by decide +kernel⟩
theorem mtL_190 : zMT RL 190 yL_switchesIn cL_switchesIn 4 [(0, 9, 12, 25)] 3 := ⟨(zin 1267 (by decide +kernel) (by decide +kernel)), (zin 1268 (by decide +kernel) (by decide +kernel)), (zin 111 (by decide +kernel) (by decide +kernel)), (zin 1269 (by decide +kernel) (by decide +kernel)), ⟨by decide +kernel, by decide +kernel⟩, by decide +kernel⟩
theorem mvL_192 : zMV RL 192 RX12 yX12_switchesIn cX12_switchesIn 4 (some .int) 1 := ⟨(zin 1922 (by decide +kernel) (by decide +kernel)), (zin 1923 (by decide +kernel) (by decide +kernel)), (zin 1924 (by decide +kernel) (by decide +kernel)), (zin 129 (by decide +kernel) (by decide +kernel)), (zin 1925 (by decide +kernel) (by decide +kernel)), rfl, ⟨by decide +kernel, by decide +kernel⟩, by decide +kernel⟩
theorem mtL_193 : zMT RL 193 yL_bestTries cL_bestTries 4 [(0, 9, 12, 13)] 3 := ⟨(zin 1274 (by decide +kernel) (by decide +kernel)), (zin 1275 (by decide +kernel) (by decide +kernel)), (zin 111 (by decide +kernel) (by decide +kernel)), (zin 1276 (by decide +kernel) (by decide +kernel)), ⟨by decide +kernel, by decide +kernel⟩, by decide +kernel⟩
theorem mvL_195 : zMV RL 195 RX12 yX12_bestTries cX12_bestTries 6 (some .int) 1 := ⟨(zin 1926 (by decide +kernel) (by decide +kernel)), (zin 1927 (by decide +kernel) (by decide +kernel)), (zin 1928 (by decide +kernel) (by decide +kernel)), (zin 129 (by decide +kernel) (by decide +kernel)), (zin 1929 (by decide +kernel) (by decide +kernel)), rfl, ⟨by decide +kernel, by decide +kernel⟩, by decide +kernel⟩
theorem mtL_196 : zMT RL 196 yL_lostByNoise cL_lostByNoise 4 [(0, 9, 12, 13)] 3 := ⟨(zin 1287 (by decide +kernel) (by decide +kernel)), (zin 1288 (by decide +kernel) (by decide +kernel)), (zin 111 (by decide +kernel) (by decide +kernel)), (zin 1289 (by decide +kernel) (by decide +kernel)), ⟨by decide +kernel, by decide +kernel⟩, by decide +kernel⟩
theorem mvL_198 : zMV RL 198 RX12 yX12_lostByNoise cX12_lostByNoise 3 (some .int) 1 := ⟨(zin 1934 (by decide +kernel) (by decide +kernel)), (zin 1935 (by decide +kernel) (by decide +kernel)), (zin 1936 (by decide +kernel) (by decide +kernel)), (zin 129 (by decide +kernel) (by decide +kernel)), (zin 1937 (by decide +kernel) (by decide +kernel)), rfl, ⟨by decide +kernel, by decide +kernel⟩, by decide +kernel⟩
theorem mvL_199 : zMV RL 199 RX11 yX11_worst cX11_worst 5 (some .int) 0 := ⟨(zin 1027 (by decide +kernel) (by decide +kernel)), (zin 1028 (by decide +kernel) (by decide +kernel)), (zin 1029 (by decide +kernel) (by decide +kernel)), (zin 112 (by decide +kernel) (by decide +kernel)), (zin 1030 (by decide +kernel) (by decide +kernel)), rfl, ⟨by decide +kernel, by decide +kernel⟩, by decide +kernel⟩
theorem mvL_202 : zMV RL 202 RX12 yX12_worst cX12_worst 4 (some .int) 0 := ⟨(zin 1938 (by decide +kernel) (by decide +kernel)), (zin 1939 (by decide +kernel) (by decide +kernel)), (zin 1940 (by decide +kernel) (by decide +kernel)), (zin 129 (by decide +kernel) (by decide +kernel)), (zin 1941 (by decide +kernel) (by decide +kernel)), rfl, ⟨by decide +kernel, by decide +kernel⟩, by decide +kernel⟩
theorem mtL_203 : zMT RL 203 yL_often cL_often 5 [(0, 10, 13, 25), (0, 10, 17, 13)] 4 := ⟨(zin 1294 (by decide +kernel) (by decide +kernel)), (zin 1295 (by decide +kernel) (by decide +kernel)), (zin 111 (by decide +kernel) (by decide +kernel)), (zin 1296 (by decide +kernel) (by decide +kernel)), ⟨by decide +kernel, by decide +kernel⟩, by decide +kernel⟩
theorem mvL_205 : zMV RL 205 RX12 yX12_often cX12_often 3 (some .int) 2 := ⟨(zin 1942 (by decide +kernel) (by decide +kernel)), (zin 1943 (by decide +kernel) (by decide +kernel)), (zin 1944 (by decide +kernel) (by decide +kernel)), (zin 129 (by decide +kernel) (by decide +kernel)), (zin 1945 (by decide +kernel) (by decide +kernel)), rfl, ⟨by decide +kernel, by decide +kernel⟩, by decide +kernel⟩
theorem mvL_206 : zMV RL 206 RX11 yX11_meanTime cX11_meanTime 2 (some .double) 0 := ⟨(zin 1035 (by decide +kernel) (by decide +kernel)), (zin 1036 (by decide +kernel) (by decide +kernel)), (zin 1037 (by decide +kernel) (by decide +kernel)), (zin 112 (by decide +kernel) (by decide +kernel)), (zin 1038 (by decide +kernel) (by decide +kernel)), rfl, ⟨by decide +kernel, by decide +kernel⟩, by decide +kernel⟩
theorem mvL_210 : zMV RL 210 RX12 yX12_meanTime cX12_meanTime 3 (some .double) 0 := ⟨(zin 1946 (by decide +kernel) (by decide +kernel)), (zin 1947 (by decide +kernel) (by decide +kernel)), (zin 1948 (by decide +kernel) (by decide +kernel)), (zin 129 (by decide +kernel) (by decide +kernel)), (zin 1949 (by decide +kernel) (by decide +kernel)), rfl, ⟨by decide +kernel, by decide +kernel⟩, by decide +kernel⟩
theorem mvL_211 : zMV RL 211 RX11 yX11_clearShare cX11_clearShare 2 (some .float) 0 := ⟨(zin 1043 (by decide +kernel) (by decide +kernel)), (zin 1044 (by decide +kernel) (by decide +kernel)), (zin 1045 (by decide +kernel) (by decide +kernel)), (zin 112 (by decide +kernel) (by decide +kernel)), (zin 1046 (by decide +kernel) (by decide +kernel)), rfl, ⟨by decide +kernel, by decide +kernel⟩, by decide +kernel⟩
theorem mvL_215 : zMV RL 215 RX12 yX12_clearShare cX12_clearShare 2 (some .float) 0 := ⟨(zin 1950 (by decide +kernel) (by decide +kernel)), (zin 1951 (by decide +kernel) (by decide +kernel)), (zin 1952 (by decide +kernel) (by decide +kernel)), (zin 129 (by decide +kernel) (by decide +kernel)), (zin 1953 (by decide +kernel) (by decide +kernel)), rfl, ⟨by decide +kernel, by decide +kernel⟩, by decide +kernel⟩
theorem mtL_216 : zMT RL 216 yL_post cL_post 6 [(0, 12, 15, 25), (0, 12, 19, 13), (0, 12, 23, 67)] 5 := ⟨(zin 1301 (by decide +kernel) (by decide +kernel)), (zin 1302 (by decide +kernel) (by decide +kernel)), (zin 111 (by decide +kernel) (by decide +kernel)), (zin 1303 (by decide +kernel) (by decide +kernel)), ⟨by decide +kernel, by decide +kernel⟩, by decide +kernel⟩
theorem mvL_218 : zMV RL 218 RX12 yX12_post cX12_post 5 (some .int) 3 := ⟨(zin 1954 (by decide +kernel) (by decide +kernel)), (zin 1955 (by decide +kernel) (by decide +kernel)), (zin 1956 (by decide +kernel) (by decide +kernel)), (zin 129 (by decide +kernel) (by decide +kernel)), (zin 1957 (by decide +kernel) (by decide +kernel)), rfl, ⟨by decide +kernel, by decide +kernel⟩, by decide +kernel⟩
theorem mtL_219 : zMT RL 219 yL_kill cL_kill 4 [(0, 9, 12, 25)] 3 := ⟨(zin 1328 (by decide +kernel) (by decide +kernel)), (zin 1329 (by decide +kernel) (by decide +kernel)), (zin 111 (by decide +kernel) (by decide +kernel)), (zin 1330 (by decide +kernel) (by decide +kernel)), ⟨by decide +kernel, by decide +kernel⟩, by decide +kernel⟩
theorem mvL_221 : zMV RL 221 RX12 yX12_kill cX12_kill 2 (some .int) 1 := ⟨(zin 1962 (by decide +kernel) (by decide +kernel)), (zin 1963 (by decide +kernel) (by decide +kernel)), (zin 1964 (by decide +kernel) (by decide +kernel)), (zin 129 (by decide +kernel) (by decide +kernel)), (zin 1965 (by decide +kernel) (by decide +kernel)), rfl, ⟨by decide +kernel, by decide +kernel⟩, by decide +kernel⟩
theorem mtL_222 : zMT RL 222 yL_wake cL_wake 4 [(0, 9, 12, 25)] 3 := ⟨(zin 1335 (by decide +kernel) (by decide +kernel)), (zin 1336 (by decide +kernel) (by decide +kernel)), (zin 111 (by decide +kernel) (by decide +kernel)), (zin 1337 (by decide +kernel) (by decide +kernel)), ⟨by decide +kernel, by decide +kernel⟩, by decide +kernel⟩
theorem mvL_224 : zMV RL 224 RX12 yX12_wake cX12_wake 2 (some .int) 1 := ⟨(zin 1966 (by decide +kernel) (by decide +kernel)), (zin 1967 (by decide +kernel) (by decide +kernel)), (zin 1968 (by decide +kernel) (by decide +kernel)), (zin 129 (by decide +kernel) (by decide +kernel)), (zin 1969 (by decide +kernel) (by decide +kernel)), rfl, ⟨by decide +kernel, by decide +kernel⟩, by decide +kernel⟩
theorem mtL_225 : zMT RL 225 yL_run cL_run 4 [(0, 9, 12, 13)] 3 := ⟨(zin 1342 (by decide +kernel) (by decide +kernel)), (zin 1343 (by decide +kernel) (by decide +kernel)), (zin 111 (by decide +kernel) (by decide +kernel)), (zin 1344 (by decide +kernel) (by decide +kernel)), ⟨by decide +kernel, by decide +kernel⟩, by decide +kernel⟩
theorem mvL_227 : zMV RL 227 RX12 yX12_run cX12_run 2 (some .int) 1 := ⟨(zin 1970 (by decide +kernel) (by decide +kernel)), (zin 1971 (by decide +kernel) (by decide +kernel)), (zin 1972 (by decide +kernel) (by decide +kernel)), (zin 129 (by decide +kernel) (by decide +kernel)), (zin 1973 (by decide +kernel) (by decide +kernel)), rfl, ⟨by decide +kernel, by decide +kernel⟩, by decide +kernel⟩
theorem mtL_228 : zMT RL 228 yL_addPlace cL_addPlace 4 [(0, 9, 12, 25), (0, 9, 15, 67)] 3 := ⟨(zin 1349 (by decide +kernel) (by decide +kernel)), (zin 1350 (by decide +kernel) (by decide +kernel)), (zin 111 (by decide +kernel) (by decide +kernel)), (zin 1351 (by decide +kernel) (by decide +kernel)), ⟨by decide +kernel, by decide +kernel⟩, by decide +kernel⟩
theorem mvL_230 : zMV RL 230 RX12 yX12_addPlace cX12_addPlace 2 (some .int) 1 := ⟨(zin 1974 (by decide +kernel) (by decide +kernel)), (zin 1975 (by decide +kernel) (by decide +kernel)), (zin 1976 (by decide +kernel) (by decide +kernel)), (zin 129 (by decide +kernel) (by decide +kernel)), (zin 1977 (by decide +kernel) (by decide +kernel)), rfl, ⟨by decide +kernel, by decide +kernel⟩, by decide +kernel⟩
theorem mtL_231 : zMT RL 231 yL_dropPlace cL_dropPlace 4 [(0, 9, 12, 25)] 3 := ⟨(zin 1356 (by decide +kernel) (by decide +kernel)), (zin 1357 (by decide +kernel) (by decide +kernel)), (zin 111 (by decide +kernel) (by decide +kernel)), (zin 1358 (by decide +kernel) (by decide +kernel)), ⟨by decide +kernel, by decide +kernel⟩, by decide +kernel⟩
theorem mvL_233 : zMV RL 233 RX12 yX12_dropPlace cX12_dropPlace 2 (some .int) 1 := ⟨(zin 1978 (by decide +kernel) (by decide +kernel)), (zin 1979 (by decide +kernel) (by decide +kernel)), (zin 1980 (by decide +kernel) (by decide +kernel)), (zin 129 (by decide +kernel) (by decide +kernel)), (zin 1981 (by decide +kernel) (by decide +kernel)), rfl, ⟨by decide +kernel, by decide +kernel⟩, by decide +kernel⟩
theorem mtL_234 : zMT RL 234 yL_set cL_set 5 [(0, 10, 13, 13)] 4 := ⟨(zin 1363 (by decide +kernel) (by decide +kernel)), (zin 1364 (by decide +kernel) (by decide +kernel)), (zin 111 (by decide +kernel) (by decide +kernel)), (zin 1365 (by decide +kernel) (by decide +kernel)), ⟨by decide +kernel, by decide +kernel⟩, by decide +kernel⟩
theorem mvL_236 : zMV RL 236 RX12 yX12_set cX12_set 5 (some .int) 2 := ⟨(zin 1982 (by decide +kernel) (by decide +kernel)), (zin 1983 (by decide +kernel) (by decide +kernel)), (zin 1984 (by decide +kernel) (by decide +kernel)), (zin 129 (by decide +kernel) (by decide +kernel)), (zin 1985 (by decide +kernel) (by decide +kernel)), rfl, ⟨by decide +kernel, by decide +kernel⟩, by decide +kernel⟩
theorem mtL_237 : zMT RL 237 yL_undo cL_undo 3 [(0, 8, 11, 91)] 2 := ⟨(zin 1370 (by decide +kernel) (by decide +kernel)), (zin 1371 (by decide +kernel) (by decide +kernel)), (zin 111 (by decide +kernel) (by decide +kernel)), (zin 1372 (by decide +kernel) (by decide +kernel)), ⟨by decide +kernel, by decide +kernel⟩, by decide +kernel⟩
theorem mvL_240 : zMV RL 240 RX12 yX12_undo cX12_undo 1 (some .int) 0 := ⟨(zin 1986 (by decide +kernel) (by decide +kernel)), (zin 1987 (by decide +kernel) (by decide +kernel)), (zin 1988 (by decide +kernel) (by decide +kernel)), (zin 129 (by decide +kernel) (by decide +kernel)), (zin 1989 (by decide +kernel) (by decide +kernel)), rfl, ⟨by decide +kernel, by decide +kernel⟩, by decide +kernel⟩
theorem mvL_241 : zMV RL 241 RX11 yX11_printTerminals cX11_printTerminals 3 (some .int) 0 := ⟨(zin 1047 (by decide +kernel) (by decide +kernel)), (zin 1048 (by decide +kernel) (by decide +kernel)), (zin 1049 (by decide +kernel) (by decide +kernel)), (zin 112 (by decide +kernel) (by decide +kernel)), (zin 1050 (by decide +kernel) (by decide +kernel)), rfl, ⟨by decide +kernel, by decide +kernel⟩, by decide +kernel⟩
theorem mvL_244 : zMV RL 244 RX12 yX12_printTerminals cX12_printTerminals 3 (some .int) 0 := ⟨(zin 1990 (by decide +kernel) (by decide +kernel)), (zin 1991 (by decide +kernel) (by decide +kernel)), (zin 1992 (by decide +kernel) (by decide +kernel)), (zin 129 (by decide +kernel) (by decide +kernel)), (zin 1993 (by decide +kernel) (by decide +kernel)), rfl, ⟨by decide +kernel, by decide +kernel⟩, by decide +kernel⟩
theorem mvL_245 : zMV RL 245 RX11 yX11_printList cX11_printList 2 (some .int) 0 := ⟨(zin 1069 (by decide +kernel) (by decide +kernel)), (zin 1070 (by decide +kernel) (by decide +kernel)), (zin 1071 (by decide +kernel) (by decide +kernel)), (zin 112 (by decide +kernel) (by decide +kernel)), (zin 1072 (by decide +kernel) (by decide +kernel)), rfl, ⟨by decide +kernel, by decide +kernel⟩, by decide +kernel⟩
theorem mvL_248 : zMV RL 248 RX12 yX12_printList cX12_printList 2 (some .int) 0 := ⟨(zin 2006 (by decide +kernel) (by decide +kernel)), (zin 2007 (by decide +kernel) (by decide +kernel)), (zin 2008 (by decide +kernel) (by decide +kernel)), (zin 129 (by decide +kernel) (by decide +kernel)), (zin 2009 (by decide +kernel) (by decide +kernel)), rfl, ⟨by decide +kernel, by decide +kernel⟩, by decide +kernel⟩
theorem mvL_249 : zMV RL 249 RX11 yX11_outputByte cX11_outputByte 2 (some .int) 1 := ⟨(zin 1073 (by decide +kernel) (by decide +kernel)), (zin 1074 (by decide +kernel) (by decide +kernel)), (zin 1075 (by decide +kernel) (by decide +kernel)), (zin 112 (by decide +kernel) (by decide +kernel)), (zin 1076 (by decide +kernel) (by decide +kernel)), rfl, ⟨by decide +kernel, by decide +kernel⟩, by decide +kernel⟩
theorem mvL_252 : zMV RL 252 RX12 yX12_outputByte cX12_outputByte 2 (some .int) 1 := ⟨(zin 2010 (by decide +kernel) (by decide +kernel)), (zin 2011 (by decide +kernel) (by decide +kernel)), (zin 2012 (by decide +kernel) (by decide +kernel)), (zin 129 (by decide +kernel) (by decide +kernel)), (zin 2013 (by decide +kernel) (by decide +kernel)), rfl, ⟨by decide +kernel, by decide +kernel⟩, by decide +kernel⟩
theorem mvL_253 : zMV RL 253 RX11 yX11_saveState cX11_saveState 1 (some .int) 0 := ⟨(zin 1077 (by decide +kernel) (by decide +kernel)), (zin 1078 (by decide +kernel) (by decide +kernel)), (zin 1079 (by decide +kernel) (by decide +kernel)), (zin 112 (by decide +kernel) (by decide +kernel)), (zin 1080 (by decide +kernel) (by decide +kernel)), rfl, ⟨by decide +kernel, by decide +kernel⟩, by decide +kernel⟩
theorem mvL_256 : zMV RL 256 RX12 yX12_saveState cX12_saveState 1 (some .int) 0 := ⟨(zin 2014 (by decide +kernel) (by decide +kernel)), (zin 2015 (by decide +kernel) (by decide +kernel)), (zin 2016 (by decide +kernel) (by decide +kernel)), (zin 129 (by decide +kernel) (by decide +kernel)), (zin 2017 (by decide +kernel) (by decide +kernel)), rfl, ⟨by decide +kernel, by decide +kernel⟩, by decide +kernel⟩
theorem mtL_257 : zMT RL 257 yL_restoreState cL_restoreState 3 [(0, 8, 11, 91)] 2 := ⟨(zin 1397 (by decide +kernel) (by decide +kernel)), (zin 1398 (by decide +kernel) (by decide +kernel)), (zin 111 (by decide +kernel) (by decide +kernel)), (zin 1399 (by decide +kernel) (by decide +kernel)), ⟨by decide +kernel, by decide +kernel⟩, by decide +kernel⟩
theorem mvL_259 : zMV RL 259 RX12 yX12_restoreState cX12_restoreState 1 (some .int) 0 := ⟨(zin 2018 (by decide +kernel) (by decide +kernel)), (zin 2019 (by decide +kernel) (by decide +kernel)), (zin 2020 (by decide +kernel) (by decide +kernel)), (zin 129 (by decide +kernel) (by decide +kernel)), (zin 2021 (by decide +kernel) (by decide +kernel)), rfl, ⟨by decide +kernel, by decide +kernel⟩, by decide +kernel⟩
theorem lawc_0 {V : zW} {X : zX} {b N : Nat} {xs : Nat → Int32} (hT : zo11 V) (hM : zo12 V) (hO : zsh V 399 = some (4, 1, zk0)) (C : zOk V X cL_law RL 9 room_1 ret) (LX : zLX V X b N xs) (hN : N < 3073) {i : Int} (hi : 0 ≤ i ∧ i + 6 ≤ (N : Int)) {k n : Nat} (hk : k + 1 ≤ 601024 ∧ n + 6 ≤ 7293034) {d : zD} (hg : GR d d) (next : ∀ d', GR d' d' → zP V X 9 (k + 1) (n + 6) 2100 [some (.ref b), some (.ref (zad V 0)), some (.ref (zad V 400)), some (.ref (zad V 399)), some (.int (zI i)), none, none, none, none] [] d') : zP V X 9 k n 228 [some (.ref b), some (.ref (zad V 0)), some (.ref (zad V 400)), some (.ref (zad V 399)), some (.int (zI i)), none, none, none, none] [] d := by
  have hkn : k ≤ room_1.cells ∧ n ≤ room_1.slots := ⟨by show k ≤ 601024; omega, by show n ≤ 7293034; omega⟩
  have hkn1 : k + 1 ≤ room_1.cells ∧ n + 6 ≤ room_1.slots := ⟨by show k + 1 ≤ 601024; omega, by show n + 6 ≤ 7293034; omega⟩
  refine zP_R fun hR => ?_
  obtain ⟨v, dc, ds', h1, h2, hg', hv⟩ := GO_runA (G_appendInput ((xs (i + 1).toNat).toInt) ((xs (i + 2).toNat).toInt) ((xs (i + 3).toNat).toInt) ((xs (i + 4).toNat).toInt) ((xs (i + 5).toNat).toInt)) hg hR
  refine zP_aload_n (pc := 228) C (x := zad V 0) dL_law_228 rfl rfl ?_
  refine zP_arg (pc := 229) (i := i) (z := 1) C LX dL_law_229 dL_law_230 dL_law_232 dL_law_233 dL_law_234 rfl rfl hN ⟨by omega, by omega⟩ ?_
  refine zP_arg (pc := 235) (i := i) (z := 2) C LX dL_law_235 dL_law_236 dL_law_238 dL_law_239 dL_law_240 rfl rfl hN ⟨by omega, by omega⟩ ?_
  refine zP_arg (pc := 241) (i := i) (z := 3) C LX dL_law_241 dL_law_242 dL_law_244 dL_law_245 dL_law_246 rfl rfl hN ⟨by omega, by omega⟩ ?_
  refine zP_arg (pc := 247) (i := i) (z := 4) C LX dL_law_247 dL_law_248 dL_law_250 dL_law_251 dL_law_252 rfl rfl hN ⟨by omega, by omega⟩ ?_
  refine zP_arg (pc := 253) (i := i) (z := 5) C LX dL_law_253 dL_law_254 dL_law_256 dL_law_257 dL_law_258 rfl rfl hN ⟨by omega, by omega⟩ ?_
  refine zP_callV (pc := 259) (As := [.int (zI (xs (i + 1).toNat).toInt), .int (zI (xs (i + 2).toNat).toInt), .int (zI (xs (i + 3).toNat).toInt), .int (zI (xs (i + 4).toNat).toInt), .int (zI (xs (i + 5).toNat).toInt)]) (st := []) C mvL_100 dL_law_259 (s_X11 hT) rfl (t_X11_appendInput hT (zR_of _) (zR_of _) (zR_of _) (zR_of _) (zR_of _) h1) ⟨Nat.le_of_ble_eq_true rfl, Nat.le_of_ble_eq_true rfl⟩ rfl (Nat.le_of_ble_eq_true rfl) hkn fun _ => ?_
  show zP V X 9 k n 262 _ [.int (zI v)] dc
  refine zP_aload_n (pc := 262) C (x := zad V 400) dL_law_262 rfl rfl ?_
  refine zP_arg (pc := 263) (i := i) (z := 1) C LX dL_law_263 dL_law_264 dL_law_266 dL_law_267 dL_law_268 rfl rfl hN ⟨by omega, by omega⟩ ?_
  refine zP_arg (pc := 269) (i := i) (z := 2) C LX dL_law_269 dL_law_270 dL_law_272 dL_law_273 dL_law_274 rfl rfl hN ⟨by omega, by omega⟩ ?_
  refine zP_arg (pc := 275) (i := i) (z := 3) C LX dL_law_275 dL_law_276 dL_law_278 dL_law_279 dL_law_280 rfl rfl hN ⟨by omega, by omega⟩ ?_
  refine zP_arg (pc := 281) (i := i) (z := 4) C LX dL_law_281 dL_law_282 dL_law_284 dL_law_285 dL_law_286 rfl rfl hN ⟨by omega, by omega⟩ ?_
  refine zP_arg (pc := 287) (i := i) (z := 5) C LX dL_law_287 dL_law_288 dL_law_290 dL_law_291 dL_law_292 rfl rfl hN ⟨by omega, by omega⟩ ?_
  refine zP_callV (pc := 293) (As := [.int (zI (xs (i + 1).toNat).toInt), .int (zI (xs (i + 2).toNat).toInt), .int (zI (xs (i + 3).toNat).toInt), .int (zI (xs (i + 4).toNat).toInt), .int (zI (xs (i + 5).toNat).toInt)]) (st := [.int (zI v)]) C mvL_104 dL_law_293 (s_X12 hM) rfl (t_X12_appendInput hM (zR_of _) (zR_of _) (zR_of _) (zR_of _) (zR_of _) h2) ⟨Nat.le_of_ble_eq_true rfl, Nat.le_of_ble_eq_true rfl⟩ rfl (Nat.le_of_ble_eq_true rfl) hkn fun _ => ?_
  show zP V X 9 k n 296 _ [.int (zI v), .int (zI v)] ds'
  refine zP_icmp_eq (β := Unit) (r := ()) (A := some ()) (B := some ()) (pc := 296) (tgt := 2100) (x := v) (y := v) C dL_law_296 rfl hv hv (by split <;> rfl) (fun _ _ => ?_) (fun h _ => absurd rfl h)
  exact zP_wide (Nat.le_add_right _ _) (Nat.le_add_right _ _) (next _ hg')
theorem lawc_1 {V : zW} {X : zX} {b N : Nat} {xs : Nat → Int32} (hT : zo11 V) (hM : zo12 V) (hO : zsh V 399 = some (4, 1, zk0)) (C : zOk V X cL_law RL 9 room_1 ret) (LX : zLX V X b N xs) (hN : N < 3073) {i : Int} (hi : 0 ≤ i ∧ i + 6 ≤ (N : Int)) {k n : Nat} (hk : k + 1 ≤ 601024 ∧ n + 6 ≤ 7293034) {d : zD} (hg : GR d d) (next : ∀ d', GR d' d' → zP V X 9 (k + 1) (n + 6) 2100 [some (.ref b), some (.ref (zad V 0)), some (.ref (zad V 400)), some (.ref (zad V 399)), some (.int (zI i)), none, none, none, none] [] d') : zP V X 9 k n 301 [some (.ref b), some (.ref (zad V 0)), some (.ref (zad V 400)), some (.ref (zad V 399)), some (.int (zI i)), none, none, none, none] [] d := by
  have hkn : k ≤ room_1.cells ∧ n ≤ room_1.slots := ⟨by show k ≤ 601024; omega, by show n ≤ 7293034; omega⟩
  have hkn1 : k + 1 ≤ room_1.cells ∧ n + 6 ≤ room_1.slots := ⟨by show k + 1 ≤ 601024; omega, by show n + 6 ≤ 7293034; omega⟩
  refine zP_R fun hR => ?_
  obtain ⟨v, dc, ds', h1, h2, hg', hv⟩ := GO_runA (G_truncateInput ((xs (i + 1).toNat).toInt)) hg hR
  refine zP_aload_n (pc := 301) C (x := zad V 0) dL_law_301 rfl rfl ?_
  refine zP_arg (pc := 302) (i := i) (z := 1) C LX dL_law_302 dL_law_303 dL_law_305 dL_law_306 dL_law_307 rfl rfl hN ⟨by omega, by omega⟩ ?_
  refine zP_callV (pc := 308) (As := [.int (zI (xs (i + 1).toNat).toInt)]) (st := []) C mvL_105 dL_law_308 (s_X11 hT) rfl (t_X11_truncateInput hT (zR_of _) h1) ⟨Nat.le_of_ble_eq_true rfl, Nat.le_of_ble_eq_true rfl⟩ rfl (Nat.le_of_ble_eq_true rfl) hkn fun _ => ?_
  show zP V X 9 k n 311 _ [.int (zI v)] dc
  refine zP_aload_n (pc := 311) C (x := zad V 400) dL_law_311 rfl rfl ?_
  refine zP_arg (pc := 312) (i := i) (z := 1) C LX dL_law_312 dL_law_313 dL_law_315 dL_law_316 dL_law_317 rfl rfl hN ⟨by omega, by omega⟩ ?_
  refine zP_callV (pc := 318) (As := [.int (zI (xs (i + 1).toNat).toInt)]) (st := [.int (zI v)]) C mvL_109 dL_law_318 (s_X12 hM) rfl (t_X12_truncateInput hM (zR_of _) h2) ⟨Nat.le_of_ble_eq_true rfl, Nat.le_of_ble_eq_true rfl⟩ rfl (Nat.le_of_ble_eq_true rfl) hkn fun _ => ?_
  show zP V X 9 k n 321 _ [.int (zI v), .int (zI v)] ds'
  refine zP_icmp_eq (β := Unit) (r := ()) (A := some ()) (B := some ()) (pc := 321) (tgt := 2100) (x := v) (y := v) C dL_law_321 rfl hv hv (by split <;> rfl) (fun _ _ => ?_) (fun h _ => absurd rfl h)
  exact zP_wide (Nat.le_add_right _ _) (Nat.le_add_right _ _) (next _ hg')
theorem lawc_2 {V : zW} {X : zX} {b N : Nat} {xs : Nat → Int32} (hT : zo11 V) (hM : zo12 V) (hO : zsh V 399 = some (4, 1, zk0)) (C : zOk V X cL_law RL 9 room_1 ret) (LX : zLX V X b N xs) (hN : N < 3073) {i : Int} (hi : 0 ≤ i ∧ i + 6 ≤ (N : Int)) {k n : Nat} (hk : k + 1 ≤ 601024 ∧ n + 6 ≤ 7293034) {d : zD} (hg : GR d d) (next : ∀ d', GR d' d' → zP V X 9 (k + 1) (n + 6) 2100 [some (.ref b), some (.ref (zad V 0)), some (.ref (zad V 400)), some (.ref (zad V 399)), some (.int (zI i)), none, none, none, none] [] d') : zP V X 9 k n 326 [some (.ref b), some (.ref (zad V 0)), some (.ref (zad V 400)), some (.ref (zad V 399)), some (.int (zI i)), none, none, none, none] [] d := by
  have hkn : k ≤ room_1.cells ∧ n ≤ room_1.slots := ⟨by show k ≤ 601024; omega, by show n ≤ 7293034; omega⟩
  have hkn1 : k + 1 ≤ room_1.cells ∧ n + 6 ≤ room_1.slots := ⟨by show k + 1 ≤ 601024; omega, by show n + 6 ≤ 7293034; omega⟩
  refine zP_R fun hR => ?_
  obtain ⟨v, dc, ds', h1, h2, hg', hv⟩ := GO_runA (G_loadLine) hg hR
  refine zP_aload_n (pc := 326) C (x := zad V 0) dL_law_326 rfl rfl ?_
  refine zP_callV (pc := 327) (As := []) (st := []) C mvL_110 dL_law_327 (s_X11 hT) rfl (t_X11_loadLine hT h1) ⟨Nat.le_of_ble_eq_true rfl, Nat.le_of_ble_eq_true rfl⟩ rfl (Nat.le_of_ble_eq_true rfl) hkn fun _ => ?_
  show zP V X 9 k n 330 _ [.int (zI v)] dc
  refine zP_aload_n (pc := 330) C (x := zad V 400) dL_law_330 rfl rfl ?_
  refine zP_callV (pc := 331) (As := []) (st := [.int (zI v)]) C mvL_113 dL_law_331 (s_X12 hM) rfl (t_X12_loadLine hM h2) ⟨Nat.le_of_ble_eq_true rfl, Nat.le_of_ble_eq_true rfl⟩ rfl (Nat.le_of_ble_eq_true rfl) hkn fun _ => ?_
  show zP V X 9 k n 334 _ [.int (zI v), .int (zI v)] ds'
  refine zP_icmp_eq (β := Unit) (r := ()) (A := some ()) (B := some ()) (pc := 334) (tgt := 2100) (x := v) (y := v) C dL_law_334 rfl hv hv (by split <;> rfl) (fun _ _ => ?_) (fun h _ => absurd rfl h)
  exact zP_wide (Nat.le_add_right _ _) (Nat.le_add_right _ _) (next _ hg')
theorem lawc_3 {V : zW} {X : zX} {b N : Nat} {xs : Nat → Int32} (hT : zo11 V) (hM : zo12 V) (hO : zsh V 399 = some (4, 1, zk0)) (C : zOk V X cL_law RL 9 room_1 ret) (LX : zLX V X b N xs) (hN : N < 3073) {i : Int} (hi : 0 ≤ i ∧ i + 6 ≤ (N : Int)) {k n : Nat} (hk : k + 1 ≤ 601024 ∧ n + 6 ≤ 7293034) {d : zD} (hg : GR d d) (next : ∀ d', GR d' d' → zP V X 9 (k + 1) (n + 6) 2100 [some (.ref b), some (.ref (zad V 0)), some (.ref (zad V 400)), some (.ref (zad V 399)), some (.int (zI i)), none, none, none, none] [] d') : zP V X 9 k n 339 [some (.ref b), some (.ref (zad V 0)), some (.ref (zad V 400)), some (.ref (zad V 399)), some (.int (zI i)), none, none, none, none] [] d := by
  have hkn : k ≤ room_1.cells ∧ n ≤ room_1.slots := ⟨by show k ≤ 601024; omega, by show n ≤ 7293034; omega⟩
  have hkn1 : k + 1 ≤ room_1.cells ∧ n + 6 ≤ room_1.slots := ⟨by show k + 1 ≤ 601024; omega, by show n + 6 ≤ 7293034; omega⟩
  refine zP_R fun hR => ?_
  obtain ⟨v, dc, ds', h1, h2, hg', hv⟩ := GO_runA (G_playScript) hg hR
  refine zP_aload_n (pc := 339) C (x := zad V 0) dL_law_339 rfl rfl ?_
  refine zP_callV (pc := 340) (As := []) (st := []) C mvL_114 dL_law_340 (s_X11 hT) rfl (t_X11_playScript hT h1) ⟨Nat.le_of_ble_eq_true rfl, Nat.le_of_ble_eq_true rfl⟩ rfl (Nat.le_of_ble_eq_true rfl) hkn fun _ => ?_
  show zP V X 9 k n 343 _ [.int (zI v)] dc
  refine zP_aload_n (pc := 343) C (x := zad V 400) dL_law_343 rfl rfl ?_
  refine zP_callV (pc := 344) (As := []) (st := [.int (zI v)]) C mvL_117 dL_law_344 (s_X12 hM) rfl (t_X12_playScript hM h2) ⟨Nat.le_of_ble_eq_true rfl, Nat.le_of_ble_eq_true rfl⟩ rfl (Nat.le_of_ble_eq_true rfl) hkn fun _ => ?_
  show zP V X 9 k n 347 _ [.int (zI v), .int (zI v)] ds'
  refine zP_icmp_eq (β := Unit) (r := ()) (A := some ()) (B := some ()) (pc := 347) (tgt := 2100) (x := v) (y := v) C dL_law_347 rfl hv hv (by split <;> rfl) (fun _ _ => ?_) (fun h _ => absurd rfl h)
  exact zP_wide (Nat.le_add_right _ _) (Nat.le_add_right _ _) (next _ hg')
theorem lawc_4 {V : zW} {X : zX} {b N : Nat} {xs : Nat → Int32} (hT : zo11 V) (hM : zo12 V) (hO : zsh V 399 = some (4, 1, zk0)) (C : zOk V X cL_law RL 9 room_1 ret) (LX : zLX V X b N xs) (hN : N < 3073) {i : Int} (hi : 0 ≤ i ∧ i + 6 ≤ (N : Int)) {k n : Nat} (hk : k + 1 ≤ 601024 ∧ n + 6 ≤ 7293034) {d : zD} (hg : GR d d) (next : ∀ d', GR d' d' → zP V X 9 (k + 1) (n + 6) 2100 [some (.ref b), some (.ref (zad V 0)), some (.ref (zad V 400)), some (.ref (zad V 399)), some (.int (zI i)), none, none, none, none] [] d') : zP V X 9 k n 352 [some (.ref b), some (.ref (zad V 0)), some (.ref (zad V 400)), some (.ref (zad V 399)), some (.int (zI i)), none, none, none, none] [] d := by
  have hkn : k ≤ room_1.cells ∧ n ≤ room_1.slots := ⟨by show k ≤ 601024; omega, by show n ≤ 7293034; omega⟩
  have hkn1 : k + 1 ≤ room_1.cells ∧ n + 6 ≤ room_1.slots := ⟨by show k + 1 ≤ 601024; omega, by show n + 6 ≤ 7293034; omega⟩
  refine zP_R fun hR => ?_
  obtain ⟨v, dc, ds', h1, h2, hg', hv⟩ := GO_runA (G_errorCode) hg hR
  refine zP_aload_n (pc := 352) C (x := zad V 0) dL_law_352 rfl rfl ?_
  refine zP_callV (pc := 353) (As := []) (st := []) C mvL_118 dL_law_353 (s_X11 hT) rfl (t_X11_errorCode hT h1) ⟨Nat.le_of_ble_eq_true rfl, Nat.le_of_ble_eq_true rfl⟩ rfl (Nat.le_of_ble_eq_true rfl) hkn fun _ => ?_
  show zP V X 9 k n 356 _ [.int (zI v)] dc
  refine zP_aload_n (pc := 356) C (x := zad V 400) dL_law_356 rfl rfl ?_
  refine zP_callV (pc := 357) (As := []) (st := [.int (zI v)]) C mvL_121 dL_law_357 (s_X12 hM) rfl (t_X12_errorCode hM h2) ⟨Nat.le_of_ble_eq_true rfl, Nat.le_of_ble_eq_true rfl⟩ rfl (Nat.le_of_ble_eq_true rfl) hkn fun _ => ?_
  show zP V X 9 k n 360 _ [.int (zI v), .int (zI v)] ds'
  refine zP_icmp_eq (β := Unit) (r := ()) (A := some ()) (B := some ()) (pc := 360) (tgt := 2100) (x := v) (y := v) C dL_law_360 rfl hv hv (by split <;> rfl) (fun _ _ => ?_) (fun h _ => absurd rfl h)
  exact zP_wide (Nat.le_add_right _ _) (Nat.le_add_right _ _) (next _ hg')
theorem lawc_5 {V : zW} {X : zX} {b N : Nat} {xs : Nat → Int32} (hT : zo11 V) (hM : zo12 V) (hO : zsh V 399 = some (4, 1, zk0)) (C : zOk V X cL_law RL 9 room_1 ret) (LX : zLX V X b N xs) (hN : N < 3073) {i : Int} (hi : 0 ≤ i ∧ i + 6 ≤ (N : Int)) {k n : Nat} (hk : k + 1 ≤ 601024 ∧ n + 6 ≤ 7293034) {d : zD} (hg : GR d d) (next : ∀ d', GR d' d' → zP V X 9 (k + 1) (n + 6) 2100 [some (.ref b), some (.ref (zad V 0)), some (.ref (zad V 400)), some (.ref (zad V 399)), some (.int (zI i)), none, none, none, none] [] d') : zP V X 9 k n 365 [some (.ref b), some (.ref (zad V 0)), some (.ref (zad V 400)), some (.ref (zad V 399)), some (.int (zI i)), none, none, none, none] [] d := by
  have hkn : k ≤ room_1.cells ∧ n ≤ room_1.slots := ⟨by show k ≤ 601024; omega, by show n ≤ 7293034; omega⟩
  have hkn1 : k + 1 ≤ room_1.cells ∧ n + 6 ≤ room_1.slots := ⟨by show k + 1 ≤ 601024; omega, by show n + 6 ≤ 7293034; omega⟩
  refine zP_R fun hR => ?_
  obtain ⟨v, dc, ds', h1, h2, hg', hv⟩ := GO_runA (G_errorOffset) hg hR
  refine zP_aload_n (pc := 365) C (x := zad V 0) dL_law_365 rfl rfl ?_
  refine zP_callV (pc := 366) (As := []) (st := []) C mvL_122 dL_law_366 (s_X11 hT) rfl (t_X11_errorOffset hT h1) ⟨Nat.le_of_ble_eq_true rfl, Nat.le_of_ble_eq_true rfl⟩ rfl (Nat.le_of_ble_eq_true rfl) hkn fun _ => ?_
  show zP V X 9 k n 369 _ [.int (zI v)] dc
  refine zP_aload_n (pc := 369) C (x := zad V 400) dL_law_369 rfl rfl ?_
  refine zP_callV (pc := 370) (As := []) (st := [.int (zI v)]) C mvL_125 dL_law_370 (s_X12 hM) rfl (t_X12_errorOffset hM h2) ⟨Nat.le_of_ble_eq_true rfl, Nat.le_of_ble_eq_true rfl⟩ rfl (Nat.le_of_ble_eq_true rfl) hkn fun _ => ?_
  show zP V X 9 k n 373 _ [.int (zI v), .int (zI v)] ds'
  refine zP_icmp_eq (β := Unit) (r := ()) (A := some ()) (B := some ()) (pc := 373) (tgt := 2100) (x := v) (y := v) C dL_law_373 rfl hv hv (by split <;> rfl) (fun _ _ => ?_) (fun h _ => absurd rfl h)
  exact zP_wide (Nat.le_add_right _ _) (Nat.le_add_right _ _) (next _ hg')
theorem lawc_6 {V : zW} {X : zX} {b N : Nat} {xs : Nat → Int32} (hT : zo11 V) (hM : zo12 V) (hO : zsh V 399 = some (4, 1, zk0)) (C : zOk V X cL_law RL 9 room_1 ret) (LX : zLX V X b N xs) (hN : N < 3073) {i : Int} (hi : 0 ≤ i ∧ i + 6 ≤ (N : Int)) {k n : Nat} (hk : k + 1 ≤ 601024 ∧ n + 6 ≤ 7293034) {d : zD} (hg : GR d d) (next : ∀ d', GR d' d' → zP V X 9 (k + 1) (n + 6) 2100 [some (.ref b), some (.ref (zad V 0)), some (.ref (zad V 400)), some (.ref (zad V 399)), some (.int (zI i)), none, none, none, none] [] d') : zP V X 9 k n 378 [some (.ref b), some (.ref (zad V 0)), some (.ref (zad V 400)), some (.ref (zad V 399)), some (.int (zI i)), none, none, none, none] [] d := by
  have hkn : k ≤ room_1.cells ∧ n ≤ room_1.slots := ⟨by show k ≤ 601024; omega, by show n ≤ 7293034; omega⟩
  have hkn1 : k + 1 ≤ room_1.cells ∧ n + 6 ≤ room_1.slots := ⟨by show k + 1 ≤ 601024; omega, by show n + 6 ≤ 7293034; omega⟩
  refine zP_R fun hR => ?_
  obtain ⟨v, dc, dz, kv, v', ds', h1, hv, h2, hg', ht, ho⟩ := GO_runT (G_count ((xs (i + 1).toNat).toInt)) hg hR
  refine zP_aload_n (pc := 378) C (x := zad V 0) dL_law_378 rfl rfl ?_
  refine zP_arg (pc := 379) (i := i) (z := 1) C LX dL_law_379 dL_law_380 dL_law_382 dL_law_383 dL_law_384 rfl rfl hN ⟨by omega, by omega⟩ ?_
  refine zP_aload_n (pc := 385) C (x := zad V 399) dL_law_385 rfl rfl ?_
  refine zP_callTL (pc := 386) (As := [.ref (zad V 0), .int (zI (xs (i + 1).toNat).toInt), .ref (zad V 399)]) (st := []) C LX mtL_126 dL_law_386 (tL_count hT hO (zR_of _) h1 hv) ⟨Nat.le_of_ble_eq_true rfl, Nat.le_of_ble_eq_true rfl⟩ rfl (Nat.le_of_ble_eq_true rfl) hkn1 fun hkv => ?_
  show zP V X 9 (k + 1) (n + 6) 389 _ [.int (zI kv)] dz
  refine zP_istore (pc := 389) C (L' := [some (.ref b), some (.ref (zad V 0)), some (.ref (zad V 400)), some (.ref (zad V 399)), some (.int (zI i)), some (.int (zI kv)), none, none, none]) dL_law_389 (Nat.le_of_ble_eq_true rfl) rfl rfl ?_
  refine zP_aload_n (pc := 391) C (x := zad V 400) dL_law_391 rfl rfl ?_
  refine zP_arg (pc := 392) (i := i) (z := 1) C LX dL_law_392 dL_law_393 dL_law_395 dL_law_396 dL_law_397 rfl rfl hN ⟨by omega, by omega⟩ ?_
  refine zP_callV (pc := 398) (As := [.int (zI (xs (i + 1).toNat).toInt)]) (st := []) C mvL_131 dL_law_398 (s_X12 hM) rfl (t_X12_count hM (zR_of _) h2) ⟨Nat.le_of_ble_eq_true rfl, Nat.le_of_ble_eq_true rfl⟩ rfl (Nat.le_of_ble_eq_true rfl) hkn1 fun hv2 => ?_
  show zP V X 9 (k + 1) (n + 6) 401 _ [.int (zI v')] ds'
  refine zP_istore (pc := 401) C (L' := [some (.ref b), some (.ref (zad V 0)), some (.ref (zad V 400)), some (.ref (zad V 399)), some (.int (zI i)), some (.int (zI kv)), some (.int (zI v')), none, none]) dL_law_401 (Nat.le_of_ble_eq_true rfl) rfl rfl ?_
  refine zP_aload_n (pc := 403) C (x := zad V 400) dL_law_403 rfl rfl ?_
  refine zP_callV (pc := 404) (As := []) (st := []) C mvL_132 dL_law_404 (s_X12 hM) rfl (t_X12_thrown hM e_thrown) ⟨Nat.le_of_ble_eq_true rfl, Nat.le_of_ble_eq_true rfl⟩ rfl (Nat.le_of_ble_eq_true rfl) hkn1 fun _ => ?_
  show zP V X 9 (k + 1) (n + 6) 407 _ [.int (zI (ds' 400 0))] ds'
  rw [ht]
  refine zP_iload (pc := 407) C (x := zI kv) dL_law_407 rfl ?_
  refine zP_icmp_eq (β := Unit) (r := ()) (A := some ()) (B := some ()) (pc := 409) (tgt := 414) (x := kv) (y := kv) C dL_law_409 rfl hkv hkv (by split <;> rfl) (fun _ _ => ?_) (fun h _ => absurd rfl h)
  refine zP_iload (pc := 414) C (x := zI kv) dL_law_414 rfl ?_
  have fin : zP V X 9 (k + 1) (n + 6) 431 [some (.ref b), some (.ref (zad V 0)), some (.ref (zad V 400)), some (.ref (zad V 399)), some (.int (zI i)), some (.int (zI kv)), some (.int (zI v')), none, none] [] ds' := by
    refine zP_goto (pc := 431) (tgt := 2100) C dL_law_431 rfl ?_
    exact zP_mask [true, true, true, true, true, false, false, false, false] (next _ hg')
  refine zP_if_ne (β := Unit) (r := ()) (A := some ()) (B := some ()) (pc := 416) (tgt := 431) C dL_law_416 rfl hkv (by split <;> rfl) (fun _ _ => fin) (fun h0 _ => ?_)
  refine zP_aload_n (pc := 419) C (x := zad V 399) dL_law_419 rfl rfl ?_
  refine zP_iconst (pc := 420) C dL_law_420 ?_
  refine zP_lald (pc := 421) (a := 399) (i := 0) C dL_law_421 hO (zRk rfl) ⟨by decide, by decide⟩ ?_
  refine zP_iload (pc := 422) C (x := zI v') dL_law_422 rfl ?_
  refine zP_i2l (pc := 424) C dL_law_424 ?_
  refine zP_lcmp0 (pc := 425) C dL_law_425 (by rw [show ds' 399 (0 : Int).toNat = v' from ho h0]) ?_
  exact zP_if_eq (pc := 426) (tgt := 431) C dL_law_426 rfl (x := 0) (zRk rfl) (A := some ()) (B := (none : Option Unit)) (r := ()) rfl (fun _ _ => fin) (fun h _ => absurd rfl h)
theorem lawc_7 {V : zW} {X : zX} {b N : Nat} {xs : Nat → Int32} (hT : zo11 V) (hM : zo12 V) (hO : zsh V 399 = some (4, 1, zk0)) (C : zOk V X cL_law RL 9 room_1 ret) (LX : zLX V X b N xs) (hN : N < 3073) {i : Int} (hi : 0 ≤ i ∧ i + 6 ≤ (N : Int)) {k n : Nat} (hk : k + 1 ≤ 601024 ∧ n + 6 ≤ 7293034) {d : zD} (hg : GR d d) (next : ∀ d', GR d' d' → zP V X 9 (k + 1) (n + 6) 2100 [some (.ref b), some (.ref (zad V 0)), some (.ref (zad V 400)), some (.ref (zad V 399)), some (.int (zI i)), none, none, none, none] [] d') : zP V X 9 k n 434 [some (.ref b), some (.ref (zad V 0)), some (.ref (zad V 400)), some (.ref (zad V 399)), some (.int (zI i)), none, none, none, none] [] d := by
  have hkn : k ≤ room_1.cells ∧ n ≤ room_1.slots := ⟨by show k ≤ 601024; omega, by show n ≤ 7293034; omega⟩
  have hkn1 : k + 1 ≤ room_1.cells ∧ n + 6 ≤ room_1.slots := ⟨by show k + 1 ≤ 601024; omega, by show n + 6 ≤ 7293034; omega⟩
  refine zP_R fun hR => ?_
  obtain ⟨v, dc, dz, kv, v', ds', h1, hv, h2, hg', ht, ho⟩ := GO_runT (G_account ((xs (i + 1).toNat).toInt)) hg hR
  refine zP_aload_n (pc := 434) C (x := zad V 0) dL_law_434 rfl rfl ?_
  refine zP_arg (pc := 435) (i := i) (z := 1) C LX dL_law_435 dL_law_436 dL_law_438 dL_law_439 dL_law_440 rfl rfl hN ⟨by omega, by omega⟩ ?_
  refine zP_aload_n (pc := 441) C (x := zad V 399) dL_law_441 rfl rfl ?_
  refine zP_callTL (pc := 442) (As := [.ref (zad V 0), .int (zI (xs (i + 1).toNat).toInt), .ref (zad V 399)]) (st := []) C LX mtL_135 dL_law_442 (tL_account hT hO (zR_of _) h1 hv) ⟨Nat.le_of_ble_eq_true rfl, Nat.le_of_ble_eq_true rfl⟩ rfl (Nat.le_of_ble_eq_true rfl) hkn1 fun hkv => ?_
  show zP V X 9 (k + 1) (n + 6) 445 _ [.int (zI kv)] dz
  refine zP_istore (pc := 445) C (L' := [some (.ref b), some (.ref (zad V 0)), some (.ref (zad V 400)), some (.ref (zad V 399)), some (.int (zI i)), some (.int (zI kv)), none, none, none]) dL_law_445 (Nat.le_of_ble_eq_true rfl) rfl rfl ?_
  refine zP_aload_n (pc := 447) C (x := zad V 400) dL_law_447 rfl rfl ?_
  refine zP_arg (pc := 448) (i := i) (z := 1) C LX dL_law_448 dL_law_449 dL_law_451 dL_law_452 dL_law_453 rfl rfl hN ⟨by omega, by omega⟩ ?_
  refine zP_callV (pc := 454) (As := [.int (zI (xs (i + 1).toNat).toInt)]) (st := []) C mvL_137 dL_law_454 (s_X12 hM) rfl (t_X12_account hM (zR_of _) h2) ⟨Nat.le_of_ble_eq_true rfl, Nat.le_of_ble_eq_true rfl⟩ rfl (Nat.le_of_ble_eq_true rfl) hkn1 fun hv2 => ?_
  show zP V X 9 (k + 1) (n + 6) 457 _ [.int (zI v')] ds'
  refine zP_istore (pc := 457) C (L' := [some (.ref b), some (.ref (zad V 0)), some (.ref (zad V 400)), some (.ref (zad V 399)), some (.int (zI i)), some (.int (zI kv)), some (.int (zI v')), none, none]) dL_law_457 (Nat.le_of_ble_eq_true rfl) rfl rfl ?_
  refine zP_aload_n (pc := 459) C (x := zad V 400) dL_law_459 rfl rfl ?_
  refine zP_callV (pc := 460) (As := []) (st := []) C mvL_132 dL_law_460 (s_X12 hM) rfl (t_X12_thrown hM e_thrown) ⟨Nat.le_of_ble_eq_true rfl, Nat.le_of_ble_eq_true rfl⟩ rfl (Nat.le_of_ble_eq_true rfl) hkn1 fun _ => ?_
  show zP V X 9 (k + 1) (n + 6) 463 _ [.int (zI (ds' 400 0))] ds'
  rw [ht]
  refine zP_iload (pc := 463) C (x := zI kv) dL_law_463 rfl ?_
  refine zP_icmp_eq (β := Unit) (r := ()) (A := some ()) (B := some ()) (pc := 465) (tgt := 470) (x := kv) (y := kv) C dL_law_465 rfl hkv hkv (by split <;> rfl) (fun _ _ => ?_) (fun h _ => absurd rfl h)
  refine zP_iload (pc := 470) C (x := zI kv) dL_law_470 rfl ?_
  have fin : zP V X 9 (k + 1) (n + 6) 487 [some (.ref b), some (.ref (zad V 0)), some (.ref (zad V 400)), some (.ref (zad V 399)), some (.int (zI i)), some (.int (zI kv)), some (.int (zI v')), none, none] [] ds' := by
    refine zP_goto (pc := 487) (tgt := 2100) C dL_law_487 rfl ?_
    exact zP_mask [true, true, true, true, true, false, false, false, false] (next _ hg')
  refine zP_if_ne (β := Unit) (r := ()) (A := some ()) (B := some ()) (pc := 472) (tgt := 487) C dL_law_472 rfl hkv (by split <;> rfl) (fun _ _ => fin) (fun h0 _ => ?_)
  refine zP_aload_n (pc := 475) C (x := zad V 399) dL_law_475 rfl rfl ?_
  refine zP_iconst (pc := 476) C dL_law_476 ?_
  refine zP_lald (pc := 477) (a := 399) (i := 0) C dL_law_477 hO (zRk rfl) ⟨by decide, by decide⟩ ?_
  refine zP_iload (pc := 478) C (x := zI v') dL_law_478 rfl ?_
  refine zP_i2l (pc := 480) C dL_law_480 ?_
  refine zP_lcmp0 (pc := 481) C dL_law_481 (by rw [show ds' 399 (0 : Int).toNat = v' from ho h0]) ?_
  exact zP_if_eq (pc := 482) (tgt := 487) C dL_law_482 rfl (x := 0) (zRk rfl) (A := some ()) (B := (none : Option Unit)) (r := ()) rfl (fun _ _ => fin) (fun h _ => absurd rfl h)
theorem lawc_8 {V : zW} {X : zX} {b N : Nat} {xs : Nat → Int32} (hT : zo11 V) (hM : zo12 V) (hO : zsh V 399 = some (4, 1, zk0)) (C : zOk V X cL_law RL 9 room_1 ret) (LX : zLX V X b N xs) (hN : N < 3073) {i : Int} (hi : 0 ≤ i ∧ i + 6 ≤ (N : Int)) {k n : Nat} (hk : k + 1 ≤ 601024 ∧ n + 6 ≤ 7293034) {d : zD} (hg : GR d d) (next : ∀ d', GR d' d' → zP V X 9 (k + 1) (n + 6) 2100 [some (.ref b), some (.ref (zad V 0)), some (.ref (zad V 400)), some (.ref (zad V 399)), some (.int (zI i)), none, none, none, none] [] d') : zP V X 9 k n 490 [some (.ref b), some (.ref (zad V 0)), some (.ref (zad V 400)), some (.ref (zad V 399)), some (.int (zI i)), none, none, none, none] [] d := by
  have hkn : k ≤ room_1.cells ∧ n ≤ room_1.slots := ⟨by show k ≤ 601024; omega, by show n ≤ 7293034; omega⟩
  have hkn1 : k + 1 ≤ room_1.cells ∧ n + 6 ≤ room_1.slots := ⟨by show k + 1 ≤ 601024; omega, by show n + 6 ≤ 7293034; omega⟩
  refine zP_R fun hR => ?_
  obtain ⟨v, dc, dz, kv, v', ds', h1, hv, h2, hg', ht, ho⟩ := GO_runT (G_setting ((xs (i + 1).toNat).toInt)) hg hR
  refine zP_aload_n (pc := 490) C (x := zad V 0) dL_law_490 rfl rfl ?_
  refine zP_arg (pc := 491) (i := i) (z := 1) C LX dL_law_491 dL_law_492 dL_law_494 dL_law_495 dL_law_496 rfl rfl hN ⟨by omega, by omega⟩ ?_
  refine zP_aload_n (pc := 497) C (x := zad V 399) dL_law_497 rfl rfl ?_
  refine zP_callTL (pc := 498) (As := [.ref (zad V 0), .int (zI (xs (i + 1).toNat).toInt), .ref (zad V 399)]) (st := []) C LX mtL_138 dL_law_498 (tL_setting hT hO (zR_of _) h1 hv) ⟨Nat.le_of_ble_eq_true rfl, Nat.le_of_ble_eq_true rfl⟩ rfl (Nat.le_of_ble_eq_true rfl) hkn1 fun hkv => ?_
  show zP V X 9 (k + 1) (n + 6) 501 _ [.int (zI kv)] dz
  refine zP_istore (pc := 501) C (L' := [some (.ref b), some (.ref (zad V 0)), some (.ref (zad V 400)), some (.ref (zad V 399)), some (.int (zI i)), some (.int (zI kv)), none, none, none]) dL_law_501 (Nat.le_of_ble_eq_true rfl) rfl rfl ?_
  refine zP_aload_n (pc := 503) C (x := zad V 400) dL_law_503 rfl rfl ?_
  refine zP_arg (pc := 504) (i := i) (z := 1) C LX dL_law_504 dL_law_505 dL_law_507 dL_law_508 dL_law_509 rfl rfl hN ⟨by omega, by omega⟩ ?_
  refine zP_callV (pc := 510) (As := [.int (zI (xs (i + 1).toNat).toInt)]) (st := []) C mvL_140 dL_law_510 (s_X12 hM) rfl (t_X12_setting hM (zR_of _) h2) ⟨Nat.le_of_ble_eq_true rfl, Nat.le_of_ble_eq_true rfl⟩ rfl (Nat.le_of_ble_eq_true rfl) hkn1 fun hv2 => ?_
  show zP V X 9 (k + 1) (n + 6) 513 _ [.int (zI v')] ds'
  refine zP_istore (pc := 513) C (L' := [some (.ref b), some (.ref (zad V 0)), some (.ref (zad V 400)), some (.ref (zad V 399)), some (.int (zI i)), some (.int (zI kv)), some (.int (zI v')), none, none]) dL_law_513 (Nat.le_of_ble_eq_true rfl) rfl rfl ?_
  refine zP_aload_n (pc := 515) C (x := zad V 400) dL_law_515 rfl rfl ?_
  refine zP_callV (pc := 516) (As := []) (st := []) C mvL_132 dL_law_516 (s_X12 hM) rfl (t_X12_thrown hM e_thrown) ⟨Nat.le_of_ble_eq_true rfl, Nat.le_of_ble_eq_true rfl⟩ rfl (Nat.le_of_ble_eq_true rfl) hkn1 fun _ => ?_
  show zP V X 9 (k + 1) (n + 6) 519 _ [.int (zI (ds' 400 0))] ds'
  rw [ht]
  refine zP_iload (pc := 519) C (x := zI kv) dL_law_519 rfl ?_
  refine zP_icmp_eq (β := Unit) (r := ()) (A := some ()) (B := some ()) (pc := 521) (tgt := 526) (x := kv) (y := kv) C dL_law_521 rfl hkv hkv (by split <;> rfl) (fun _ _ => ?_) (fun h _ => absurd rfl h)
  refine zP_iload (pc := 526) C (x := zI kv) dL_law_526 rfl ?_
  have fin : zP V X 9 (k + 1) (n + 6) 543 [some (.ref b), some (.ref (zad V 0)), some (.ref (zad V 400)), some (.ref (zad V 399)), some (.int (zI i)), some (.int (zI kv)), some (.int (zI v')), none, none] [] ds' := by
    refine zP_goto (pc := 543) (tgt := 2100) C dL_law_543 rfl ?_
    exact zP_mask [true, true, true, true, true, false, false, false, false] (next _ hg')
  refine zP_if_ne (β := Unit) (r := ()) (A := some ()) (B := some ()) (pc := 528) (tgt := 543) C dL_law_528 rfl hkv (by split <;> rfl) (fun _ _ => fin) (fun h0 _ => ?_)
  refine zP_aload_n (pc := 531) C (x := zad V 399) dL_law_531 rfl rfl ?_
  refine zP_iconst (pc := 532) C dL_law_532 ?_
  refine zP_lald (pc := 533) (a := 399) (i := 0) C dL_law_533 hO (zRk rfl) ⟨by decide, by decide⟩ ?_
  refine zP_iload (pc := 534) C (x := zI v') dL_law_534 rfl ?_
  refine zP_i2l (pc := 536) C dL_law_536 ?_
  refine zP_lcmp0 (pc := 537) C dL_law_537 (by rw [show ds' 399 (0 : Int).toNat = v' from ho h0]) ?_
  exact zP_if_eq (pc := 538) (tgt := 543) C dL_law_538 rfl (x := 0) (zRk rfl) (A := some ()) (B := (none : Option Unit)) (r := ()) rfl (fun _ _ => fin) (fun h _ => absurd rfl h)
theorem lawc_9 {V : zW} {X : zX} {b N : Nat} {xs : Nat → Int32} (hT : zo11 V) (hM : zo12 V) (hO : zsh V 399 = some (4, 1, zk0)) (C : zOk V X cL_law RL 9 room_1 ret) (LX : zLX V X b N xs) (hN : N < 3073) {i : Int} (hi : 0 ≤ i ∧ i + 6 ≤ (N : Int)) {k n : Nat} (hk : k + 1 ≤ 601024 ∧ n + 6 ≤ 7293034) {d : zD} (hg : GR d d) (next : ∀ d', GR d' d' → zP V X 9 (k + 1) (n + 6) 2100 [some (.ref b), some (.ref (zad V 0)), some (.ref (zad V 400)), some (.ref (zad V 399)), some (.int (zI i)), none, none, none, none] [] d') : zP V X 9 k n 546 [some (.ref b), some (.ref (zad V 0)), some (.ref (zad V 400)), some (.ref (zad V 399)), some (.int (zI i)), none, none, none, none] [] d := by
  have hkn : k ≤ room_1.cells ∧ n ≤ room_1.slots := ⟨by show k ≤ 601024; omega, by show n ≤ 7293034; omega⟩
  have hkn1 : k + 1 ≤ room_1.cells ∧ n + 6 ≤ room_1.slots := ⟨by show k + 1 ≤ 601024; omega, by show n + 6 ≤ 7293034; omega⟩
  refine zP_R fun hR => ?_
  obtain ⟨v, dc, dz, kv, v', ds', h1, hv, h2, hg', ht, ho⟩ := GO_runT (G_terminal ((xs (i + 1).toNat).toInt) ((xs (i + 2).toNat).toInt)) hg hR
  refine zP_aload_n (pc := 546) C (x := zad V 0) dL_law_546 rfl rfl ?_
  refine zP_arg (pc := 547) (i := i) (z := 1) C LX dL_law_547 dL_law_548 dL_law_550 dL_law_551 dL_law_552 rfl rfl hN ⟨by omega, by omega⟩ ?_
  refine zP_arg (pc := 553) (i := i) (z := 2) C LX dL_law_553 dL_law_554 dL_law_556 dL_law_557 dL_law_558 rfl rfl hN ⟨by omega, by omega⟩ ?_
  refine zP_aload_n (pc := 559) C (x := zad V 399) dL_law_559 rfl rfl ?_
  refine zP_callTL (pc := 560) (As := [.ref (zad V 0), .int (zI (xs (i + 1).toNat).toInt), .int (zI (xs (i + 2).toNat).toInt), .ref (zad V 399)]) (st := []) C LX mtL_141 dL_law_560 (tL_terminal hT hO (zR_of _) (zR_of _) h1 hv) ⟨Nat.le_of_ble_eq_true rfl, Nat.le_of_ble_eq_true rfl⟩ rfl (Nat.le_of_ble_eq_true rfl) hkn1 fun hkv => ?_
  show zP V X 9 (k + 1) (n + 6) 563 _ [.int (zI kv)] dz
  refine zP_istore (pc := 563) C (L' := [some (.ref b), some (.ref (zad V 0)), some (.ref (zad V 400)), some (.ref (zad V 399)), some (.int (zI i)), some (.int (zI kv)), none, none, none]) dL_law_563 (Nat.le_of_ble_eq_true rfl) rfl rfl ?_
  refine zP_aload_n (pc := 565) C (x := zad V 400) dL_law_565 rfl rfl ?_
  refine zP_arg (pc := 566) (i := i) (z := 1) C LX dL_law_566 dL_law_567 dL_law_569 dL_law_570 dL_law_571 rfl rfl hN ⟨by omega, by omega⟩ ?_
  refine zP_arg (pc := 572) (i := i) (z := 2) C LX dL_law_572 dL_law_573 dL_law_575 dL_law_576 dL_law_577 rfl rfl hN ⟨by omega, by omega⟩ ?_
  refine zP_callV (pc := 578) (As := [.int (zI (xs (i + 1).toNat).toInt), .int (zI (xs (i + 2).toNat).toInt)]) (st := []) C mvL_144 dL_law_578 (s_X12 hM) rfl (t_X12_terminal hM (zR_of _) (zR_of _) h2) ⟨Nat.le_of_ble_eq_true rfl, Nat.le_of_ble_eq_true rfl⟩ rfl (Nat.le_of_ble_eq_true rfl) hkn1 fun hv2 => ?_
  show zP V X 9 (k + 1) (n + 6) 581 _ [.int (zI v')] ds'
  refine zP_istore (pc := 581) C (L' := [some (.ref b), some (.ref (zad V 0)), some (.ref (zad V 400)), some (.ref (zad V 399)), some (.int (zI i)), some (.int (zI kv)), some (.int (zI v')), none, none]) dL_law_581 (Nat.le_of_ble_eq_true rfl) rfl rfl ?_
  refine zP_aload_n (pc := 583) C (x := zad V 400) dL_law_583 rfl rfl ?_
  refine zP_callV (pc := 584) (As := []) (st := []) C mvL_132 dL_law_584 (s_X12 hM) rfl (t_X12_thrown hM e_thrown) ⟨Nat.le_of_ble_eq_true rfl, Nat.le_of_ble_eq_true rfl⟩ rfl (Nat.le_of_ble_eq_true rfl) hkn1 fun _ => ?_
  show zP V X 9 (k + 1) (n + 6) 587 _ [.int (zI (ds' 400 0))] ds'
  rw [ht]
  refine zP_iload (pc := 587) C (x := zI kv) dL_law_587 rfl ?_
  refine zP_icmp_eq (β := Unit) (r := ()) (A := some ()) (B := some ()) (pc := 589) (tgt := 594) (x := kv) (y := kv) C dL_law_589 rfl hkv hkv (by split <;> rfl) (fun _ _ => ?_) (fun h _ => absurd rfl h)
  refine zP_iload (pc := 594) C (x := zI kv) dL_law_594 rfl ?_
  have fin : zP V X 9 (k + 1) (n + 6) 611 [some (.ref b), some (.ref (zad V 0)), some (.ref (zad V 400)), some (.ref (zad V 399)), some (.int (zI i)), some (.int (zI kv)), some (.int (zI v')), none, none] [] ds' := by
    refine zP_goto (pc := 611) (tgt := 2100) C dL_law_611 rfl ?_
    exact zP_mask [true, true, true, true, true, false, false, false, false] (next _ hg')
  refine zP_if_ne (β := Unit) (r := ()) (A := some ()) (B := some ()) (pc := 596) (tgt := 611) C dL_law_596 rfl hkv (by split <;> rfl) (fun _ _ => fin) (fun h0 _ => ?_)
  refine zP_aload_n (pc := 599) C (x := zad V 399) dL_law_599 rfl rfl ?_
  refine zP_iconst (pc := 600) C dL_law_600 ?_
  refine zP_lald (pc := 601) (a := 399) (i := 0) C dL_law_601 hO (zRk rfl) ⟨by decide, by decide⟩ ?_
  refine zP_iload (pc := 602) C (x := zI v') dL_law_602 rfl ?_
  refine zP_i2l (pc := 604) C dL_law_604 ?_
  refine zP_lcmp0 (pc := 605) C dL_law_605 (by rw [show ds' 399 (0 : Int).toNat = v' from ho h0]) ?_
  exact zP_if_eq (pc := 606) (tgt := 611) C dL_law_606 rfl (x := 0) (zRk rfl) (A := some ()) (B := (none : Option Unit)) (r := ()) rfl (fun _ _ => fin) (fun h _ => absurd rfl h)
theorem lawc_10 {V : zW} {X : zX} {b N : Nat} {xs : Nat → Int32} (hT : zo11 V) (hM : zo12 V) (hO : zsh V 399 = some (4, 1, zk0)) (C : zOk V X cL_law RL 9 room_1 ret) (LX : zLX V X b N xs) (hN : N < 3073) {i : Int} (hi : 0 ≤ i ∧ i + 6 ≤ (N : Int)) {k n : Nat} (hk : k + 1 ≤ 601024 ∧ n + 6 ≤ 7293034) {d : zD} (hg : GR d d) (next : ∀ d', GR d' d' → zP V X 9 (k + 1) (n + 6) 2100 [some (.ref b), some (.ref (zad V 0)), some (.ref (zad V 400)), some (.ref (zad V 399)), some (.int (zI i)), none, none, none, none] [] d') : zP V X 9 k n 614 [some (.ref b), some (.ref (zad V 0)), some (.ref (zad V 400)), some (.ref (zad V 399)), some (.int (zI i)), none, none, none, none] [] d := by
  have hkn : k ≤ room_1.cells ∧ n ≤ room_1.slots := ⟨by show k ≤ 601024; omega, by show n ≤ 7293034; omega⟩
  have hkn1 : k + 1 ≤ room_1.cells ∧ n + 6 ≤ room_1.slots := ⟨by show k + 1 ≤ 601024; omega, by show n + 6 ≤ 7293034; omega⟩
  refine zP_R fun hR => ?_
  obtain ⟨v, dc, dz, kv, v', ds', h1, hv, h2, hg', ht, ho⟩ := GO_runT (G_nameLetter ((xs (i + 1).toNat).toInt) ((xs (i + 2).toNat).toInt)) hg hR
  refine zP_aload_n (pc := 614) C (x := zad V 0) dL_law_614 rfl rfl ?_
  refine zP_arg (pc := 615) (i := i) (z := 1) C LX dL_law_615 dL_law_616 dL_law_618 dL_law_619 dL_law_620 rfl rfl hN ⟨by omega, by omega⟩ ?_
  refine zP_arg (pc := 621) (i := i) (z := 2) C LX dL_law_621 dL_law_622 dL_law_624 dL_law_625 dL_law_626 rfl rfl hN ⟨by omega, by omega⟩ ?_
  refine zP_aload_n (pc := 627) C (x := zad V 399) dL_law_627 rfl rfl ?_
  refine zP_callTL (pc := 628) (As := [.ref (zad V 0), .int (zI (xs (i + 1).toNat).toInt), .int (zI (xs (i + 2).toNat).toInt), .ref (zad V 399)]) (st := []) C LX mtL_145 dL_law_628 (tL_nameLetter hT hO (zR_of _) (zR_of _) h1 hv) ⟨Nat.le_of_ble_eq_true rfl, Nat.le_of_ble_eq_true rfl⟩ rfl (Nat.le_of_ble_eq_true rfl) hkn1 fun hkv => ?_
  show zP V X 9 (k + 1) (n + 6) 631 _ [.int (zI kv)] dz
  refine zP_istore (pc := 631) C (L' := [some (.ref b), some (.ref (zad V 0)), some (.ref (zad V 400)), some (.ref (zad V 399)), some (.int (zI i)), some (.int (zI kv)), none, none, none]) dL_law_631 (Nat.le_of_ble_eq_true rfl) rfl rfl ?_
  refine zP_aload_n (pc := 633) C (x := zad V 400) dL_law_633 rfl rfl ?_
  refine zP_arg (pc := 634) (i := i) (z := 1) C LX dL_law_634 dL_law_635 dL_law_637 dL_law_638 dL_law_639 rfl rfl hN ⟨by omega, by omega⟩ ?_
  refine zP_arg (pc := 640) (i := i) (z := 2) C LX dL_law_640 dL_law_641 dL_law_643 dL_law_644 dL_law_645 rfl rfl hN ⟨by omega, by omega⟩ ?_
  refine zP_callV (pc := 646) (As := [.int (zI (xs (i + 1).toNat).toInt), .int (zI (xs (i + 2).toNat).toInt)]) (st := []) C mvL_147 dL_law_646 (s_X12 hM) rfl (t_X12_nameLetter hM (zR_of _) (zR_of _) h2) ⟨Nat.le_of_ble_eq_true rfl, Nat.le_of_ble_eq_true rfl⟩ rfl (Nat.le_of_ble_eq_true rfl) hkn1 fun hv2 => ?_
  show zP V X 9 (k + 1) (n + 6) 649 _ [.int (zI v')] ds'
  refine zP_istore (pc := 649) C (L' := [some (.ref b), some (.ref (zad V 0)), some (.ref (zad V 400)), some (.ref (zad V 399)), some (.int (zI i)), some (.int (zI kv)), some (.int (zI v')), none, none]) dL_law_649 (Nat.le_of_ble_eq_true rfl) rfl rfl ?_
  refine zP_aload_n (pc := 651) C (x := zad V 400) dL_law_651 rfl rfl ?_
  refine zP_callV (pc := 652) (As := []) (st := []) C mvL_132 dL_law_652 (s_X12 hM) rfl (t_X12_thrown hM e_thrown) ⟨Nat.le_of_ble_eq_true rfl, Nat.le_of_ble_eq_true rfl⟩ rfl (Nat.le_of_ble_eq_true rfl) hkn1 fun _ => ?_
  show zP V X 9 (k + 1) (n + 6) 655 _ [.int (zI (ds' 400 0))] ds'
  rw [ht]
  refine zP_iload (pc := 655) C (x := zI kv) dL_law_655 rfl ?_
  refine zP_icmp_eq (β := Unit) (r := ()) (A := some ()) (B := some ()) (pc := 657) (tgt := 662) (x := kv) (y := kv) C dL_law_657 rfl hkv hkv (by split <;> rfl) (fun _ _ => ?_) (fun h _ => absurd rfl h)
  refine zP_iload (pc := 662) C (x := zI kv) dL_law_662 rfl ?_
  have fin : zP V X 9 (k + 1) (n + 6) 679 [some (.ref b), some (.ref (zad V 0)), some (.ref (zad V 400)), some (.ref (zad V 399)), some (.int (zI i)), some (.int (zI kv)), some (.int (zI v')), none, none] [] ds' := by
    refine zP_goto (pc := 679) (tgt := 2100) C dL_law_679 rfl ?_
    exact zP_mask [true, true, true, true, true, false, false, false, false] (next _ hg')
  refine zP_if_ne (β := Unit) (r := ()) (A := some ()) (B := some ()) (pc := 664) (tgt := 679) C dL_law_664 rfl hkv (by split <;> rfl) (fun _ _ => fin) (fun h0 _ => ?_)
  refine zP_aload_n (pc := 667) C (x := zad V 399) dL_law_667 rfl rfl ?_
  refine zP_iconst (pc := 668) C dL_law_668 ?_
  refine zP_lald (pc := 669) (a := 399) (i := 0) C dL_law_669 hO (zRk rfl) ⟨by decide, by decide⟩ ?_
  refine zP_iload (pc := 670) C (x := zI v') dL_law_670 rfl ?_
  refine zP_i2l (pc := 672) C dL_law_672 ?_
  refine zP_lcmp0 (pc := 673) C dL_law_673 (by rw [show ds' 399 (0 : Int).toNat = v' from ho h0]) ?_
  exact zP_if_eq (pc := 674) (tgt := 679) C dL_law_674 rfl (x := 0) (zRk rfl) (A := some ()) (B := (none : Option Unit)) (r := ()) rfl (fun _ _ => fin) (fun h _ => absurd rfl h)
theorem lawc_11 {V : zW} {X : zX} {b N : Nat} {xs : Nat → Int32} (hT : zo11 V) (hM : zo12 V) (hO : zsh V 399 = some (4, 1, zk0)) (C : zOk V X cL_law RL 9 room_1 ret) (LX : zLX V X b N xs) (hN : N < 3073) {i : Int} (hi : 0 ≤ i ∧ i + 6 ≤ (N : Int)) {k n : Nat} (hk : k + 1 ≤ 601024 ∧ n + 6 ≤ 7293034) {d : zD} (hg : GR d d) (next : ∀ d', GR d' d' → zP V X 9 (k + 1) (n + 6) 2100 [some (.ref b), some (.ref (zad V 0)), some (.ref (zad V 400)), some (.ref (zad V 399)), some (.int (zI i)), none, none, none, none] [] d') : zP V X 9 k n 682 [some (.ref b), some (.ref (zad V 0)), some (.ref (zad V 400)), some (.ref (zad V 399)), some (.int (zI i)), none, none, none, none] [] d := by
  have hkn : k ≤ room_1.cells ∧ n ≤ room_1.slots := ⟨by show k ≤ 601024; omega, by show n ≤ 7293034; omega⟩
  have hkn1 : k + 1 ≤ room_1.cells ∧ n + 6 ≤ room_1.slots := ⟨by show k + 1 ≤ 601024; omega, by show n + 6 ≤ 7293034; omega⟩
  refine zP_R fun hR => ?_
  obtain ⟨v, dc, dz, kv, v', ds', h1, hv, h2, hg', ht, ho⟩ := GO_runT (G_message ((xs (i + 1).toNat).toInt) ((xs (i + 2).toNat).toInt)) hg hR
  refine zP_aload_n (pc := 682) C (x := zad V 0) dL_law_682 rfl rfl ?_
  refine zP_arg (pc := 683) (i := i) (z := 1) C LX dL_law_683 dL_law_684 dL_law_686 dL_law_687 dL_law_688 rfl rfl hN ⟨by omega, by omega⟩ ?_
  refine zP_arg (pc := 689) (i := i) (z := 2) C LX dL_law_689 dL_law_690 dL_law_692 dL_law_693 dL_law_694 rfl rfl hN ⟨by omega, by omega⟩ ?_
  refine zP_aload_n (pc := 695) C (x := zad V 399) dL_law_695 rfl rfl ?_
  refine zP_callTL (pc := 696) (As := [.ref (zad V 0), .int (zI (xs (i + 1).toNat).toInt), .int (zI (xs (i + 2).toNat).toInt), .ref (zad V 399)]) (st := []) C LX mtL_148 dL_law_696 (tL_message hT hO (zR_of _) (zR_of _) h1 hv) ⟨Nat.le_of_ble_eq_true rfl, Nat.le_of_ble_eq_true rfl⟩ rfl (Nat.le_of_ble_eq_true rfl) hkn1 fun hkv => ?_
  show zP V X 9 (k + 1) (n + 6) 699 _ [.int (zI kv)] dz
  refine zP_istore (pc := 699) C (L' := [some (.ref b), some (.ref (zad V 0)), some (.ref (zad V 400)), some (.ref (zad V 399)), some (.int (zI i)), some (.int (zI kv)), none, none, none]) dL_law_699 (Nat.le_of_ble_eq_true rfl) rfl rfl ?_
  refine zP_aload_n (pc := 701) C (x := zad V 400) dL_law_701 rfl rfl ?_
  refine zP_arg (pc := 702) (i := i) (z := 1) C LX dL_law_702 dL_law_703 dL_law_705 dL_law_706 dL_law_707 rfl rfl hN ⟨by omega, by omega⟩ ?_
  refine zP_arg (pc := 708) (i := i) (z := 2) C LX dL_law_708 dL_law_709 dL_law_711 dL_law_712 dL_law_713 rfl rfl hN ⟨by omega, by omega⟩ ?_
  refine zP_callV (pc := 714) (As := [.int (zI (xs (i + 1).toNat).toInt), .int (zI (xs (i + 2).toNat).toInt)]) (st := []) C mvL_150 dL_law_714 (s_X12 hM) rfl (t_X12_message hM (zR_of _) (zR_of _) h2) ⟨Nat.le_of_ble_eq_true rfl, Nat.le_of_ble_eq_true rfl⟩ rfl (Nat.le_of_ble_eq_true rfl) hkn1 fun hv2 => ?_
  show zP V X 9 (k + 1) (n + 6) 717 _ [.int (zI v')] ds'
  refine zP_istore (pc := 717) C (L' := [some (.ref b), some (.ref (zad V 0)), some (.ref (zad V 400)), some (.ref (zad V 399)), some (.int (zI i)), some (.int (zI kv)), some (.int (zI v')), none, none]) dL_law_717 (Nat.le_of_ble_eq_true rfl) rfl rfl ?_
  refine zP_aload_n (pc := 719) C (x := zad V 400) dL_law_719 rfl rfl ?_
  refine zP_callV (pc := 720) (As := []) (st := []) C mvL_132 dL_law_720 (s_X12 hM) rfl (t_X12_thrown hM e_thrown) ⟨Nat.le_of_ble_eq_true rfl, Nat.le_of_ble_eq_true rfl⟩ rfl (Nat.le_of_ble_eq_true rfl) hkn1 fun _ => ?_
  show zP V X 9 (k + 1) (n + 6) 723 _ [.int (zI (ds' 400 0))] ds'
  rw [ht]
  refine zP_iload (pc := 723) C (x := zI kv) dL_law_723 rfl ?_
  refine zP_icmp_eq (β := Unit) (r := ()) (A := some ()) (B := some ()) (pc := 725) (tgt := 730) (x := kv) (y := kv) C dL_law_725 rfl hkv hkv (by split <;> rfl) (fun _ _ => ?_) (fun h _ => absurd rfl h)
  refine zP_iload (pc := 730) C (x := zI kv) dL_law_730 rfl ?_
  have fin : zP V X 9 (k + 1) (n + 6) 747 [some (.ref b), some (.ref (zad V 0)), some (.ref (zad V 400)), some (.ref (zad V 399)), some (.int (zI i)), some (.int (zI kv)), some (.int (zI v')), none, none] [] ds' := by
    refine zP_goto (pc := 747) (tgt := 2100) C dL_law_747 rfl ?_
    exact zP_mask [true, true, true, true, true, false, false, false, false] (next _ hg')
  refine zP_if_ne (β := Unit) (r := ()) (A := some ()) (B := some ()) (pc := 732) (tgt := 747) C dL_law_732 rfl hkv (by split <;> rfl) (fun _ _ => fin) (fun h0 _ => ?_)
  refine zP_aload_n (pc := 735) C (x := zad V 399) dL_law_735 rfl rfl ?_
  refine zP_iconst (pc := 736) C dL_law_736 ?_
  refine zP_lald (pc := 737) (a := 399) (i := 0) C dL_law_737 hO (zRk rfl) ⟨by decide, by decide⟩ ?_
  refine zP_iload (pc := 738) C (x := zI v') dL_law_738 rfl ?_
  refine zP_i2l (pc := 740) C dL_law_740 ?_
  refine zP_lcmp0 (pc := 741) C dL_law_741 (by rw [show ds' 399 (0 : Int).toNat = v' from ho h0]) ?_
  exact zP_if_eq (pc := 742) (tgt := 747) C dL_law_742 rfl (x := 0) (zRk rfl) (A := some ()) (B := (none : Option Unit)) (r := ()) rfl (fun _ _ => fin) (fun h _ => absurd rfl h)
theorem lawc_12 {V : zW} {X : zX} {b N : Nat} {xs : Nat → Int32} (hT : zo11 V) (hM : zo12 V) (hO : zsh V 399 = some (4, 1, zk0)) (C : zOk V X cL_law RL 9 room_1 ret) (LX : zLX V X b N xs) (hN : N < 3073) {i : Int} (hi : 0 ≤ i ∧ i + 6 ≤ (N : Int)) {k n : Nat} (hk : k + 1 ≤ 601024 ∧ n + 6 ≤ 7293034) {d : zD} (hg : GR d d) (next : ∀ d', GR d' d' → zP V X 9 (k + 1) (n + 6) 2100 [some (.ref b), some (.ref (zad V 0)), some (.ref (zad V 400)), some (.ref (zad V 399)), some (.int (zI i)), none, none, none, none] [] d') : zP V X 9 k n 750 [some (.ref b), some (.ref (zad V 0)), some (.ref (zad V 400)), some (.ref (zad V 399)), some (.int (zI i)), none, none, none, none] [] d := by
  have hkn : k ≤ room_1.cells ∧ n ≤ room_1.slots := ⟨by show k ≤ 601024; omega, by show n ≤ 7293034; omega⟩
  have hkn1 : k + 1 ≤ room_1.cells ∧ n + 6 ≤ room_1.slots := ⟨by show k + 1 ≤ 601024; omega, by show n + 6 ≤ 7293034; omega⟩
  refine zP_R fun hR => ?_
  obtain ⟨v, dc, dz, kv, v', ds', h1, hv, h2, hg', ht, ho⟩ := GO_runT (G_inRow ((xs (i + 1).toNat).toInt) ((xs (i + 2).toNat).toInt) ((xs (i + 3).toNat).toInt)) hg hR
  refine zP_aload_n (pc := 750) C (x := zad V 0) dL_law_750 rfl rfl ?_
  refine zP_arg (pc := 751) (i := i) (z := 1) C LX dL_law_751 dL_law_752 dL_law_754 dL_law_755 dL_law_756 rfl rfl hN ⟨by omega, by omega⟩ ?_
  refine zP_arg (pc := 757) (i := i) (z := 2) C LX dL_law_757 dL_law_758 dL_law_760 dL_law_761 dL_law_762 rfl rfl hN ⟨by omega, by omega⟩ ?_
  refine zP_arg (pc := 763) (i := i) (z := 3) C LX dL_law_763 dL_law_764 dL_law_766 dL_law_767 dL_law_768 rfl rfl hN ⟨by omega, by omega⟩ ?_
  refine zP_aload_n (pc := 769) C (x := zad V 399) dL_law_769 rfl rfl ?_
  refine zP_callTL (pc := 770) (As := [.ref (zad V 0), .int (zI (xs (i + 1).toNat).toInt), .int (zI (xs (i + 2).toNat).toInt), .int (zI (xs (i + 3).toNat).toInt), .ref (zad V 399)]) (st := []) C LX mtL_151 dL_law_770 (tL_inRow hT hO (zR_of _) (zR_of _) (zR_of _) h1 hv) ⟨Nat.le_of_ble_eq_true rfl, Nat.le_of_ble_eq_true rfl⟩ rfl (Nat.le_of_ble_eq_true rfl) hkn1 fun hkv => ?_
  show zP V X 9 (k + 1) (n + 6) 773 _ [.int (zI kv)] dz
  refine zP_istore (pc := 773) C (L' := [some (.ref b), some (.ref (zad V 0)), some (.ref (zad V 400)), some (.ref (zad V 399)), some (.int (zI i)), some (.int (zI kv)), none, none, none]) dL_law_773 (Nat.le_of_ble_eq_true rfl) rfl rfl ?_
  refine zP_aload_n (pc := 775) C (x := zad V 400) dL_law_775 rfl rfl ?_
  refine zP_arg (pc := 776) (i := i) (z := 1) C LX dL_law_776 dL_law_777 dL_law_779 dL_law_780 dL_law_781 rfl rfl hN ⟨by omega, by omega⟩ ?_
  refine zP_arg (pc := 782) (i := i) (z := 2) C LX dL_law_782 dL_law_783 dL_law_785 dL_law_786 dL_law_787 rfl rfl hN ⟨by omega, by omega⟩ ?_
  refine zP_arg (pc := 788) (i := i) (z := 3) C LX dL_law_788 dL_law_789 dL_law_791 dL_law_792 dL_law_793 rfl rfl hN ⟨by omega, by omega⟩ ?_
  refine zP_callV (pc := 794) (As := [.int (zI (xs (i + 1).toNat).toInt), .int (zI (xs (i + 2).toNat).toInt), .int (zI (xs (i + 3).toNat).toInt)]) (st := []) C mvL_154 dL_law_794 (s_X12 hM) rfl (t_X12_inRow hM (zR_of _) (zR_of _) (zR_of _) h2) ⟨Nat.le_of_ble_eq_true rfl, Nat.le_of_ble_eq_true rfl⟩ rfl (Nat.le_of_ble_eq_true rfl) hkn1 fun hv2 => ?_
  show zP V X 9 (k + 1) (n + 6) 797 _ [.int (zI v')] ds'
  refine zP_istore (pc := 797) C (L' := [some (.ref b), some (.ref (zad V 0)), some (.ref (zad V 400)), some (.ref (zad V 399)), some (.int (zI i)), some (.int (zI kv)), some (.int (zI v')), none, none]) dL_law_797 (Nat.le_of_ble_eq_true rfl) rfl rfl ?_
  refine zP_aload_n (pc := 799) C (x := zad V 400) dL_law_799 rfl rfl ?_
  refine zP_callV (pc := 800) (As := []) (st := []) C mvL_132 dL_law_800 (s_X12 hM) rfl (t_X12_thrown hM e_thrown) ⟨Nat.le_of_ble_eq_true rfl, Nat.le_of_ble_eq_true rfl⟩ rfl (Nat.le_of_ble_eq_true rfl) hkn1 fun _ => ?_
  show zP V X 9 (k + 1) (n + 6) 803 _ [.int (zI (ds' 400 0))] ds'
  rw [ht]
  refine zP_iload (pc := 803) C (x := zI kv) dL_law_803 rfl ?_
  refine zP_icmp_eq (β := Unit) (r := ()) (A := some ()) (B := some ()) (pc := 805) (tgt := 810) (x := kv) (y := kv) C dL_law_805 rfl hkv hkv (by split <;> rfl) (fun _ _ => ?_) (fun h _ => absurd rfl h)
  refine zP_iload (pc := 810) C (x := zI kv) dL_law_810 rfl ?_
  have fin : zP V X 9 (k + 1) (n + 6) 827 [some (.ref b), some (.ref (zad V 0)), some (.ref (zad V 400)), some (.ref (zad V 399)), some (.int (zI i)), some (.int (zI kv)), some (.int (zI v')), none, none] [] ds' := by
    refine zP_goto (pc := 827) (tgt := 2100) C dL_law_827 rfl ?_
    exact zP_mask [true, true, true, true, true, false, false, false, false] (next _ hg')
  refine zP_if_ne (β := Unit) (r := ()) (A := some ()) (B := some ()) (pc := 812) (tgt := 827) C dL_law_812 rfl hkv (by split <;> rfl) (fun _ _ => fin) (fun h0 _ => ?_)
  refine zP_aload_n (pc := 815) C (x := zad V 399) dL_law_815 rfl rfl ?_
  refine zP_iconst (pc := 816) C dL_law_816 ?_
  refine zP_lald (pc := 817) (a := 399) (i := 0) C dL_law_817 hO (zRk rfl) ⟨by decide, by decide⟩ ?_
  refine zP_iload (pc := 818) C (x := zI v') dL_law_818 rfl ?_
  refine zP_i2l (pc := 820) C dL_law_820 ?_
  refine zP_lcmp0 (pc := 821) C dL_law_821 (by rw [show ds' 399 (0 : Int).toNat = v' from ho h0]) ?_
  exact zP_if_eq (pc := 822) (tgt := 827) C dL_law_822 rfl (x := 0) (zRk rfl) (A := some ()) (B := (none : Option Unit)) (r := ()) rfl (fun _ _ => fin) (fun h _ => absurd rfl h)
theorem lawc_13 {V : zW} {X : zX} {b N : Nat} {xs : Nat → Int32} (hT : zo11 V) (hM : zo12 V) (hO : zsh V 399 = some (4, 1, zk0)) (C : zOk V X cL_law RL 9 room_1 ret) (LX : zLX V X b N xs) (hN : N < 3073) {i : Int} (hi : 0 ≤ i ∧ i + 6 ≤ (N : Int)) {k n : Nat} (hk : k + 1 ≤ 601024 ∧ n + 6 ≤ 7293034) {d : zD} (hg : GR d d) (next : ∀ d', GR d' d' → zP V X 9 (k + 1) (n + 6) 2100 [some (.ref b), some (.ref (zad V 0)), some (.ref (zad V 400)), some (.ref (zad V 399)), some (.int (zI i)), none, none, none, none] [] d') : zP V X 9 k n 830 [some (.ref b), some (.ref (zad V 0)), some (.ref (zad V 400)), some (.ref (zad V 399)), some (.int (zI i)), none, none, none, none] [] d := by
  have hkn : k ≤ room_1.cells ∧ n ≤ room_1.slots := ⟨by show k ≤ 601024; omega, by show n ≤ 7293034; omega⟩
  have hkn1 : k + 1 ≤ room_1.cells ∧ n + 6 ≤ room_1.slots := ⟨by show k + 1 ≤ 601024; omega, by show n + 6 ≤ 7293034; omega⟩
  refine zP_R fun hR => ?_
  obtain ⟨v, dc, dz, kv, v', ds', h1, hv, h2, hg', ht, ho⟩ := GO_runT (G_place ((xs (i + 1).toNat).toInt)) hg hR
  refine zP_aload_n (pc := 830) C (x := zad V 0) dL_law_830 rfl rfl ?_
  refine zP_arg (pc := 831) (i := i) (z := 1) C LX dL_law_831 dL_law_832 dL_law_834 dL_law_835 dL_law_836 rfl rfl hN ⟨by omega, by omega⟩ ?_
  refine zP_aload_n (pc := 837) C (x := zad V 399) dL_law_837 rfl rfl ?_
  refine zP_callTL (pc := 838) (As := [.ref (zad V 0), .int (zI (xs (i + 1).toNat).toInt), .ref (zad V 399)]) (st := []) C LX mtL_155 dL_law_838 (tL_place hT hO (zR_of _) h1 hv) ⟨Nat.le_of_ble_eq_true rfl, Nat.le_of_ble_eq_true rfl⟩ rfl (Nat.le_of_ble_eq_true rfl) hkn1 fun hkv => ?_
  show zP V X 9 (k + 1) (n + 6) 841 _ [.int (zI kv)] dz
  refine zP_istore (pc := 841) C (L' := [some (.ref b), some (.ref (zad V 0)), some (.ref (zad V 400)), some (.ref (zad V 399)), some (.int (zI i)), some (.int (zI kv)), none, none, none]) dL_law_841 (Nat.le_of_ble_eq_true rfl) rfl rfl ?_
  refine zP_aload_n (pc := 843) C (x := zad V 400) dL_law_843 rfl rfl ?_
  refine zP_arg (pc := 844) (i := i) (z := 1) C LX dL_law_844 dL_law_845 dL_law_847 dL_law_848 dL_law_849 rfl rfl hN ⟨by omega, by omega⟩ ?_
  refine zP_callV (pc := 850) (As := [.int (zI (xs (i + 1).toNat).toInt)]) (st := []) C mvL_157 dL_law_850 (s_X12 hM) rfl (t_X12_place hM (zR_of _) h2) ⟨Nat.le_of_ble_eq_true rfl, Nat.le_of_ble_eq_true rfl⟩ rfl (Nat.le_of_ble_eq_true rfl) hkn1 fun hv2 => ?_
  show zP V X 9 (k + 1) (n + 6) 853 _ [.int (zI v')] ds'
  refine zP_istore (pc := 853) C (L' := [some (.ref b), some (.ref (zad V 0)), some (.ref (zad V 400)), some (.ref (zad V 399)), some (.int (zI i)), some (.int (zI kv)), some (.int (zI v')), none, none]) dL_law_853 (Nat.le_of_ble_eq_true rfl) rfl rfl ?_
  refine zP_aload_n (pc := 855) C (x := zad V 400) dL_law_855 rfl rfl ?_
  refine zP_callV (pc := 856) (As := []) (st := []) C mvL_132 dL_law_856 (s_X12 hM) rfl (t_X12_thrown hM e_thrown) ⟨Nat.le_of_ble_eq_true rfl, Nat.le_of_ble_eq_true rfl⟩ rfl (Nat.le_of_ble_eq_true rfl) hkn1 fun _ => ?_
  show zP V X 9 (k + 1) (n + 6) 859 _ [.int (zI (ds' 400 0))] ds'
  rw [ht]
  refine zP_iload (pc := 859) C (x := zI kv) dL_law_859 rfl ?_
  refine zP_icmp_eq (β := Unit) (r := ()) (A := some ()) (B := some ()) (pc := 861) (tgt := 866) (x := kv) (y := kv) C dL_law_861 rfl hkv hkv (by split <;> rfl) (fun _ _ => ?_) (fun h _ => absurd rfl h)
  refine zP_iload (pc := 866) C (x := zI kv) dL_law_866 rfl ?_
  have fin : zP V X 9 (k + 1) (n + 6) 883 [some (.ref b), some (.ref (zad V 0)), some (.ref (zad V 400)), some (.ref (zad V 399)), some (.int (zI i)), some (.int (zI kv)), some (.int (zI v')), none, none] [] ds' := by
    refine zP_goto (pc := 883) (tgt := 2100) C dL_law_883 rfl ?_
    exact zP_mask [true, true, true, true, true, false, false, false, false] (next _ hg')
  refine zP_if_ne (β := Unit) (r := ()) (A := some ()) (B := some ()) (pc := 868) (tgt := 883) C dL_law_868 rfl hkv (by split <;> rfl) (fun _ _ => fin) (fun h0 _ => ?_)
  refine zP_aload_n (pc := 871) C (x := zad V 399) dL_law_871 rfl rfl ?_
  refine zP_iconst (pc := 872) C dL_law_872 ?_
  refine zP_lald (pc := 873) (a := 399) (i := 0) C dL_law_873 hO (zRk rfl) ⟨by decide, by decide⟩ ?_
  refine zP_iload (pc := 874) C (x := zI v') dL_law_874 rfl ?_
  refine zP_i2l (pc := 876) C dL_law_876 ?_
  refine zP_lcmp0 (pc := 877) C dL_law_877 (by rw [show ds' 399 (0 : Int).toNat = v' from ho h0]) ?_
  exact zP_if_eq (pc := 878) (tgt := 883) C dL_law_878 rfl (x := 0) (zRk rfl) (A := some ()) (B := (none : Option Unit)) (r := ()) rfl (fun _ _ => fin) (fun h _ => absurd rfl h)
theorem lawc_14 {V : zW} {X : zX} {b N : Nat} {xs : Nat → Int32} (hT : zo11 V) (hM : zo12 V) (hO : zsh V 399 = some (4, 1, zk0)) (C : zOk V X cL_law RL 9 room_1 ret) (LX : zLX V X b N xs) (hN : N < 3073) {i : Int} (hi : 0 ≤ i ∧ i + 6 ≤ (N : Int)) {k n : Nat} (hk : k + 1 ≤ 601024 ∧ n + 6 ≤ 7293034) {d : zD} (hg : GR d d) (next : ∀ d', GR d' d' → zP V X 9 (k + 1) (n + 6) 2100 [some (.ref b), some (.ref (zad V 0)), some (.ref (zad V 400)), some (.ref (zad V 399)), some (.int (zI i)), none, none, none, none] [] d') : zP V X 9 k n 886 [some (.ref b), some (.ref (zad V 0)), some (.ref (zad V 400)), some (.ref (zad V 399)), some (.int (zI i)), none, none, none, none] [] d := by
  have hkn : k ≤ room_1.cells ∧ n ≤ room_1.slots := ⟨by show k ≤ 601024; omega, by show n ≤ 7293034; omega⟩
  have hkn1 : k + 1 ≤ room_1.cells ∧ n + 6 ≤ room_1.slots := ⟨by show k + 1 ≤ 601024; omega, by show n + 6 ≤ 7293034; omega⟩
  refine zP_R fun hR => ?_
  obtain ⟨v, dc, ds', h1, h2, hg', hv⟩ := GO_runA (G_off) hg hR
  refine zP_aload_n (pc := 886) C (x := zad V 0) dL_law_886 rfl rfl ?_
  refine zP_callV (pc := 887) (As := []) (st := []) C mvL_158 dL_law_887 (s_X11 hT) rfl (t_X11_off hT h1) ⟨Nat.le_of_ble_eq_true rfl, Nat.le_of_ble_eq_true rfl⟩ rfl (Nat.le_of_ble_eq_true rfl) hkn fun _ => ?_
  show zP V X 9 k n 890 _ [.int (zI v)] dc
  refine zP_aload_n (pc := 890) C (x := zad V 400) dL_law_890 rfl rfl ?_
  refine zP_callV (pc := 891) (As := []) (st := [.int (zI v)]) C mvL_161 dL_law_891 (s_X12 hM) rfl (t_X12_off hM h2) ⟨Nat.le_of_ble_eq_true rfl, Nat.le_of_ble_eq_true rfl⟩ rfl (Nat.le_of_ble_eq_true rfl) hkn fun _ => ?_
  show zP V X 9 k n 894 _ [.int (zI v), .int (zI v)] ds'
  refine zP_icmp_eq (β := Unit) (r := ()) (A := some ()) (B := some ()) (pc := 894) (tgt := 2100) (x := v) (y := v) C dL_law_894 rfl hv hv (by split <;> rfl) (fun _ _ => ?_) (fun h _ => absurd rfl h)
  exact zP_wide (Nat.le_add_right _ _) (Nat.le_add_right _ _) (next _ hg')
theorem lawc_15 {V : zW} {X : zX} {b N : Nat} {xs : Nat → Int32} (hT : zo11 V) (hM : zo12 V) (hO : zsh V 399 = some (4, 1, zk0)) (C : zOk V X cL_law RL 9 room_1 ret) (LX : zLX V X b N xs) (hN : N < 3073) {i : Int} (hi : 0 ≤ i ∧ i + 6 ≤ (N : Int)) {k n : Nat} (hk : k + 1 ≤ 601024 ∧ n + 6 ≤ 7293034) {d : zD} (hg : GR d d) (next : ∀ d', GR d' d' → zP V X 9 (k + 1) (n + 6) 2100 [some (.ref b), some (.ref (zad V 0)), some (.ref (zad V 400)), some (.ref (zad V 399)), some (.int (zI i)), none, none, none, none] [] d') : zP V X 9 k n 899 [some (.ref b), some (.ref (zad V 0)), some (.ref (zad V 400)), some (.ref (zad V 399)), some (.int (zI i)), none, none, none, none] [] d := by
  have hkn : k ≤ room_1.cells ∧ n ≤ room_1.slots := ⟨by show k ≤ 601024; omega, by show n ≤ 7293034; omega⟩
  have hkn1 : k + 1 ≤ room_1.cells ∧ n + 6 ≤ room_1.slots := ⟨by show k + 1 ≤ 601024; omega, by show n + 6 ≤ 7293034; omega⟩
  refine zP_R fun hR => ?_
  obtain ⟨v, dc, dz, kv, v', ds', h1, hv, h2, hg', ht, ho⟩ := GO_runT (G_turn ((xs (i + 1).toNat).toInt) ((xs (i + 2).toNat).toInt)) hg hR
  refine zP_aload_n (pc := 899) C (x := zad V 0) dL_law_899 rfl rfl ?_
  refine zP_arg (pc := 900) (i := i) (z := 1) C LX dL_law_900 dL_law_901 dL_law_903 dL_law_904 dL_law_905 rfl rfl hN ⟨by omega, by omega⟩ ?_
  refine zP_arg (pc := 906) (i := i) (z := 2) C LX dL_law_906 dL_law_907 dL_law_909 dL_law_910 dL_law_911 rfl rfl hN ⟨by omega, by omega⟩ ?_
  refine zP_aload_n (pc := 912) C (x := zad V 399) dL_law_912 rfl rfl ?_
  refine zP_callTL (pc := 913) (As := [.ref (zad V 0), .int (zI (xs (i + 1).toNat).toInt), .int (zI (xs (i + 2).toNat).toInt), .ref (zad V 399)]) (st := []) C LX mtL_162 dL_law_913 (tL_turn hT hO (zR_of _) (zR_of _) h1 hv) ⟨Nat.le_of_ble_eq_true rfl, Nat.le_of_ble_eq_true rfl⟩ rfl (Nat.le_of_ble_eq_true rfl) hkn1 fun hkv => ?_
  show zP V X 9 (k + 1) (n + 6) 916 _ [.int (zI kv)] dz
  refine zP_istore (pc := 916) C (L' := [some (.ref b), some (.ref (zad V 0)), some (.ref (zad V 400)), some (.ref (zad V 399)), some (.int (zI i)), some (.int (zI kv)), none, none, none]) dL_law_916 (Nat.le_of_ble_eq_true rfl) rfl rfl ?_
  refine zP_aload_n (pc := 918) C (x := zad V 400) dL_law_918 rfl rfl ?_
  refine zP_arg (pc := 919) (i := i) (z := 1) C LX dL_law_919 dL_law_920 dL_law_922 dL_law_923 dL_law_924 rfl rfl hN ⟨by omega, by omega⟩ ?_
  refine zP_arg (pc := 925) (i := i) (z := 2) C LX dL_law_925 dL_law_926 dL_law_928 dL_law_929 dL_law_930 rfl rfl hN ⟨by omega, by omega⟩ ?_
  refine zP_callV (pc := 931) (As := [.int (zI (xs (i + 1).toNat).toInt), .int (zI (xs (i + 2).toNat).toInt)]) (st := []) C mvL_164 dL_law_931 (s_X12 hM) rfl (t_X12_turn hM (zR_of _) (zR_of _) h2) ⟨Nat.le_of_ble_eq_true rfl, Nat.le_of_ble_eq_true rfl⟩ rfl (Nat.le_of_ble_eq_true rfl) hkn1 fun hv2 => ?_
  show zP V X 9 (k + 1) (n + 6) 934 _ [.int (zI v')] ds'
  refine zP_istore (pc := 934) C (L' := [some (.ref b), some (.ref (zad V 0)), some (.ref (zad V 400)), some (.ref (zad V 399)), some (.int (zI i)), some (.int (zI kv)), some (.int (zI v')), none, none]) dL_law_934 (Nat.le_of_ble_eq_true rfl) rfl rfl ?_
  refine zP_aload_n (pc := 936) C (x := zad V 400) dL_law_936 rfl rfl ?_
  refine zP_callV (pc := 937) (As := []) (st := []) C mvL_132 dL_law_937 (s_X12 hM) rfl (t_X12_thrown hM e_thrown) ⟨Nat.le_of_ble_eq_true rfl, Nat.le_of_ble_eq_true rfl⟩ rfl (Nat.le_of_ble_eq_true rfl) hkn1 fun _ => ?_
  show zP V X 9 (k + 1) (n + 6) 940 _ [.int (zI (ds' 400 0))] ds'
  rw [ht]
  refine zP_iload (pc := 940) C (x := zI kv) dL_law_940 rfl ?_
  refine zP_icmp_eq (β := Unit) (r := ()) (A := some ()) (B := some ()) (pc := 942) (tgt := 947) (x := kv) (y := kv) C dL_law_942 rfl hkv hkv (by split <;> rfl) (fun _ _ => ?_) (fun h _ => absurd rfl h)
  refine zP_iload (pc := 947) C (x := zI kv) dL_law_947 rfl ?_
  have fin : zP V X 9 (k + 1) (n + 6) 964 [some (.ref b), some (.ref (zad V 0)), some (.ref (zad V 400)), some (.ref (zad V 399)), some (.int (zI i)), some (.int (zI kv)), some (.int (zI v')), none, none] [] ds' := by
    refine zP_goto (pc := 964) (tgt := 2100) C dL_law_964 rfl ?_
    exact zP_mask [true, true, true, true, true, false, false, false, false] (next _ hg')
  refine zP_if_ne (β := Unit) (r := ()) (A := some ()) (B := some ()) (pc := 949) (tgt := 964) C dL_law_949 rfl hkv (by split <;> rfl) (fun _ _ => fin) (fun h0 _ => ?_)
  refine zP_aload_n (pc := 952) C (x := zad V 399) dL_law_952 rfl rfl ?_
  refine zP_iconst (pc := 953) C dL_law_953 ?_
  refine zP_lald (pc := 954) (a := 399) (i := 0) C dL_law_954 hO (zRk rfl) ⟨by decide, by decide⟩ ?_
  refine zP_iload (pc := 955) C (x := zI v') dL_law_955 rfl ?_
  refine zP_i2l (pc := 957) C dL_law_957 ?_
  refine zP_lcmp0 (pc := 958) C dL_law_958 (by rw [show ds' 399 (0 : Int).toNat = v' from ho h0]) ?_
  exact zP_if_eq (pc := 959) (tgt := 964) C dL_law_959 rfl (x := 0) (zRk rfl) (A := some ()) (B := (none : Option Unit)) (r := ()) rfl (fun _ _ => fin) (fun h _ => absurd rfl h)
theorem lawc_16 {V : zW} {X : zX} {b N : Nat} {xs : Nat → Int32} (hT : zo11 V) (hM : zo12 V) (hO : zsh V 399 = some (4, 1, zk0)) (C : zOk V X cL_law RL 9 room_1 ret) (LX : zLX V X b N xs) (hN : N < 3073) {i : Int} (hi : 0 ≤ i ∧ i + 6 ≤ (N : Int)) {k n : Nat} (hk : k + 1 ≤ 601024 ∧ n + 6 ≤ 7293034) {d : zD} (hg : GR d d) (next : ∀ d', GR d' d' → zP V X 9 (k + 1) (n + 6) 2100 [some (.ref b), some (.ref (zad V 0)), some (.ref (zad V 400)), some (.ref (zad V 399)), some (.int (zI i)), none, none, none, none] [] d') : zP V X 9 k n 967 [some (.ref b), some (.ref (zad V 0)), some (.ref (zad V 400)), some (.ref (zad V 399)), some (.int (zI i)), none, none, none, none] [] d := by
  have hkn : k ≤ room_1.cells ∧ n ≤ room_1.slots := ⟨by show k ≤ 601024; omega, by show n ≤ 7293034; omega⟩
  have hkn1 : k + 1 ≤ room_1.cells ∧ n + 6 ≤ room_1.slots := ⟨by show k + 1 ≤ 601024; omega, by show n + 6 ≤ 7293034; omega⟩
  refine zP_R fun hR => ?_
  obtain ⟨v, dc, ds', h1, h2, hg', hv⟩ := GO_runA (G_nextKind) hg hR
  refine zP_aload_n (pc := 967) C (x := zad V 0) dL_law_967 rfl rfl ?_
  refine zP_callV (pc := 968) (As := []) (st := []) C mvL_165 dL_law_968 (s_X11 hT) rfl (t_X11_nextKind hT h1) ⟨Nat.le_of_ble_eq_true rfl, Nat.le_of_ble_eq_true rfl⟩ rfl (Nat.le_of_ble_eq_true rfl) hkn fun _ => ?_
  show zP V X 9 k n 971 _ [.int (zI v)] dc
  refine zP_aload_n (pc := 971) C (x := zad V 400) dL_law_971 rfl rfl ?_
  refine zP_callV (pc := 972) (As := []) (st := [.int (zI v)]) C mvL_168 dL_law_972 (s_X12 hM) rfl (t_X12_nextKind hM h2) ⟨Nat.le_of_ble_eq_true rfl, Nat.le_of_ble_eq_true rfl⟩ rfl (Nat.le_of_ble_eq_true rfl) hkn fun _ => ?_
  show zP V X 9 k n 975 _ [.int (zI v), .int (zI v)] ds'
  refine zP_icmp_eq (β := Unit) (r := ()) (A := some ()) (B := some ()) (pc := 975) (tgt := 2100) (x := v) (y := v) C dL_law_975 rfl hv hv (by split <;> rfl) (fun _ _ => ?_) (fun h _ => absurd rfl h)
  exact zP_wide (Nat.le_add_right _ _) (Nat.le_add_right _ _) (next _ hg')
theorem lawc_17 {V : zW} {X : zX} {b N : Nat} {xs : Nat → Int32} (hT : zo11 V) (hM : zo12 V) (hO : zsh V 399 = some (4, 1, zk0)) (C : zOk V X cL_law RL 9 room_1 ret) (LX : zLX V X b N xs) (hN : N < 3073) {i : Int} (hi : 0 ≤ i ∧ i + 6 ≤ (N : Int)) {k n : Nat} (hk : k + 1 ≤ 601024 ∧ n + 6 ≤ 7293034) {d : zD} (hg : GR d d) (next : ∀ d', GR d' d' → zP V X 9 (k + 1) (n + 6) 2100 [some (.ref b), some (.ref (zad V 0)), some (.ref (zad V 400)), some (.ref (zad V 399)), some (.int (zI i)), none, none, none, none] [] d') : zP V X 9 k n 980 [some (.ref b), some (.ref (zad V 0)), some (.ref (zad V 400)), some (.ref (zad V 399)), some (.int (zI i)), none, none, none, none] [] d := by
  have hkn : k ≤ room_1.cells ∧ n ≤ room_1.slots := ⟨by show k ≤ 601024; omega, by show n ≤ 7293034; omega⟩
  have hkn1 : k + 1 ≤ room_1.cells ∧ n + 6 ≤ room_1.slots := ⟨by show k + 1 ≤ 601024; omega, by show n + 6 ≤ 7293034; omega⟩
  refine zP_R fun hR => ?_
  obtain ⟨v, dc, ds', h1, h2, hg', hv⟩ := GO_runA (G_nextTerminal) hg hR
  refine zP_aload_n (pc := 980) C (x := zad V 0) dL_law_980 rfl rfl ?_
  refine zP_callV (pc := 981) (As := []) (st := []) C mvL_169 dL_law_981 (s_X11 hT) rfl (t_X11_nextTerminal hT h1) ⟨Nat.le_of_ble_eq_true rfl, Nat.le_of_ble_eq_true rfl⟩ rfl (Nat.le_of_ble_eq_true rfl) hkn fun _ => ?_
  show zP V X 9 k n 984 _ [.int (zI v)] dc
  refine zP_aload_n (pc := 984) C (x := zad V 400) dL_law_984 rfl rfl ?_
  refine zP_callV (pc := 985) (As := []) (st := [.int (zI v)]) C mvL_172 dL_law_985 (s_X12 hM) rfl (t_X12_nextTerminal hM h2) ⟨Nat.le_of_ble_eq_true rfl, Nat.le_of_ble_eq_true rfl⟩ rfl (Nat.le_of_ble_eq_true rfl) hkn fun _ => ?_
  show zP V X 9 k n 988 _ [.int (zI v), .int (zI v)] ds'
  refine zP_icmp_eq (β := Unit) (r := ()) (A := some ()) (B := some ()) (pc := 988) (tgt := 2100) (x := v) (y := v) C dL_law_988 rfl hv hv (by split <;> rfl) (fun _ _ => ?_) (fun h _ => absurd rfl h)
  exact zP_wide (Nat.le_add_right _ _) (Nat.le_add_right _ _) (next _ hg')
theorem lawc_18 {V : zW} {X : zX} {b N : Nat} {xs : Nat → Int32} (hT : zo11 V) (hM : zo12 V) (hO : zsh V 399 = some (4, 1, zk0)) (C : zOk V X cL_law RL 9 room_1 ret) (LX : zLX V X b N xs) (hN : N < 3073) {i : Int} (hi : 0 ≤ i ∧ i + 6 ≤ (N : Int)) {k n : Nat} (hk : k + 1 ≤ 601024 ∧ n + 6 ≤ 7293034) {d : zD} (hg : GR d d) (next : ∀ d', GR d' d' → zP V X 9 (k + 1) (n + 6) 2100 [some (.ref b), some (.ref (zad V 0)), some (.ref (zad V 400)), some (.ref (zad V 399)), some (.int (zI i)), none, none, none, none] [] d') : zP V X 9 k n 993 [some (.ref b), some (.ref (zad V 0)), some (.ref (zad V 400)), some (.ref (zad V 399)), some (.int (zI i)), none, none, none, none] [] d := by
  have hkn : k ≤ room_1.cells ∧ n ≤ room_1.slots := ⟨by show k ≤ 601024; omega, by show n ≤ 7293034; omega⟩
  have hkn1 : k + 1 ≤ room_1.cells ∧ n + 6 ≤ room_1.slots := ⟨by show k + 1 ≤ 601024; omega, by show n + 6 ≤ 7293034; omega⟩
  refine zP_R fun hR => ?_
  obtain ⟨v, dc, ds', h1, h2, hg', hv⟩ := GO_runA (G_gap) hg hR
  refine zP_aload_n (pc := 993) C (x := zad V 0) dL_law_993 rfl rfl ?_
  refine zP_callV (pc := 994) (As := []) (st := []) C mvL_173 dL_law_994 (s_X11 hT) rfl (t_X11_gap hT h1) ⟨Nat.le_of_ble_eq_true rfl, Nat.le_of_ble_eq_true rfl⟩ rfl (Nat.le_of_ble_eq_true rfl) hkn fun _ => ?_
  show zP V X 9 k n 997 _ [.int (zI v)] dc
  refine zP_aload_n (pc := 997) C (x := zad V 400) dL_law_997 rfl rfl ?_
  refine zP_callV (pc := 998) (As := []) (st := [.int (zI v)]) C mvL_176 dL_law_998 (s_X12 hM) rfl (t_X12_gap hM h2) ⟨Nat.le_of_ble_eq_true rfl, Nat.le_of_ble_eq_true rfl⟩ rfl (Nat.le_of_ble_eq_true rfl) hkn fun _ => ?_
  show zP V X 9 k n 1001 _ [.int (zI v), .int (zI v)] ds'
  refine zP_icmp_eq (β := Unit) (r := ()) (A := some ()) (B := some ()) (pc := 1001) (tgt := 2100) (x := v) (y := v) C dL_law_1001 rfl hv hv (by split <;> rfl) (fun _ _ => ?_) (fun h _ => absurd rfl h)
  exact zP_wide (Nat.le_add_right _ _) (Nat.le_add_right _ _) (next _ hg')
theorem lawc_19 {V : zW} {X : zX} {b N : Nat} {xs : Nat → Int32} (hT : zo11 V) (hM : zo12 V) (hO : zsh V 399 = some (4, 1, zk0)) (C : zOk V X cL_law RL 9 room_1 ret) (LX : zLX V X b N xs) (hN : N < 3073) {i : Int} (hi : 0 ≤ i ∧ i + 6 ≤ (N : Int)) {k n : Nat} (hk : k + 1 ≤ 601024 ∧ n + 6 ≤ 7293034) {d : zD} (hg : GR d d) (next : ∀ d', GR d' d' → zP V X 9 (k + 1) (n + 6) 2100 [some (.ref b), some (.ref (zad V 0)), some (.ref (zad V 400)), some (.ref (zad V 399)), some (.int (zI i)), none, none, none, none] [] d') : zP V X 9 k n 1006 [some (.ref b), some (.ref (zad V 0)), some (.ref (zad V 400)), some (.ref (zad V 399)), some (.int (zI i)), none, none, none, none] [] d := by
  have hkn : k ≤ room_1.cells ∧ n ≤ room_1.slots := ⟨by show k ≤ 601024; omega, by show n ≤ 7293034; omega⟩
  have hkn1 : k + 1 ≤ room_1.cells ∧ n + 6 ≤ room_1.slots := ⟨by show k + 1 ≤ 601024; omega, by show n + 6 ≤ 7293034; omega⟩
  refine zP_R fun hR => ?_
  obtain ⟨v, dc, dz, kv, v', ds', h1, hv, h2, hg', ht, ho⟩ := GO_runT (G_deliveredIn ((xs (i + 1).toNat).toInt)) hg hR
  refine zP_aload_n (pc := 1006) C (x := zad V 0) dL_law_1006 rfl rfl ?_
  refine zP_arg (pc := 1007) (i := i) (z := 1) C LX dL_law_1007 dL_law_1008 dL_law_1010 dL_law_1011 dL_law_1012 rfl rfl hN ⟨by omega, by omega⟩ ?_
  refine zP_aload_n (pc := 1013) C (x := zad V 399) dL_law_1013 rfl rfl ?_
  refine zP_callTL (pc := 1014) (As := [.ref (zad V 0), .int (zI (xs (i + 1).toNat).toInt), .ref (zad V 399)]) (st := []) C LX mtL_177 dL_law_1014 (tL_deliveredIn hT hO (zR_of _) h1 hv) ⟨Nat.le_of_ble_eq_true rfl, Nat.le_of_ble_eq_true rfl⟩ rfl (Nat.le_of_ble_eq_true rfl) hkn1 fun hkv => ?_
  show zP V X 9 (k + 1) (n + 6) 1017 _ [.int (zI kv)] dz
  refine zP_istore (pc := 1017) C (L' := [some (.ref b), some (.ref (zad V 0)), some (.ref (zad V 400)), some (.ref (zad V 399)), some (.int (zI i)), some (.int (zI kv)), none, none, none]) dL_law_1017 (Nat.le_of_ble_eq_true rfl) rfl rfl ?_
  refine zP_aload_n (pc := 1019) C (x := zad V 400) dL_law_1019 rfl rfl ?_
  refine zP_arg (pc := 1020) (i := i) (z := 1) C LX dL_law_1020 dL_law_1021 dL_law_1023 dL_law_1024 dL_law_1025 rfl rfl hN ⟨by omega, by omega⟩ ?_
  refine zP_callV (pc := 1026) (As := [.int (zI (xs (i + 1).toNat).toInt)]) (st := []) C mvL_179 dL_law_1026 (s_X12 hM) rfl (t_X12_deliveredIn hM (zR_of _) h2) ⟨Nat.le_of_ble_eq_true rfl, Nat.le_of_ble_eq_true rfl⟩ rfl (Nat.le_of_ble_eq_true rfl) hkn1 fun hv2 => ?_
  show zP V X 9 (k + 1) (n + 6) 1029 _ [.int (zI v')] ds'
  refine zP_istore (pc := 1029) C (L' := [some (.ref b), some (.ref (zad V 0)), some (.ref (zad V 400)), some (.ref (zad V 399)), some (.int (zI i)), some (.int (zI kv)), some (.int (zI v')), none, none]) dL_law_1029 (Nat.le_of_ble_eq_true rfl) rfl rfl ?_
  refine zP_aload_n (pc := 1031) C (x := zad V 400) dL_law_1031 rfl rfl ?_
  refine zP_callV (pc := 1032) (As := []) (st := []) C mvL_132 dL_law_1032 (s_X12 hM) rfl (t_X12_thrown hM e_thrown) ⟨Nat.le_of_ble_eq_true rfl, Nat.le_of_ble_eq_true rfl⟩ rfl (Nat.le_of_ble_eq_true rfl) hkn1 fun _ => ?_
  show zP V X 9 (k + 1) (n + 6) 1035 _ [.int (zI (ds' 400 0))] ds'
  rw [ht]
  refine zP_iload (pc := 1035) C (x := zI kv) dL_law_1035 rfl ?_
  refine zP_icmp_eq (β := Unit) (r := ()) (A := some ()) (B := some ()) (pc := 1037) (tgt := 1042) (x := kv) (y := kv) C dL_law_1037 rfl hkv hkv (by split <;> rfl) (fun _ _ => ?_) (fun h _ => absurd rfl h)
  refine zP_iload (pc := 1042) C (x := zI kv) dL_law_1042 rfl ?_
  have fin : zP V X 9 (k + 1) (n + 6) 1059 [some (.ref b), some (.ref (zad V 0)), some (.ref (zad V 400)), some (.ref (zad V 399)), some (.int (zI i)), some (.int (zI kv)), some (.int (zI v')), none, none] [] ds' := by
    refine zP_goto (pc := 1059) (tgt := 2100) C dL_law_1059 rfl ?_
    exact zP_mask [true, true, true, true, true, false, false, false, false] (next _ hg')
  refine zP_if_ne (β := Unit) (r := ()) (A := some ()) (B := some ()) (pc := 1044) (tgt := 1059) C dL_law_1044 rfl hkv (by split <;> rfl) (fun _ _ => fin) (fun h0 _ => ?_)
  refine zP_aload_n (pc := 1047) C (x := zad V 399) dL_law_1047 rfl rfl ?_
  refine zP_iconst (pc := 1048) C dL_law_1048 ?_
  refine zP_lald (pc := 1049) (a := 399) (i := 0) C dL_law_1049 hO (zRk rfl) ⟨by decide, by decide⟩ ?_
  refine zP_iload (pc := 1050) C (x := zI v') dL_law_1050 rfl ?_
  refine zP_i2l (pc := 1052) C dL_law_1052 ?_
  refine zP_lcmp0 (pc := 1053) C dL_law_1053 (by rw [show ds' 399 (0 : Int).toNat = v' from ho h0]) ?_
  exact zP_if_eq (pc := 1054) (tgt := 1059) C dL_law_1054 rfl (x := 0) (zRk rfl) (A := some ()) (B := (none : Option Unit)) (r := ()) rfl (fun _ _ => fin) (fun h _ => absurd rfl h)
theorem lawc_20 {V : zW} {X : zX} {b N : Nat} {xs : Nat → Int32} (hT : zo11 V) (hM : zo12 V) (hO : zsh V 399 = some (4, 1, zk0)) (C : zOk V X cL_law RL 9 room_1 ret) (LX : zLX V X b N xs) (hN : N < 3073) {i : Int} (hi : 0 ≤ i ∧ i + 6 ≤ (N : Int)) {k n : Nat} (hk : k + 1 ≤ 601024 ∧ n + 6 ≤ 7293034) {d : zD} (hg : GR d d) (next : ∀ d', GR d' d' → zP V X 9 (k + 1) (n + 6) 2100 [some (.ref b), some (.ref (zad V 0)), some (.ref (zad V 400)), some (.ref (zad V 399)), some (.int (zI i)), none, none, none, none] [] d') : zP V X 9 k n 1062 [some (.ref b), some (.ref (zad V 0)), some (.ref (zad V 400)), some (.ref (zad V 399)), some (.int (zI i)), none, none, none, none] [] d := by
  have hkn : k ≤ room_1.cells ∧ n ≤ room_1.slots := ⟨by show k ≤ 601024; omega, by show n ≤ 7293034; omega⟩
  have hkn1 : k + 1 ≤ room_1.cells ∧ n + 6 ≤ room_1.slots := ⟨by show k + 1 ≤ 601024; omega, by show n + 6 ≤ 7293034; omega⟩
  refine zP_R fun hR => ?_
  obtain ⟨v, dc, dz, kv, v', ds', h1, hv, h2, hg', ht, ho⟩ := GO_runT (G_timeIn ((xs (i + 1).toNat).toInt)) hg hR
  refine zP_aload_n (pc := 1062) C (x := zad V 0) dL_law_1062 rfl rfl ?_
  refine zP_arg (pc := 1063) (i := i) (z := 1) C LX dL_law_1063 dL_law_1064 dL_law_1066 dL_law_1067 dL_law_1068 rfl rfl hN ⟨by omega, by omega⟩ ?_
  refine zP_aload_n (pc := 1069) C (x := zad V 399) dL_law_1069 rfl rfl ?_
  refine zP_callTL (pc := 1070) (As := [.ref (zad V 0), .int (zI (xs (i + 1).toNat).toInt), .ref (zad V 399)]) (st := []) C LX mtL_180 dL_law_1070 (tL_timeIn hT hO (zR_of _) h1 hv) ⟨Nat.le_of_ble_eq_true rfl, Nat.le_of_ble_eq_true rfl⟩ rfl (Nat.le_of_ble_eq_true rfl) hkn1 fun hkv => ?_
  show zP V X 9 (k + 1) (n + 6) 1073 _ [.int (zI kv)] dz
  refine zP_istore (pc := 1073) C (L' := [some (.ref b), some (.ref (zad V 0)), some (.ref (zad V 400)), some (.ref (zad V 399)), some (.int (zI i)), some (.int (zI kv)), none, none, none]) dL_law_1073 (Nat.le_of_ble_eq_true rfl) rfl rfl ?_
  refine zP_aload_n (pc := 1075) C (x := zad V 400) dL_law_1075 rfl rfl ?_
  refine zP_arg (pc := 1076) (i := i) (z := 1) C LX dL_law_1076 dL_law_1077 dL_law_1079 dL_law_1080 dL_law_1081 rfl rfl hN ⟨by omega, by omega⟩ ?_
  refine zP_callV (pc := 1082) (As := [.int (zI (xs (i + 1).toNat).toInt)]) (st := []) C mvL_182 dL_law_1082 (s_X12 hM) rfl (t_X12_timeIn hM (zR_of _) h2) ⟨Nat.le_of_ble_eq_true rfl, Nat.le_of_ble_eq_true rfl⟩ rfl (Nat.le_of_ble_eq_true rfl) hkn1 fun hv2 => ?_
  show zP V X 9 (k + 1) (n + 6) 1085 _ [.int (zI v')] ds'
  refine zP_istore (pc := 1085) C (L' := [some (.ref b), some (.ref (zad V 0)), some (.ref (zad V 400)), some (.ref (zad V 399)), some (.int (zI i)), some (.int (zI kv)), some (.int (zI v')), none, none]) dL_law_1085 (Nat.le_of_ble_eq_true rfl) rfl rfl ?_
  refine zP_aload_n (pc := 1087) C (x := zad V 400) dL_law_1087 rfl rfl ?_
  refine zP_callV (pc := 1088) (As := []) (st := []) C mvL_132 dL_law_1088 (s_X12 hM) rfl (t_X12_thrown hM e_thrown) ⟨Nat.le_of_ble_eq_true rfl, Nat.le_of_ble_eq_true rfl⟩ rfl (Nat.le_of_ble_eq_true rfl) hkn1 fun _ => ?_
  show zP V X 9 (k + 1) (n + 6) 1091 _ [.int (zI (ds' 400 0))] ds'
  rw [ht]
  refine zP_iload (pc := 1091) C (x := zI kv) dL_law_1091 rfl ?_
  refine zP_icmp_eq (β := Unit) (r := ()) (A := some ()) (B := some ()) (pc := 1093) (tgt := 1098) (x := kv) (y := kv) C dL_law_1093 rfl hkv hkv (by split <;> rfl) (fun _ _ => ?_) (fun h _ => absurd rfl h)
  refine zP_iload (pc := 1098) C (x := zI kv) dL_law_1098 rfl ?_
  have fin : zP V X 9 (k + 1) (n + 6) 1115 [some (.ref b), some (.ref (zad V 0)), some (.ref (zad V 400)), some (.ref (zad V 399)), some (.int (zI i)), some (.int (zI kv)), some (.int (zI v')), none, none] [] ds' := by
    refine zP_goto (pc := 1115) (tgt := 2100) C dL_law_1115 rfl ?_
    exact zP_mask [true, true, true, true, true, false, false, false, false] (next _ hg')
  refine zP_if_ne (β := Unit) (r := ()) (A := some ()) (B := some ()) (pc := 1100) (tgt := 1115) C dL_law_1100 rfl hkv (by split <;> rfl) (fun _ _ => fin) (fun h0 _ => ?_)
  refine zP_aload_n (pc := 1103) C (x := zad V 399) dL_law_1103 rfl rfl ?_
  refine zP_iconst (pc := 1104) C dL_law_1104 ?_
  refine zP_lald (pc := 1105) (a := 399) (i := 0) C dL_law_1105 hO (zRk rfl) ⟨by decide, by decide⟩ ?_
  refine zP_iload (pc := 1106) C (x := zI v') dL_law_1106 rfl ?_
  refine zP_i2l (pc := 1108) C dL_law_1108 ?_
  refine zP_lcmp0 (pc := 1109) C dL_law_1109 (by rw [show ds' 399 (0 : Int).toNat = v' from ho h0]) ?_
  exact zP_if_eq (pc := 1110) (tgt := 1115) C dL_law_1110 rfl (x := 0) (zRk rfl) (A := some ()) (B := (none : Option Unit)) (r := ()) rfl (fun _ _ => fin) (fun h _ => absurd rfl h)
theorem lawc_21 {V : zW} {X : zX} {b N : Nat} {xs : Nat → Int32} (hT : zo11 V) (hM : zo12 V) (hO : zsh V 399 = some (4, 1, zk0)) (C : zOk V X cL_law RL 9 room_1 ret) (LX : zLX V X b N xs) (hN : N < 3073) {i : Int} (hi : 0 ≤ i ∧ i + 6 ≤ (N : Int)) {k n : Nat} (hk : k + 1 ≤ 601024 ∧ n + 6 ≤ 7293034) {d : zD} (hg : GR d d) (next : ∀ d', GR d' d' → zP V X 9 (k + 1) (n + 6) 2100 [some (.ref b), some (.ref (zad V 0)), some (.ref (zad V 400)), some (.ref (zad V 399)), some (.int (zI i)), none, none, none, none] [] d') : zP V X 9 k n 1118 [some (.ref b), some (.ref (zad V 0)), some (.ref (zad V 400)), some (.ref (zad V 399)), some (.int (zI i)), none, none, none, none] [] d := by
  have hkn : k ≤ room_1.cells ∧ n ≤ room_1.slots := ⟨by show k ≤ 601024; omega, by show n ≤ 7293034; omega⟩
  have hkn1 : k + 1 ≤ room_1.cells ∧ n + 6 ≤ room_1.slots := ⟨by show k + 1 ≤ 601024; omega, by show n + 6 ≤ 7293034; omega⟩
  refine zP_R fun hR => ?_
  obtain ⟨v, dc, dz, kv, v', ds', h1, hv, h2, hg', ht, ho⟩ := GO_runT (G_deliversIn ((xs (i + 1).toNat).toInt)) hg hR
  refine zP_aload_n (pc := 1118) C (x := zad V 0) dL_law_1118 rfl rfl ?_
  refine zP_arg (pc := 1119) (i := i) (z := 1) C LX dL_law_1119 dL_law_1120 dL_law_1122 dL_law_1123 dL_law_1124 rfl rfl hN ⟨by omega, by omega⟩ ?_
  refine zP_aload_n (pc := 1125) C (x := zad V 399) dL_law_1125 rfl rfl ?_
  refine zP_callTL (pc := 1126) (As := [.ref (zad V 0), .int (zI (xs (i + 1).toNat).toInt), .ref (zad V 399)]) (st := []) C LX mtL_183 dL_law_1126 (tL_deliversIn hT hO (zR_of _) h1 hv) ⟨Nat.le_of_ble_eq_true rfl, Nat.le_of_ble_eq_true rfl⟩ rfl (Nat.le_of_ble_eq_true rfl) hkn1 fun hkv => ?_
  show zP V X 9 (k + 1) (n + 6) 1129 _ [.int (zI kv)] dz
  refine zP_istore (pc := 1129) C (L' := [some (.ref b), some (.ref (zad V 0)), some (.ref (zad V 400)), some (.ref (zad V 399)), some (.int (zI i)), some (.int (zI kv)), none, none, none]) dL_law_1129 (Nat.le_of_ble_eq_true rfl) rfl rfl ?_
  refine zP_aload_n (pc := 1131) C (x := zad V 400) dL_law_1131 rfl rfl ?_
  refine zP_arg (pc := 1132) (i := i) (z := 1) C LX dL_law_1132 dL_law_1133 dL_law_1135 dL_law_1136 dL_law_1137 rfl rfl hN ⟨by omega, by omega⟩ ?_
  refine zP_callV (pc := 1138) (As := [.int (zI (xs (i + 1).toNat).toInt)]) (st := []) C mvL_185 dL_law_1138 (s_X12 hM) rfl (t_X12_deliversIn hM (zR_of _) h2) ⟨Nat.le_of_ble_eq_true rfl, Nat.le_of_ble_eq_true rfl⟩ rfl (Nat.le_of_ble_eq_true rfl) hkn1 fun hv2 => ?_
  show zP V X 9 (k + 1) (n + 6) 1141 _ [.int (zI v')] ds'
  refine zP_istore (pc := 1141) C (L' := [some (.ref b), some (.ref (zad V 0)), some (.ref (zad V 400)), some (.ref (zad V 399)), some (.int (zI i)), some (.int (zI kv)), some (.int (zI v')), none, none]) dL_law_1141 (Nat.le_of_ble_eq_true rfl) rfl rfl ?_
  refine zP_aload_n (pc := 1143) C (x := zad V 400) dL_law_1143 rfl rfl ?_
  refine zP_callV (pc := 1144) (As := []) (st := []) C mvL_132 dL_law_1144 (s_X12 hM) rfl (t_X12_thrown hM e_thrown) ⟨Nat.le_of_ble_eq_true rfl, Nat.le_of_ble_eq_true rfl⟩ rfl (Nat.le_of_ble_eq_true rfl) hkn1 fun _ => ?_
  show zP V X 9 (k + 1) (n + 6) 1147 _ [.int (zI (ds' 400 0))] ds'
  rw [ht]
  refine zP_iload (pc := 1147) C (x := zI kv) dL_law_1147 rfl ?_
  refine zP_icmp_eq (β := Unit) (r := ()) (A := some ()) (B := some ()) (pc := 1149) (tgt := 1154) (x := kv) (y := kv) C dL_law_1149 rfl hkv hkv (by split <;> rfl) (fun _ _ => ?_) (fun h _ => absurd rfl h)
  refine zP_iload (pc := 1154) C (x := zI kv) dL_law_1154 rfl ?_
  have fin : zP V X 9 (k + 1) (n + 6) 1171 [some (.ref b), some (.ref (zad V 0)), some (.ref (zad V 400)), some (.ref (zad V 399)), some (.int (zI i)), some (.int (zI kv)), some (.int (zI v')), none, none] [] ds' := by
    refine zP_goto (pc := 1171) (tgt := 2100) C dL_law_1171 rfl ?_
    exact zP_mask [true, true, true, true, true, false, false, false, false] (next _ hg')
  refine zP_if_ne (β := Unit) (r := ()) (A := some ()) (B := some ()) (pc := 1156) (tgt := 1171) C dL_law_1156 rfl hkv (by split <;> rfl) (fun _ _ => fin) (fun h0 _ => ?_)
  refine zP_aload_n (pc := 1159) C (x := zad V 399) dL_law_1159 rfl rfl ?_
  refine zP_iconst (pc := 1160) C dL_law_1160 ?_
  refine zP_lald (pc := 1161) (a := 399) (i := 0) C dL_law_1161 hO (zRk rfl) ⟨by decide, by decide⟩ ?_
  refine zP_iload (pc := 1162) C (x := zI v') dL_law_1162 rfl ?_
  refine zP_i2l (pc := 1164) C dL_law_1164 ?_
  refine zP_lcmp0 (pc := 1165) C dL_law_1165 (by rw [show ds' 399 (0 : Int).toNat = v' from ho h0]) ?_
  exact zP_if_eq (pc := 1166) (tgt := 1171) C dL_law_1166 rfl (x := 0) (zRk rfl) (A := some ()) (B := (none : Option Unit)) (r := ()) rfl (fun _ _ => fin) (fun h _ => absurd rfl h)
theorem lawc_22 {V : zW} {X : zX} {b N : Nat} {xs : Nat → Int32} (hT : zo11 V) (hM : zo12 V) (hO : zsh V 399 = some (4, 1, zk0)) (C : zOk V X cL_law RL 9 room_1 ret) (LX : zLX V X b N xs) (hN : N < 3073) {i : Int} (hi : 0 ≤ i ∧ i + 6 ≤ (N : Int)) {k n : Nat} (hk : k + 1 ≤ 601024 ∧ n + 6 ≤ 7293034) {d : zD} (hg : GR d d) (next : ∀ d', GR d' d' → zP V X 9 (k + 1) (n + 6) 2100 [some (.ref b), some (.ref (zad V 0)), some (.ref (zad V 400)), some (.ref (zad V 399)), some (.int (zI i)), none, none, none, none] [] d') : zP V X 9 k n 1174 [some (.ref b), some (.ref (zad V 0)), some (.ref (zad V 400)), some (.ref (zad V 399)), some (.int (zI i)), none, none, none, none] [] d := by
  have hkn : k ≤ room_1.cells ∧ n ≤ room_1.slots := ⟨by show k ≤ 601024; omega, by show n ≤ 7293034; omega⟩
  have hkn1 : k + 1 ≤ room_1.cells ∧ n + 6 ≤ room_1.slots := ⟨by show k + 1 ≤ 601024; omega, by show n + 6 ≤ 7293034; omega⟩
  refine zP_R fun hR => ?_
  obtain ⟨v, dc, ds', h1, h2, hg', hv⟩ := GO_runA (G_quietIn) hg hR
  refine zP_aload_n (pc := 1174) C (x := zad V 0) dL_law_1174 rfl rfl ?_
  refine zP_callV (pc := 1175) (As := []) (st := []) C mvL_186 dL_law_1175 (s_X11 hT) rfl (t_X11_quietIn hT h1) ⟨Nat.le_of_ble_eq_true rfl, Nat.le_of_ble_eq_true rfl⟩ rfl (Nat.le_of_ble_eq_true rfl) hkn fun _ => ?_
  show zP V X 9 k n 1178 _ [.int (zI v)] dc
  refine zP_aload_n (pc := 1178) C (x := zad V 400) dL_law_1178 rfl rfl ?_
  refine zP_callV (pc := 1179) (As := []) (st := [.int (zI v)]) C mvL_189 dL_law_1179 (s_X12 hM) rfl (t_X12_quietIn hM h2) ⟨Nat.le_of_ble_eq_true rfl, Nat.le_of_ble_eq_true rfl⟩ rfl (Nat.le_of_ble_eq_true rfl) hkn fun _ => ?_
  show zP V X 9 k n 1182 _ [.int (zI v), .int (zI v)] ds'
  refine zP_icmp_eq (β := Unit) (r := ()) (A := some ()) (B := some ()) (pc := 1182) (tgt := 2100) (x := v) (y := v) C dL_law_1182 rfl hv hv (by split <;> rfl) (fun _ _ => ?_) (fun h _ => absurd rfl h)
  exact zP_wide (Nat.le_add_right _ _) (Nat.le_add_right _ _) (next _ hg')
theorem lawc_23 {V : zW} {X : zX} {b N : Nat} {xs : Nat → Int32} (hT : zo11 V) (hM : zo12 V) (hO : zsh V 399 = some (4, 1, zk0)) (C : zOk V X cL_law RL 9 room_1 ret) (LX : zLX V X b N xs) (hN : N < 3073) {i : Int} (hi : 0 ≤ i ∧ i + 6 ≤ (N : Int)) {k n : Nat} (hk : k + 1 ≤ 601024 ∧ n + 6 ≤ 7293034) {d : zD} (hg : GR d d) (next : ∀ d', GR d' d' → zP V X 9 (k + 1) (n + 6) 2100 [some (.ref b), some (.ref (zad V 0)), some (.ref (zad V 400)), some (.ref (zad V 399)), some (.int (zI i)), none, none, none, none] [] d') : zP V X 9 k n 1187 [some (.ref b), some (.ref (zad V 0)), some (.ref (zad V 400)), some (.ref (zad V 399)), some (.int (zI i)), none, none, none, none] [] d := by
  have hkn : k ≤ room_1.cells ∧ n ≤ room_1.slots := ⟨by show k ≤ 601024; omega, by show n ≤ 7293034; omega⟩
  have hkn1 : k + 1 ≤ room_1.cells ∧ n + 6 ≤ room_1.slots := ⟨by show k + 1 ≤ 601024; omega, by show n + 6 ≤ 7293034; omega⟩
  refine zP_R fun hR => ?_
  obtain ⟨v, dc, dz, kv, v', ds', h1, hv, h2, hg', ht, ho⟩ := GO_runT (G_switchesIn ((xs (i + 1).toNat).toInt)) hg hR
  refine zP_aload_n (pc := 1187) C (x := zad V 0) dL_law_1187 rfl rfl ?_
  refine zP_arg (pc := 1188) (i := i) (z := 1) C LX dL_law_1188 dL_law_1189 dL_law_1191 dL_law_1192 dL_law_1193 rfl rfl hN ⟨by omega, by omega⟩ ?_
  refine zP_aload_n (pc := 1194) C (x := zad V 399) dL_law_1194 rfl rfl ?_
  refine zP_callTL (pc := 1195) (As := [.ref (zad V 0), .int (zI (xs (i + 1).toNat).toInt), .ref (zad V 399)]) (st := []) C LX mtL_190 dL_law_1195 (tL_switchesIn hT hO (zR_of _) h1 hv) ⟨Nat.le_of_ble_eq_true rfl, Nat.le_of_ble_eq_true rfl⟩ rfl (Nat.le_of_ble_eq_true rfl) hkn1 fun hkv => ?_
  show zP V X 9 (k + 1) (n + 6) 1198 _ [.int (zI kv)] dz
  refine zP_istore (pc := 1198) C (L' := [some (.ref b), some (.ref (zad V 0)), some (.ref (zad V 400)), some (.ref (zad V 399)), some (.int (zI i)), some (.int (zI kv)), none, none, none]) dL_law_1198 (Nat.le_of_ble_eq_true rfl) rfl rfl ?_
  refine zP_aload_n (pc := 1200) C (x := zad V 400) dL_law_1200 rfl rfl ?_
  refine zP_arg (pc := 1201) (i := i) (z := 1) C LX dL_law_1201 dL_law_1202 dL_law_1204 dL_law_1205 dL_law_1206 rfl rfl hN ⟨by omega, by omega⟩ ?_
  refine zP_callV (pc := 1207) (As := [.int (zI (xs (i + 1).toNat).toInt)]) (st := []) C mvL_192 dL_law_1207 (s_X12 hM) rfl (t_X12_switchesIn hM (zR_of _) h2) ⟨Nat.le_of_ble_eq_true rfl, Nat.le_of_ble_eq_true rfl⟩ rfl (Nat.le_of_ble_eq_true rfl) hkn1 fun hv2 => ?_
  show zP V X 9 (k + 1) (n + 6) 1210 _ [.int (zI v')] ds'
  refine zP_istore (pc := 1210) C (L' := [some (.ref b), some (.ref (zad V 0)), some (.ref (zad V 400)), some (.ref (zad V 399)), some (.int (zI i)), some (.int (zI kv)), some (.int (zI v')), none, none]) dL_law_1210 (Nat.le_of_ble_eq_true rfl) rfl rfl ?_
  refine zP_aload_n (pc := 1212) C (x := zad V 400) dL_law_1212 rfl rfl ?_
  refine zP_callV (pc := 1213) (As := []) (st := []) C mvL_132 dL_law_1213 (s_X12 hM) rfl (t_X12_thrown hM e_thrown) ⟨Nat.le_of_ble_eq_true rfl, Nat.le_of_ble_eq_true rfl⟩ rfl (Nat.le_of_ble_eq_true rfl) hkn1 fun _ => ?_
  show zP V X 9 (k + 1) (n + 6) 1216 _ [.int (zI (ds' 400 0))] ds'
  rw [ht]
  refine zP_iload (pc := 1216) C (x := zI kv) dL_law_1216 rfl ?_
  refine zP_icmp_eq (β := Unit) (r := ()) (A := some ()) (B := some ()) (pc := 1218) (tgt := 1223) (x := kv) (y := kv) C dL_law_1218 rfl hkv hkv (by split <;> rfl) (fun _ _ => ?_) (fun h _ => absurd rfl h)
  refine zP_iload (pc := 1223) C (x := zI kv) dL_law_1223 rfl ?_
  have fin : zP V X 9 (k + 1) (n + 6) 1240 [some (.ref b), some (.ref (zad V 0)), some (.ref (zad V 400)), some (.ref (zad V 399)), some (.int (zI i)), some (.int (zI kv)), some (.int (zI v')), none, none] [] ds' := by
    refine zP_goto (pc := 1240) (tgt := 2100) C dL_law_1240 rfl ?_
    exact zP_mask [true, true, true, true, true, false, false, false, false] (next _ hg')
  refine zP_if_ne (β := Unit) (r := ()) (A := some ()) (B := some ()) (pc := 1225) (tgt := 1240) C dL_law_1225 rfl hkv (by split <;> rfl) (fun _ _ => fin) (fun h0 _ => ?_)
  refine zP_aload_n (pc := 1228) C (x := zad V 399) dL_law_1228 rfl rfl ?_
  refine zP_iconst (pc := 1229) C dL_law_1229 ?_
  refine zP_lald (pc := 1230) (a := 399) (i := 0) C dL_law_1230 hO (zRk rfl) ⟨by decide, by decide⟩ ?_
  refine zP_iload (pc := 1231) C (x := zI v') dL_law_1231 rfl ?_
  refine zP_i2l (pc := 1233) C dL_law_1233 ?_
  refine zP_lcmp0 (pc := 1234) C dL_law_1234 (by rw [show ds' 399 (0 : Int).toNat = v' from ho h0]) ?_
  exact zP_if_eq (pc := 1235) (tgt := 1240) C dL_law_1235 rfl (x := 0) (zRk rfl) (A := some ()) (B := (none : Option Unit)) (r := ()) rfl (fun _ _ => fin) (fun h _ => absurd rfl h)
theorem lawc_24 {V : zW} {X : zX} {b N : Nat} {xs : Nat → Int32} (hT : zo11 V) (hM : zo12 V) (hO : zsh V 399 = some (4, 1, zk0)) (C : zOk V X cL_law RL 9 room_1 ret) (LX : zLX V X b N xs) (hN : N < 3073) {i : Int} (hi : 0 ≤ i ∧ i + 6 ≤ (N : Int)) {k n : Nat} (hk : k + 1 ≤ 601024 ∧ n + 6 ≤ 7293034) {d : zD} (hg : GR d d) (next : ∀ d', GR d' d' → zP V X 9 (k + 1) (n + 6) 2100 [some (.ref b), some (.ref (zad V 0)), some (.ref (zad V 400)), some (.ref (zad V 399)), some (.int (zI i)), none, none, none, none] [] d') : zP V X 9 k n 1243 [some (.ref b), some (.ref (zad V 0)), some (.ref (zad V 400)), some (.ref (zad V 399)), some (.int (zI i)), none, none, none, none] [] d := by
  have hkn : k ≤ room_1.cells ∧ n ≤ room_1.slots := ⟨by show k ≤ 601024; omega, by show n ≤ 7293034; omega⟩
  have hkn1 : k + 1 ≤ room_1.cells ∧ n + 6 ≤ room_1.slots := ⟨by show k + 1 ≤ 601024; omega, by show n + 6 ≤ 7293034; omega⟩
  refine zP_R fun hR => ?_
  obtain ⟨v, dc, dz, kv, v', ds', h1, hv, h2, hg', ht, ho⟩ := GO_runT (G_bestTries ((xs (i + 1).toNat).toInt)) hg hR
  refine zP_aload_n (pc := 1243) C (x := zad V 0) dL_law_1243 rfl rfl ?_
  refine zP_arg (pc := 1244) (i := i) (z := 1) C LX dL_law_1244 dL_law_1245 dL_law_1247 dL_law_1248 dL_law_1249 rfl rfl hN ⟨by omega, by omega⟩ ?_
  refine zP_aload_n (pc := 1250) C (x := zad V 399) dL_law_1250 rfl rfl ?_
  refine zP_callTL (pc := 1251) (As := [.ref (zad V 0), .int (zI (xs (i + 1).toNat).toInt), .ref (zad V 399)]) (st := []) C LX mtL_193 dL_law_1251 (tL_bestTries hT hO (zR_of _) h1 hv) ⟨Nat.le_of_ble_eq_true rfl, Nat.le_of_ble_eq_true rfl⟩ rfl (Nat.le_of_ble_eq_true rfl) hkn1 fun hkv => ?_
  show zP V X 9 (k + 1) (n + 6) 1254 _ [.int (zI kv)] dz
  refine zP_istore (pc := 1254) C (L' := [some (.ref b), some (.ref (zad V 0)), some (.ref (zad V 400)), some (.ref (zad V 399)), some (.int (zI i)), some (.int (zI kv)), none, none, none]) dL_law_1254 (Nat.le_of_ble_eq_true rfl) rfl rfl ?_
  refine zP_aload_n (pc := 1256) C (x := zad V 400) dL_law_1256 rfl rfl ?_
  refine zP_arg (pc := 1257) (i := i) (z := 1) C LX dL_law_1257 dL_law_1258 dL_law_1260 dL_law_1261 dL_law_1262 rfl rfl hN ⟨by omega, by omega⟩ ?_
  refine zP_callV (pc := 1263) (As := [.int (zI (xs (i + 1).toNat).toInt)]) (st := []) C mvL_195 dL_law_1263 (s_X12 hM) rfl (t_X12_bestTries hM (zR_of _) h2) ⟨Nat.le_of_ble_eq_true rfl, Nat.le_of_ble_eq_true rfl⟩ rfl (Nat.le_of_ble_eq_true rfl) hkn1 fun hv2 => ?_
  show zP V X 9 (k + 1) (n + 6) 1266 _ [.int (zI v')] ds'
  refine zP_istore (pc := 1266) C (L' := [some (.ref b), some (.ref (zad V 0)), some (.ref (zad V 400)), some (.ref (zad V 399)), some (.int (zI i)), some (.int (zI kv)), some (.int (zI v')), none, none]) dL_law_1266 (Nat.le_of_ble_eq_true rfl) rfl rfl ?_
  refine zP_aload_n (pc := 1268) C (x := zad V 400) dL_law_1268 rfl rfl ?_
  refine zP_callV (pc := 1269) (As := []) (st := []) C mvL_132 dL_law_1269 (s_X12 hM) rfl (t_X12_thrown hM e_thrown) ⟨Nat.le_of_ble_eq_true rfl, Nat.le_of_ble_eq_true rfl⟩ rfl (Nat.le_of_ble_eq_true rfl) hkn1 fun _ => ?_
  show zP V X 9 (k + 1) (n + 6) 1272 _ [.int (zI (ds' 400 0))] ds'
  rw [ht]
  refine zP_iload (pc := 1272) C (x := zI kv) dL_law_1272 rfl ?_
  refine zP_icmp_eq (β := Unit) (r := ()) (A := some ()) (B := some ()) (pc := 1274) (tgt := 1279) (x := kv) (y := kv) C dL_law_1274 rfl hkv hkv (by split <;> rfl) (fun _ _ => ?_) (fun h _ => absurd rfl h)
  refine zP_iload (pc := 1279) C (x := zI kv) dL_law_1279 rfl ?_
  have fin : zP V X 9 (k + 1) (n + 6) 1296 [some (.ref b), some (.ref (zad V 0)), some (.ref (zad V 400)), some (.ref (zad V 399)), some (.int (zI i)), some (.int (zI kv)), some (.int (zI v')), none, none] [] ds' := by
    refine zP_goto (pc := 1296) (tgt := 2100) C dL_law_1296 rfl ?_
    exact zP_mask [true, true, true, true, true, false, false, false, false] (next _ hg')
  refine zP_if_ne (β := Unit) (r := ()) (A := some ()) (B := some ()) (pc := 1281) (tgt := 1296) C dL_law_1281 rfl hkv (by split <;> rfl) (fun _ _ => fin) (fun h0 _ => ?_)
  refine zP_aload_n (pc := 1284) C (x := zad V 399) dL_law_1284 rfl rfl ?_
  refine zP_iconst (pc := 1285) C dL_law_1285 ?_
  refine zP_lald (pc := 1286) (a := 399) (i := 0) C dL_law_1286 hO (zRk rfl) ⟨by decide, by decide⟩ ?_
  refine zP_iload (pc := 1287) C (x := zI v') dL_law_1287 rfl ?_
  refine zP_i2l (pc := 1289) C dL_law_1289 ?_
  refine zP_lcmp0 (pc := 1290) C dL_law_1290 (by rw [show ds' 399 (0 : Int).toNat = v' from ho h0]) ?_
  exact zP_if_eq (pc := 1291) (tgt := 1296) C dL_law_1291 rfl (x := 0) (zRk rfl) (A := some ()) (B := (none : Option Unit)) (r := ()) rfl (fun _ _ => fin) (fun h _ => absurd rfl h)
theorem lawc_25 {V : zW} {X : zX} {b N : Nat} {xs : Nat → Int32} (hT : zo11 V) (hM : zo12 V) (hO : zsh V 399 = some (4, 1, zk0)) (C : zOk V X cL_law RL 9 room_1 ret) (LX : zLX V X b N xs) (hN : N < 3073) {i : Int} (hi : 0 ≤ i ∧ i + 6 ≤ (N : Int)) {k n : Nat} (hk : k + 1 ≤ 601024 ∧ n + 6 ≤ 7293034) {d : zD} (hg : GR d d) (next : ∀ d', GR d' d' → zP V X 9 (k + 1) (n + 6) 2100 [some (.ref b), some (.ref (zad V 0)), some (.ref (zad V 400)), some (.ref (zad V 399)), some (.int (zI i)), none, none, none, none] [] d') : zP V X 9 k n 1299 [some (.ref b), some (.ref (zad V 0)), some (.ref (zad V 400)), some (.ref (zad V 399)), some (.int (zI i)), none, none, none, none] [] d := by
  have hkn : k ≤ room_1.cells ∧ n ≤ room_1.slots := ⟨by show k ≤ 601024; omega, by show n ≤ 7293034; omega⟩
  have hkn1 : k + 1 ≤ room_1.cells ∧ n + 6 ≤ room_1.slots := ⟨by show k + 1 ≤ 601024; omega, by show n + 6 ≤ 7293034; omega⟩
  refine zP_R fun hR => ?_
  obtain ⟨v, dc, dz, kv, v', ds', h1, hv, h2, hg', ht, ho⟩ := GO_runT (G_lostByNoise ((xs (i + 1).toNat).toInt)) hg hR
  refine zP_aload_n (pc := 1299) C (x := zad V 0) dL_law_1299 rfl rfl ?_
  refine zP_arg (pc := 1300) (i := i) (z := 1) C LX dL_law_1300 dL_law_1301 dL_law_1303 dL_law_1304 dL_law_1305 rfl rfl hN ⟨by omega, by omega⟩ ?_
  refine zP_aload_n (pc := 1306) C (x := zad V 399) dL_law_1306 rfl rfl ?_
  refine zP_callTL (pc := 1307) (As := [.ref (zad V 0), .int (zI (xs (i + 1).toNat).toInt), .ref (zad V 399)]) (st := []) C LX mtL_196 dL_law_1307 (tL_lostByNoise hT hO (zR_of _) h1 hv) ⟨Nat.le_of_ble_eq_true rfl, Nat.le_of_ble_eq_true rfl⟩ rfl (Nat.le_of_ble_eq_true rfl) hkn1 fun hkv => ?_
  show zP V X 9 (k + 1) (n + 6) 1310 _ [.int (zI kv)] dz
  refine zP_istore (pc := 1310) C (L' := [some (.ref b), some (.ref (zad V 0)), some (.ref (zad V 400)), some (.ref (zad V 399)), some (.int (zI i)), some (.int (zI kv)), none, none, none]) dL_law_1310 (Nat.le_of_ble_eq_true rfl) rfl rfl ?_
  refine zP_aload_n (pc := 1312) C (x := zad V 400) dL_law_1312 rfl rfl ?_
  refine zP_arg (pc := 1313) (i := i) (z := 1) C LX dL_law_1313 dL_law_1314 dL_law_1316 dL_law_1317 dL_law_1318 rfl rfl hN ⟨by omega, by omega⟩ ?_
  refine zP_callV (pc := 1319) (As := [.int (zI (xs (i + 1).toNat).toInt)]) (st := []) C mvL_198 dL_law_1319 (s_X12 hM) rfl (t_X12_lostByNoise hM (zR_of _) h2) ⟨Nat.le_of_ble_eq_true rfl, Nat.le_of_ble_eq_true rfl⟩ rfl (Nat.le_of_ble_eq_true rfl) hkn1 fun hv2 => ?_
  show zP V X 9 (k + 1) (n + 6) 1322 _ [.int (zI v')] ds'
  refine zP_istore (pc := 1322) C (L' := [some (.ref b), some (.ref (zad V 0)), some (.ref (zad V 400)), some (.ref (zad V 399)), some (.int (zI i)), some (.int (zI kv)), some (.int (zI v')), none, none]) dL_law_1322 (Nat.le_of_ble_eq_true rfl) rfl rfl ?_
  refine zP_aload_n (pc := 1324) C (x := zad V 400) dL_law_1324 rfl rfl ?_
  refine zP_callV (pc := 1325) (As := []) (st := []) C mvL_132 dL_law_1325 (s_X12 hM) rfl (t_X12_thrown hM e_thrown) ⟨Nat.le_of_ble_eq_true rfl, Nat.le_of_ble_eq_true rfl⟩ rfl (Nat.le_of_ble_eq_true rfl) hkn1 fun _ => ?_
  show zP V X 9 (k + 1) (n + 6) 1328 _ [.int (zI (ds' 400 0))] ds'
  rw [ht]
  refine zP_iload (pc := 1328) C (x := zI kv) dL_law_1328 rfl ?_
  refine zP_icmp_eq (β := Unit) (r := ()) (A := some ()) (B := some ()) (pc := 1330) (tgt := 1335) (x := kv) (y := kv) C dL_law_1330 rfl hkv hkv (by split <;> rfl) (fun _ _ => ?_) (fun h _ => absurd rfl h)
  refine zP_iload (pc := 1335) C (x := zI kv) dL_law_1335 rfl ?_
  have fin : zP V X 9 (k + 1) (n + 6) 1352 [some (.ref b), some (.ref (zad V 0)), some (.ref (zad V 400)), some (.ref (zad V 399)), some (.int (zI i)), some (.int (zI kv)), some (.int (zI v')), none, none] [] ds' := by
    refine zP_goto (pc := 1352) (tgt := 2100) C dL_law_1352 rfl ?_
    exact zP_mask [true, true, true, true, true, false, false, false, false] (next _ hg')
  refine zP_if_ne (β := Unit) (r := ()) (A := some ()) (B := some ()) (pc := 1337) (tgt := 1352) C dL_law_1337 rfl hkv (by split <;> rfl) (fun _ _ => fin) (fun h0 _ => ?_)
  refine zP_aload_n (pc := 1340) C (x := zad V 399) dL_law_1340 rfl rfl ?_
  refine zP_iconst (pc := 1341) C dL_law_1341 ?_
  refine zP_lald (pc := 1342) (a := 399) (i := 0) C dL_law_1342 hO (zRk rfl) ⟨by decide, by decide⟩ ?_
  refine zP_iload (pc := 1343) C (x := zI v') dL_law_1343 rfl ?_
  refine zP_i2l (pc := 1345) C dL_law_1345 ?_
  refine zP_lcmp0 (pc := 1346) C dL_law_1346 (by rw [show ds' 399 (0 : Int).toNat = v' from ho h0]) ?_
  exact zP_if_eq (pc := 1347) (tgt := 1352) C dL_law_1347 rfl (x := 0) (zRk rfl) (A := some ()) (B := (none : Option Unit)) (r := ()) rfl (fun _ _ => fin) (fun h _ => absurd rfl h)
theorem lawc_26 {V : zW} {X : zX} {b N : Nat} {xs : Nat → Int32} (hT : zo11 V) (hM : zo12 V) (hO : zsh V 399 = some (4, 1, zk0)) (C : zOk V X cL_law RL 9 room_1 ret) (LX : zLX V X b N xs) (hN : N < 3073) {i : Int} (hi : 0 ≤ i ∧ i + 6 ≤ (N : Int)) {k n : Nat} (hk : k + 1 ≤ 601024 ∧ n + 6 ≤ 7293034) {d : zD} (hg : GR d d) (next : ∀ d', GR d' d' → zP V X 9 (k + 1) (n + 6) 2100 [some (.ref b), some (.ref (zad V 0)), some (.ref (zad V 400)), some (.ref (zad V 399)), some (.int (zI i)), none, none, none, none] [] d') : zP V X 9 k n 1355 [some (.ref b), some (.ref (zad V 0)), some (.ref (zad V 400)), some (.ref (zad V 399)), some (.int (zI i)), none, none, none, none] [] d := by
  have hkn : k ≤ room_1.cells ∧ n ≤ room_1.slots := ⟨by show k ≤ 601024; omega, by show n ≤ 7293034; omega⟩
  have hkn1 : k + 1 ≤ room_1.cells ∧ n + 6 ≤ room_1.slots := ⟨by show k + 1 ≤ 601024; omega, by show n + 6 ≤ 7293034; omega⟩
  refine zP_R fun hR => ?_
  obtain ⟨v, dc, ds', h1, h2, hg', hv⟩ := GO_runA (G_worst) hg hR
  refine zP_aload_n (pc := 1355) C (x := zad V 0) dL_law_1355 rfl rfl ?_
  refine zP_callV (pc := 1356) (As := []) (st := []) C mvL_199 dL_law_1356 (s_X11 hT) rfl (t_X11_worst hT h1) ⟨Nat.le_of_ble_eq_true rfl, Nat.le_of_ble_eq_true rfl⟩ rfl (Nat.le_of_ble_eq_true rfl) hkn fun _ => ?_
  show zP V X 9 k n 1359 _ [.int (zI v)] dc
  refine zP_aload_n (pc := 1359) C (x := zad V 400) dL_law_1359 rfl rfl ?_
  refine zP_callV (pc := 1360) (As := []) (st := [.int (zI v)]) C mvL_202 dL_law_1360 (s_X12 hM) rfl (t_X12_worst hM h2) ⟨Nat.le_of_ble_eq_true rfl, Nat.le_of_ble_eq_true rfl⟩ rfl (Nat.le_of_ble_eq_true rfl) hkn fun _ => ?_
  show zP V X 9 k n 1363 _ [.int (zI v), .int (zI v)] ds'
  refine zP_icmp_eq (β := Unit) (r := ()) (A := some ()) (B := some ()) (pc := 1363) (tgt := 2100) (x := v) (y := v) C dL_law_1363 rfl hv hv (by split <;> rfl) (fun _ _ => ?_) (fun h _ => absurd rfl h)
  exact zP_wide (Nat.le_add_right _ _) (Nat.le_add_right _ _) (next _ hg')
theorem lawc_27 {V : zW} {X : zX} {b N : Nat} {xs : Nat → Int32} (hT : zo11 V) (hM : zo12 V) (hO : zsh V 399 = some (4, 1, zk0)) (C : zOk V X cL_law RL 9 room_1 ret) (LX : zLX V X b N xs) (hN : N < 3073) {i : Int} (hi : 0 ≤ i ∧ i + 6 ≤ (N : Int)) {k n : Nat} (hk : k + 1 ≤ 601024 ∧ n + 6 ≤ 7293034) {d : zD} (hg : GR d d) (next : ∀ d', GR d' d' → zP V X 9 (k + 1) (n + 6) 2100 [some (.ref b), some (.ref (zad V 0)), some (.ref (zad V 400)), some (.ref (zad V 399)), some (.int (zI i)), none, none, none, none] [] d') : zP V X 9 k n 1368 [some (.ref b), some (.ref (zad V 0)), some (.ref (zad V 400)), some (.ref (zad V 399)), some (.int (zI i)), none, none, none, none] [] d := by
  have hkn : k ≤ room_1.cells ∧ n ≤ room_1.slots := ⟨by show k ≤ 601024; omega, by show n ≤ 7293034; omega⟩
  have hkn1 : k + 1 ≤ room_1.cells ∧ n + 6 ≤ room_1.slots := ⟨by show k + 1 ≤ 601024; omega, by show n + 6 ≤ 7293034; omega⟩
  refine zP_R fun hR => ?_
  obtain ⟨v, dc, dz, kv, v', ds', h1, hv, h2, hg', ht, ho⟩ := GO_runT (G_often ((xs (i + 1).toNat).toInt) ((xs (i + 2).toNat).toInt)) hg hR
  refine zP_aload_n (pc := 1368) C (x := zad V 0) dL_law_1368 rfl rfl ?_
  refine zP_arg (pc := 1369) (i := i) (z := 1) C LX dL_law_1369 dL_law_1370 dL_law_1372 dL_law_1373 dL_law_1374 rfl rfl hN ⟨by omega, by omega⟩ ?_
  refine zP_arg (pc := 1375) (i := i) (z := 2) C LX dL_law_1375 dL_law_1376 dL_law_1378 dL_law_1379 dL_law_1380 rfl rfl hN ⟨by omega, by omega⟩ ?_
  refine zP_aload_n (pc := 1381) C (x := zad V 399) dL_law_1381 rfl rfl ?_
  refine zP_callTL (pc := 1382) (As := [.ref (zad V 0), .int (zI (xs (i + 1).toNat).toInt), .int (zI (xs (i + 2).toNat).toInt), .ref (zad V 399)]) (st := []) C LX mtL_203 dL_law_1382 (tL_often hT hO (zR_of _) (zR_of _) h1 hv) ⟨Nat.le_of_ble_eq_true rfl, Nat.le_of_ble_eq_true rfl⟩ rfl (Nat.le_of_ble_eq_true rfl) hkn1 fun hkv => ?_
  show zP V X 9 (k + 1) (n + 6) 1385 _ [.int (zI kv)] dz
  refine zP_istore (pc := 1385) C (L' := [some (.ref b), some (.ref (zad V 0)), some (.ref (zad V 400)), some (.ref (zad V 399)), some (.int (zI i)), some (.int (zI kv)), none, none, none]) dL_law_1385 (Nat.le_of_ble_eq_true rfl) rfl rfl ?_
  refine zP_aload_n (pc := 1387) C (x := zad V 400) dL_law_1387 rfl rfl ?_
  refine zP_arg (pc := 1388) (i := i) (z := 1) C LX dL_law_1388 dL_law_1389 dL_law_1391 dL_law_1392 dL_law_1393 rfl rfl hN ⟨by omega, by omega⟩ ?_
  refine zP_arg (pc := 1394) (i := i) (z := 2) C LX dL_law_1394 dL_law_1395 dL_law_1397 dL_law_1398 dL_law_1399 rfl rfl hN ⟨by omega, by omega⟩ ?_
  refine zP_callV (pc := 1400) (As := [.int (zI (xs (i + 1).toNat).toInt), .int (zI (xs (i + 2).toNat).toInt)]) (st := []) C mvL_205 dL_law_1400 (s_X12 hM) rfl (t_X12_often hM (zR_of _) (zR_of _) h2) ⟨Nat.le_of_ble_eq_true rfl, Nat.le_of_ble_eq_true rfl⟩ rfl (Nat.le_of_ble_eq_true rfl) hkn1 fun hv2 => ?_
  show zP V X 9 (k + 1) (n + 6) 1403 _ [.int (zI v')] ds'
  refine zP_istore (pc := 1403) C (L' := [some (.ref b), some (.ref (zad V 0)), some (.ref (zad V 400)), some (.ref (zad V 399)), some (.int (zI i)), some (.int (zI kv)), some (.int (zI v')), none, none]) dL_law_1403 (Nat.le_of_ble_eq_true rfl) rfl rfl ?_
  refine zP_aload_n (pc := 1405) C (x := zad V 400) dL_law_1405 rfl rfl ?_
  refine zP_callV (pc := 1406) (As := []) (st := []) C mvL_132 dL_law_1406 (s_X12 hM) rfl (t_X12_thrown hM e_thrown) ⟨Nat.le_of_ble_eq_true rfl, Nat.le_of_ble_eq_true rfl⟩ rfl (Nat.le_of_ble_eq_true rfl) hkn1 fun _ => ?_
  show zP V X 9 (k + 1) (n + 6) 1409 _ [.int (zI (ds' 400 0))] ds'
  rw [ht]
  refine zP_iload (pc := 1409) C (x := zI kv) dL_law_1409 rfl ?_
  refine zP_icmp_eq (β := Unit) (r := ()) (A := some ()) (B := some ()) (pc := 1411) (tgt := 1416) (x := kv) (y := kv) C dL_law_1411 rfl hkv hkv (by split <;> rfl) (fun _ _ => ?_) (fun h _ => absurd rfl h)
  refine zP_iload (pc := 1416) C (x := zI kv) dL_law_1416 rfl ?_
  have fin : zP V X 9 (k + 1) (n + 6) 1433 [some (.ref b), some (.ref (zad V 0)), some (.ref (zad V 400)), some (.ref (zad V 399)), some (.int (zI i)), some (.int (zI kv)), some (.int (zI v')), none, none] [] ds' := by
    refine zP_goto (pc := 1433) (tgt := 2100) C dL_law_1433 rfl ?_
    exact zP_mask [true, true, true, true, true, false, false, false, false] (next _ hg')
  refine zP_if_ne (β := Unit) (r := ()) (A := some ()) (B := some ()) (pc := 1418) (tgt := 1433) C dL_law_1418 rfl hkv (by split <;> rfl) (fun _ _ => fin) (fun h0 _ => ?_)
  refine zP_aload_n (pc := 1421) C (x := zad V 399) dL_law_1421 rfl rfl ?_
  refine zP_iconst (pc := 1422) C dL_law_1422 ?_
  refine zP_lald (pc := 1423) (a := 399) (i := 0) C dL_law_1423 hO (zRk rfl) ⟨by decide, by decide⟩ ?_
  refine zP_iload (pc := 1424) C (x := zI v') dL_law_1424 rfl ?_
  refine zP_i2l (pc := 1426) C dL_law_1426 ?_
  refine zP_lcmp0 (pc := 1427) C dL_law_1427 (by rw [show ds' 399 (0 : Int).toNat = v' from ho h0]) ?_
  exact zP_if_eq (pc := 1428) (tgt := 1433) C dL_law_1428 rfl (x := 0) (zRk rfl) (A := some ()) (B := (none : Option Unit)) (r := ()) rfl (fun _ _ => fin) (fun h _ => absurd rfl h)
theorem lawc_28 {V : zW} {X : zX} {b N : Nat} {xs : Nat → Int32} (hT : zo11 V) (hM : zo12 V) (hO : zsh V 399 = some (4, 1, zk0)) (C : zOk V X cL_law RL 9 room_1 ret) (LX : zLX V X b N xs) (hN : N < 3073) {i : Int} (hi : 0 ≤ i ∧ i + 6 ≤ (N : Int)) {k n : Nat} (hk : k + 1 ≤ 601024 ∧ n + 6 ≤ 7293034) {d : zD} (hg : GR d d) (next : ∀ d', GR d' d' → zP V X 9 (k + 1) (n + 6) 2100 [some (.ref b), some (.ref (zad V 0)), some (.ref (zad V 400)), some (.ref (zad V 399)), some (.int (zI i)), none, none, none, none] [] d') : zP V X 9 k n 1436 [some (.ref b), some (.ref (zad V 0)), some (.ref (zad V 400)), some (.ref (zad V 399)), some (.int (zI i)), none, none, none, none] [] d := by
  have hkn : k ≤ room_1.cells ∧ n ≤ room_1.slots := ⟨by show k ≤ 601024; omega, by show n ≤ 7293034; omega⟩
  have hkn1 : k + 1 ≤ room_1.cells ∧ n + 6 ≤ room_1.slots := ⟨by show k + 1 ≤ 601024; omega, by show n + 6 ≤ 7293034; omega⟩
  refine zP_R fun hR => ?_
  refine zP_aload_n (pc := 1436) C (x := zad V 0) dL_law_1436 rfl rfl ?_
  obtain ⟨tv, nv, m1, m2, m3, m4⟩ := G_meanTime hg
  refine zP_callV (pc := 1437) (As := []) (st := []) C mvL_206 dL_law_1437 (s_X11 hT) rfl (t_X11_meanTime hT NN64_ok (tv := tv) (dz := d) m1 (by by_cases q : nv = 0; exact Or.inl ⟨q, rfl⟩; exact Or.inr ⟨q, m2⟩)) ⟨Nat.le_of_ble_eq_true rfl, Nat.le_of_ble_eq_true rfl⟩ rfl (Nat.le_of_ble_eq_true rfl) hkn fun _ => ?_
  show zP V X 9 k n 1440 _ [.double (zdv tv nv)] d
  refine zP_dstore (pc := 1440) C (L' := [some (.ref b), some (.ref (zad V 0)), some (.ref (zad V 400)), some (.ref (zad V 399)), some (.int (zI i)), some (.double (zdv tv nv)), none, none, none]) dL_law_1440 (Nat.le_of_ble_eq_true rfl) (fun j w h hj => by
    match j, h with
    | 0, _ => exact ⟨by omega, by omega⟩
    | 1, _ => exact ⟨by omega, by omega⟩
    | 2, _ => exact ⟨by omega, by omega⟩
    | 3, _ => exact ⟨by omega, by omega⟩
    | 4, h => cases h; exact ⟨by omega, fun _ => rfl⟩
    | 5, _ => exact absurd rfl hj
    | 6, h => cases h
    | 7, h => cases h
    | 8, h => cases h
    | q + 9, h => cases h) rfl ?_
  refine zP_aload_n (pc := 1442) C (x := zad V 400) dL_law_1442 rfl rfl ?_
  refine zP_callV (pc := 1443) (As := []) (st := []) C mvL_210 dL_law_1443 (s_X12 hM) rfl (t_X12_meanTime hM NN64_ok (mv := nv) (dz := zu d 400 0 0) m3 m4 (by by_cases q : nv = 0; exact Or.inl ⟨q, rfl⟩; exact Or.inr ⟨q, m4, rfl⟩)) ⟨Nat.le_of_ble_eq_true rfl, Nat.le_of_ble_eq_true rfl⟩ rfl (Nat.le_of_ble_eq_true rfl) hkn fun _ => ?_
  show zP V X 9 k n 1446 _ [.double (zdv tv nv)] (zu d 400 0 0)
  refine zP_dstore (pc := 1446) C (L' := [some (.ref b), some (.ref (zad V 0)), some (.ref (zad V 400)), some (.ref (zad V 399)), some (.int (zI i)), some (.double (zdv tv nv)), none, some (.double (zdv tv nv)), none]) dL_law_1446 (Nat.le_of_ble_eq_true rfl) (fun j w h hj => by
    match j, h with
    | 0, _ => exact ⟨by omega, by omega⟩
    | 1, _ => exact ⟨by omega, by omega⟩
    | 2, _ => exact ⟨by omega, by omega⟩
    | 3, _ => exact ⟨by omega, by omega⟩
    | 4, h => cases h; exact ⟨by omega, fun _ => rfl⟩
    | 5, _ => exact ⟨by omega, by omega⟩
    | 6, h => cases h
    | 7, h => cases h
    | 8, h => cases h
    | q + 9, h => cases h) rfl ?_
  have hc9 := zR_of (Op.cmpValue (FP.dcmp (zdv tv nv) (zdv tv nv)) .l)
  generalize hcv : (Op.cmpValue (FP.dcmp (zdv tv nv) (zdv tv nv)) .l).toInt = cv at hc9
  have fin : zP V X 9 k n 1474 [some (.ref b), some (.ref (zad V 0)), some (.ref (zad V 400)), some (.ref (zad V 399)), some (.int (zI i)), some (.double (zdv tv nv)), none, some (.double (zdv tv nv)), none] [] (zu d 400 0 0) := by
    refine zP_goto (pc := 1474) (tgt := 2100) C dL_law_1474 rfl ?_
    exact zP_wide (Nat.le_add_right _ _) (Nat.le_add_right _ _) (zP_mask [true, true, true, true, true, false, false, false, false] (next _ (GR_t0 hg)))
  refine zP_dload (pc := 1448) C (x := (zdv tv nv)) dL_law_1448 rfl ?_
  refine zP_dload (pc := 1450) C (x := (zdv tv nv)) dL_law_1450 rfl ?_
  refine zP_dcmp (pc := 1452) C dL_law_1452 ?_
  rw [hcv]
  refine zP_if_eq (β := Unit) (r := ()) (A := some ()) (B := some ()) (pc := 1453) (tgt := 1474) C dL_law_1453 rfl hc9 (by split <;> rfl) (fun _ _ => fin) (fun h0 _ => ?_)
  refine zP_dload (pc := 1456) C (x := (zdv tv nv)) dL_law_1456 rfl ?_
  refine zP_dload (pc := 1458) C (x := (zdv tv nv)) dL_law_1458 rfl ?_
  refine zP_dcmp (pc := 1460) C dL_law_1460 ?_
  rw [hcv]
  refine zP_if_eq (β := Unit) (r := ()) (A := some ()) (B := some ()) (pc := 1461) (tgt := 1472) C dL_law_1461 rfl hc9 (by split <;> rfl) (fun h _ => absurd h h0) (fun _ _ => ?_)
  refine zP_dload (pc := 1464) C (x := (zdv tv nv)) dL_law_1464 rfl ?_
  refine zP_dload (pc := 1466) C (x := (zdv tv nv)) dL_law_1466 rfl ?_
  refine zP_dcmp (pc := 1468) C dL_law_1468 ?_
  rw [hcv]
  exact zP_if_ne (β := Unit) (r := ()) (A := some ()) (B := some ()) (pc := 1469) (tgt := 1474) C dL_law_1469 rfl hc9 (by split <;> rfl) (fun _ _ => fin) (fun h _ => absurd h h0)
theorem lawc_29 {V : zW} {X : zX} {b N : Nat} {xs : Nat → Int32} (hT : zo11 V) (hM : zo12 V) (hO : zsh V 399 = some (4, 1, zk0)) (C : zOk V X cL_law RL 9 room_1 ret) (LX : zLX V X b N xs) (hN : N < 3073) {i : Int} (hi : 0 ≤ i ∧ i + 6 ≤ (N : Int)) {k n : Nat} (hk : k + 1 ≤ 601024 ∧ n + 6 ≤ 7293034) {d : zD} (hg : GR d d) (next : ∀ d', GR d' d' → zP V X 9 (k + 1) (n + 6) 2100 [some (.ref b), some (.ref (zad V 0)), some (.ref (zad V 400)), some (.ref (zad V 399)), some (.int (zI i)), none, none, none, none] [] d') : zP V X 9 k n 1477 [some (.ref b), some (.ref (zad V 0)), some (.ref (zad V 400)), some (.ref (zad V 399)), some (.int (zI i)), none, none, none, none] [] d := by
  have hkn : k ≤ room_1.cells ∧ n ≤ room_1.slots := ⟨by show k ≤ 601024; omega, by show n ≤ 7293034; omega⟩
  have hkn1 : k + 1 ≤ room_1.cells ∧ n + 6 ≤ room_1.slots := ⟨by show k + 1 ≤ 601024; omega, by show n + 6 ≤ 7293034; omega⟩
  refine zP_R fun hR => ?_
  refine zP_aload_n (pc := 1477) C (x := zad V 0) dL_law_1477 rfl rfl ?_
  obtain ⟨m1, m2⟩ := G_clearShare hg
  refine zP_callV (pc := 1478) (As := []) (st := []) C mvL_211 dL_law_1478 (s_X11 hT) rfl (t_X11_clearShare hT NN32_ok) ⟨Nat.le_of_ble_eq_true rfl, Nat.le_of_ble_eq_true rfl⟩ rfl (Nat.le_of_ble_eq_true rfl) hkn fun _ => ?_
  rw [m1, m2]
  show zP V X 9 k n 1481 _ [.float (zflt (zw (d 401 12 - d 401 13)) (d 401 12))] d
  have hf : vf_n64 (FP.f2d (zflt (zw (d 401 12 - d 401 13)) (d 401 12))) := nn_f2d _ (zflt_n (hR 401 12))
  refine zP_f2d (pc := 1481) C dL_law_1481 hf ?_
  show zP V X 9 k n 1482 _ [.double (FP.f2d (zflt (zw (d 401 12 - d 401 13)) (d 401 12)))] d
  refine zP_dstore (pc := 1482) C (L' := [some (.ref b), some (.ref (zad V 0)), some (.ref (zad V 400)), some (.ref (zad V 399)), some (.int (zI i)), some (.double (FP.f2d (zflt (zw (d 401 12 - d 401 13)) (d 401 12)))), none, none, none]) dL_law_1482 (Nat.le_of_ble_eq_true rfl) (fun j w h hj => by
    match j, h with
    | 0, _ => exact ⟨by omega, by omega⟩
    | 1, _ => exact ⟨by omega, by omega⟩
    | 2, _ => exact ⟨by omega, by omega⟩
    | 3, _ => exact ⟨by omega, by omega⟩
    | 4, h => cases h; exact ⟨by omega, fun _ => rfl⟩
    | 5, _ => exact absurd rfl hj
    | 6, h => cases h
    | 7, h => cases h
    | 8, h => cases h
    | q + 9, h => cases h) rfl ?_
  refine zP_aload_n (pc := 1484) C (x := zad V 400) dL_law_1484 rfl rfl ?_
  refine zP_callV (pc := 1485) (As := []) (st := []) C mvL_215 dL_law_1485 (s_X12 hM) rfl (t_X12_clearShare hM NN32_ok) ⟨Nat.le_of_ble_eq_true rfl, Nat.le_of_ble_eq_true rfl⟩ rfl (Nat.le_of_ble_eq_true rfl) hkn fun _ => ?_
  show zP V X 9 k n 1488 _ [.float (zflt (zw (d 401 12 - d 401 13)) (d 401 12))] (zu d 400 0 0)
  refine zP_f2d (pc := 1488) C dL_law_1488 hf ?_
  show zP V X 9 k n 1489 _ [.double (FP.f2d (zflt (zw (d 401 12 - d 401 13)) (d 401 12)))] (zu d 400 0 0)
  refine zP_dstore (pc := 1489) C (L' := [some (.ref b), some (.ref (zad V 0)), some (.ref (zad V 400)), some (.ref (zad V 399)), some (.int (zI i)), some (.double (FP.f2d (zflt (zw (d 401 12 - d 401 13)) (d 401 12)))), none, some (.double (FP.f2d (zflt (zw (d 401 12 - d 401 13)) (d 401 12)))), none]) dL_law_1489 (Nat.le_of_ble_eq_true rfl) (fun j w h hj => by
    match j, h with
    | 0, _ => exact ⟨by omega, by omega⟩
    | 1, _ => exact ⟨by omega, by omega⟩
    | 2, _ => exact ⟨by omega, by omega⟩
    | 3, _ => exact ⟨by omega, by omega⟩
    | 4, h => cases h; exact ⟨by omega, fun _ => rfl⟩
    | 5, _ => exact ⟨by omega, by omega⟩
    | 6, h => cases h
    | 7, h => cases h
    | 8, h => cases h
    | q + 9, h => cases h) rfl ?_
  have hc9 := zR_of (Op.cmpValue (FP.dcmp (FP.f2d (zflt (zw (d 401 12 - d 401 13)) (d 401 12))) (FP.f2d (zflt (zw (d 401 12 - d 401 13)) (d 401 12)))) .l)
  generalize hcv : (Op.cmpValue (FP.dcmp (FP.f2d (zflt (zw (d 401 12 - d 401 13)) (d 401 12))) (FP.f2d (zflt (zw (d 401 12 - d 401 13)) (d 401 12)))) .l).toInt = cv at hc9
  have fin : zP V X 9 k n 1517 [some (.ref b), some (.ref (zad V 0)), some (.ref (zad V 400)), some (.ref (zad V 399)), some (.int (zI i)), some (.double (FP.f2d (zflt (zw (d 401 12 - d 401 13)) (d 401 12)))), none, some (.double (FP.f2d (zflt (zw (d 401 12 - d 401 13)) (d 401 12)))), none] [] (zu d 400 0 0) := by
    refine zP_goto (pc := 1517) (tgt := 2100) C dL_law_1517 rfl ?_
    exact zP_wide (Nat.le_add_right _ _) (Nat.le_add_right _ _) (zP_mask [true, true, true, true, true, false, false, false, false] (next _ (GR_t0 hg)))
  refine zP_dload (pc := 1491) C (x := (FP.f2d (zflt (zw (d 401 12 - d 401 13)) (d 401 12)))) dL_law_1491 rfl ?_
  refine zP_dload (pc := 1493) C (x := (FP.f2d (zflt (zw (d 401 12 - d 401 13)) (d 401 12)))) dL_law_1493 rfl ?_
  refine zP_dcmp (pc := 1495) C dL_law_1495 ?_
  rw [hcv]
  refine zP_if_eq (β := Unit) (r := ()) (A := some ()) (B := some ()) (pc := 1496) (tgt := 1517) C dL_law_1496 rfl hc9 (by split <;> rfl) (fun _ _ => fin) (fun h0 _ => ?_)
  refine zP_dload (pc := 1499) C (x := (FP.f2d (zflt (zw (d 401 12 - d 401 13)) (d 401 12)))) dL_law_1499 rfl ?_
  refine zP_dload (pc := 1501) C (x := (FP.f2d (zflt (zw (d 401 12 - d 401 13)) (d 401 12)))) dL_law_1501 rfl ?_
  refine zP_dcmp (pc := 1503) C dL_law_1503 ?_
  rw [hcv]
  refine zP_if_eq (β := Unit) (r := ()) (A := some ()) (B := some ()) (pc := 1504) (tgt := 1515) C dL_law_1504 rfl hc9 (by split <;> rfl) (fun h _ => absurd h h0) (fun _ _ => ?_)
  refine zP_dload (pc := 1507) C (x := (FP.f2d (zflt (zw (d 401 12 - d 401 13)) (d 401 12)))) dL_law_1507 rfl ?_
  refine zP_dload (pc := 1509) C (x := (FP.f2d (zflt (zw (d 401 12 - d 401 13)) (d 401 12)))) dL_law_1509 rfl ?_
  refine zP_dcmp (pc := 1511) C dL_law_1511 ?_
  rw [hcv]
  exact zP_if_ne (β := Unit) (r := ()) (A := some ()) (B := some ()) (pc := 1512) (tgt := 1517) C dL_law_1512 rfl hc9 (by split <;> rfl) (fun _ _ => fin) (fun h _ => absurd h h0)
theorem lawc_30 {V : zW} {X : zX} {b N : Nat} {xs : Nat → Int32} (hT : zo11 V) (hM : zo12 V) (hO : zsh V 399 = some (4, 1, zk0)) (C : zOk V X cL_law RL 9 room_1 ret) (LX : zLX V X b N xs) (hN : N < 3073) {i : Int} (hi : 0 ≤ i ∧ i + 6 ≤ (N : Int)) {k n : Nat} (hk : k + 1 ≤ 601024 ∧ n + 6 ≤ 7293034) {d : zD} (hg : GR d d) (next : ∀ d', GR d' d' → zP V X 9 (k + 1) (n + 6) 2100 [some (.ref b), some (.ref (zad V 0)), some (.ref (zad V 400)), some (.ref (zad V 399)), some (.int (zI i)), none, none, none, none] [] d') : zP V X 9 k n 1520 [some (.ref b), some (.ref (zad V 0)), some (.ref (zad V 400)), some (.ref (zad V 399)), some (.int (zI i)), none, none, none, none] [] d := by
  have hkn : k ≤ room_1.cells ∧ n ≤ room_1.slots := ⟨by show k ≤ 601024; omega, by show n ≤ 7293034; omega⟩
  have hkn1 : k + 1 ≤ room_1.cells ∧ n + 6 ≤ room_1.slots := ⟨by show k + 1 ≤ 601024; omega, by show n + 6 ≤ 7293034; omega⟩
  refine zP_R fun hR => ?_
  obtain ⟨v, dc, dz, kv, v', ds', h1, hv, h2, hg', ht, ho⟩ := GO_runT (G_post ((xs (i + 1).toNat).toInt) ((xs (i + 2).toNat).toInt) ((xs (i + 3).toNat).toInt)) hg hR
  refine zP_aload_n (pc := 1520) C (x := zad V 0) dL_law_1520 rfl rfl ?_
  refine zP_arg (pc := 1521) (i := i) (z := 1) C LX dL_law_1521 dL_law_1522 dL_law_1524 dL_law_1525 dL_law_1526 rfl rfl hN ⟨by omega, by omega⟩ ?_
  refine zP_arg (pc := 1527) (i := i) (z := 2) C LX dL_law_1527 dL_law_1528 dL_law_1530 dL_law_1531 dL_law_1532 rfl rfl hN ⟨by omega, by omega⟩ ?_
  refine zP_arg (pc := 1533) (i := i) (z := 3) C LX dL_law_1533 dL_law_1534 dL_law_1536 dL_law_1537 dL_law_1538 rfl rfl hN ⟨by omega, by omega⟩ ?_
  refine zP_aload_n (pc := 1539) C (x := zad V 399) dL_law_1539 rfl rfl ?_
  refine zP_callTL (pc := 1540) (As := [.ref (zad V 0), .int (zI (xs (i + 1).toNat).toInt), .int (zI (xs (i + 2).toNat).toInt), .int (zI (xs (i + 3).toNat).toInt), .ref (zad V 399)]) (st := []) C LX mtL_216 dL_law_1540 (tL_post hT hO (zR_of _) (zR_of _) (zR_of _) h1 hv) ⟨Nat.le_of_ble_eq_true rfl, Nat.le_of_ble_eq_true rfl⟩ rfl (Nat.le_of_ble_eq_true rfl) hkn1 fun hkv => ?_
  show zP V X 9 (k + 1) (n + 6) 1543 _ [.int (zI kv)] dz
  refine zP_istore (pc := 1543) C (L' := [some (.ref b), some (.ref (zad V 0)), some (.ref (zad V 400)), some (.ref (zad V 399)), some (.int (zI i)), some (.int (zI kv)), none, none, none]) dL_law_1543 (Nat.le_of_ble_eq_true rfl) rfl rfl ?_
  refine zP_aload_n (pc := 1545) C (x := zad V 400) dL_law_1545 rfl rfl ?_
  refine zP_arg (pc := 1546) (i := i) (z := 1) C LX dL_law_1546 dL_law_1547 dL_law_1549 dL_law_1550 dL_law_1551 rfl rfl hN ⟨by omega, by omega⟩ ?_
  refine zP_arg (pc := 1552) (i := i) (z := 2) C LX dL_law_1552 dL_law_1553 dL_law_1555 dL_law_1556 dL_law_1557 rfl rfl hN ⟨by omega, by omega⟩ ?_
  refine zP_arg (pc := 1558) (i := i) (z := 3) C LX dL_law_1558 dL_law_1559 dL_law_1561 dL_law_1562 dL_law_1563 rfl rfl hN ⟨by omega, by omega⟩ ?_
  refine zP_callV (pc := 1564) (As := [.int (zI (xs (i + 1).toNat).toInt), .int (zI (xs (i + 2).toNat).toInt), .int (zI (xs (i + 3).toNat).toInt)]) (st := []) C mvL_218 dL_law_1564 (s_X12 hM) rfl (t_X12_post hM (zR_of _) (zR_of _) (zR_of _) h2) ⟨Nat.le_of_ble_eq_true rfl, Nat.le_of_ble_eq_true rfl⟩ rfl (Nat.le_of_ble_eq_true rfl) hkn1 fun hv2 => ?_
  show zP V X 9 (k + 1) (n + 6) 1567 _ [.int (zI v')] ds'
  refine zP_istore (pc := 1567) C (L' := [some (.ref b), some (.ref (zad V 0)), some (.ref (zad V 400)), some (.ref (zad V 399)), some (.int (zI i)), some (.int (zI kv)), some (.int (zI v')), none, none]) dL_law_1567 (Nat.le_of_ble_eq_true rfl) rfl rfl ?_
  refine zP_aload_n (pc := 1569) C (x := zad V 400) dL_law_1569 rfl rfl ?_
  refine zP_callV (pc := 1570) (As := []) (st := []) C mvL_132 dL_law_1570 (s_X12 hM) rfl (t_X12_thrown hM e_thrown) ⟨Nat.le_of_ble_eq_true rfl, Nat.le_of_ble_eq_true rfl⟩ rfl (Nat.le_of_ble_eq_true rfl) hkn1 fun _ => ?_
  show zP V X 9 (k + 1) (n + 6) 1573 _ [.int (zI (ds' 400 0))] ds'
  rw [ht]
  refine zP_iload (pc := 1573) C (x := zI kv) dL_law_1573 rfl ?_
  refine zP_icmp_eq (β := Unit) (r := ()) (A := some ()) (B := some ()) (pc := 1575) (tgt := 1580) (x := kv) (y := kv) C dL_law_1575 rfl hkv hkv (by split <;> rfl) (fun _ _ => ?_) (fun h _ => absurd rfl h)
  refine zP_iload (pc := 1580) C (x := zI kv) dL_law_1580 rfl ?_
  have fin : zP V X 9 (k + 1) (n + 6) 1597 [some (.ref b), some (.ref (zad V 0)), some (.ref (zad V 400)), some (.ref (zad V 399)), some (.int (zI i)), some (.int (zI kv)), some (.int (zI v')), none, none] [] ds' := by
    refine zP_goto (pc := 1597) (tgt := 2100) C dL_law_1597 rfl ?_
    exact zP_mask [true, true, true, true, true, false, false, false, false] (next _ hg')
  refine zP_if_ne (β := Unit) (r := ()) (A := some ()) (B := some ()) (pc := 1582) (tgt := 1597) C dL_law_1582 rfl hkv (by split <;> rfl) (fun _ _ => fin) (fun h0 _ => ?_)
  refine zP_aload_n (pc := 1585) C (x := zad V 399) dL_law_1585 rfl rfl ?_
  refine zP_iconst (pc := 1586) C dL_law_1586 ?_
  refine zP_lald (pc := 1587) (a := 399) (i := 0) C dL_law_1587 hO (zRk rfl) ⟨by decide, by decide⟩ ?_
  refine zP_iload (pc := 1588) C (x := zI v') dL_law_1588 rfl ?_
  refine zP_i2l (pc := 1590) C dL_law_1590 ?_
  refine zP_lcmp0 (pc := 1591) C dL_law_1591 (by rw [show ds' 399 (0 : Int).toNat = v' from ho h0]) ?_
  exact zP_if_eq (pc := 1592) (tgt := 1597) C dL_law_1592 rfl (x := 0) (zRk rfl) (A := some ()) (B := (none : Option Unit)) (r := ()) rfl (fun _ _ => fin) (fun h _ => absurd rfl h)
theorem lawc_31 {V : zW} {X : zX} {b N : Nat} {xs : Nat → Int32} (hT : zo11 V) (hM : zo12 V) (hO : zsh V 399 = some (4, 1, zk0)) (C : zOk V X cL_law RL 9 room_1 ret) (LX : zLX V X b N xs) (hN : N < 3073) {i : Int} (hi : 0 ≤ i ∧ i + 6 ≤ (N : Int)) {k n : Nat} (hk : k + 1 ≤ 601024 ∧ n + 6 ≤ 7293034) {d : zD} (hg : GR d d) (next : ∀ d', GR d' d' → zP V X 9 (k + 1) (n + 6) 2100 [some (.ref b), some (.ref (zad V 0)), some (.ref (zad V 400)), some (.ref (zad V 399)), some (.int (zI i)), none, none, none, none] [] d') : zP V X 9 k n 1600 [some (.ref b), some (.ref (zad V 0)), some (.ref (zad V 400)), some (.ref (zad V 399)), some (.int (zI i)), none, none, none, none] [] d := by
  have hkn : k ≤ room_1.cells ∧ n ≤ room_1.slots := ⟨by show k ≤ 601024; omega, by show n ≤ 7293034; omega⟩
  have hkn1 : k + 1 ≤ room_1.cells ∧ n + 6 ≤ room_1.slots := ⟨by show k + 1 ≤ 601024; omega, by show n + 6 ≤ 7293034; omega⟩
  refine zP_R fun hR => ?_
  obtain ⟨v, dc, dz, kv, v', ds', h1, hv, h2, hg', ht, ho⟩ := GO_runT (G_kill ((xs (i + 1).toNat).toInt)) hg hR
  refine zP_aload_n (pc := 1600) C (x := zad V 0) dL_law_1600 rfl rfl ?_
  refine zP_arg (pc := 1601) (i := i) (z := 1) C LX dL_law_1601 dL_law_1602 dL_law_1604 dL_law_1605 dL_law_1606 rfl rfl hN ⟨by omega, by omega⟩ ?_
  refine zP_aload_n (pc := 1607) C (x := zad V 399) dL_law_1607 rfl rfl ?_
  refine zP_callTL (pc := 1608) (As := [.ref (zad V 0), .int (zI (xs (i + 1).toNat).toInt), .ref (zad V 399)]) (st := []) C LX mtL_219 dL_law_1608 (tL_kill hT hO (zR_of _) h1 hv) ⟨Nat.le_of_ble_eq_true rfl, Nat.le_of_ble_eq_true rfl⟩ rfl (Nat.le_of_ble_eq_true rfl) hkn1 fun hkv => ?_
  show zP V X 9 (k + 1) (n + 6) 1611 _ [.int (zI kv)] dz
  refine zP_istore (pc := 1611) C (L' := [some (.ref b), some (.ref (zad V 0)), some (.ref (zad V 400)), some (.ref (zad V 399)), some (.int (zI i)), some (.int (zI kv)), none, none, none]) dL_law_1611 (Nat.le_of_ble_eq_true rfl) rfl rfl ?_
  refine zP_aload_n (pc := 1613) C (x := zad V 400) dL_law_1613 rfl rfl ?_
  refine zP_arg (pc := 1614) (i := i) (z := 1) C LX dL_law_1614 dL_law_1615 dL_law_1617 dL_law_1618 dL_law_1619 rfl rfl hN ⟨by omega, by omega⟩ ?_
  refine zP_callV (pc := 1620) (As := [.int (zI (xs (i + 1).toNat).toInt)]) (st := []) C mvL_221 dL_law_1620 (s_X12 hM) rfl (t_X12_kill hM (zR_of _) h2) ⟨Nat.le_of_ble_eq_true rfl, Nat.le_of_ble_eq_true rfl⟩ rfl (Nat.le_of_ble_eq_true rfl) hkn1 fun hv2 => ?_
  show zP V X 9 (k + 1) (n + 6) 1623 _ [.int (zI v')] ds'
  refine zP_istore (pc := 1623) C (L' := [some (.ref b), some (.ref (zad V 0)), some (.ref (zad V 400)), some (.ref (zad V 399)), some (.int (zI i)), some (.int (zI kv)), some (.int (zI v')), none, none]) dL_law_1623 (Nat.le_of_ble_eq_true rfl) rfl rfl ?_
  refine zP_aload_n (pc := 1625) C (x := zad V 400) dL_law_1625 rfl rfl ?_
  refine zP_callV (pc := 1626) (As := []) (st := []) C mvL_132 dL_law_1626 (s_X12 hM) rfl (t_X12_thrown hM e_thrown) ⟨Nat.le_of_ble_eq_true rfl, Nat.le_of_ble_eq_true rfl⟩ rfl (Nat.le_of_ble_eq_true rfl) hkn1 fun _ => ?_
  show zP V X 9 (k + 1) (n + 6) 1629 _ [.int (zI (ds' 400 0))] ds'
  rw [ht]
  refine zP_iload (pc := 1629) C (x := zI kv) dL_law_1629 rfl ?_
  refine zP_icmp_eq (β := Unit) (r := ()) (A := some ()) (B := some ()) (pc := 1631) (tgt := 1636) (x := kv) (y := kv) C dL_law_1631 rfl hkv hkv (by split <;> rfl) (fun _ _ => ?_) (fun h _ => absurd rfl h)
  refine zP_iload (pc := 1636) C (x := zI kv) dL_law_1636 rfl ?_
  have fin : zP V X 9 (k + 1) (n + 6) 1653 [some (.ref b), some (.ref (zad V 0)), some (.ref (zad V 400)), some (.ref (zad V 399)), some (.int (zI i)), some (.int (zI kv)), some (.int (zI v')), none, none] [] ds' := by
    refine zP_goto (pc := 1653) (tgt := 2100) C dL_law_1653 rfl ?_
    exact zP_mask [true, true, true, true, true, false, false, false, false] (next _ hg')
  refine zP_if_ne (β := Unit) (r := ()) (A := some ()) (B := some ()) (pc := 1638) (tgt := 1653) C dL_law_1638 rfl hkv (by split <;> rfl) (fun _ _ => fin) (fun h0 _ => ?_)
  refine zP_aload_n (pc := 1641) C (x := zad V 399) dL_law_1641 rfl rfl ?_
  refine zP_iconst (pc := 1642) C dL_law_1642 ?_
  refine zP_lald (pc := 1643) (a := 399) (i := 0) C dL_law_1643 hO (zRk rfl) ⟨by decide, by decide⟩ ?_
  refine zP_iload (pc := 1644) C (x := zI v') dL_law_1644 rfl ?_
  refine zP_i2l (pc := 1646) C dL_law_1646 ?_
  refine zP_lcmp0 (pc := 1647) C dL_law_1647 (by rw [show ds' 399 (0 : Int).toNat = v' from ho h0]) ?_
  exact zP_if_eq (pc := 1648) (tgt := 1653) C dL_law_1648 rfl (x := 0) (zRk rfl) (A := some ()) (B := (none : Option Unit)) (r := ()) rfl (fun _ _ => fin) (fun h _ => absurd rfl h)
theorem lawc_32 {V : zW} {X : zX} {b N : Nat} {xs : Nat → Int32} (hT : zo11 V) (hM : zo12 V) (hO : zsh V 399 = some (4, 1, zk0)) (C : zOk V X cL_law RL 9 room_1 ret) (LX : zLX V X b N xs) (hN : N < 3073) {i : Int} (hi : 0 ≤ i ∧ i + 6 ≤ (N : Int)) {k n : Nat} (hk : k + 1 ≤ 601024 ∧ n + 6 ≤ 7293034) {d : zD} (hg : GR d d) (next : ∀ d', GR d' d' → zP V X 9 (k + 1) (n + 6) 2100 [some (.ref b), some (.ref (zad V 0)), some (.ref (zad V 400)), some (.ref (zad V 399)), some (.int (zI i)), none, none, none, none] [] d') : zP V X 9 k n 1656 [some (.ref b), some (.ref (zad V 0)), some (.ref (zad V 400)), some (.ref (zad V 399)), some (.int (zI i)), none, none, none, none] [] d := by
  have hkn : k ≤ room_1.cells ∧ n ≤ room_1.slots := ⟨by show k ≤ 601024; omega, by show n ≤ 7293034; omega⟩
  have hkn1 : k + 1 ≤ room_1.cells ∧ n + 6 ≤ room_1.slots := ⟨by show k + 1 ≤ 601024; omega, by show n + 6 ≤ 7293034; omega⟩
  refine zP_R fun hR => ?_
  obtain ⟨v, dc, dz, kv, v', ds', h1, hv, h2, hg', ht, ho⟩ := GO_runT (G_wake ((xs (i + 1).toNat).toInt)) hg hR
  refine zP_aload_n (pc := 1656) C (x := zad V 0) dL_law_1656 rfl rfl ?_
  refine zP_arg (pc := 1657) (i := i) (z := 1) C LX dL_law_1657 dL_law_1658 dL_law_1660 dL_law_1661 dL_law_1662 rfl rfl hN ⟨by omega, by omega⟩ ?_
  refine zP_aload_n (pc := 1663) C (x := zad V 399) dL_law_1663 rfl rfl ?_
  refine zP_callTL (pc := 1664) (As := [.ref (zad V 0), .int (zI (xs (i + 1).toNat).toInt), .ref (zad V 399)]) (st := []) C LX mtL_222 dL_law_1664 (tL_wake hT hO (zR_of _) h1 hv) ⟨Nat.le_of_ble_eq_true rfl, Nat.le_of_ble_eq_true rfl⟩ rfl (Nat.le_of_ble_eq_true rfl) hkn1 fun hkv => ?_
  show zP V X 9 (k + 1) (n + 6) 1667 _ [.int (zI kv)] dz
  refine zP_istore (pc := 1667) C (L' := [some (.ref b), some (.ref (zad V 0)), some (.ref (zad V 400)), some (.ref (zad V 399)), some (.int (zI i)), some (.int (zI kv)), none, none, none]) dL_law_1667 (Nat.le_of_ble_eq_true rfl) rfl rfl ?_
  refine zP_aload_n (pc := 1669) C (x := zad V 400) dL_law_1669 rfl rfl ?_
  refine zP_arg (pc := 1670) (i := i) (z := 1) C LX dL_law_1670 dL_law_1671 dL_law_1673 dL_law_1674 dL_law_1675 rfl rfl hN ⟨by omega, by omega⟩ ?_
  refine zP_callV (pc := 1676) (As := [.int (zI (xs (i + 1).toNat).toInt)]) (st := []) C mvL_224 dL_law_1676 (s_X12 hM) rfl (t_X12_wake hM (zR_of _) h2) ⟨Nat.le_of_ble_eq_true rfl, Nat.le_of_ble_eq_true rfl⟩ rfl (Nat.le_of_ble_eq_true rfl) hkn1 fun hv2 => ?_
  show zP V X 9 (k + 1) (n + 6) 1679 _ [.int (zI v')] ds'
  refine zP_istore (pc := 1679) C (L' := [some (.ref b), some (.ref (zad V 0)), some (.ref (zad V 400)), some (.ref (zad V 399)), some (.int (zI i)), some (.int (zI kv)), some (.int (zI v')), none, none]) dL_law_1679 (Nat.le_of_ble_eq_true rfl) rfl rfl ?_
  refine zP_aload_n (pc := 1681) C (x := zad V 400) dL_law_1681 rfl rfl ?_
  refine zP_callV (pc := 1682) (As := []) (st := []) C mvL_132 dL_law_1682 (s_X12 hM) rfl (t_X12_thrown hM e_thrown) ⟨Nat.le_of_ble_eq_true rfl, Nat.le_of_ble_eq_true rfl⟩ rfl (Nat.le_of_ble_eq_true rfl) hkn1 fun _ => ?_
  show zP V X 9 (k + 1) (n + 6) 1685 _ [.int (zI (ds' 400 0))] ds'
  rw [ht]
  refine zP_iload (pc := 1685) C (x := zI kv) dL_law_1685 rfl ?_
  refine zP_icmp_eq (β := Unit) (r := ()) (A := some ()) (B := some ()) (pc := 1687) (tgt := 1692) (x := kv) (y := kv) C dL_law_1687 rfl hkv hkv (by split <;> rfl) (fun _ _ => ?_) (fun h _ => absurd rfl h)
  refine zP_iload (pc := 1692) C (x := zI kv) dL_law_1692 rfl ?_
  have fin : zP V X 9 (k + 1) (n + 6) 1709 [some (.ref b), some (.ref (zad V 0)), some (.ref (zad V 400)), some (.ref (zad V 399)), some (.int (zI i)), some (.int (zI kv)), some (.int (zI v')), none, none] [] ds' := by
    refine zP_goto (pc := 1709) (tgt := 2100) C dL_law_1709 rfl ?_
    exact zP_mask [true, true, true, true, true, false, false, false, false] (next _ hg')
  refine zP_if_ne (β := Unit) (r := ()) (A := some ()) (B := some ()) (pc := 1694) (tgt := 1709) C dL_law_1694 rfl hkv (by split <;> rfl) (fun _ _ => fin) (fun h0 _ => ?_)
  refine zP_aload_n (pc := 1697) C (x := zad V 399) dL_law_1697 rfl rfl ?_
  refine zP_iconst (pc := 1698) C dL_law_1698 ?_
  refine zP_lald (pc := 1699) (a := 399) (i := 0) C dL_law_1699 hO (zRk rfl) ⟨by decide, by decide⟩ ?_
  refine zP_iload (pc := 1700) C (x := zI v') dL_law_1700 rfl ?_
  refine zP_i2l (pc := 1702) C dL_law_1702 ?_
  refine zP_lcmp0 (pc := 1703) C dL_law_1703 (by rw [show ds' 399 (0 : Int).toNat = v' from ho h0]) ?_
  exact zP_if_eq (pc := 1704) (tgt := 1709) C dL_law_1704 rfl (x := 0) (zRk rfl) (A := some ()) (B := (none : Option Unit)) (r := ()) rfl (fun _ _ => fin) (fun h _ => absurd rfl h)
theorem lawc_33 {V : zW} {X : zX} {b N : Nat} {xs : Nat → Int32} (hT : zo11 V) (hM : zo12 V) (hO : zsh V 399 = some (4, 1, zk0)) (C : zOk V X cL_law RL 9 room_1 ret) (LX : zLX V X b N xs) (hN : N < 3073) {i : Int} (hi : 0 ≤ i ∧ i + 6 ≤ (N : Int)) {k n : Nat} (hk : k + 1 ≤ 601024 ∧ n + 6 ≤ 7293034) {d : zD} (hg : GR d d) (next : ∀ d', GR d' d' → zP V X 9 (k + 1) (n + 6) 2100 [some (.ref b), some (.ref (zad V 0)), some (.ref (zad V 400)), some (.ref (zad V 399)), some (.int (zI i)), none, none, none, none] [] d') : zP V X 9 k n 1712 [some (.ref b), some (.ref (zad V 0)), some (.ref (zad V 400)), some (.ref (zad V 399)), some (.int (zI i)), none, none, none, none] [] d := by
  have hkn : k ≤ room_1.cells ∧ n ≤ room_1.slots := ⟨by show k ≤ 601024; omega, by show n ≤ 7293034; omega⟩
  have hkn1 : k + 1 ≤ room_1.cells ∧ n + 6 ≤ room_1.slots := ⟨by show k + 1 ≤ 601024; omega, by show n + 6 ≤ 7293034; omega⟩
  refine zP_R fun hR => ?_
  obtain ⟨v, dc, dz, kv, v', ds', h1, hv, h2, hg', ht, ho⟩ := GO_runT (G_run ((xs (i + 1).toNat).toInt)) hg hR
  refine zP_aload_n (pc := 1712) C (x := zad V 0) dL_law_1712 rfl rfl ?_
  refine zP_arg (pc := 1713) (i := i) (z := 1) C LX dL_law_1713 dL_law_1714 dL_law_1716 dL_law_1717 dL_law_1718 rfl rfl hN ⟨by omega, by omega⟩ ?_
  refine zP_aload_n (pc := 1719) C (x := zad V 399) dL_law_1719 rfl rfl ?_
  refine zP_callTL (pc := 1720) (As := [.ref (zad V 0), .int (zI (xs (i + 1).toNat).toInt), .ref (zad V 399)]) (st := []) C LX mtL_225 dL_law_1720 (tL_run hT hO (zR_of _) h1 hv) ⟨Nat.le_of_ble_eq_true rfl, Nat.le_of_ble_eq_true rfl⟩ rfl (Nat.le_of_ble_eq_true rfl) hkn1 fun hkv => ?_
  show zP V X 9 (k + 1) (n + 6) 1723 _ [.int (zI kv)] dz
  refine zP_istore (pc := 1723) C (L' := [some (.ref b), some (.ref (zad V 0)), some (.ref (zad V 400)), some (.ref (zad V 399)), some (.int (zI i)), some (.int (zI kv)), none, none, none]) dL_law_1723 (Nat.le_of_ble_eq_true rfl) rfl rfl ?_
  refine zP_aload_n (pc := 1725) C (x := zad V 400) dL_law_1725 rfl rfl ?_
  refine zP_arg (pc := 1726) (i := i) (z := 1) C LX dL_law_1726 dL_law_1727 dL_law_1729 dL_law_1730 dL_law_1731 rfl rfl hN ⟨by omega, by omega⟩ ?_
  refine zP_callV (pc := 1732) (As := [.int (zI (xs (i + 1).toNat).toInt)]) (st := []) C mvL_227 dL_law_1732 (s_X12 hM) rfl (t_X12_run hM (zR_of _) h2) ⟨Nat.le_of_ble_eq_true rfl, Nat.le_of_ble_eq_true rfl⟩ rfl (Nat.le_of_ble_eq_true rfl) hkn1 fun hv2 => ?_
  show zP V X 9 (k + 1) (n + 6) 1735 _ [.int (zI v')] ds'
  refine zP_istore (pc := 1735) C (L' := [some (.ref b), some (.ref (zad V 0)), some (.ref (zad V 400)), some (.ref (zad V 399)), some (.int (zI i)), some (.int (zI kv)), some (.int (zI v')), none, none]) dL_law_1735 (Nat.le_of_ble_eq_true rfl) rfl rfl ?_
  refine zP_aload_n (pc := 1737) C (x := zad V 400) dL_law_1737 rfl rfl ?_
  refine zP_callV (pc := 1738) (As := []) (st := []) C mvL_132 dL_law_1738 (s_X12 hM) rfl (t_X12_thrown hM e_thrown) ⟨Nat.le_of_ble_eq_true rfl, Nat.le_of_ble_eq_true rfl⟩ rfl (Nat.le_of_ble_eq_true rfl) hkn1 fun _ => ?_
  show zP V X 9 (k + 1) (n + 6) 1741 _ [.int (zI (ds' 400 0))] ds'
  rw [ht]
  refine zP_iload (pc := 1741) C (x := zI kv) dL_law_1741 rfl ?_
  refine zP_icmp_eq (β := Unit) (r := ()) (A := some ()) (B := some ()) (pc := 1743) (tgt := 1748) (x := kv) (y := kv) C dL_law_1743 rfl hkv hkv (by split <;> rfl) (fun _ _ => ?_) (fun h _ => absurd rfl h)
  refine zP_iload (pc := 1748) C (x := zI kv) dL_law_1748 rfl ?_
  have fin : zP V X 9 (k + 1) (n + 6) 1765 [some (.ref b), some (.ref (zad V 0)), some (.ref (zad V 400)), some (.ref (zad V 399)), some (.int (zI i)), some (.int (zI kv)), some (.int (zI v')), none, none] [] ds' := by
    refine zP_goto (pc := 1765) (tgt := 2100) C dL_law_1765 rfl ?_
    exact zP_mask [true, true, true, true, true, false, false, false, false] (next _ hg')
  refine zP_if_ne (β := Unit) (r := ()) (A := some ()) (B := some ()) (pc := 1750) (tgt := 1765) C dL_law_1750 rfl hkv (by split <;> rfl) (fun _ _ => fin) (fun h0 _ => ?_)
  refine zP_aload_n (pc := 1753) C (x := zad V 399) dL_law_1753 rfl rfl ?_
  refine zP_iconst (pc := 1754) C dL_law_1754 ?_
  refine zP_lald (pc := 1755) (a := 399) (i := 0) C dL_law_1755 hO (zRk rfl) ⟨by decide, by decide⟩ ?_
  refine zP_iload (pc := 1756) C (x := zI v') dL_law_1756 rfl ?_
  refine zP_i2l (pc := 1758) C dL_law_1758 ?_
  refine zP_lcmp0 (pc := 1759) C dL_law_1759 (by rw [show ds' 399 (0 : Int).toNat = v' from ho h0]) ?_
  exact zP_if_eq (pc := 1760) (tgt := 1765) C dL_law_1760 rfl (x := 0) (zRk rfl) (A := some ()) (B := (none : Option Unit)) (r := ()) rfl (fun _ _ => fin) (fun h _ => absurd rfl h)
theorem lawc_34 {V : zW} {X : zX} {b N : Nat} {xs : Nat → Int32} (hT : zo11 V) (hM : zo12 V) (hO : zsh V 399 = some (4, 1, zk0)) (C : zOk V X cL_law RL 9 room_1 ret) (LX : zLX V X b N xs) (hN : N < 3073) {i : Int} (hi : 0 ≤ i ∧ i + 6 ≤ (N : Int)) {k n : Nat} (hk : k + 1 ≤ 601024 ∧ n + 6 ≤ 7293034) {d : zD} (hg : GR d d) (next : ∀ d', GR d' d' → zP V X 9 (k + 1) (n + 6) 2100 [some (.ref b), some (.ref (zad V 0)), some (.ref (zad V 400)), some (.ref (zad V 399)), some (.int (zI i)), none, none, none, none] [] d') : zP V X 9 k n 1768 [some (.ref b), some (.ref (zad V 0)), some (.ref (zad V 400)), some (.ref (zad V 399)), some (.int (zI i)), none, none, none, none] [] d := by
  have hkn : k ≤ room_1.cells ∧ n ≤ room_1.slots := ⟨by show k ≤ 601024; omega, by show n ≤ 7293034; omega⟩
  have hkn1 : k + 1 ≤ room_1.cells ∧ n + 6 ≤ room_1.slots := ⟨by show k + 1 ≤ 601024; omega, by show n + 6 ≤ 7293034; omega⟩
  refine zP_R fun hR => ?_
  obtain ⟨v, dc, dz, kv, v', ds', h1, hv, h2, hg', ht, ho⟩ := GO_runT (G_addPlace ((xs (i + 1).toNat).toInt)) hg hR
  refine zP_aload_n (pc := 1768) C (x := zad V 0) dL_law_1768 rfl rfl ?_
  refine zP_arg (pc := 1769) (i := i) (z := 1) C LX dL_law_1769 dL_law_1770 dL_law_1772 dL_law_1773 dL_law_1774 rfl rfl hN ⟨by omega, by omega⟩ ?_
  refine zP_aload_n (pc := 1775) C (x := zad V 399) dL_law_1775 rfl rfl ?_
  refine zP_callTL (pc := 1776) (As := [.ref (zad V 0), .int (zI (xs (i + 1).toNat).toInt), .ref (zad V 399)]) (st := []) C LX mtL_228 dL_law_1776 (tL_addPlace hT hO (zR_of _) h1 hv) ⟨Nat.le_of_ble_eq_true rfl, Nat.le_of_ble_eq_true rfl⟩ rfl (Nat.le_of_ble_eq_true rfl) hkn1 fun hkv => ?_
  show zP V X 9 (k + 1) (n + 6) 1779 _ [.int (zI kv)] dz
  refine zP_istore (pc := 1779) C (L' := [some (.ref b), some (.ref (zad V 0)), some (.ref (zad V 400)), some (.ref (zad V 399)), some (.int (zI i)), some (.int (zI kv)), none, none, none]) dL_law_1779 (Nat.le_of_ble_eq_true rfl) rfl rfl ?_
  refine zP_aload_n (pc := 1781) C (x := zad V 400) dL_law_1781 rfl rfl ?_
  refine zP_arg (pc := 1782) (i := i) (z := 1) C LX dL_law_1782 dL_law_1783 dL_law_1785 dL_law_1786 dL_law_1787 rfl rfl hN ⟨by omega, by omega⟩ ?_
  refine zP_callV (pc := 1788) (As := [.int (zI (xs (i + 1).toNat).toInt)]) (st := []) C mvL_230 dL_law_1788 (s_X12 hM) rfl (t_X12_addPlace hM (zR_of _) h2) ⟨Nat.le_of_ble_eq_true rfl, Nat.le_of_ble_eq_true rfl⟩ rfl (Nat.le_of_ble_eq_true rfl) hkn1 fun hv2 => ?_
  show zP V X 9 (k + 1) (n + 6) 1791 _ [.int (zI v')] ds'
  refine zP_istore (pc := 1791) C (L' := [some (.ref b), some (.ref (zad V 0)), some (.ref (zad V 400)), some (.ref (zad V 399)), some (.int (zI i)), some (.int (zI kv)), some (.int (zI v')), none, none]) dL_law_1791 (Nat.le_of_ble_eq_true rfl) rfl rfl ?_
  refine zP_aload_n (pc := 1793) C (x := zad V 400) dL_law_1793 rfl rfl ?_
  refine zP_callV (pc := 1794) (As := []) (st := []) C mvL_132 dL_law_1794 (s_X12 hM) rfl (t_X12_thrown hM e_thrown) ⟨Nat.le_of_ble_eq_true rfl, Nat.le_of_ble_eq_true rfl⟩ rfl (Nat.le_of_ble_eq_true rfl) hkn1 fun _ => ?_
  show zP V X 9 (k + 1) (n + 6) 1797 _ [.int (zI (ds' 400 0))] ds'
  rw [ht]
  refine zP_iload (pc := 1797) C (x := zI kv) dL_law_1797 rfl ?_
  refine zP_icmp_eq (β := Unit) (r := ()) (A := some ()) (B := some ()) (pc := 1799) (tgt := 1804) (x := kv) (y := kv) C dL_law_1799 rfl hkv hkv (by split <;> rfl) (fun _ _ => ?_) (fun h _ => absurd rfl h)
  refine zP_iload (pc := 1804) C (x := zI kv) dL_law_1804 rfl ?_
  have fin : zP V X 9 (k + 1) (n + 6) 1821 [some (.ref b), some (.ref (zad V 0)), some (.ref (zad V 400)), some (.ref (zad V 399)), some (.int (zI i)), some (.int (zI kv)), some (.int (zI v')), none, none] [] ds' := by
    refine zP_goto (pc := 1821) (tgt := 2100) C dL_law_1821 rfl ?_
    exact zP_mask [true, true, true, true, true, false, false, false, false] (next _ hg')
  refine zP_if_ne (β := Unit) (r := ()) (A := some ()) (B := some ()) (pc := 1806) (tgt := 1821) C dL_law_1806 rfl hkv (by split <;> rfl) (fun _ _ => fin) (fun h0 _ => ?_)
  refine zP_aload_n (pc := 1809) C (x := zad V 399) dL_law_1809 rfl rfl ?_
  refine zP_iconst (pc := 1810) C dL_law_1810 ?_
  refine zP_lald (pc := 1811) (a := 399) (i := 0) C dL_law_1811 hO (zRk rfl) ⟨by decide, by decide⟩ ?_
  refine zP_iload (pc := 1812) C (x := zI v') dL_law_1812 rfl ?_
  refine zP_i2l (pc := 1814) C dL_law_1814 ?_
  refine zP_lcmp0 (pc := 1815) C dL_law_1815 (by rw [show ds' 399 (0 : Int).toNat = v' from ho h0]) ?_
  exact zP_if_eq (pc := 1816) (tgt := 1821) C dL_law_1816 rfl (x := 0) (zRk rfl) (A := some ()) (B := (none : Option Unit)) (r := ()) rfl (fun _ _ => fin) (fun h _ => absurd rfl h)
theorem lawc_35 {V : zW} {X : zX} {b N : Nat} {xs : Nat → Int32} (hT : zo11 V) (hM : zo12 V) (hO : zsh V 399 = some (4, 1, zk0)) (C : zOk V X cL_law RL 9 room_1 ret) (LX : zLX V X b N xs) (hN : N < 3073) {i : Int} (hi : 0 ≤ i ∧ i + 6 ≤ (N : Int)) {k n : Nat} (hk : k + 1 ≤ 601024 ∧ n + 6 ≤ 7293034) {d : zD} (hg : GR d d) (next : ∀ d', GR d' d' → zP V X 9 (k + 1) (n + 6) 2100 [some (.ref b), some (.ref (zad V 0)), some (.ref (zad V 400)), some (.ref (zad V 399)), some (.int (zI i)), none, none, none, none] [] d') : zP V X 9 k n 1824 [some (.ref b), some (.ref (zad V 0)), some (.ref (zad V 400)), some (.ref (zad V 399)), some (.int (zI i)), none, none, none, none] [] d := by
  have hkn : k ≤ room_1.cells ∧ n ≤ room_1.slots := ⟨by show k ≤ 601024; omega, by show n ≤ 7293034; omega⟩
  have hkn1 : k + 1 ≤ room_1.cells ∧ n + 6 ≤ room_1.slots := ⟨by show k + 1 ≤ 601024; omega, by show n + 6 ≤ 7293034; omega⟩
  refine zP_R fun hR => ?_
  obtain ⟨v, dc, dz, kv, v', ds', h1, hv, h2, hg', ht, ho⟩ := GO_runT (G_dropPlace ((xs (i + 1).toNat).toInt)) hg hR
  refine zP_aload_n (pc := 1824) C (x := zad V 0) dL_law_1824 rfl rfl ?_
  refine zP_arg (pc := 1825) (i := i) (z := 1) C LX dL_law_1825 dL_law_1826 dL_law_1828 dL_law_1829 dL_law_1830 rfl rfl hN ⟨by omega, by omega⟩ ?_
  refine zP_aload_n (pc := 1831) C (x := zad V 399) dL_law_1831 rfl rfl ?_
  refine zP_callTL (pc := 1832) (As := [.ref (zad V 0), .int (zI (xs (i + 1).toNat).toInt), .ref (zad V 399)]) (st := []) C LX mtL_231 dL_law_1832 (tL_dropPlace hT hO (zR_of _) h1 hv) ⟨Nat.le_of_ble_eq_true rfl, Nat.le_of_ble_eq_true rfl⟩ rfl (Nat.le_of_ble_eq_true rfl) hkn1 fun hkv => ?_
  show zP V X 9 (k + 1) (n + 6) 1835 _ [.int (zI kv)] dz
  refine zP_istore (pc := 1835) C (L' := [some (.ref b), some (.ref (zad V 0)), some (.ref (zad V 400)), some (.ref (zad V 399)), some (.int (zI i)), some (.int (zI kv)), none, none, none]) dL_law_1835 (Nat.le_of_ble_eq_true rfl) rfl rfl ?_
  refine zP_aload_n (pc := 1837) C (x := zad V 400) dL_law_1837 rfl rfl ?_
  refine zP_arg (pc := 1838) (i := i) (z := 1) C LX dL_law_1838 dL_law_1839 dL_law_1841 dL_law_1842 dL_law_1843 rfl rfl hN ⟨by omega, by omega⟩ ?_
  refine zP_callV (pc := 1844) (As := [.int (zI (xs (i + 1).toNat).toInt)]) (st := []) C mvL_233 dL_law_1844 (s_X12 hM) rfl (t_X12_dropPlace hM (zR_of _) h2) ⟨Nat.le_of_ble_eq_true rfl, Nat.le_of_ble_eq_true rfl⟩ rfl (Nat.le_of_ble_eq_true rfl) hkn1 fun hv2 => ?_
  show zP V X 9 (k + 1) (n + 6) 1847 _ [.int (zI v')] ds'
  refine zP_istore (pc := 1847) C (L' := [some (.ref b), some (.ref (zad V 0)), some (.ref (zad V 400)), some (.ref (zad V 399)), some (.int (zI i)), some (.int (zI kv)), some (.int (zI v')), none, none]) dL_law_1847 (Nat.le_of_ble_eq_true rfl) rfl rfl ?_
  refine zP_aload_n (pc := 1849) C (x := zad V 400) dL_law_1849 rfl rfl ?_
  refine zP_callV (pc := 1850) (As := []) (st := []) C mvL_132 dL_law_1850 (s_X12 hM) rfl (t_X12_thrown hM e_thrown) ⟨Nat.le_of_ble_eq_true rfl, Nat.le_of_ble_eq_true rfl⟩ rfl (Nat.le_of_ble_eq_true rfl) hkn1 fun _ => ?_
  show zP V X 9 (k + 1) (n + 6) 1853 _ [.int (zI (ds' 400 0))] ds'
  rw [ht]
  refine zP_iload (pc := 1853) C (x := zI kv) dL_law_1853 rfl ?_
  refine zP_icmp_eq (β := Unit) (r := ()) (A := some ()) (B := some ()) (pc := 1855) (tgt := 1860) (x := kv) (y := kv) C dL_law_1855 rfl hkv hkv (by split <;> rfl) (fun _ _ => ?_) (fun h _ => absurd rfl h)
  refine zP_iload (pc := 1860) C (x := zI kv) dL_law_1860 rfl ?_
  have fin : zP V X 9 (k + 1) (n + 6) 1877 [some (.ref b), some (.ref (zad V 0)), some (.ref (zad V 400)), some (.ref (zad V 399)), some (.int (zI i)), some (.int (zI kv)), some (.int (zI v')), none, none] [] ds' := by
    refine zP_goto (pc := 1877) (tgt := 2100) C dL_law_1877 rfl ?_
    exact zP_mask [true, true, true, true, true, false, false, false, false] (next _ hg')
  refine zP_if_ne (β := Unit) (r := ()) (A := some ()) (B := some ()) (pc := 1862) (tgt := 1877) C dL_law_1862 rfl hkv (by split <;> rfl) (fun _ _ => fin) (fun h0 _ => ?_)
  refine zP_aload_n (pc := 1865) C (x := zad V 399) dL_law_1865 rfl rfl ?_
  refine zP_iconst (pc := 1866) C dL_law_1866 ?_
  refine zP_lald (pc := 1867) (a := 399) (i := 0) C dL_law_1867 hO (zRk rfl) ⟨by decide, by decide⟩ ?_
  refine zP_iload (pc := 1868) C (x := zI v') dL_law_1868 rfl ?_
  refine zP_i2l (pc := 1870) C dL_law_1870 ?_
  refine zP_lcmp0 (pc := 1871) C dL_law_1871 (by rw [show ds' 399 (0 : Int).toNat = v' from ho h0]) ?_
  exact zP_if_eq (pc := 1872) (tgt := 1877) C dL_law_1872 rfl (x := 0) (zRk rfl) (A := some ()) (B := (none : Option Unit)) (r := ()) rfl (fun _ _ => fin) (fun h _ => absurd rfl h)
theorem lawc_36 {V : zW} {X : zX} {b N : Nat} {xs : Nat → Int32} (hT : zo11 V) (hM : zo12 V) (hO : zsh V 399 = some (4, 1, zk0)) (C : zOk V X cL_law RL 9 room_1 ret) (LX : zLX V X b N xs) (hN : N < 3073) {i : Int} (hi : 0 ≤ i ∧ i + 6 ≤ (N : Int)) {k n : Nat} (hk : k + 1 ≤ 601024 ∧ n + 6 ≤ 7293034) {d : zD} (hg : GR d d) (next : ∀ d', GR d' d' → zP V X 9 (k + 1) (n + 6) 2100 [some (.ref b), some (.ref (zad V 0)), some (.ref (zad V 400)), some (.ref (zad V 399)), some (.int (zI i)), none, none, none, none] [] d') : zP V X 9 k n 1880 [some (.ref b), some (.ref (zad V 0)), some (.ref (zad V 400)), some (.ref (zad V 399)), some (.int (zI i)), none, none, none, none] [] d := by
  have hkn : k ≤ room_1.cells ∧ n ≤ room_1.slots := ⟨by show k ≤ 601024; omega, by show n ≤ 7293034; omega⟩
  have hkn1 : k + 1 ≤ room_1.cells ∧ n + 6 ≤ room_1.slots := ⟨by show k + 1 ≤ 601024; omega, by show n + 6 ≤ 7293034; omega⟩
  refine zP_R fun hR => ?_
  obtain ⟨v, dc, dz, kv, v', ds', h1, hv, h2, hg', ht, ho⟩ := GO_runT (G_set ((xs (i + 1).toNat).toInt) ((xs (i + 2).toNat).toInt)) hg hR
  refine zP_aload_n (pc := 1880) C (x := zad V 0) dL_law_1880 rfl rfl ?_
  refine zP_arg (pc := 1881) (i := i) (z := 1) C LX dL_law_1881 dL_law_1882 dL_law_1884 dL_law_1885 dL_law_1886 rfl rfl hN ⟨by omega, by omega⟩ ?_
  refine zP_arg (pc := 1887) (i := i) (z := 2) C LX dL_law_1887 dL_law_1888 dL_law_1890 dL_law_1891 dL_law_1892 rfl rfl hN ⟨by omega, by omega⟩ ?_
  refine zP_aload_n (pc := 1893) C (x := zad V 399) dL_law_1893 rfl rfl ?_
  refine zP_callTL (pc := 1894) (As := [.ref (zad V 0), .int (zI (xs (i + 1).toNat).toInt), .int (zI (xs (i + 2).toNat).toInt), .ref (zad V 399)]) (st := []) C LX mtL_234 dL_law_1894 (tL_set hT hO (zR_of _) (zR_of _) h1 hv) ⟨Nat.le_of_ble_eq_true rfl, Nat.le_of_ble_eq_true rfl⟩ rfl (Nat.le_of_ble_eq_true rfl) hkn1 fun hkv => ?_
  show zP V X 9 (k + 1) (n + 6) 1897 _ [.int (zI kv)] dz
  refine zP_istore (pc := 1897) C (L' := [some (.ref b), some (.ref (zad V 0)), some (.ref (zad V 400)), some (.ref (zad V 399)), some (.int (zI i)), some (.int (zI kv)), none, none, none]) dL_law_1897 (Nat.le_of_ble_eq_true rfl) rfl rfl ?_
  refine zP_aload_n (pc := 1899) C (x := zad V 400) dL_law_1899 rfl rfl ?_
  refine zP_arg (pc := 1900) (i := i) (z := 1) C LX dL_law_1900 dL_law_1901 dL_law_1903 dL_law_1904 dL_law_1905 rfl rfl hN ⟨by omega, by omega⟩ ?_
  refine zP_arg (pc := 1906) (i := i) (z := 2) C LX dL_law_1906 dL_law_1907 dL_law_1909 dL_law_1910 dL_law_1911 rfl rfl hN ⟨by omega, by omega⟩ ?_
  refine zP_callV (pc := 1912) (As := [.int (zI (xs (i + 1).toNat).toInt), .int (zI (xs (i + 2).toNat).toInt)]) (st := []) C mvL_236 dL_law_1912 (s_X12 hM) rfl (t_X12_set hM (zR_of _) (zR_of _) h2) ⟨Nat.le_of_ble_eq_true rfl, Nat.le_of_ble_eq_true rfl⟩ rfl (Nat.le_of_ble_eq_true rfl) hkn1 fun hv2 => ?_
  show zP V X 9 (k + 1) (n + 6) 1915 _ [.int (zI v')] ds'
  refine zP_istore (pc := 1915) C (L' := [some (.ref b), some (.ref (zad V 0)), some (.ref (zad V 400)), some (.ref (zad V 399)), some (.int (zI i)), some (.int (zI kv)), some (.int (zI v')), none, none]) dL_law_1915 (Nat.le_of_ble_eq_true rfl) rfl rfl ?_
  refine zP_aload_n (pc := 1917) C (x := zad V 400) dL_law_1917 rfl rfl ?_
  refine zP_callV (pc := 1918) (As := []) (st := []) C mvL_132 dL_law_1918 (s_X12 hM) rfl (t_X12_thrown hM e_thrown) ⟨Nat.le_of_ble_eq_true rfl, Nat.le_of_ble_eq_true rfl⟩ rfl (Nat.le_of_ble_eq_true rfl) hkn1 fun _ => ?_
  show zP V X 9 (k + 1) (n + 6) 1921 _ [.int (zI (ds' 400 0))] ds'
  rw [ht]
  refine zP_iload (pc := 1921) C (x := zI kv) dL_law_1921 rfl ?_
  refine zP_icmp_eq (β := Unit) (r := ()) (A := some ()) (B := some ()) (pc := 1923) (tgt := 1928) (x := kv) (y := kv) C dL_law_1923 rfl hkv hkv (by split <;> rfl) (fun _ _ => ?_) (fun h _ => absurd rfl h)
  refine zP_iload (pc := 1928) C (x := zI kv) dL_law_1928 rfl ?_
  have fin : zP V X 9 (k + 1) (n + 6) 1945 [some (.ref b), some (.ref (zad V 0)), some (.ref (zad V 400)), some (.ref (zad V 399)), some (.int (zI i)), some (.int (zI kv)), some (.int (zI v')), none, none] [] ds' := by
    refine zP_goto (pc := 1945) (tgt := 2100) C dL_law_1945 rfl ?_
    exact zP_mask [true, true, true, true, true, false, false, false, false] (next _ hg')
  refine zP_if_ne (β := Unit) (r := ()) (A := some ()) (B := some ()) (pc := 1930) (tgt := 1945) C dL_law_1930 rfl hkv (by split <;> rfl) (fun _ _ => fin) (fun h0 _ => ?_)
  refine zP_aload_n (pc := 1933) C (x := zad V 399) dL_law_1933 rfl rfl ?_
  refine zP_iconst (pc := 1934) C dL_law_1934 ?_
  refine zP_lald (pc := 1935) (a := 399) (i := 0) C dL_law_1935 hO (zRk rfl) ⟨by decide, by decide⟩ ?_
  refine zP_iload (pc := 1936) C (x := zI v') dL_law_1936 rfl ?_
  refine zP_i2l (pc := 1938) C dL_law_1938 ?_
  refine zP_lcmp0 (pc := 1939) C dL_law_1939 (by rw [show ds' 399 (0 : Int).toNat = v' from ho h0]) ?_
  exact zP_if_eq (pc := 1940) (tgt := 1945) C dL_law_1940 rfl (x := 0) (zRk rfl) (A := some ()) (B := (none : Option Unit)) (r := ()) rfl (fun _ _ => fin) (fun h _ => absurd rfl h)
theorem lawc_37 {V : zW} {X : zX} {b N : Nat} {xs : Nat → Int32} (hT : zo11 V) (hM : zo12 V) (hO : zsh V 399 = some (4, 1, zk0)) (C : zOk V X cL_law RL 9 room_1 ret) (LX : zLX V X b N xs) (hN : N < 3073) {i : Int} (hi : 0 ≤ i ∧ i + 6 ≤ (N : Int)) {k n : Nat} (hk : k + 1 ≤ 601024 ∧ n + 6 ≤ 7293034) {d : zD} (hg : GR d d) (next : ∀ d', GR d' d' → zP V X 9 (k + 1) (n + 6) 2100 [some (.ref b), some (.ref (zad V 0)), some (.ref (zad V 400)), some (.ref (zad V 399)), some (.int (zI i)), none, none, none, none] [] d') : zP V X 9 k n 1948 [some (.ref b), some (.ref (zad V 0)), some (.ref (zad V 400)), some (.ref (zad V 399)), some (.int (zI i)), none, none, none, none] [] d := by
  have hkn : k ≤ room_1.cells ∧ n ≤ room_1.slots := ⟨by show k ≤ 601024; omega, by show n ≤ 7293034; omega⟩
  have hkn1 : k + 1 ≤ room_1.cells ∧ n + 6 ≤ room_1.slots := ⟨by show k + 1 ≤ 601024; omega, by show n + 6 ≤ 7293034; omega⟩
  refine zP_R fun hR => ?_
  obtain ⟨v, dc, dz, kv, v', ds', h1, hv, h2, hg', ht, ho⟩ := GO_runT (G_undo) hg hR
  refine zP_aload_n (pc := 1948) C (x := zad V 0) dL_law_1948 rfl rfl ?_
  refine zP_aload_n (pc := 1949) C (x := zad V 399) dL_law_1949 rfl rfl ?_
  refine zP_callTL (pc := 1950) (As := [.ref (zad V 0), .ref (zad V 399)]) (st := []) C LX mtL_237 dL_law_1950 (tL_undo hT hO h1 hv) ⟨Nat.le_of_ble_eq_true rfl, Nat.le_of_ble_eq_true rfl⟩ rfl (Nat.le_of_ble_eq_true rfl) hkn1 fun hkv => ?_
  show zP V X 9 (k + 1) (n + 6) 1953 _ [.int (zI kv)] dz
  refine zP_istore (pc := 1953) C (L' := [some (.ref b), some (.ref (zad V 0)), some (.ref (zad V 400)), some (.ref (zad V 399)), some (.int (zI i)), some (.int (zI kv)), none, none, none]) dL_law_1953 (Nat.le_of_ble_eq_true rfl) rfl rfl ?_
  refine zP_aload_n (pc := 1955) C (x := zad V 400) dL_law_1955 rfl rfl ?_
  refine zP_callV (pc := 1956) (As := []) (st := []) C mvL_240 dL_law_1956 (s_X12 hM) rfl (t_X12_undo hM h2) ⟨Nat.le_of_ble_eq_true rfl, Nat.le_of_ble_eq_true rfl⟩ rfl (Nat.le_of_ble_eq_true rfl) hkn1 fun hv2 => ?_
  show zP V X 9 (k + 1) (n + 6) 1959 _ [.int (zI v')] ds'
  refine zP_istore (pc := 1959) C (L' := [some (.ref b), some (.ref (zad V 0)), some (.ref (zad V 400)), some (.ref (zad V 399)), some (.int (zI i)), some (.int (zI kv)), some (.int (zI v')), none, none]) dL_law_1959 (Nat.le_of_ble_eq_true rfl) rfl rfl ?_
  refine zP_aload_n (pc := 1961) C (x := zad V 400) dL_law_1961 rfl rfl ?_
  refine zP_callV (pc := 1962) (As := []) (st := []) C mvL_132 dL_law_1962 (s_X12 hM) rfl (t_X12_thrown hM e_thrown) ⟨Nat.le_of_ble_eq_true rfl, Nat.le_of_ble_eq_true rfl⟩ rfl (Nat.le_of_ble_eq_true rfl) hkn1 fun _ => ?_
  show zP V X 9 (k + 1) (n + 6) 1965 _ [.int (zI (ds' 400 0))] ds'
  rw [ht]
  refine zP_iload (pc := 1965) C (x := zI kv) dL_law_1965 rfl ?_
  refine zP_icmp_eq (β := Unit) (r := ()) (A := some ()) (B := some ()) (pc := 1967) (tgt := 1972) (x := kv) (y := kv) C dL_law_1967 rfl hkv hkv (by split <;> rfl) (fun _ _ => ?_) (fun h _ => absurd rfl h)
  refine zP_iload (pc := 1972) C (x := zI kv) dL_law_1972 rfl ?_
  have fin : zP V X 9 (k + 1) (n + 6) 1989 [some (.ref b), some (.ref (zad V 0)), some (.ref (zad V 400)), some (.ref (zad V 399)), some (.int (zI i)), some (.int (zI kv)), some (.int (zI v')), none, none] [] ds' := by
    refine zP_goto (pc := 1989) (tgt := 2100) C dL_law_1989 rfl ?_
    exact zP_mask [true, true, true, true, true, false, false, false, false] (next _ hg')
  refine zP_if_ne (β := Unit) (r := ()) (A := some ()) (B := some ()) (pc := 1974) (tgt := 1989) C dL_law_1974 rfl hkv (by split <;> rfl) (fun _ _ => fin) (fun h0 _ => ?_)
  refine zP_aload_n (pc := 1977) C (x := zad V 399) dL_law_1977 rfl rfl ?_
  refine zP_iconst (pc := 1978) C dL_law_1978 ?_
  refine zP_lald (pc := 1979) (a := 399) (i := 0) C dL_law_1979 hO (zRk rfl) ⟨by decide, by decide⟩ ?_
  refine zP_iload (pc := 1980) C (x := zI v') dL_law_1980 rfl ?_
  refine zP_i2l (pc := 1982) C dL_law_1982 ?_
  refine zP_lcmp0 (pc := 1983) C dL_law_1983 (by rw [show ds' 399 (0 : Int).toNat = v' from ho h0]) ?_
  exact zP_if_eq (pc := 1984) (tgt := 1989) C dL_law_1984 rfl (x := 0) (zRk rfl) (A := some ()) (B := (none : Option Unit)) (r := ()) rfl (fun _ _ => fin) (fun h _ => absurd rfl h)
theorem lawc_38 {V : zW} {X : zX} {b N : Nat} {xs : Nat → Int32} (hT : zo11 V) (hM : zo12 V) (hO : zsh V 399 = some (4, 1, zk0)) (C : zOk V X cL_law RL 9 room_1 ret) (LX : zLX V X b N xs) (hN : N < 3073) {i : Int} (hi : 0 ≤ i ∧ i + 6 ≤ (N : Int)) {k n : Nat} (hk : k + 1 ≤ 601024 ∧ n + 6 ≤ 7293034) {d : zD} (hg : GR d d) (next : ∀ d', GR d' d' → zP V X 9 (k + 1) (n + 6) 2100 [some (.ref b), some (.ref (zad V 0)), some (.ref (zad V 400)), some (.ref (zad V 399)), some (.int (zI i)), none, none, none, none] [] d') : zP V X 9 k n 1992 [some (.ref b), some (.ref (zad V 0)), some (.ref (zad V 400)), some (.ref (zad V 399)), some (.int (zI i)), none, none, none, none] [] d := by
  have hkn : k ≤ room_1.cells ∧ n ≤ room_1.slots := ⟨by show k ≤ 601024; omega, by show n ≤ 7293034; omega⟩
  have hkn1 : k + 1 ≤ room_1.cells ∧ n + 6 ≤ room_1.slots := ⟨by show k + 1 ≤ 601024; omega, by show n + 6 ≤ 7293034; omega⟩
  refine zP_R fun hR => ?_
  obtain ⟨v, dc, ds', h1, h2, hg', hv⟩ := GO_runA (G_printTerminals) hg hR
  refine zP_aload_n (pc := 1992) C (x := zad V 0) dL_law_1992 rfl rfl ?_
  refine zP_callV (pc := 1993) (As := []) (st := []) C mvL_241 dL_law_1993 (s_X11 hT) rfl (t_X11_printTerminals hT h1) ⟨Nat.le_of_ble_eq_true rfl, Nat.le_of_ble_eq_true rfl⟩ rfl (Nat.le_of_ble_eq_true rfl) hkn fun _ => ?_
  show zP V X 9 k n 1996 _ [.int (zI v)] dc
  refine zP_aload_n (pc := 1996) C (x := zad V 400) dL_law_1996 rfl rfl ?_
  refine zP_callV (pc := 1997) (As := []) (st := [.int (zI v)]) C mvL_244 dL_law_1997 (s_X12 hM) rfl (t_X12_printTerminals hM h2) ⟨Nat.le_of_ble_eq_true rfl, Nat.le_of_ble_eq_true rfl⟩ rfl (Nat.le_of_ble_eq_true rfl) hkn fun _ => ?_
  show zP V X 9 k n 2000 _ [.int (zI v), .int (zI v)] ds'
  refine zP_icmp_eq (β := Unit) (r := ()) (A := some ()) (B := some ()) (pc := 2000) (tgt := 2100) (x := v) (y := v) C dL_law_2000 rfl hv hv (by split <;> rfl) (fun _ _ => ?_) (fun h _ => absurd rfl h)
  exact zP_wide (Nat.le_add_right _ _) (Nat.le_add_right _ _) (next _ hg')
theorem lawc_39 {V : zW} {X : zX} {b N : Nat} {xs : Nat → Int32} (hT : zo11 V) (hM : zo12 V) (hO : zsh V 399 = some (4, 1, zk0)) (C : zOk V X cL_law RL 9 room_1 ret) (LX : zLX V X b N xs) (hN : N < 3073) {i : Int} (hi : 0 ≤ i ∧ i + 6 ≤ (N : Int)) {k n : Nat} (hk : k + 1 ≤ 601024 ∧ n + 6 ≤ 7293034) {d : zD} (hg : GR d d) (next : ∀ d', GR d' d' → zP V X 9 (k + 1) (n + 6) 2100 [some (.ref b), some (.ref (zad V 0)), some (.ref (zad V 400)), some (.ref (zad V 399)), some (.int (zI i)), none, none, none, none] [] d') : zP V X 9 k n 2005 [some (.ref b), some (.ref (zad V 0)), some (.ref (zad V 400)), some (.ref (zad V 399)), some (.int (zI i)), none, none, none, none] [] d := by
  have hkn : k ≤ room_1.cells ∧ n ≤ room_1.slots := ⟨by show k ≤ 601024; omega, by show n ≤ 7293034; omega⟩
  have hkn1 : k + 1 ≤ room_1.cells ∧ n + 6 ≤ room_1.slots := ⟨by show k + 1 ≤ 601024; omega, by show n + 6 ≤ 7293034; omega⟩
  refine zP_R fun hR => ?_
  obtain ⟨v, dc, ds', h1, h2, hg', hv⟩ := GO_runA (G_printList) hg hR
  refine zP_aload_n (pc := 2005) C (x := zad V 0) dL_law_2005 rfl rfl ?_
  refine zP_callV (pc := 2006) (As := []) (st := []) C mvL_245 dL_law_2006 (s_X11 hT) rfl (t_X11_printList hT h1) ⟨Nat.le_of_ble_eq_true rfl, Nat.le_of_ble_eq_true rfl⟩ rfl (Nat.le_of_ble_eq_true rfl) hkn fun _ => ?_
  show zP V X 9 k n 2009 _ [.int (zI v)] dc
  refine zP_aload_n (pc := 2009) C (x := zad V 400) dL_law_2009 rfl rfl ?_
  refine zP_callV (pc := 2010) (As := []) (st := [.int (zI v)]) C mvL_248 dL_law_2010 (s_X12 hM) rfl (t_X12_printList hM h2) ⟨Nat.le_of_ble_eq_true rfl, Nat.le_of_ble_eq_true rfl⟩ rfl (Nat.le_of_ble_eq_true rfl) hkn fun _ => ?_
  show zP V X 9 k n 2013 _ [.int (zI v), .int (zI v)] ds'
  refine zP_icmp_eq (β := Unit) (r := ()) (A := some ()) (B := some ()) (pc := 2013) (tgt := 2100) (x := v) (y := v) C dL_law_2013 rfl hv hv (by split <;> rfl) (fun _ _ => ?_) (fun h _ => absurd rfl h)
  exact zP_wide (Nat.le_add_right _ _) (Nat.le_add_right _ _) (next _ hg')
theorem lawc_40 {V : zW} {X : zX} {b N : Nat} {xs : Nat → Int32} (hT : zo11 V) (hM : zo12 V) (hO : zsh V 399 = some (4, 1, zk0)) (C : zOk V X cL_law RL 9 room_1 ret) (LX : zLX V X b N xs) (hN : N < 3073) {i : Int} (hi : 0 ≤ i ∧ i + 6 ≤ (N : Int)) {k n : Nat} (hk : k + 1 ≤ 601024 ∧ n + 6 ≤ 7293034) {d : zD} (hg : GR d d) (next : ∀ d', GR d' d' → zP V X 9 (k + 1) (n + 6) 2100 [some (.ref b), some (.ref (zad V 0)), some (.ref (zad V 400)), some (.ref (zad V 399)), some (.int (zI i)), none, none, none, none] [] d') : zP V X 9 k n 2018 [some (.ref b), some (.ref (zad V 0)), some (.ref (zad V 400)), some (.ref (zad V 399)), some (.int (zI i)), none, none, none, none] [] d := by
  have hkn : k ≤ room_1.cells ∧ n ≤ room_1.slots := ⟨by show k ≤ 601024; omega, by show n ≤ 7293034; omega⟩
  have hkn1 : k + 1 ≤ room_1.cells ∧ n + 6 ≤ room_1.slots := ⟨by show k + 1 ≤ 601024; omega, by show n + 6 ≤ 7293034; omega⟩
  refine zP_R fun hR => ?_
  obtain ⟨v, dc, ds', h1, h2, hg', hv⟩ := GO_runA (G_outputByte ((xs (i + 1).toNat).toInt)) hg hR
  refine zP_aload_n (pc := 2018) C (x := zad V 0) dL_law_2018 rfl rfl ?_
  refine zP_arg (pc := 2019) (i := i) (z := 1) C LX dL_law_2019 dL_law_2020 dL_law_2022 dL_law_2023 dL_law_2024 rfl rfl hN ⟨by omega, by omega⟩ ?_
  refine zP_callV (pc := 2025) (As := [.int (zI (xs (i + 1).toNat).toInt)]) (st := []) C mvL_249 dL_law_2025 (s_X11 hT) rfl (t_X11_outputByte hT (zR_of _) h1) ⟨Nat.le_of_ble_eq_true rfl, Nat.le_of_ble_eq_true rfl⟩ rfl (Nat.le_of_ble_eq_true rfl) hkn fun _ => ?_
  show zP V X 9 k n 2028 _ [.int (zI v)] dc
  refine zP_aload_n (pc := 2028) C (x := zad V 400) dL_law_2028 rfl rfl ?_
  refine zP_arg (pc := 2029) (i := i) (z := 1) C LX dL_law_2029 dL_law_2030 dL_law_2032 dL_law_2033 dL_law_2034 rfl rfl hN ⟨by omega, by omega⟩ ?_
  refine zP_callV (pc := 2035) (As := [.int (zI (xs (i + 1).toNat).toInt)]) (st := [.int (zI v)]) C mvL_252 dL_law_2035 (s_X12 hM) rfl (t_X12_outputByte hM (zR_of _) h2) ⟨Nat.le_of_ble_eq_true rfl, Nat.le_of_ble_eq_true rfl⟩ rfl (Nat.le_of_ble_eq_true rfl) hkn fun _ => ?_
  show zP V X 9 k n 2038 _ [.int (zI v), .int (zI v)] ds'
  refine zP_icmp_eq (β := Unit) (r := ()) (A := some ()) (B := some ()) (pc := 2038) (tgt := 2100) (x := v) (y := v) C dL_law_2038 rfl hv hv (by split <;> rfl) (fun _ _ => ?_) (fun h _ => absurd rfl h)
  exact zP_wide (Nat.le_add_right _ _) (Nat.le_add_right _ _) (next _ hg')
theorem lawc_41 {V : zW} {X : zX} {b N : Nat} {xs : Nat → Int32} (hT : zo11 V) (hM : zo12 V) (hO : zsh V 399 = some (4, 1, zk0)) (C : zOk V X cL_law RL 9 room_1 ret) (LX : zLX V X b N xs) (hN : N < 3073) {i : Int} (hi : 0 ≤ i ∧ i + 6 ≤ (N : Int)) {k n : Nat} (hk : k + 1 ≤ 601024 ∧ n + 6 ≤ 7293034) {d : zD} (hg : GR d d) (next : ∀ d', GR d' d' → zP V X 9 (k + 1) (n + 6) 2100 [some (.ref b), some (.ref (zad V 0)), some (.ref (zad V 400)), some (.ref (zad V 399)), some (.int (zI i)), none, none, none, none] [] d') : zP V X 9 k n 2043 [some (.ref b), some (.ref (zad V 0)), some (.ref (zad V 400)), some (.ref (zad V 399)), some (.int (zI i)), none, none, none, none] [] d := by
  have hkn : k ≤ room_1.cells ∧ n ≤ room_1.slots := ⟨by show k ≤ 601024; omega, by show n ≤ 7293034; omega⟩
  have hkn1 : k + 1 ≤ room_1.cells ∧ n + 6 ≤ room_1.slots := ⟨by show k + 1 ≤ 601024; omega, by show n + 6 ≤ 7293034; omega⟩
  refine zP_R fun hR => ?_
  obtain ⟨v, dc, ds', h1, h2, hg', hv⟩ := GO_runA (G_saveState) hg hR
  refine zP_aload_n (pc := 2043) C (x := zad V 0) dL_law_2043 rfl rfl ?_
  refine zP_callV (pc := 2044) (As := []) (st := []) C mvL_253 dL_law_2044 (s_X11 hT) rfl (t_X11_saveState hT h1) ⟨Nat.le_of_ble_eq_true rfl, Nat.le_of_ble_eq_true rfl⟩ rfl (Nat.le_of_ble_eq_true rfl) hkn fun _ => ?_
  show zP V X 9 k n 2047 _ [.int (zI v)] dc
  refine zP_aload_n (pc := 2047) C (x := zad V 400) dL_law_2047 rfl rfl ?_
  refine zP_callV (pc := 2048) (As := []) (st := [.int (zI v)]) C mvL_256 dL_law_2048 (s_X12 hM) rfl (t_X12_saveState hM h2) ⟨Nat.le_of_ble_eq_true rfl, Nat.le_of_ble_eq_true rfl⟩ rfl (Nat.le_of_ble_eq_true rfl) hkn fun _ => ?_
  show zP V X 9 k n 2051 _ [.int (zI v), .int (zI v)] ds'
  refine zP_icmp_eq (β := Unit) (r := ()) (A := some ()) (B := some ()) (pc := 2051) (tgt := 2100) (x := v) (y := v) C dL_law_2051 rfl hv hv (by split <;> rfl) (fun _ _ => ?_) (fun h _ => absurd rfl h)
  exact zP_wide (Nat.le_add_right _ _) (Nat.le_add_right _ _) (next _ hg')
theorem lawc_42 {V : zW} {X : zX} {b N : Nat} {xs : Nat → Int32} (hT : zo11 V) (hM : zo12 V) (hO : zsh V 399 = some (4, 1, zk0)) (C : zOk V X cL_law RL 9 room_1 ret) (LX : zLX V X b N xs) (hN : N < 3073) {i : Int} (hi : 0 ≤ i ∧ i + 6 ≤ (N : Int)) {k n : Nat} (hk : k + 1 ≤ 601024 ∧ n + 6 ≤ 7293034) {d : zD} (hg : GR d d) (next : ∀ d', GR d' d' → zP V X 9 (k + 1) (n + 6) 2100 [some (.ref b), some (.ref (zad V 0)), some (.ref (zad V 400)), some (.ref (zad V 399)), some (.int (zI i)), none, none, none, none] [] d') : zP V X 9 k n 2056 [some (.ref b), some (.ref (zad V 0)), some (.ref (zad V 400)), some (.ref (zad V 399)), some (.int (zI i)), none, none, none, none] [] d := by
  have hkn : k ≤ room_1.cells ∧ n ≤ room_1.slots := ⟨by show k ≤ 601024; omega, by show n ≤ 7293034; omega⟩
  have hkn1 : k + 1 ≤ room_1.cells ∧ n + 6 ≤ room_1.slots := ⟨by show k + 1 ≤ 601024; omega, by show n + 6 ≤ 7293034; omega⟩
  refine zP_R fun hR => ?_
  obtain ⟨v, dc, dz, kv, v', ds', h1, hv, h2, hg', ht, ho⟩ := GO_runT (G_restoreState) hg hR
  refine zP_aload_n (pc := 2056) C (x := zad V 0) dL_law_2056 rfl rfl ?_
  refine zP_aload_n (pc := 2057) C (x := zad V 399) dL_law_2057 rfl rfl ?_
  refine zP_callTL (pc := 2058) (As := [.ref (zad V 0), .ref (zad V 399)]) (st := []) C LX mtL_257 dL_law_2058 (tL_restoreState hT hO h1 hv) ⟨Nat.le_of_ble_eq_true rfl, Nat.le_of_ble_eq_true rfl⟩ rfl (Nat.le_of_ble_eq_true rfl) hkn1 fun hkv => ?_
  show zP V X 9 (k + 1) (n + 6) 2061 _ [.int (zI kv)] dz
  refine zP_istore (pc := 2061) C (L' := [some (.ref b), some (.ref (zad V 0)), some (.ref (zad V 400)), some (.ref (zad V 399)), some (.int (zI i)), some (.int (zI kv)), none, none, none]) dL_law_2061 (Nat.le_of_ble_eq_true rfl) rfl rfl ?_
  refine zP_aload_n (pc := 2063) C (x := zad V 400) dL_law_2063 rfl rfl ?_
  refine zP_callV (pc := 2064) (As := []) (st := []) C mvL_259 dL_law_2064 (s_X12 hM) rfl (t_X12_restoreState hM h2) ⟨Nat.le_of_ble_eq_true rfl, Nat.le_of_ble_eq_true rfl⟩ rfl (Nat.le_of_ble_eq_true rfl) hkn1 fun hv2 => ?_
  show zP V X 9 (k + 1) (n + 6) 2067 _ [.int (zI v')] ds'
  refine zP_istore (pc := 2067) C (L' := [some (.ref b), some (.ref (zad V 0)), some (.ref (zad V 400)), some (.ref (zad V 399)), some (.int (zI i)), some (.int (zI kv)), some (.int (zI v')), none, none]) dL_law_2067 (Nat.le_of_ble_eq_true rfl) rfl rfl ?_
  refine zP_aload_n (pc := 2069) C (x := zad V 400) dL_law_2069 rfl rfl ?_
  refine zP_callV (pc := 2070) (As := []) (st := []) C mvL_132 dL_law_2070 (s_X12 hM) rfl (t_X12_thrown hM e_thrown) ⟨Nat.le_of_ble_eq_true rfl, Nat.le_of_ble_eq_true rfl⟩ rfl (Nat.le_of_ble_eq_true rfl) hkn1 fun _ => ?_
  show zP V X 9 (k + 1) (n + 6) 2073 _ [.int (zI (ds' 400 0))] ds'
  rw [ht]
  refine zP_iload (pc := 2073) C (x := zI kv) dL_law_2073 rfl ?_
  refine zP_icmp_eq (β := Unit) (r := ()) (A := some ()) (B := some ()) (pc := 2075) (tgt := 2080) (x := kv) (y := kv) C dL_law_2075 rfl hkv hkv (by split <;> rfl) (fun _ _ => ?_) (fun h _ => absurd rfl h)
  refine zP_iload (pc := 2080) C (x := zI kv) dL_law_2080 rfl ?_
  have fin : zP V X 9 (k + 1) (n + 6) 2097 [some (.ref b), some (.ref (zad V 0)), some (.ref (zad V 400)), some (.ref (zad V 399)), some (.int (zI i)), some (.int (zI kv)), some (.int (zI v')), none, none] [] ds' := by
    refine zP_goto (pc := 2097) (tgt := 2100) C dL_law_2097 rfl ?_
    exact zP_mask [true, true, true, true, true, false, false, false, false] (next _ hg')
  refine zP_if_ne (β := Unit) (r := ()) (A := some ()) (B := some ()) (pc := 2082) (tgt := 2097) C dL_law_2082 rfl hkv (by split <;> rfl) (fun _ _ => fin) (fun h0 _ => ?_)
  refine zP_aload_n (pc := 2085) C (x := zad V 399) dL_law_2085 rfl rfl ?_
  refine zP_iconst (pc := 2086) C dL_law_2086 ?_
  refine zP_lald (pc := 2087) (a := 399) (i := 0) C dL_law_2087 hO (zRk rfl) ⟨by decide, by decide⟩ ?_
  refine zP_iload (pc := 2088) C (x := zI v') dL_law_2088 rfl ?_
  refine zP_i2l (pc := 2090) C dL_law_2090 ?_
  refine zP_lcmp0 (pc := 2091) C dL_law_2091 (by rw [show ds' 399 (0 : Int).toNat = v' from ho h0]) ?_
  exact zP_if_eq (pc := 2092) (tgt := 2097) C dL_law_2092 rfl (x := 0) (zRk rfl) (A := some ()) (B := (none : Option Unit)) (r := ()) rfl (fun _ _ => fin) (fun h _ => absurd rfl h)
