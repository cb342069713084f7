/-! ===== m_: the small machine does what the functions say, piece 8 (printed) ===== -/
-- F12_give: LendHouseModel.give(IIIZ)I
theorem eF12_give_0 : m_Fe mi12_94 0 (m_ap [(.aload_n 0, 1), (.iconst 0, 1)] ((.putfield 3, 3) :: (m_ap [(.aload_n 0, 1), (.aload_n 0, 1), (.iload_n 1, 1)] ((.invokevirtual 125, 3) :: ([(.ifCond .ne 10, 3)]))))) := m_Fe_of nd2494 0 8 rfl
theorem eF12_give_14 : m_Fe mi12_94 14 (m_ap [(.iload_n 3, 1)] ((.invokestatic 103, 3) :: ([(.ifCond .eq 7, 3)]))) := m_Fe_of nd2494 8 3 rfl
theorem eF12_give_25 : m_Fe mi12_94 25 (m_ap [(.iconst 0, 1)] ([])) := m_Fe_of nd2494 13 1 rfl
theorem eF12_give_21 : m_Fe mi12_94 21 (m_ap [(.iconst 1, 1)] ([(.goto 4, 3)])) := m_Fe_of nd2494 11 2 rfl
theorem eF12_give_26 : m_Fe mi12_94 26 (m_ap [(.iconst 1, 1)] ((.invokevirtual 82, 3) :: ([(.ifCond .ne 15, 3)]))) := m_Fe_of nd2494 14 3 rfl
theorem eF12_give_45 : m_Fe mi12_94 45 (m_ap [(.iconst 0, 1)] ([(.ireturn, 1)])) := m_Fe_of nd2494 23 2 rfl
theorem eF12_give_33 : m_Fe mi12_94 33 (m_ap [(.aload_n 0, 1), (.aload_n 0, 1)] ((.invokevirtual 118, 3) :: (m_ap [(.iconst 2, 1)] ((.invokevirtual 82, 3) :: ([(.ifCond .eq 5, 3)]))))) := m_Fe_of nd2494 17 6 rfl
theorem eF12_give_47 : m_Fe mi12_94 47 (m_ap [(.iload_n 2, 1), (.iconst 1, 1)] ([(.if_icmp .lt 59, 3)])) := m_Fe_of nd2494 25 3 rfl
theorem eF12_give_108 : m_Fe mi12_94 108 (m_ap [(.iconst (-1), 1)] ([(.ireturn, 1)])) := m_Fe_of nd2494 58 2 rfl
theorem eF12_give_52 : m_Fe mi12_94 52 (m_ap [(.aload_n 0, 1), (.iload_n 1, 1)] ((.invokevirtual 128, 3) :: ([(.ifCond .ne 51, 3)]))) := m_Fe_of nd2494 28 4 rfl
theorem eF12_give_60 : m_Fe mi12_94 60 (m_ap [(.aload_n 0, 1), (.iload_n 1, 1), (.iconst 3, 1)] ((.invokevirtual 115, 3) :: (m_ap [(.iconst 1, 1)] ([(.if_icmp .eq 41, 3)])))) := m_Fe_of nd2494 32 6 rfl
theorem eF12_give_70 : m_Fe mi12_94 70 (m_ap [(.aload_n 0, 1), (.iload_n 1, 1), (.bipush 13, 2)] ((.invokevirtual 115, 3) :: (m_ap [(.iload_n 2, 1)] ([(.if_icmp .lt 30, 3)])))) := m_Fe_of nd2494 38 6 rfl
theorem eF12_give_81 : m_Fe mi12_94 81 (m_ap [(.iload_n 3, 1)] ([(.ifCond .eq 26, 3)])) := m_Fe_of nd2494 44 2 rfl
theorem eF12_give_85 : m_Fe mi12_94 85 (m_ap [(.iload_n 3, 1), (.aload_n 0, 1), (.iload_n 1, 1), (.iconst 2, 1)] ((.invokevirtual 115, 3) :: ([(.if_icmp .eq 16, 3)]))) := m_Fe_of nd2494 46 6 rfl
theorem eF12_give_95 : m_Fe mi12_94 95 (m_ap [(.aload_n 0, 1)] ((.getfield 14, 3) :: (m_ap [(.sipush 807, 3)] ((.iaload, 1) :: (m_ap [(.bipush 100, 2)] ([(.if_icmp .ne 5, 3)])))))) := m_Fe_of nd2494 52 6 rfl
theorem eF12_give_110 : m_Fe mi12_94 110 (m_ap [(.aload_n 0, 1), (.aload_n 0, 1), (.iload_n 1, 1), (.iconst 2, 1)] ((.invokevirtual 115, 3) :: (m_ap [(.aload_n 0, 1), (.iload_n 1, 1), (.iconst 0, 1)] ((.invokevirtual 115, 3) :: (m_ap [(.iload_n 2, 1), (.iload_n 3, 1)] ((.invokevirtual 282, 3) :: (m_ap [(.aload_n 0, 1), (.iconst 3, 1)] ((.invokevirtual 295, 3) :: ([(.ifCond .lt 7, 3)]))))))))) := m_Fe_of nd2494 60 16 rfl
theorem eF12_give_140 : m_Fe mi12_94 140 (m_ap [(.iconst 0, 1)] ([])) := m_Fe_of nd2494 78 1 rfl
theorem eF12_give_136 : m_Fe mi12_94 136 (m_ap [(.iconst 1, 1)] ([(.goto 4, 3)])) := m_Fe_of nd2494 76 2 rfl
theorem eF12_give_141 : m_Fe mi12_94 141 (m_ap [(.istore 5, 2), (.iload 5, 2)] ([(.ifCond .ne 10, 3)])) := m_Fe_of nd2494 79 3 rfl
theorem eF12_give_148 : m_Fe mi12_94 148 (m_ap [(.iload 4, 2)] ([(.ifCond .ne 5, 3)])) := m_Fe_of nd2494 82 2 rfl
theorem eF12_give_153 : m_Fe mi12_94 153 (m_ap [(.iconst (-1), 1)] ([(.ireturn, 1)])) := m_Fe_of nd2494 84 2 rfl
theorem eF12_give_155 : m_Fe mi12_94 155 (m_ap [(.aload_n 0, 1)] ((.invokevirtual 313, 3) :: (m_ap [(.aload_n 0, 1), (.iload_n 1, 1), (.iconst 3, 1), (.iconst 5, 1), (.iload_n 2, 1)] ((.invokevirtual 338, 3) :: (m_ap [(.aload_n 0, 1), (.aload_n 0, 1), (.iload_n 1, 1), (.iconst 0, 1)] ((.invokevirtual 115, 3) :: (m_ap [(.iload_n 2, 1), (.iload_n 3, 1), (.iconst 3, 1)] ((.invokevirtual 122, 3) :: (m_ap [(.istore 6, 2), (.aload_n 0, 1)] ((.getfield 14, 3) :: (m_ap [(.iload 6, 2), (.bipush 8, 2)] ((.invokestatic 112, 3) :: (m_ap [(.iload_n 1, 1)] ((.iastore, 1) :: (m_ap [(.aload_n 0, 1)] ((.getfield 14, 3) :: (m_ap [(.iload 6, 2), (.bipush 9, 2)] ((.invokestatic 112, 3) :: (m_ap [(.iload 5, 2)] ([(.ifCond .eq 7, 3)])))))))))))))))))))) := m_Fe_of nd2494 86 32 rfl
theorem eF12_give_215 : m_Fe mi12_94 215 (m_ap [(.iconst 1, 1)] ([])) := m_Fe_of nd2494 120 1 rfl
theorem eF12_give_211 : m_Fe mi12_94 211 (m_ap [(.iconst 0, 1)] ([(.goto 4, 3)])) := m_Fe_of nd2494 118 2 rfl
theorem eF12_give_216 : m_Fe mi12_94 216 ((.iastore, 1) :: (m_ap [(.aload_n 0, 1)] ((.getfield 14, 3) :: (m_ap [(.sipush 157, 3), (.iload_n 3, 1), (.aload_n 0, 1), (.iload_n 1, 1), (.iconst 0, 1)] ((.invokevirtual 115, 3) :: ((.invokestatic 109, 3) :: (m_ap [(.dup2, 1)] ((.iaload, 1) :: (m_ap [(.iload_n 2, 1), (.iadd, 1)] ((.iastore, 1) :: (m_ap [(.iload 6, 2)] ([(.ireturn, 1)])))))))))))) := m_Fe_of nd2494 121 17 rfl
theorem SF12_give_216 {xs : Nat → Int32} {L : Nat} (x0 : Nat) (x1 : Int32) (x2 : Int32) (x3 : Int32) (x6 : Int32) (s0 : Int32) (s1 : Int32) (s2 : Nat) (hp : m_H) {r : m_O × m_H} {K : (Int32 × m_H) → Prop} (k0 : ∀ x, K x → r = (.inl (some (.int x.1)), x.2)) {t : Int32 × m_H} (h : F12_give_216 x0 x1 x2 x3 x6 s0 s1 s2 hp = some t) (hK : K t) : m_Rn xs L 9 2494 216 [(0, .ref x0), (1, .int x1), (2, .int x2), (3, .int x3), (6, .int x6)] [.int s0, .int s1, .ref s2] hp r := by
  unfold F12_give_216 at h
  refine g_in eF12_give_216 mx2494 ?_
  obtain ⟨h1, e2, h⟩ := m_bd h
  refine g_is e2 ?_
  refine g_ch [(0, .ref x0), (1, .int x1), (2, .int x2), (3, .int x3), (6, .int x6)] [.ref x0] (pc' := 218) rfl rfl rfl ?_
  obtain ⟨v3, e4, h⟩ := m_bd h
  refine g_gr q12_f14 e4 ?_
  refine g_ch [(0, .ref x0), (1, .int x1), (2, .int x2), (3, .int x3), (6, .int x6)] [.int 0, .int x1, .ref x0, .int x3, .int 157, .ref v3] (pc' := 228) rfl rfl rfl ?_
  obtain ⟨v6, e5, h⟩ := m_bd h
  refine g_call (v := some (.int v6)) (h := h1) (st' := [.int v6, .int x3, .int 157, .ref v3]) (D1 := 1) (as := [.ref x0, .int x1, .int 0]) (Or.inr (Or.inl rfl)) q12_m115 (m_cv (as := [.int 0, .int x1]) (rest := [.int x3, .int 157, .ref v3]) (Or.inl rfl) q12_m115 jv2426 (OF12_of e5) rfl rfl rfl rfl) (by decide) (SF12_of e5) rfl ?_
  obtain ⟨v8, e7, h⟩ := m_bd h
  refine g_call (v := some (.int v8)) (h := h1) (st' := [.int v8, .ref v3]) (D1 := 0) (as := [.int 157, .int x3, .int v6]) (Or.inl rfl) q12_m109 (m_cs (as := [.int v6, .int x3, .int 157]) (rest := [.ref v3]) q12_m109 jv2414 rfl rfl rfl rfl rfl) (by decide) (SF12_both e7) rfl ?_
  refine g_ch [(0, .ref x0), (1, .int x1), (2, .int x2), (3, .int x3), (6, .int x6)] [.int v8, .ref v3, .int v8, .ref v3] (pc' := 235) rfl rfl rfl ?_
  obtain ⟨v9, e10, h⟩ := m_bd h
  refine g_ia e10 ?_
  refine g_ch [(0, .ref x0), (1, .int x1), (2, .int x2), (3, .int x3), (6, .int x6)] [.int (v9 + x2), .int v8, .ref v3] (pc' := 238) rfl rfl rfl ?_
  obtain ⟨h11, e12, h⟩ := m_bd h
  refine g_is e12 ?_
  refine g_ch [(0, .ref x0), (1, .int x1), (2, .int x2), (3, .int x3), (6, .int x6)] [.int x6] (pc' := 241) rfl rfl rfl ?_
  cases h
  rw [k0 _ hK]
  exact g_iret rfl rfl
theorem SF12_give_155 {xs : Nat → Int32} {L : Nat} (x0 : Nat) (x1 : Int32) (x2 : Int32) (x3 : Int32) (x5 : Int32) (hp : m_H) {r : m_O × m_H} {K : (Int32 × m_H) → Prop} (k0 : ∀ x, K x → r = (.inl (some (.int x.1)), x.2)) {t : Int32 × m_H} (h : F12_give_155 x0 x1 x2 x3 x5 hp = some t) (hK : K t) : m_Rn xs L 9 2494 155 [(0, .ref x0), (1, .int x1), (2, .int x2), (3, .int x3), (5, .int x5)] [] hp r := by
  unfold F12_give_155 at h
  refine g_in eF12_give_155 mx2494 ?_
  refine g_ch [(0, .ref x0), (1, .int x1), (2, .int x2), (3, .int x3), (5, .int x5)] [.ref x0] (pc' := 156) rfl rfl rfl ?_
  obtain ⟨h2, e1, h⟩ := m_bd h
  refine g_call (v := none) (h := h2) (st' := []) (D1 := 0) (as := [.ref x0]) (Or.inr (Or.inl rfl)) q12_m313 (m_cv (as := []) (rest := []) (Or.inl rfl) q12_m313 jv2406 (OF12_deed e1) rfl rfl rfl rfl) (by decide) (SF12_deed e1) rfl ?_
  refine g_ch [(0, .ref x0), (1, .int x1), (2, .int x2), (3, .int x3), (5, .int x5)] [.int x2, .int 5, .int 3, .int x1, .ref x0] (pc' := 164) rfl rfl rfl ?_
  obtain ⟨h4, e3, h⟩ := m_bd h
  refine g_call (v := none) (h := h4) (st' := []) (D1 := 1) (as := [.ref x0, .int x1, .int 3, .int 5, .int x2]) (Or.inr (Or.inl rfl)) q12_m338 (m_cv (as := [.int x2, .int 5, .int 3, .int x1]) (rest := []) (Or.inl rfl) q12_m338 jv2429 (OF12_moves e3) rfl rfl rfl rfl) (by decide) (SF12_moves e3) rfl ?_
  refine g_ch [(0, .ref x0), (1, .int x1), (2, .int x2), (3, .int x3), (5, .int x5)] [.int 0, .int x1, .ref x0, .ref x0] (pc' := 171) rfl rfl rfl ?_
  obtain ⟨v6, e5, h⟩ := m_bd h
  refine g_call (v := some (.int v6)) (h := h4) (st' := [.int v6, .ref x0]) (D1 := 1) (as := [.ref x0, .int x1, .int 0]) (Or.inr (Or.inl rfl)) q12_m115 (m_cv (as := [.int 0, .int x1]) (rest := [.ref x0]) (Or.inl rfl) q12_m115 jv2426 (OF12_of e5) rfl rfl rfl rfl) (by decide) (SF12_of e5) rfl ?_
  refine g_ch [(0, .ref x0), (1, .int x1), (2, .int x2), (3, .int x3), (5, .int x5)] [.int 3, .int x3, .int x2, .int v6, .ref x0] (pc' := 177) rfl rfl rfl ?_
  obtain ⟨z8, e7, h⟩ := m_bd h
  refine g_call (v := some (.int z8.1)) (h := z8.2) (st' := [.int z8.1]) (D1 := 1) (as := [.ref x0, .int v6, .int x2, .int x3, .int 3]) (Or.inr (Or.inl rfl)) q12_m122 (m_cv (as := [.int 3, .int x3, .int x2, .int v6]) (rest := []) (Or.inl rfl) q12_m122 jv2428 (OF12_begins e7) rfl rfl rfl rfl) (by decide) (SF12_begins e7) rfl ?_
  refine g_ch [(6, .int z8.1), (0, .ref x0), (1, .int x1), (2, .int x2), (3, .int x3), (5, .int x5)] [.ref x0] (pc' := 183) rfl rfl rfl ?_
  obtain ⟨v9, e10, h⟩ := m_bd h
  refine g_gr q12_f14 e10 ?_
  refine g_ch [(6, .int z8.1), (0, .ref x0), (1, .int x1), (2, .int x2), (3, .int x3), (5, .int x5)] [.int 8, .int z8.1, .ref v9] (pc' := 190) rfl rfl rfl ?_
  obtain ⟨v12, e11, h⟩ := m_bd h
  refine g_call (v := some (.int v12)) (h := z8.2) (st' := [.int v12, .ref v9]) (D1 := 0) (as := [.int z8.1, .int 8]) (Or.inl rfl) q12_m112 (m_cs (as := [.int 8, .int z8.1]) (rest := [.ref v9]) q12_m112 jv2425 rfl rfl rfl rfl rfl) (by decide) (SF12_lotAt e11) rfl ?_
  refine g_ch [(6, .int z8.1), (0, .ref x0), (1, .int x1), (2, .int x2), (3, .int x3), (5, .int x5)] [.int x1, .int v12, .ref v9] (pc' := 194) rfl rfl rfl ?_
  obtain ⟨h13, e14, h⟩ := m_bd h
  refine g_is e14 ?_
  refine g_ch [(6, .int z8.1), (0, .ref x0), (1, .int x1), (2, .int x2), (3, .int x3), (5, .int x5)] [.ref x0] (pc' := 196) rfl rfl rfl ?_
  obtain ⟨v15, e16, h⟩ := m_bd h
  refine g_gr q12_f14 e16 ?_
  refine g_ch [(6, .int z8.1), (0, .ref x0), (1, .int x1), (2, .int x2), (3, .int x3), (5, .int x5)] [.int 9, .int z8.1, .ref v15] (pc' := 203) rfl rfl rfl ?_
  obtain ⟨v18, e17, h⟩ := m_bd h
  refine g_call (v := some (.int v18)) (h := h13) (st' := [.int v18, .ref v15]) (D1 := 0) (as := [.int z8.1, .int 9]) (Or.inl rfl) q12_m112 (m_cs (as := [.int 9, .int z8.1]) (rest := [.ref v15]) q12_m112 jv2425 rfl rfl rfl rfl rfl) (by decide) (SF12_lotAt e17) rfl ?_
  refine g_ch [(6, .int z8.1), (0, .ref x0), (1, .int x1), (2, .int x2), (3, .int x3), (5, .int x5)] [.int x5, .int v18, .ref v15] (pc' := 208) rfl rfl rfl ?_
  rcases m_ifd h with ⟨c19, h⟩ | ⟨c19, h⟩
  · refine g_ifc (t := 215) rfl (m_eqT c19) ?_
    refine g_in eF12_give_215 mx2494 ?_
    refine g_ch [(6, .int z8.1), (0, .ref x0), (1, .int x1), (2, .int x2), (3, .int x3), (5, .int x5)] [.int 1, .int v18, .ref v15] (pc' := 216) rfl rfl rfl ?_
    refine g_end ?_
    exact r_lv (SF12_give_216 x0 x1 x2 x3 z8.1 1 v18 v15 h13 (K := K) k0 h hK) rfl ⟨rfl, rfl, rfl, rfl, rfl, trivial⟩
  · refine g_ifcn (t := 215) rfl (m_eqF c19) ?_
    refine g_in eF12_give_211 mx2494 ?_
    refine g_ch [(6, .int z8.1), (0, .ref x0), (1, .int x1), (2, .int x2), (3, .int x3), (5, .int x5)] [.int 0, .int v18, .ref v15] (pc' := 212) rfl rfl rfl ?_
    refine g_goto (t := 216) rfl ?_
    exact r_lv (SF12_give_216 x0 x1 x2 x3 z8.1 0 v18 v15 h13 (K := K) k0 h hK) rfl ⟨rfl, rfl, rfl, rfl, rfl, trivial⟩
theorem SF12_give_141 {xs : Nat → Int32} {L : Nat} (x0 : Nat) (x1 : Int32) (x2 : Int32) (x3 : Int32) (x4 : Int32) (s0 : Int32) (hp : m_H) {r : m_O × m_H} {K : (Int32 × m_H) → Prop} (k0 : ∀ x, K x → r = (.inl (some (.int x.1)), x.2)) {t : Int32 × m_H} (h : F12_give_141 x0 x1 x2 x3 x4 s0 hp = some t) (hK : K t) : m_Rn xs L 9 2494 141 [(0, .ref x0), (1, .int x1), (2, .int x2), (3, .int x3), (4, .int x4)] [.int s0] hp r := by
  unfold F12_give_141 at h
  refine g_in eF12_give_141 mx2494 ?_
  refine g_ch [(5, .int s0), (0, .ref x0), (1, .int x1), (2, .int x2), (3, .int x3), (4, .int x4)] [.int s0] (pc' := 145) rfl rfl rfl ?_
  rcases m_ifd h with ⟨c1, h⟩ | ⟨c1, h⟩
  · refine g_ifcn (t := 155) rfl (m_neF c1) ?_
    refine g_in eF12_give_148 mx2494 ?_
    refine g_ch [(5, .int s0), (0, .ref x0), (1, .int x1), (2, .int x2), (3, .int x3), (4, .int x4)] [.int x4] (pc' := 150) rfl rfl rfl ?_
    rcases m_ifd h with ⟨c2, h⟩ | ⟨c2, h⟩
    · refine g_ifcn (t := 155) rfl (m_neF c2) ?_
      refine g_in eF12_give_153 mx2494 ?_
      refine g_ch [(5, .int s0), (0, .ref x0), (1, .int x1), (2, .int x2), (3, .int x3), (4, .int x4)] [.int (-1)] (pc' := 154) rfl rfl rfl ?_
      cases h
      rw [k0 _ hK]
      exact g_iret rfl rfl
    · refine g_ifc (t := 155) rfl (m_neT c2) ?_
      exact r_lv (SF12_give_155 x0 x1 x2 x3 s0 hp (K := K) k0 h hK) rfl ⟨rfl, rfl, rfl, rfl, rfl, trivial⟩
  · refine g_ifc (t := 155) rfl (m_neT c1) ?_
    exact r_lv (SF12_give_155 x0 x1 x2 x3 s0 hp (K := K) k0 h hK) rfl ⟨rfl, rfl, rfl, rfl, rfl, trivial⟩
theorem SF12_give_26 {xs : Nat → Int32} {L : Nat} (x0 : Nat) (x1 : Int32) (x2 : Int32) (x3 : Int32) (x4 : Int32) (s0 : Int32) (s1 : Nat) (hp : m_H) {r : m_O × m_H} {K : (Int32 × m_H) → Prop} (k0 : ∀ x, K x → r = (.inl (some (.int x.1)), x.2)) {t : Int32 × m_H} (h : F12_give_26 x0 x1 x2 x3 x4 s0 s1 hp = some t) (hK : K t) : m_Rn xs L 9 2494 26 [(0, .ref x0), (1, .int x1), (2, .int x2), (3, .int x3), (4, .int x4)] [.int s0, .ref s1] hp r := by
  unfold F12_give_26 at h
  refine g_in eF12_give_26 mx2494 ?_
  refine g_ch [(0, .ref x0), (1, .int x1), (2, .int x2), (3, .int x3), (4, .int x4)] [.int 1, .int s0, .ref s1] (pc' := 27) rfl rfl rfl ?_
  obtain ⟨z2, e1, h⟩ := m_bd h
  refine g_call (v := some (.int z2.1)) (h := z2.2) (st' := [.int z2.1]) (D1 := 0) (as := [.ref s1, .int s0, .int 1]) (Or.inr (Or.inl rfl)) q12_m82 (m_cv (as := [.int 1, .int s0]) (rest := []) (Or.inl rfl) q12_m82 jv2401 (OF12_throwsIf e1) rfl rfl rfl rfl) (by decide) (SF12_throwsIf e1) rfl ?_
  rcases m_ifd h with ⟨c3, h⟩ | ⟨c3, h⟩
  · refine g_ifcn (t := 45) rfl (m_neF c3) ?_
    refine g_in eF12_give_33 mx2494 ?_
    refine g_ch [(0, .ref x0), (1, .int x1), (2, .int x2), (3, .int x3), (4, .int x4)] [.ref x0, .ref x0] (pc' := 35) rfl rfl rfl ?_
    obtain ⟨v5, e4, h⟩ := m_bd h
    refine g_call (v := some (.int v5)) (h := z2.2) (st' := [.int v5, .ref x0]) (D1 := 0) (as := [.ref x0]) (Or.inr (Or.inl rfl)) q12_m118 (m_cv (as := []) (rest := [.ref x0]) (Or.inl rfl) q12_m118 jv2405 (OF12_isOver e4) rfl rfl rfl rfl) (by decide) (SF12_isOver e4) rfl ?_
    refine g_ch [(0, .ref x0), (1, .int x1), (2, .int x2), (3, .int x3), (4, .int x4)] [.int 2, .int v5, .ref x0] (pc' := 39) rfl rfl rfl ?_
    obtain ⟨z7, e6, h⟩ := m_bd h
    refine g_call (v := some (.int z7.1)) (h := z7.2) (st' := [.int z7.1]) (D1 := 0) (as := [.ref x0, .int v5, .int 2]) (Or.inr (Or.inl rfl)) q12_m82 (m_cv (as := [.int 2, .int v5]) (rest := []) (Or.inl rfl) q12_m82 jv2401 (OF12_throwsIf e6) rfl rfl rfl rfl) (by decide) (SF12_throwsIf e6) rfl ?_
    rcases m_ifd h with ⟨c8, h⟩ | ⟨c8, h⟩
    · refine g_ifc (t := 47) rfl (m_eqT c8) ?_
      refine g_in eF12_give_47 mx2494 ?_
      refine g_ch [(0, .ref x0), (1, .int x1), (2, .int x2), (3, .int x3), (4, .int x4)] [.int 1, .int x2] (pc' := 49) rfl rfl rfl ?_
      rcases m_ifd h with ⟨c9, h⟩ | ⟨c9, h⟩
      · refine g_if (t := 108) rfl (m_ltT c9) ?_
        refine g_in eF12_give_108 mx2494 ?_
        refine g_ch [(0, .ref x0), (1, .int x1), (2, .int x2), (3, .int x3), (4, .int x4)] [.int (-1)] (pc' := 109) rfl rfl rfl ?_
        cases h
        rw [k0 _ hK]
        exact g_iret rfl rfl
      · refine g_ifn (t := 108) rfl (m_ltF c9) ?_
        refine g_in eF12_give_52 mx2494 ?_
        refine g_ch [(0, .ref x0), (1, .int x1), (2, .int x2), (3, .int x3), (4, .int x4)] [.int x1, .ref x0] (pc' := 54) rfl rfl rfl ?_
        obtain ⟨v11, e10, h⟩ := m_bd h
        refine g_call (v := some (.int v11)) (h := z7.2) (st' := [.int v11]) (D1 := 2) (as := [.ref x0, .int x1]) (Or.inr (Or.inl rfl)) q12_m128 (m_cv (as := [.int x1]) (rest := []) (Or.inl rfl) q12_m128 jv2430 (OF12_isStock e10) rfl rfl rfl rfl) (by decide) (SF12_isStock e10) rfl ?_
        rcases m_ifd h with ⟨c12, h⟩ | ⟨c12, h⟩
        · refine g_ifcn (t := 108) rfl (m_neF c12) ?_
          refine g_in eF12_give_60 mx2494 ?_
          refine g_ch [(0, .ref x0), (1, .int x1), (2, .int x2), (3, .int x3), (4, .int x4)] [.int 3, .int x1, .ref x0] (pc' := 63) rfl rfl rfl ?_
          obtain ⟨v14, e13, h⟩ := m_bd h
          refine g_call (v := some (.int v14)) (h := z7.2) (st' := [.int v14]) (D1 := 1) (as := [.ref x0, .int x1, .int 3]) (Or.inr (Or.inl rfl)) q12_m115 (m_cv (as := [.int 3, .int x1]) (rest := []) (Or.inl rfl) q12_m115 jv2426 (OF12_of e13) rfl rfl rfl rfl) (by decide) (SF12_of e13) rfl ?_
          refine g_ch [(0, .ref x0), (1, .int x1), (2, .int x2), (3, .int x3), (4, .int x4)] [.int 1, .int v14] (pc' := 67) rfl rfl rfl ?_
          rcases m_ifd h with ⟨c15, h⟩ | ⟨c15, h⟩
          · refine g_if (t := 108) rfl (m_eqT c15) ?_
            refine g_in eF12_give_108 mx2494 ?_
            refine g_ch [(0, .ref x0), (1, .int x1), (2, .int x2), (3, .int x3), (4, .int x4)] [.int (-1)] (pc' := 109) rfl rfl rfl ?_
            cases h
            rw [k0 _ hK]
            exact g_iret rfl rfl
          · refine g_ifn (t := 108) rfl (m_eqF c15) ?_
            refine g_in eF12_give_70 mx2494 ?_
            refine g_ch [(0, .ref x0), (1, .int x1), (2, .int x2), (3, .int x3), (4, .int x4)] [.int 13, .int x1, .ref x0] (pc' := 74) rfl rfl rfl ?_
            obtain ⟨v17, e16, h⟩ := m_bd h
            refine g_call (v := some (.int v17)) (h := z7.2) (st' := [.int v17]) (D1 := 1) (as := [.ref x0, .int x1, .int 13]) (Or.inr (Or.inl rfl)) q12_m115 (m_cv (as := [.int 13, .int x1]) (rest := []) (Or.inl rfl) q12_m115 jv2426 (OF12_of e16) rfl rfl rfl rfl) (by decide) (SF12_of e16) rfl ?_
            refine g_ch [(0, .ref x0), (1, .int x1), (2, .int x2), (3, .int x3), (4, .int x4)] [.int x2, .int v17] (pc' := 78) rfl rfl rfl ?_
            rcases m_ifd h with ⟨c18, h⟩ | ⟨c18, h⟩
            · refine g_if (t := 108) rfl (m_ltT c18) ?_
              refine g_in eF12_give_108 mx2494 ?_
              refine g_ch [(0, .ref x0), (1, .int x1), (2, .int x2), (3, .int x3), (4, .int x4)] [.int (-1)] (pc' := 109) rfl rfl rfl ?_
              cases h
              rw [k0 _ hK]
              exact g_iret rfl rfl
            · refine g_ifn (t := 108) rfl (m_ltF c18) ?_
              refine g_in eF12_give_81 mx2494 ?_
              refine g_ch [(0, .ref x0), (1, .int x1), (2, .int x2), (3, .int x3), (4, .int x4)] [.int x3] (pc' := 82) rfl rfl rfl ?_
              rcases m_ifd h with ⟨c19, h⟩ | ⟨c19, h⟩
              · refine g_ifc (t := 108) rfl (m_eqT c19) ?_
                refine g_in eF12_give_108 mx2494 ?_
                refine g_ch [(0, .ref x0), (1, .int x1), (2, .int x2), (3, .int x3), (4, .int x4)] [.int (-1)] (pc' := 109) rfl rfl rfl ?_
                cases h
                rw [k0 _ hK]
                exact g_iret rfl rfl
              · refine g_ifcn (t := 108) rfl (m_eqF c19) ?_
                refine g_in eF12_give_85 mx2494 ?_
                refine g_ch [(0, .ref x0), (1, .int x1), (2, .int x2), (3, .int x3), (4, .int x4)] [.int 2, .int x1, .ref x0, .int x3] (pc' := 89) rfl rfl rfl ?_
                obtain ⟨v21, e20, h⟩ := m_bd h
                refine g_call (v := some (.int v21)) (h := z7.2) (st' := [.int v21, .int x3]) (D1 := 1) (as := [.ref x0, .int x1, .int 2]) (Or.inr (Or.inl rfl)) q12_m115 (m_cv (as := [.int 2, .int x1]) (rest := [.int x3]) (Or.inl rfl) q12_m115 jv2426 (OF12_of e20) rfl rfl rfl rfl) (by decide) (SF12_of e20) rfl ?_
                rcases m_ifd h with ⟨c22, h⟩ | ⟨c22, h⟩
                · refine g_if (t := 108) rfl (m_eqT c22) ?_
                  refine g_in eF12_give_108 mx2494 ?_
                  refine g_ch [(0, .ref x0), (1, .int x1), (2, .int x2), (3, .int x3), (4, .int x4)] [.int (-1)] (pc' := 109) rfl rfl rfl ?_
                  cases h
                  rw [k0 _ hK]
                  exact g_iret rfl rfl
                · refine g_ifn (t := 108) rfl (m_eqF c22) ?_
                  refine g_in eF12_give_95 mx2494 ?_
                  refine g_ch [(0, .ref x0), (1, .int x1), (2, .int x2), (3, .int x3), (4, .int x4)] [.ref x0] (pc' := 96) rfl rfl rfl ?_
                  obtain ⟨v23, e24, h⟩ := m_bd h
                  refine g_gr q12_f14 e24 ?_
                  refine g_ch [(0, .ref x0), (1, .int x1), (2, .int x2), (3, .int x3), (4, .int x4)] [.int 807, .ref v23] (pc' := 102) rfl rfl rfl ?_
                  obtain ⟨v25, e26, h⟩ := m_bd h
                  refine g_ia e26 ?_
                  refine g_ch [(0, .ref x0), (1, .int x1), (2, .int x2), (3, .int x3), (4, .int x4)] [.int 100, .int v25] (pc' := 105) rfl rfl rfl ?_
                  rcases m_ifd h with ⟨c27, h⟩ | ⟨c27, h⟩
                  · refine g_ifn (t := 110) rfl (m_neF c27) ?_
                    refine g_in eF12_give_108 mx2494 ?_
                    refine g_ch [(0, .ref x0), (1, .int x1), (2, .int x2), (3, .int x3), (4, .int x4)] [.int (-1)] (pc' := 109) rfl rfl rfl ?_
                    cases h
                    rw [k0 _ hK]
                    exact g_iret rfl rfl
                  · refine g_if (t := 110) rfl (m_neT c27) ?_
                    refine g_in eF12_give_110 mx2494 ?_
                    refine g_ch [(0, .ref x0), (1, .int x1), (2, .int x2), (3, .int x3), (4, .int x4)] [.int 2, .int x1, .ref x0, .ref x0] (pc' := 114) rfl rfl rfl ?_
                    obtain ⟨v29, e28, h⟩ := m_bd h
                    refine g_call (v := some (.int v29)) (h := z7.2) (st' := [.int v29, .ref x0]) (D1 := 1) (as := [.ref x0, .int x1, .int 2]) (Or.inr (Or.inl rfl)) q12_m115 (m_cv (as := [.int 2, .int x1]) (rest := [.ref x0]) (Or.inl rfl) q12_m115 jv2426 (OF12_of e28) rfl rfl rfl rfl) (by decide) (SF12_of e28) rfl ?_
                    refine g_ch [(0, .ref x0), (1, .int x1), (2, .int x2), (3, .int x3), (4, .int x4)] [.int 0, .int x1, .ref x0, .int v29, .ref x0] (pc' := 120) rfl rfl rfl ?_
                    obtain ⟨v31, e30, h⟩ := m_bd h
                    refine g_call (v := some (.int v31)) (h := z7.2) (st' := [.int v31, .int v29, .ref x0]) (D1 := 1) (as := [.ref x0, .int x1, .int 0]) (Or.inr (Or.inl rfl)) q12_m115 (m_cv (as := [.int 0, .int x1]) (rest := [.int v29, .ref x0]) (Or.inl rfl) q12_m115 jv2426 (OF12_of e30) rfl rfl rfl rfl) (by decide) (SF12_of e30) rfl ?_
                    refine g_ch [(0, .ref x0), (1, .int x1), (2, .int x2), (3, .int x3), (4, .int x4)] [.int x3, .int x2, .int v31, .int v29, .ref x0] (pc' := 125) rfl rfl rfl ?_
                    obtain ⟨h33, e32, h⟩ := m_bd h
                    refine g_call (v := none) (h := h33) (st' := []) (D1 := 2) (as := [.ref x0, .int v29, .int v31, .int x2, .int x3]) (Or.inr (Or.inl rfl)) q12_m282 (m_cv (as := [.int x3, .int x2, .int v31, .int v29]) (rest := []) (Or.inl rfl) q12_m282 jv2461 (OF12_looks e32) rfl rfl rfl rfl) (by decide) (SF12_looks e32) rfl ?_
                    refine g_ch [(0, .ref x0), (1, .int x1), (2, .int x2), (3, .int x3), (4, .int x4)] [.int 3, .ref x0] (pc' := 130) rfl rfl rfl ?_
                    obtain ⟨z35, e34, h⟩ := m_bd h
                    refine g_call (v := some (.int z35.1)) (h := z35.2) (st' := [.int z35.1]) (D1 := 8) (as := [.ref x0, .int 3]) (Or.inr (Or.inl rfl)) q12_m295 (m_cv (as := [.int 3]) (rest := []) (Or.inl rfl) q12_m295 jv2463 (OF12_firstOf e34) rfl rfl rfl rfl) (by decide) (SF12_firstOf e34) rfl ?_
                    rcases m_ifd h with ⟨c36, h⟩ | ⟨c36, h⟩
                    · refine g_ifc (t := 140) rfl (m_ltT c36) ?_
                      refine g_in eF12_give_140 mx2494 ?_
                      refine g_ch [(0, .ref x0), (1, .int x1), (2, .int x2), (3, .int x3), (4, .int x4)] [.int 0] (pc' := 141) rfl rfl rfl ?_
                      refine g_end ?_
                      exact r_lv (SF12_give_141 x0 x1 x2 x3 x4 0 z35.2 (K := K) k0 h hK) rfl ⟨rfl, rfl, rfl, rfl, rfl, trivial⟩
                    · refine g_ifcn (t := 140) rfl (m_ltF c36) ?_
                      refine g_in eF12_give_136 mx2494 ?_
                      refine g_ch [(0, .ref x0), (1, .int x1), (2, .int x2), (3, .int x3), (4, .int x4)] [.int 1] (pc' := 137) rfl rfl rfl ?_
                      refine g_goto (t := 141) rfl ?_
                      exact r_lv (SF12_give_141 x0 x1 x2 x3 x4 1 z35.2 (K := K) k0 h hK) rfl ⟨rfl, rfl, rfl, rfl, rfl, trivial⟩
        · refine g_ifc (t := 108) rfl (m_neT c12) ?_
          refine g_in eF12_give_108 mx2494 ?_
          refine g_ch [(0, .ref x0), (1, .int x1), (2, .int x2), (3, .int x3), (4, .int x4)] [.int (-1)] (pc' := 109) rfl rfl rfl ?_
          cases h
          rw [k0 _ hK]
          exact g_iret rfl rfl
    · refine g_ifcn (t := 47) rfl (m_eqF c8) ?_
      refine g_in eF12_give_45 mx2494 ?_
      refine g_ch [(0, .ref x0), (1, .int x1), (2, .int x2), (3, .int x3), (4, .int x4)] [.int 0] (pc' := 46) rfl rfl rfl ?_
      cases h
      rw [k0 _ hK]
      exact g_iret rfl rfl
  · refine g_ifc (t := 45) rfl (m_neT c3) ?_
    refine g_in eF12_give_45 mx2494 ?_
    refine g_ch [(0, .ref x0), (1, .int x1), (2, .int x2), (3, .int x3), (4, .int x4)] [.int 0] (pc' := 46) rfl rfl rfl ?_
    cases h
    rw [k0 _ hK]
    exact g_iret rfl rfl
theorem SF12_give_21 {xs : Nat → Int32} {L : Nat} (x0 : Nat) (x1 : Int32) (x2 : Int32) (x3 : Int32) (x4 : Int32) (s0 : Nat) (hp : m_H) {r : m_O × m_H} {K : (Int32 × m_H) → Prop} (k0 : ∀ x, K x → r = (.inl (some (.int x.1)), x.2)) {t : Int32 × m_H} (h : F12_give_21 x0 x1 x2 x3 x4 s0 hp = some t) (hK : K t) : m_Rn xs L 9 2494 21 [(0, .ref x0), (1, .int x1), (2, .int x2), (3, .int x3), (4, .int x4)] [.ref s0] hp r := by
  unfold F12_give_21 at h
  refine g_in eF12_give_21 mx2494 ?_
  refine g_ch [(0, .ref x0), (1, .int x1), (2, .int x2), (3, .int x3), (4, .int x4)] [.int 1, .ref s0] (pc' := 22) rfl rfl rfl ?_
  refine g_goto (t := 26) rfl ?_
  exact r_lv (SF12_give_26 x0 x1 x2 x3 x4 1 s0 hp (K := K) k0 h hK) rfl ⟨rfl, rfl, rfl, rfl, rfl, trivial⟩
theorem SF12_give_0 {xs : Nat → Int32} {L : Nat} (x0 : Nat) (x1 : Int32) (x2 : Int32) (x3 : Int32) (x4 : Int32) (hp : m_H) {r : m_O × m_H} {K : (Int32 × m_H) → Prop} (k0 : ∀ x, K x → r = (.inl (some (.int x.1)), x.2)) {t : Int32 × m_H} (h : F12_give_0 x0 x1 x2 x3 x4 hp = some t) (hK : K t) : m_Rn xs L 9 2494 0 [(0, .ref x0), (1, .int x1), (2, .int x2), (3, .int x3), (4, .int x4)] [] hp r := by
  unfold F12_give_0 at h
  refine g_in eF12_give_0 mx2494 ?_
  refine g_ch [(0, .ref x0), (1, .int x1), (2, .int x2), (3, .int x3), (4, .int x4)] [.int 0, .ref x0] (pc' := 2) rfl rfl rfl ?_
  obtain ⟨h1, e2, h⟩ := m_bd h
  refine g_pf q12_f3 e2 ?_
  refine g_ch [(0, .ref x0), (1, .int x1), (2, .int x2), (3, .int x3), (4, .int x4)] [.int x1, .ref x0, .ref x0] (pc' := 8) rfl rfl rfl ?_
  obtain ⟨v4, e3, h⟩ := m_bd h
  refine g_call (v := some (.int v4)) (h := h1) (st' := [.int v4, .ref x0]) (D1 := 1) (as := [.ref x0, .int x1]) (Or.inr (Or.inl rfl)) q12_m125 (m_cv (as := [.int x1]) (rest := [.ref x0]) (Or.inl rfl) q12_m125 jv2427 (OF12_noLot e3) rfl rfl rfl rfl) (by decide) (SF12_noLot e3) rfl ?_
  rcases m_ifd h with ⟨c5, h⟩ | ⟨c5, h⟩
  · refine g_ifcn (t := 21) rfl (m_neF c5) ?_
    refine g_in eF12_give_14 mx2494 ?_
    refine g_ch [(0, .ref x0), (1, .int x1), (2, .int x2), (3, .int x3), (4, .int x4)] [.int x3, .ref x0] (pc' := 15) rfl rfl rfl ?_
    obtain ⟨v7, e6, h⟩ := m_bd h
    refine g_call (v := some (.int v7)) (h := h1) (st' := [.int v7, .ref x0]) (D1 := 1) (as := [.int x3]) (Or.inl rfl) q12_m103 (m_cs (as := [.int x3]) (rest := [.ref x0]) q12_m103 jv2411 rfl rfl rfl rfl rfl) (by decide) (SF12_noLand e6) rfl ?_
    rcases m_ifd h with ⟨c8, h⟩ | ⟨c8, h⟩
    · refine g_ifc (t := 25) rfl (m_eqT c8) ?_
      refine g_in eF12_give_25 mx2494 ?_
      refine g_ch [(0, .ref x0), (1, .int x1), (2, .int x2), (3, .int x3), (4, .int x4)] [.int 0, .ref x0] (pc' := 26) rfl rfl rfl ?_
      refine g_end ?_
      exact r_lv (SF12_give_26 x0 x1 x2 x3 x4 0 x0 h1 (K := K) k0 h hK) rfl ⟨rfl, rfl, rfl, rfl, rfl, trivial⟩
    · refine g_ifcn (t := 25) rfl (m_eqF c8) ?_
      exact r_lv (SF12_give_21 x0 x1 x2 x3 x4 x0 h1 (K := K) k0 h hK) rfl ⟨rfl, rfl, rfl, rfl, rfl, trivial⟩
  · refine g_ifc (t := 21) rfl (m_neT c5) ?_
    exact r_lv (SF12_give_21 x0 x1 x2 x3 x4 x0 h1 (K := K) k0 h hK) rfl ⟨rfl, rfl, rfl, rfl, rfl, trivial⟩
theorem OF12_give {x0 : Nat} {x1 : Int32} {x2 : Int32} {x3 : Int32} {x4 : Int32} {hp : m_H} {x : Int32 × m_H} (h : F12_give x0 x1 x2 x3 x4 hp = some x) : m_isO hp 9 x0 = true := (m_gdd h).1
theorem SF12_give {xs : Nat → Int32} {L : Nat} {x0 : Nat} {x1 : Int32} {x2 : Int32} {x3 : Int32} {x4 : Int32} {hp : m_H} {x : Int32 × m_H} (h : F12_give x0 x1 x2 x3 x4 hp = some x) : m_Rn xs L 9 2494 0 (lv_args 0 [.ref x0, .int x1, .int x2, .int x3, .int x4]) [] hp (.inl (some (.int x.1)), x.2) :=
  r_lv (SF12_give_0 x0 x1 x2 x3 x4 hp (K := fun y => y = x) (fun y e => by rw [e]) (m_gdd h).2 rfl) rfl ⟨rfl, rfl, rfl, rfl, rfl, trivial⟩
-- F12_owedBy: LendHouseModel.owedBy(I)J
theorem eF12_owedBy_0 : m_Fe mi12_95 0 (m_ap [(.lconst 0, 1), (.lstore_n 2, 1), (.iconst 0, 1), (.istore 4, 2)] ([])) := m_Fe_of nd2495 0 4 rfl
theorem eF12_owedBy_5 : m_Fe mi12_95 5 (m_ap [(.iload 4, 2), (.aload_n 0, 1)] ((.getfield 14, 3) :: (m_ap [(.sipush 807, 3)] ((.iaload, 1) :: ([(.if_icmp .ge 72, 3)]))))) := m_Fe_of nd2495 4 6 rfl
theorem eF12_owedBy_87 : m_Fe mi12_95 87 (m_ap [(.lload_n 2, 1)] ([(.lreturn, 1)])) := m_Fe_of nd2495 49 2 rfl
theorem eF12_owedBy_18 : m_Fe mi12_95 18 (m_ap [(.aload_n 0, 1), (.iload 4, 2), (.iload_n 1, 1)] ((.invokevirtual 347, 3) :: ([(.ifCond .eq 56, 3)]))) := m_Fe_of nd2495 10 5 rfl
theorem eF12_owedBy_81 : m_Fe mi12_95 81 (m_ap [(.iinc 4 1, 3)] ([(.goto (-79), 3)])) := m_Fe_of nd2495 47 2 rfl
theorem eF12_owedBy_28 : m_Fe mi12_95 28 (m_ap [(.lload_n 2, 1), (.aload_n 0, 1), (.iload 4, 2), (.iconst 1, 1)] ((.invokevirtual 115, 3) :: (m_ap [(.aload_n 0, 1), (.iload 4, 2), (.bipush 17, 2)] ((.invokevirtual 115, 3) :: (m_ap [(.isub, 1), (.aload_n 0, 1), (.iload 4, 2), (.bipush 18, 2)] ((.invokevirtual 115, 3) :: (m_ap [(.isub, 1), (.i2l, 1), (.aload_n 0, 1), (.iload 4, 2), (.bipush 19, 2)] ((.invokevirtual 115, 3) :: (m_ap [(.i2l, 1), (.lmul, 1), (.aload_n 0, 1), (.iload 4, 2), (.bipush 20, 2)] ((.invokevirtual 115, 3) :: (m_ap [(.i2l, 1), (.lmul, 1), (.ldc2_w 369, 3)] ((.ldiv, 1) :: (m_ap [(.ladd, 1), (.lstore_n 2, 1)] ([])))))))))))))) := m_Fe_of nd2495 15 32 rfl
theorem SF12_owedBy_5b {xs : Nat → Int32} {L : Nat} (x0 : Nat) (x1 : Int32) (hp : m_H) (s : Int64 × Int32) {r : m_O × m_H} {K : ((Int64 × Int32) ⊕ Int64) → Prop} (k0 : ∀ x, K (.inr x) → r = (.inl (some (.long x)), hp)) (k1 : ∀ s, K (.inl s) → m_Rn xs L 3 2495 5 [(0, .ref x0), (1, .int x1), (2, .long s.1), (4, .int s.2)] [] hp r) {t : (Int64 × Int32) ⊕ Int64} (h : F12_owedBy_5b x0 x1 hp s = some t) (hK : K t) : m_Rn xs L 3 2495 5 [(0, .ref x0), (1, .int x1), (2, .long s.1), (4, .int s.2)] [] hp r := by
  unfold F12_owedBy_5b at h
  refine g_in eF12_owedBy_5 mx2495 ?_
  refine g_ch [(0, .ref x0), (1, .int x1), (2, .long s.1), (4, .int s.2)] [.ref x0, .int s.2] (pc' := 8) rfl rfl rfl ?_
  obtain ⟨v1, e2, h⟩ := m_bd h
  refine g_gr q12_f14 e2 ?_
  refine g_ch [(0, .ref x0), (1, .int x1), (2, .long s.1), (4, .int s.2)] [.int 807, .ref v1, .int s.2] (pc' := 14) rfl rfl rfl ?_
  obtain ⟨v3, e4, h⟩ := m_bd h
  refine g_ia e4 ?_
  rcases m_ifd h with ⟨c5, h⟩ | ⟨c5, h⟩
  · refine g_if (t := 87) rfl (m_geT c5) ?_
    refine g_in eF12_owedBy_87 mx2495 ?_
    refine g_ch [(0, .ref x0), (1, .int x1), (2, .long s.1), (4, .int s.2)] [.long s.1] (pc' := 88) rfl rfl rfl ?_
    cases h
    rw [k0 _ hK]
    exact g_lret rfl
  · refine g_ifn (t := 87) rfl (m_geF c5) ?_
    refine g_in eF12_owedBy_18 mx2495 ?_
    refine g_ch [(0, .ref x0), (1, .int x1), (2, .long s.1), (4, .int s.2)] [.int x1, .int s.2, .ref x0] (pc' := 22) rfl rfl rfl ?_
    obtain ⟨v7, e6, h⟩ := m_bd h
    refine g_call (v := some (.int v7)) (h := hp) (st' := [.int v7]) (D1 := 2) (as := [.ref x0, .int s.2, .int x1]) (Or.inr (Or.inl rfl)) q12_m347 (m_cv (as := [.int x1, .int s.2]) (rest := []) (Or.inl rfl) q12_m347 jv2431 (OF12_isFor e6) rfl rfl rfl rfl) (by decide) (SF12_isFor e6) rfl ?_
    rcases m_ifd h with ⟨c8, h⟩ | ⟨c8, h⟩
    · refine g_ifc (t := 81) rfl (m_eqT c8) ?_
      refine g_in eF12_owedBy_81 mx2495 ?_
      refine g_ch [(4, .int (s.2 + 1)), (0, .ref x0), (1, .int x1), (2, .long s.1)] [] (pc' := 84) rfl rfl rfl ?_
      refine g_goto (t := 5) rfl ?_
      cases h
      exact r_lv (k1 (s.1, (s.2 + 1)) hK) rfl ⟨rfl, rfl, rfl, rfl, trivial⟩
    · refine g_ifcn (t := 81) rfl (m_eqF c8) ?_
      refine g_in eF12_owedBy_28 mx2495 ?_
      refine g_ch [(0, .ref x0), (1, .int x1), (2, .long s.1), (4, .int s.2)] [.int 1, .int s.2, .ref x0, .long s.1] (pc' := 33) rfl rfl rfl ?_
      obtain ⟨v10, e9, h⟩ := m_bd h
      refine g_call (v := some (.int v10)) (h := hp) (st' := [.int v10, .long s.1]) (D1 := 1) (as := [.ref x0, .int s.2, .int 1]) (Or.inr (Or.inl rfl)) q12_m115 (m_cv (as := [.int 1, .int s.2]) (rest := [.long s.1]) (Or.inl rfl) q12_m115 jv2426 (OF12_of e9) rfl rfl rfl rfl) (by decide) (SF12_of e9) rfl ?_
      refine g_ch [(0, .ref x0), (1, .int x1), (2, .long s.1), (4, .int s.2)] [.int 17, .int s.2, .ref x0, .int v10, .long s.1] (pc' := 41) rfl rfl rfl ?_
      obtain ⟨v12, e11, h⟩ := m_bd h
      refine g_call (v := some (.int v12)) (h := hp) (st' := [.int v12, .int v10, .long s.1]) (D1 := 1) (as := [.ref x0, .int s.2, .int 17]) (Or.inr (Or.inl rfl)) q12_m115 (m_cv (as := [.int 17, .int s.2]) (rest := [.int v10, .long s.1]) (Or.inl rfl) q12_m115 jv2426 (OF12_of e11) rfl rfl rfl rfl) (by decide) (SF12_of e11) rfl ?_
      refine g_ch [(0, .ref x0), (1, .int x1), (2, .long s.1), (4, .int s.2)] [.int 18, .int s.2, .ref x0, .int (v10 - v12), .long s.1] (pc' := 50) rfl rfl rfl ?_
      obtain ⟨v14, e13, h⟩ := m_bd h
      refine g_call (v := some (.int v14)) (h := hp) (st' := [.int v14, .int (v10 - v12), .long s.1]) (D1 := 1) (as := [.ref x0, .int s.2, .int 18]) (Or.inr (Or.inl rfl)) q12_m115 (m_cv (as := [.int 18, .int s.2]) (rest := [.int (v10 - v12), .long s.1]) (Or.inl rfl) q12_m115 jv2426 (OF12_of e13) rfl rfl rfl rfl) (by decide) (SF12_of e13) rfl ?_
      refine g_ch [(0, .ref x0), (1, .int x1), (2, .long s.1), (4, .int s.2)] [.int 19, .int s.2, .ref x0, .long (m_i2l ((v10 - v12) - v14)), .long s.1] (pc' := 60) rfl rfl rfl ?_
      obtain ⟨v16, e15, h⟩ := m_bd h
      refine g_call (v := some (.int v16)) (h := hp) (st' := [.int v16, .long (m_i2l ((v10 - v12) - v14)), .long s.1]) (D1 := 1) (as := [.ref x0, .int s.2, .int 19]) (Or.inr (Or.inl rfl)) q12_m115 (m_cv (as := [.int 19, .int s.2]) (rest := [.long (m_i2l ((v10 - v12) - v14)), .long s.1]) (Or.inl rfl) q12_m115 jv2426 (OF12_of e15) rfl rfl rfl rfl) (by decide) (SF12_of e15) rfl ?_
      refine g_ch [(0, .ref x0), (1, .int x1), (2, .long s.1), (4, .int s.2)] [.int 20, .int s.2, .ref x0, .long ((m_i2l ((v10 - v12) - v14)) * (m_i2l v16)), .long s.1] (pc' := 70) rfl rfl rfl ?_
      obtain ⟨v18, e17, h⟩ := m_bd h
      refine g_call (v := some (.int v18)) (h := hp) (st' := [.int v18, .long ((m_i2l ((v10 - v12) - v14)) * (m_i2l v16)), .long s.1]) (D1 := 1) (as := [.ref x0, .int s.2, .int 20]) (Or.inr (Or.inl rfl)) q12_m115 (m_cv (as := [.int 20, .int s.2]) (rest := [.long ((m_i2l ((v10 - v12) - v14)) * (m_i2l v16)), .long s.1]) (Or.inl rfl) q12_m115 jv2426 (OF12_of e17) rfl rfl rfl rfl) (by decide) (SF12_of e17) rfl ?_
      refine g_ch [(0, .ref x0), (1, .int x1), (2, .long s.1), (4, .int s.2)] [.long 100, .long (((m_i2l ((v10 - v12) - v14)) * (m_i2l v16)) * (m_i2l v18)), .long s.1] (pc' := 78) rfl rfl rfl ?_
      obtain ⟨v19, e20, h⟩ := m_bd h
      refine g_dl e20 ?_
      refine g_ch [(2, .long (s.1 + v19)), (0, .ref x0), (1, .int x1), (4, .int s.2)] [] (pc' := 81) rfl rfl rfl ?_
      refine g_end ?_
      refine g_in eF12_owedBy_81 mx2495 ?_
      refine g_ch [(4, .int (s.2 + 1)), (2, .long (s.1 + v19)), (0, .ref x0), (1, .int x1)] [] (pc' := 84) rfl rfl rfl ?_
      refine g_goto (t := 5) rfl ?_
      cases h
      exact r_lv (k1 ((s.1 + v19), (s.2 + 1)) hK) rfl ⟨rfl, rfl, rfl, rfl, trivial⟩
theorem SF12_owedBy_5 {xs : Nat → Int32} {L : Nat} (x0 : Nat) (x1 : Int32) (x2 : Int64) (x4 : Int32) (hp : m_H) {r : m_O × m_H} {K : Int64 → Prop} (k0 : ∀ x, K x → r = (.inl (some (.long x)), hp)) {t : Int64} (h : F12_owedBy_5 x0 x1 x2 x4 hp = some t) (hK : K t) : m_Rn xs L 3 2495 5 [(0, .ref x0), (1, .int x1), (2, .long x2), (4, .int x4)] [] hp r :=
  m_wh_ok (P := fun s => m_Rn xs L 3 2495 5 [(0, .ref x0), (1, .int x1), (2, .long s.1), (4, .int s.2)] [] hp r) (Q := K) (fun s t hb hK => SF12_owedBy_5b x0 x1 hp s (K := m_KK (fun s => m_Rn xs L 3 2495 5 [(0, .ref x0), (1, .int x1), (2, .long s.1), (4, .int s.2)] [] hp r) K) k0 (fun _ q => q) hb hK) m_N _ _ h hK
theorem SF12_owedBy_0 {xs : Nat → Int32} {L : Nat} (x0 : Nat) (x1 : Int32) (hp : m_H) {r : m_O × m_H} {K : Int64 → Prop} (k0 : ∀ x, K x → r = (.inl (some (.long x)), hp)) {t : Int64} (h : F12_owedBy_0 x0 x1 hp = some t) (hK : K t) : m_Rn xs L 3 2495 0 [(0, .ref x0), (1, .int x1)] [] hp r := by
  unfold F12_owedBy_0 at h
  refine g_in eF12_owedBy_0 mx2495 ?_
  refine g_ch [(4, .int 0), (2, .long 0), (0, .ref x0), (1, .int x1)] [] (pc' := 5) rfl rfl rfl ?_
  refine g_end ?_
  exact r_lv (SF12_owedBy_5 x0 x1 0 0 hp (K := K) k0 h hK) rfl ⟨rfl, rfl, rfl, rfl, trivial⟩
theorem OF12_owedBy {x0 : Nat} {x1 : Int32} {hp : m_H} {x : Int64} (h : F12_owedBy x0 x1 hp = some x) : m_isO hp 9 x0 = true := (m_gdd h).1
theorem SF12_owedBy {xs : Nat → Int32} {L : Nat} {x0 : Nat} {x1 : Int32} {hp : m_H} {x : Int64} (h : F12_owedBy x0 x1 hp = some x) : m_Rn xs L 3 2495 0 (lv_args 0 [.ref x0, .int x1]) [] hp (.inl (some (.long x)), hp) :=
  r_lv (SF12_owedBy_0 x0 x1 hp (K := fun y => y = x) (fun y e => by rw [e]) (m_gdd h).2 rfl) rfl ⟨rfl, rfl, trivial⟩
-- F12_mustOf: LendHouseModel.mustOf(III)I
theorem eF12_mustOf_0 : m_Fe mi12_96 0 (m_ap [(.iload_n 3, 1), (.aload_n 0, 1)] ((.invokevirtual 86, 3) :: ([(.if_icmp .ne 12, 3)]))) := m_Fe_of nd2496 0 4 rfl
theorem eF12_mustOf_17 : m_Fe mi12_96 17 (m_ap [(.aload_n 0, 1)] ((.getfield 14, 3) :: (m_ap [(.sipush 4326, 3), (.bipush 48, 2), (.iload_n 3, 1), (.imul, 1), (.iadd, 1), (.bipush 8, 2), (.iload_n 1, 1), (.imul, 1)] (m_ap [(.iadd, 1), (.iload_n 2, 1), (.iadd, 1)] ([(.iaload, 1)]))))) := m_Fe_of nd2496 9 14 rfl
theorem eF12_mustOf_37 : m_Fe mi12_96 37 ([(.ireturn, 1)]) := m_Fe_of nd2496 23 1 rfl
theorem eF12_mustOf_8 : m_Fe mi12_96 8 (m_ap [(.aload_n 0, 1), (.iload_n 1, 1), (.iload_n 2, 1)] ((.invokevirtual 350, 3) :: ([(.goto 23, 3)]))) := m_Fe_of nd2496 4 5 rfl
theorem SF12_mustOf_0 {xs : Nat → Int32} {L : Nat} (x0 : Nat) (x1 : Int32) (x2 : Int32) (x3 : Int32) (hp : m_H) {r : m_O × m_H} {K : Int32 → Prop} (k0 : ∀ x, K x → r = (.inl (some (.int x)), hp)) {t : Int32} (h : F12_mustOf_0 x0 x1 x2 x3 hp = some t) (hK : K t) : m_Rn xs L 4 2496 0 [(0, .ref x0), (1, .int x1), (2, .int x2), (3, .int x3)] [] hp r := by
  unfold F12_mustOf_0 at h
  refine g_in eF12_mustOf_0 mx2496 ?_
  refine g_ch [(0, .ref x0), (1, .int x1), (2, .int x2), (3, .int x3)] [.ref x0, .int x3] (pc' := 2) rfl rfl rfl ?_
  obtain ⟨v2, e1, h⟩ := m_bd h
  refine g_call (v := some (.int v2)) (h := hp) (st' := [.int v2, .int x3]) (D1 := 0) (as := [.ref x0]) (Or.inr (Or.inl rfl)) q12_m86 (m_cv (as := []) (rest := [.int x3]) (Or.inl rfl) q12_m86 jv2404 (OF12_week e1) rfl rfl rfl rfl) (by decide) (SF12_week e1) rfl ?_
  rcases m_ifd h with ⟨c3, h⟩ | ⟨c3, h⟩
  · refine g_ifn (t := 17) rfl (m_neF c3) ?_
    refine g_in eF12_mustOf_8 mx2496 ?_
    refine g_ch [(0, .ref x0), (1, .int x1), (2, .int x2), (3, .int x3)] [.int x2, .int x1, .ref x0] (pc' := 11) rfl rfl rfl ?_
    obtain ⟨v9, e8, h⟩ := m_bd h
    refine g_call (v := some (.int v9)) (h := hp) (st' := [.int v9]) (D1 := 3) (as := [.ref x0, .int x1, .int x2]) (Or.inr (Or.inl rfl)) q12_m350 (m_cv (as := [.int x2, .int x1]) (rest := []) (Or.inl rfl) q12_m350 jv2490 (OF12_landedOf e8) rfl rfl rfl rfl) (by decide) (SF12_landedOf e8) rfl ?_
    refine g_goto (t := 37) rfl ?_
    refine g_in eF12_mustOf_37 mx2496 ?_
    cases h
    rw [k0 _ hK]
    exact g_iret rfl rfl
  · refine g_if (t := 17) rfl (m_neT c3) ?_
    refine g_in eF12_mustOf_17 mx2496 ?_
    refine g_ch [(0, .ref x0), (1, .int x1), (2, .int x2), (3, .int x3)] [.ref x0] (pc' := 18) rfl rfl rfl ?_
    obtain ⟨v4, e5, h⟩ := m_bd h
    refine g_gr q12_f14 e5 ?_
    refine g_ch [(0, .ref x0), (1, .int x1), (2, .int x2), (3, .int x3)] [.int (8 * x1), .int (4326 + (48 * x3)), .ref v4] (pc' := 33) rfl rfl rfl ?_
    refine g_ch [(0, .ref x0), (1, .int x1), (2, .int x2), (3, .int x3)] [.int (((4326 + (48 * x3)) + (8 * x1)) + x2), .ref v4] (pc' := 36) rfl rfl rfl ?_
    obtain ⟨v6, e7, h⟩ := m_bd h
    refine g_ia e7 ?_
    refine g_end ?_
    refine g_in eF12_mustOf_37 mx2496 ?_
    cases h
    rw [k0 _ hK]
    exact g_iret rfl rfl
theorem OF12_mustOf {x0 : Nat} {x1 : Int32} {x2 : Int32} {x3 : Int32} {hp : m_H} {x : Int32} (h : F12_mustOf x0 x1 x2 x3 hp = some x) : m_isO hp 9 x0 = true := (m_gdd h).1
theorem SF12_mustOf {xs : Nat → Int32} {L : Nat} {x0 : Nat} {x1 : Int32} {x2 : Int32} {x3 : Int32} {hp : m_H} {x : Int32} (h : F12_mustOf x0 x1 x2 x3 hp = some x) : m_Rn xs L 4 2496 0 (lv_args 0 [.ref x0, .int x1, .int x2, .int x3]) [] hp (.inl (some (.int x)), hp) :=
  r_lv (SF12_mustOf_0 x0 x1 x2 x3 hp (K := fun y => y = x) (fun y e => by rw [e]) (m_gdd h).2 rfl) rfl ⟨rfl, rfl, rfl, rfl, trivial⟩
-- F12_returnAt: LendHouseModel.returnAt(I)I
theorem eF12_returnAt_0 : m_Fe mi12_97 0 (m_ap [(.sipush 3487, 3), (.iconst 5, 1), (.iload_n 0, 1), (.imul, 1), (.iadd, 1)] ([(.ireturn, 1)])) := m_Fe_of nd2497 0 6 rfl
theorem SF12_returnAt_0 {xs : Nat → Int32} {L : Nat} (x0 : Int32) (hp : m_H) {r : m_O × m_H} {K : Int32 → Prop} (k0 : ∀ x, K x → r = (.inl (some (.int x)), hp)) {t : Int32} (h : F12_returnAt_0 x0 hp = some t) (hK : K t) : m_Rn xs L 0 2497 0 [(0, .int x0)] [] hp r := by
  unfold F12_returnAt_0 at h
  refine g_in eF12_returnAt_0 mx2497 ?_
  refine g_ch [(0, .int x0)] [.int (3487 + (5 * x0))] (pc' := 7) rfl rfl rfl ?_
  cases h
  rw [k0 _ hK]
  exact g_iret rfl rfl
theorem SF12_returnAt {xs : Nat → Int32} {L : Nat} {x0 : Int32} {hp : m_H} {x : Int32} (h : F12_returnAt x0 hp = some x) : m_Rn xs L 0 2497 0 (lv_args 0 [.int x0]) [] hp (.inl (some (.int x)), hp) :=
  r_lv (SF12_returnAt_0 x0 hp (K := fun y => y = x) (fun y e => by rw [e]) h rfl) rfl ⟨rfl, trivial⟩
-- F12_latestOf: LendHouseModel.latestOf(II)I
theorem eF12_latestOf_0 : m_Fe mi12_98 0 (m_ap [(.iconst (-1), 1), (.istore_n 3, 1), (.iconst 0, 1), (.istore 4, 2)] ([])) := m_Fe_of nd2498 0 4 rfl
theorem eF12_latestOf_5 : m_Fe mi12_98 5 (m_ap [(.iload 4, 2), (.aload_n 0, 1)] ((.getfield 14, 3) :: (m_ap [(.sipush 3486, 3)] ((.iaload, 1) :: ([(.if_icmp .ge 72, 3)]))))) := m_Fe_of nd2498 4 6 rfl
theorem eF12_latestOf_87 : m_Fe mi12_98 87 (m_ap [(.iload_n 3, 1)] ([(.ireturn, 1)])) := m_Fe_of nd2498 47 2 rfl
theorem eF12_latestOf_18 : m_Fe mi12_98 18 (m_ap [(.aload_n 0, 1)] ((.getfield 14, 3) :: (m_ap [(.iload 4, 2)] ((.invokestatic 371, 3) :: ((.iaload, 1) :: (m_ap [(.iload_n 1, 1)] ([(.if_icmp .ne 52, 3)]))))))) := m_Fe_of nd2498 10 7 rfl
theorem eF12_latestOf_81 : m_Fe mi12_98 81 (m_ap [(.iinc 4 1, 3)] ([(.goto (-79), 3)])) := m_Fe_of nd2498 45 2 rfl
theorem eF12_latestOf_32 : m_Fe mi12_98 32 (m_ap [(.aload_n 0, 1)] ((.getfield 14, 3) :: (m_ap [(.iload 4, 2)] ((.invokestatic 371, 3) :: (m_ap [(.iconst 1, 1), (.iadd, 1)] ((.iaload, 1) :: (m_ap [(.iload_n 2, 1)] ([(.if_icmp .ne 36, 3)])))))))) := m_Fe_of nd2498 17 9 rfl
theorem eF12_latestOf_48 : m_Fe mi12_98 48 (m_ap [(.iload_n 3, 1)] ([(.ifCond .lt 29, 3)])) := m_Fe_of nd2498 26 2 rfl
theorem eF12_latestOf_78 : m_Fe mi12_98 78 (m_ap [(.iload 4, 2), (.istore_n 3, 1)] ([])) := m_Fe_of nd2498 43 2 rfl
theorem eF12_latestOf_52 : m_Fe mi12_98 52 (m_ap [(.aload_n 0, 1)] ((.getfield 14, 3) :: (m_ap [(.iload 4, 2)] ((.invokestatic 371, 3) :: (m_ap [(.iconst 2, 1), (.iadd, 1)] ((.iaload, 1) :: (m_ap [(.aload_n 0, 1)] ((.getfield 14, 3) :: (m_ap [(.iload_n 3, 1)] ((.invokestatic 371, 3) :: (m_ap [(.iconst 2, 1), (.iadd, 1)] ((.iaload, 1) :: ([(.if_icmp .lt 6, 3)]))))))))))))) := m_Fe_of nd2498 28 15 rfl
theorem SF12_latestOf_5b {xs : Nat → Int32} {L : Nat} (x0 : Nat) (x1 : Int32) (x2 : Int32) (hp : m_H) (s : Int32 × Int32) {r : m_O × m_H} {K : ((Int32 × Int32) ⊕ Int32) → Prop} (k0 : ∀ x, K (.inr x) → r = (.inl (some (.int x)), hp)) (k1 : ∀ s, K (.inl s) → m_Rn xs L 1 2498 5 [(0, .ref x0), (1, .int x1), (2, .int x2), (3, .int s.1), (4, .int s.2)] [] hp r) {t : (Int32 × Int32) ⊕ Int32} (h : F12_latestOf_5b x0 x1 x2 hp s = some t) (hK : K t) : m_Rn xs L 1 2498 5 [(0, .ref x0), (1, .int x1), (2, .int x2), (3, .int s.1), (4, .int s.2)] [] hp r := by
  unfold F12_latestOf_5b at h
  refine g_in eF12_latestOf_5 mx2498 ?_
  refine g_ch [(0, .ref x0), (1, .int x1), (2, .int x2), (3, .int s.1), (4, .int s.2)] [.ref x0, .int s.2] (pc' := 8) rfl rfl rfl ?_
  obtain ⟨v1, e2, h⟩ := m_bd h
  refine g_gr q12_f14 e2 ?_
  refine g_ch [(0, .ref x0), (1, .int x1), (2, .int x2), (3, .int s.1), (4, .int s.2)] [.int 3486, .ref v1, .int s.2] (pc' := 14) rfl rfl rfl ?_
  obtain ⟨v3, e4, h⟩ := m_bd h
  refine g_ia e4 ?_
  rcases m_ifd h with ⟨c5, h⟩ | ⟨c5, h⟩
  · refine g_if (t := 87) rfl (m_geT c5) ?_
    refine g_in eF12_latestOf_87 mx2498 ?_
    refine g_ch [(0, .ref x0), (1, .int x1), (2, .int x2), (3, .int s.1), (4, .int s.2)] [.int s.1] (pc' := 88) rfl rfl rfl ?_
    cases h
    rw [k0 _ hK]
    exact g_iret rfl rfl
  · refine g_ifn (t := 87) rfl (m_geF c5) ?_
    refine g_in eF12_latestOf_18 mx2498 ?_
    refine g_ch [(0, .ref x0), (1, .int x1), (2, .int x2), (3, .int s.1), (4, .int s.2)] [.ref x0] (pc' := 19) rfl rfl rfl ?_
    obtain ⟨v6, e7, h⟩ := m_bd h
    refine g_gr q12_f14 e7 ?_
    refine g_ch [(0, .ref x0), (1, .int x1), (2, .int x2), (3, .int s.1), (4, .int s.2)] [.int s.2, .ref v6] (pc' := 24) rfl rfl rfl ?_
    obtain ⟨v9, e8, h⟩ := m_bd h
    refine g_call (v := some (.int v9)) (h := hp) (st' := [.int v9, .ref v6]) (D1 := 0) (as := [.int s.2]) (Or.inl rfl) q12_m371 (m_cs (as := [.int s.2]) (rest := [.ref v6]) q12_m371 jv2497 rfl rfl rfl rfl rfl) (by decide) (SF12_returnAt e8) rfl ?_
    obtain ⟨v10, e11, h⟩ := m_bd h
    refine g_ia e11 ?_
    refine g_ch [(0, .ref x0), (1, .int x1), (2, .int x2), (3, .int s.1), (4, .int s.2)] [.int x1, .int v10] (pc' := 29) rfl rfl rfl ?_
    rcases m_ifd h with ⟨c12, h⟩ | ⟨c12, h⟩
    · refine g_ifn (t := 81) rfl (m_neF c12) ?_
      refine g_in eF12_latestOf_32 mx2498 ?_
      refine g_ch [(0, .ref x0), (1, .int x1), (2, .int x2), (3, .int s.1), (4, .int s.2)] [.ref x0] (pc' := 33) rfl rfl rfl ?_
      obtain ⟨v13, e14, h⟩ := m_bd h
      refine g_gr q12_f14 e14 ?_
      refine g_ch [(0, .ref x0), (1, .int x1), (2, .int x2), (3, .int s.1), (4, .int s.2)] [.int s.2, .ref v13] (pc' := 38) rfl rfl rfl ?_
      obtain ⟨v16, e15, h⟩ := m_bd h
      refine g_call (v := some (.int v16)) (h := hp) (st' := [.int v16, .ref v13]) (D1 := 0) (as := [.int s.2]) (Or.inl rfl) q12_m371 (m_cs (as := [.int s.2]) (rest := [.ref v13]) q12_m371 jv2497 rfl rfl rfl rfl rfl) (by decide) (SF12_returnAt e15) rfl ?_
      refine g_ch [(0, .ref x0), (1, .int x1), (2, .int x2), (3, .int s.1), (4, .int s.2)] [.int (v16 + 1), .ref v13] (pc' := 43) rfl rfl rfl ?_
      obtain ⟨v17, e18, h⟩ := m_bd h
      refine g_ia e18 ?_
      refine g_ch [(0, .ref x0), (1, .int x1), (2, .int x2), (3, .int s.1), (4, .int s.2)] [.int x2, .int v17] (pc' := 45) rfl rfl rfl ?_
      rcases m_ifd h with ⟨c19, h⟩ | ⟨c19, h⟩
      · refine g_ifn (t := 81) rfl (m_neF c19) ?_
        refine g_in eF12_latestOf_48 mx2498 ?_
        refine g_ch [(0, .ref x0), (1, .int x1), (2, .int x2), (3, .int s.1), (4, .int s.2)] [.int s.1] (pc' := 49) rfl rfl rfl ?_
        rcases m_ifd h with ⟨c20, h⟩ | ⟨c20, h⟩
        · refine g_ifc (t := 78) rfl (m_ltT c20) ?_
          refine g_in eF12_latestOf_78 mx2498 ?_
          refine g_ch [(3, .int s.2), (0, .ref x0), (1, .int x1), (2, .int x2), (4, .int s.2)] [] (pc' := 81) rfl rfl rfl ?_
          refine g_end ?_
          refine g_in eF12_latestOf_81 mx2498 ?_
          refine g_ch [(4, .int (s.2 + 1)), (3, .int s.2), (0, .ref x0), (1, .int x1), (2, .int x2)] [] (pc' := 84) rfl rfl rfl ?_
          refine g_goto (t := 5) rfl ?_
          cases h
          exact r_lv (k1 (s.2, (s.2 + 1)) hK) rfl ⟨rfl, rfl, rfl, rfl, rfl, trivial⟩
        · refine g_ifcn (t := 78) rfl (m_ltF c20) ?_
          refine g_in eF12_latestOf_52 mx2498 ?_
          refine g_ch [(0, .ref x0), (1, .int x1), (2, .int x2), (3, .int s.1), (4, .int s.2)] [.ref x0] (pc' := 53) rfl rfl rfl ?_
          obtain ⟨v21, e22, h⟩ := m_bd h
          refine g_gr q12_f14 e22 ?_
          refine g_ch [(0, .ref x0), (1, .int x1), (2, .int x2), (3, .int s.1), (4, .int s.2)] [.int s.2, .ref v21] (pc' := 58) rfl rfl rfl ?_
          obtain ⟨v24, e23, h⟩ := m_bd h
          refine g_call (v := some (.int v24)) (h := hp) (st' := [.int v24, .ref v21]) (D1 := 0) (as := [.int s.2]) (Or.inl rfl) q12_m371 (m_cs (as := [.int s.2]) (rest := [.ref v21]) q12_m371 jv2497 rfl rfl rfl rfl rfl) (by decide) (SF12_returnAt e23) rfl ?_
          refine g_ch [(0, .ref x0), (1, .int x1), (2, .int x2), (3, .int s.1), (4, .int s.2)] [.int (v24 + 2), .ref v21] (pc' := 63) rfl rfl rfl ?_
          obtain ⟨v25, e26, h⟩ := m_bd h
          refine g_ia e26 ?_
          refine g_ch [(0, .ref x0), (1, .int x1), (2, .int x2), (3, .int s.1), (4, .int s.2)] [.ref x0, .int v25] (pc' := 65) rfl rfl rfl ?_
          obtain ⟨v27, e28, h⟩ := m_bd h
          refine g_gr q12_f14 e28 ?_
          refine g_ch [(0, .ref x0), (1, .int x1), (2, .int x2), (3, .int s.1), (4, .int s.2)] [.int s.1, .ref v27, .int v25] (pc' := 69) rfl rfl rfl ?_
          obtain ⟨v30, e29, h⟩ := m_bd h
          refine g_call (v := some (.int v30)) (h := hp) (st' := [.int v30, .ref v27, .int v25]) (D1 := 0) (as := [.int s.1]) (Or.inl rfl) q12_m371 (m_cs (as := [.int s.1]) (rest := [.ref v27, .int v25]) q12_m371 jv2497 rfl rfl rfl rfl rfl) (by decide) (SF12_returnAt e29) rfl ?_
          refine g_ch [(0, .ref x0), (1, .int x1), (2, .int x2), (3, .int s.1), (4, .int s.2)] [.int (v30 + 2), .ref v27, .int v25] (pc' := 74) rfl rfl rfl ?_
          obtain ⟨v31, e32, h⟩ := m_bd h
          refine g_ia e32 ?_
          rcases m_ifd h with ⟨c33, h⟩ | ⟨c33, h⟩
          · refine g_if (t := 81) rfl (m_ltT c33) ?_
            refine g_in eF12_latestOf_81 mx2498 ?_
            refine g_ch [(4, .int (s.2 + 1)), (0, .ref x0), (1, .int x1), (2, .int x2), (3, .int s.1)] [] (pc' := 84) rfl rfl rfl ?_
            refine g_goto (t := 5) rfl ?_
            cases h
            exact r_lv (k1 (s.1, (s.2 + 1)) hK) rfl ⟨rfl, rfl, rfl, rfl, rfl, trivial⟩
          · refine g_ifn (t := 81) rfl (m_ltF c33) ?_
            refine g_in eF12_latestOf_78 mx2498 ?_
            refine g_ch [(3, .int s.2), (0, .ref x0), (1, .int x1), (2, .int x2), (4, .int s.2)] [] (pc' := 81) rfl rfl rfl ?_
            refine g_end ?_
            refine g_in eF12_latestOf_81 mx2498 ?_
            refine g_ch [(4, .int (s.2 + 1)), (3, .int s.2), (0, .ref x0), (1, .int x1), (2, .int x2)] [] (pc' := 84) rfl rfl rfl ?_
            refine g_goto (t := 5) rfl ?_
            cases h
            exact r_lv (k1 (s.2, (s.2 + 1)) hK) rfl ⟨rfl, rfl, rfl, rfl, rfl, trivial⟩
      · refine g_if (t := 81) rfl (m_neT c19) ?_
        refine g_in eF12_latestOf_81 mx2498 ?_
        refine g_ch [(4, .int (s.2 + 1)), (0, .ref x0), (1, .int x1), (2, .int x2), (3, .int s.1)] [] (pc' := 84) rfl rfl rfl ?_
        refine g_goto (t := 5) rfl ?_
        cases h
        exact r_lv (k1 (s.1, (s.2 + 1)) hK) rfl ⟨rfl, rfl, rfl, rfl, rfl, trivial⟩
    · refine g_if (t := 81) rfl (m_neT c12) ?_
      refine g_in eF12_latestOf_81 mx2498 ?_
      refine g_ch [(4, .int (s.2 + 1)), (0, .ref x0), (1, .int x1), (2, .int x2), (3, .int s.1)] [] (pc' := 84) rfl rfl rfl ?_
      refine g_goto (t := 5) rfl ?_
      cases h
      exact r_lv (k1 (s.1, (s.2 + 1)) hK) rfl ⟨rfl, rfl, rfl, rfl, rfl, trivial⟩
theorem SF12_latestOf_5 {xs : Nat → Int32} {L : Nat} (x0 : Nat) (x1 : Int32) (x2 : Int32) (x3 : Int32) (x4 : Int32) (hp : m_H) {r : m_O × m_H} {K : Int32 → Prop} (k0 : ∀ x, K x → r = (.inl (some (.int x)), hp)) {t : Int32} (h : F12_latestOf_5 x0 x1 x2 x3 x4 hp = some t) (hK : K t) : m_Rn xs L 1 2498 5 [(0, .ref x0), (1, .int x1), (2, .int x2), (3, .int x3), (4, .int x4)] [] hp r :=
  m_wh_ok (P := fun s => m_Rn xs L 1 2498 5 [(0, .ref x0), (1, .int x1), (2, .int x2), (3, .int s.1), (4, .int s.2)] [] hp r) (Q := K) (fun s t hb hK => SF12_latestOf_5b x0 x1 x2 hp s (K := m_KK (fun s => m_Rn xs L 1 2498 5 [(0, .ref x0), (1, .int x1), (2, .int x2), (3, .int s.1), (4, .int s.2)] [] hp r) K) k0 (fun _ q => q) hb hK) m_N _ _ h hK
theorem SF12_latestOf_0 {xs : Nat → Int32} {L : Nat} (x0 : Nat) (x1 : Int32) (x2 : Int32) (hp : m_H) {r : m_O × m_H} {K : Int32 → Prop} (k0 : ∀ x, K x → r = (.inl (some (.int x)), hp)) {t : Int32} (h : F12_latestOf_0 x0 x1 x2 hp = some t) (hK : K t) : m_Rn xs L 1 2498 0 [(0, .ref x0), (1, .int x1), (2, .int x2)] [] hp r := by
  unfold F12_latestOf_0 at h
  refine g_in eF12_latestOf_0 mx2498 ?_
  refine g_ch [(4, .int 0), (3, .int (-1)), (0, .ref x0), (1, .int x1), (2, .int x2)] [] (pc' := 5) rfl rfl rfl ?_
  refine g_end ?_
  exact r_lv (SF12_latestOf_5 x0 x1 x2 (-1) 0 hp (K := K) k0 h hK) rfl ⟨rfl, rfl, rfl, rfl, rfl, trivial⟩
theorem OF12_latestOf {x0 : Nat} {x1 : Int32} {x2 : Int32} {hp : m_H} {x : Int32} (h : F12_latestOf x0 x1 x2 hp = some x) : m_isO hp 9 x0 = true := (m_gdd h).1
theorem SF12_latestOf {xs : Nat → Int32} {L : Nat} {x0 : Nat} {x1 : Int32} {x2 : Int32} {hp : m_H} {x : Int32} (h : F12_latestOf x0 x1 x2 hp = some x) : m_Rn xs L 1 2498 0 (lv_args 0 [.ref x0, .int x1, .int x2]) [] hp (.inl (some (.int x)), hp) :=
  r_lv (SF12_latestOf_0 x0 x1 x2 hp (K := fun y => y = x) (fun y e => by rw [e]) (m_gdd h).2 rfl) rfl ⟨rfl, rfl, rfl, trivial⟩
-- F12_missing: LendHouseModel.missing(IZ)J
theorem eF12_missing_0 : m_Fe mi12_99 0 (m_ap [(.lconst 0, 1), (.lstore_n 3, 1), (.iconst 0, 1), (.istore 5, 2)] ([])) := m_Fe_of nd2499 0 4 rfl
theorem eF12_missing_5 : m_Fe mi12_99 5 (m_ap [(.iload 5, 2), (.bipush 8, 2)] ([(.if_icmp .ge 86, 3)])) := m_Fe_of nd2499 4 3 rfl
theorem eF12_missing_95 : m_Fe mi12_99 95 (m_ap [(.lload_n 3, 1)] ([(.lreturn, 1)])) := m_Fe_of nd2499 55 2 rfl
theorem eF12_missing_12 : m_Fe mi12_99 12 (m_ap [(.aload_n 0, 1), (.iload_n 1, 1), (.iload 5, 2)] ((.invokevirtual 374, 3) :: (m_ap [(.istore 6, 2), (.iload 6, 2)] ([(.ifCond .lt 47, 3)])))) := m_Fe_of nd2499 7 7 rfl
theorem eF12_missing_70 : m_Fe mi12_99 70 (m_ap [(.lload_n 3, 1), (.iload_n 2, 1)] ([(.ifCond .eq 14, 3)])) := m_Fe_of nd2499 41 3 rfl
theorem eF12_missing_86 : m_Fe mi12_99 86 (m_ap [(.lconst 0, 1)] ([])) := m_Fe_of nd2499 50 1 rfl
theorem eF12_missing_87 : m_Fe mi12_99 87 (m_ap [(.ladd, 1), (.lstore_n 3, 1)] ([])) := m_Fe_of nd2499 51 2 rfl
theorem eF12_missing_89 : m_Fe mi12_99 89 (m_ap [(.iinc 5 1, 3)] ([(.goto (-87), 3)])) := m_Fe_of nd2499 53 2 rfl
theorem eF12_missing_75 : m_Fe mi12_99 75 (m_ap [(.aload_n 0, 1), (.iload_n 1, 1), (.iload 5, 2)] ((.invokevirtual 350, 3) :: (m_ap [(.i2l, 1)] ([(.goto 4, 3)])))) := m_Fe_of nd2499 44 6 rfl
theorem eF12_missing_26 : m_Fe mi12_99 26 (m_ap [(.lload_n 3, 1), (.lconst 0, 1), (.aload_n 0, 1), (.iload_n 1, 1), (.iload 5, 2), (.aload_n 0, 1)] ((.getfield 14, 3) :: (m_ap [(.iload 6, 2)] ((.invokestatic 371, 3) :: (m_ap [(.iconst 2, 1), (.iadd, 1)] ((.iaload, 1) :: ((.invokevirtual 377, 3) :: (m_ap [(.i2l, 1), (.aload_n 0, 1)] ((.getfield 14, 3) :: (m_ap [(.iload 6, 2)] ((.invokestatic 371, 3) :: (m_ap [(.iconst 3, 1), (.iadd, 1)] ((.iaload, 1) :: (m_ap [(.i2l, 1), (.lsub, 1)] ((.invokestatic 262, 3) :: (m_ap [(.ladd, 1), (.lstore_n 3, 1)] ([(.goto 22, 3)]))))))))))))))))) := m_Fe_of nd2499 14 27 rfl
theorem SF12_missing_5b {xs : Nat → Int32} {L : Nat} (x0 : Nat) (x1 : Int32) (x2 : Int32) (hp : m_H) (s : Int64 × Int32) {r : m_O × m_H} {K : ((Int64 × Int32) ⊕ Int64) → Prop} (k0 : ∀ x, K (.inr x) → r = (.inl (some (.long x)), hp)) (k1 : ∀ s, K (.inl s) → m_Rn xs L 7 2499 5 [(0, .ref x0), (1, .int x1), (2, .int x2), (3, .long s.1), (5, .int s.2)] [] hp r) {t : (Int64 × Int32) ⊕ Int64} (h : F12_missing_5b x0 x1 x2 hp s = some t) (hK : K t) : m_Rn xs L 7 2499 5 [(0, .ref x0), (1, .int x1), (2, .int x2), (3, .long s.1), (5, .int s.2)] [] hp r := by
  unfold F12_missing_5b at h
  refine g_in eF12_missing_5 mx2499 ?_
  refine g_ch [(0, .ref x0), (1, .int x1), (2, .int x2), (3, .long s.1), (5, .int s.2)] [.int 8, .int s.2] (pc' := 9) rfl rfl rfl ?_
  rcases m_ifd h with ⟨c1, h⟩ | ⟨c1, h⟩
  · refine g_if (t := 95) rfl (m_geT c1) ?_
    refine g_in eF12_missing_95 mx2499 ?_
    refine g_ch [(0, .ref x0), (1, .int x1), (2, .int x2), (3, .long s.1), (5, .int s.2)] [.long s.1] (pc' := 96) rfl rfl rfl ?_
    cases h
    rw [k0 _ hK]
    exact g_lret rfl
  · refine g_ifn (t := 95) rfl (m_geF c1) ?_
    refine g_in eF12_missing_12 mx2499 ?_
    refine g_ch [(0, .ref x0), (1, .int x1), (2, .int x2), (3, .long s.1), (5, .int s.2)] [.int s.2, .int x1, .ref x0] (pc' := 16) rfl rfl rfl ?_
    obtain ⟨v3, e2, h⟩ := m_bd h
    refine g_call (v := some (.int v3)) (h := hp) (st' := [.int v3]) (D1 := 1) (as := [.ref x0, .int x1, .int s.2]) (Or.inr (Or.inl rfl)) q12_m374 (m_cv (as := [.int s.2, .int x1]) (rest := []) (Or.inl rfl) q12_m374 jv2498 (OF12_latestOf e2) rfl rfl rfl rfl) (by decide) (SF12_latestOf e2) rfl ?_
    refine g_ch [(6, .int v3), (0, .ref x0), (1, .int x1), (2, .int x2), (3, .long s.1), (5, .int s.2)] [.int v3] (pc' := 23) rfl rfl rfl ?_
    rcases m_ifd h with ⟨c4, h⟩ | ⟨c4, h⟩
    · refine g_ifc (t := 70) rfl (m_ltT c4) ?_
      refine g_in eF12_missing_70 mx2499 ?_
      refine g_ch [(6, .int v3), (0, .ref x0), (1, .int x1), (2, .int x2), (3, .long s.1), (5, .int s.2)] [.int x2, .long s.1] (pc' := 72) rfl rfl rfl ?_
      rcases m_ifd h with ⟨c5, h⟩ | ⟨c5, h⟩
      · refine g_ifc (t := 86) rfl (m_eqT c5) ?_
        refine g_in eF12_missing_86 mx2499 ?_
        refine g_ch [(6, .int v3), (0, .ref x0), (1, .int x1), (2, .int x2), (3, .long s.1), (5, .int s.2)] [.long 0, .long s.1] (pc' := 87) rfl rfl rfl ?_
        refine g_end ?_
        refine g_in eF12_missing_87 mx2499 ?_
        refine g_ch [(3, .long (s.1 + 0)), (6, .int v3), (0, .ref x0), (1, .int x1), (2, .int x2), (5, .int s.2)] [] (pc' := 89) rfl rfl rfl ?_
        refine g_end ?_
        refine g_in eF12_missing_89 mx2499 ?_
        refine g_ch [(5, .int (s.2 + 1)), (3, .long (s.1 + 0)), (6, .int v3), (0, .ref x0), (1, .int x1), (2, .int x2)] [] (pc' := 92) rfl rfl rfl ?_
        refine g_goto (t := 5) rfl ?_
        cases h
        exact r_lv (k1 ((s.1 + 0), (s.2 + 1)) hK) rfl ⟨rfl, rfl, rfl, rfl, rfl, trivial⟩
      · refine g_ifcn (t := 86) rfl (m_eqF c5) ?_
        refine g_in eF12_missing_75 mx2499 ?_
        refine g_ch [(6, .int v3), (0, .ref x0), (1, .int x1), (2, .int x2), (3, .long s.1), (5, .int s.2)] [.int s.2, .int x1, .ref x0, .long s.1] (pc' := 79) rfl rfl rfl ?_
        obtain ⟨v7, e6, h⟩ := m_bd h
        refine g_call (v := some (.int v7)) (h := hp) (st' := [.int v7, .long s.1]) (D1 := 3) (as := [.ref x0, .int x1, .int s.2]) (Or.inr (Or.inl rfl)) q12_m350 (m_cv (as := [.int s.2, .int x1]) (rest := [.long s.1]) (Or.inl rfl) q12_m350 jv2490 (OF12_landedOf e6) rfl rfl rfl rfl) (by decide) (SF12_landedOf e6) rfl ?_
        refine g_ch [(6, .int v3), (0, .ref x0), (1, .int x1), (2, .int x2), (3, .long s.1), (5, .int s.2)] [.long (m_i2l v7), .long s.1] (pc' := 83) rfl rfl rfl ?_
        refine g_goto (t := 87) rfl ?_
        refine g_in eF12_missing_87 mx2499 ?_
        refine g_ch [(3, .long (s.1 + (m_i2l v7))), (6, .int v3), (0, .ref x0), (1, .int x1), (2, .int x2), (5, .int s.2)] [] (pc' := 89) rfl rfl rfl ?_
        refine g_end ?_
        refine g_in eF12_missing_89 mx2499 ?_
        refine g_ch [(5, .int (s.2 + 1)), (3, .long (s.1 + (m_i2l v7))), (6, .int v3), (0, .ref x0), (1, .int x1), (2, .int x2)] [] (pc' := 92) rfl rfl rfl ?_
        refine g_goto (t := 5) rfl ?_
        cases h
        exact r_lv (k1 ((s.1 + (m_i2l v7)), (s.2 + 1)) hK) rfl ⟨rfl, rfl, rfl, rfl, rfl, trivial⟩
    · refine g_ifcn (t := 70) rfl (m_ltF c4) ?_
      refine g_in eF12_missing_26 mx2499 ?_
      refine g_ch [(6, .int v3), (0, .ref x0), (1, .int x1), (2, .int x2), (3, .long s.1), (5, .int s.2)] [.ref x0, .int s.2, .int x1, .ref x0, .long 0, .long s.1] (pc' := 33) rfl rfl rfl ?_
      obtain ⟨v8, e9, h⟩ := m_bd h
      refine g_gr q12_f14 e9 ?_
      refine g_ch [(6, .int v3), (0, .ref x0), (1, .int x1), (2, .int x2), (3, .long s.1), (5, .int s.2)] [.int v3, .ref v8, .int s.2, .int x1, .ref x0, .long 0, .long s.1] (pc' := 38) rfl rfl rfl ?_
      obtain ⟨v11, e10, h⟩ := m_bd h
      refine g_call (v := some (.int v11)) (h := hp) (st' := [.int v11, .ref v8, .int s.2, .int x1, .ref x0, .long 0, .long s.1]) (D1 := 0) (as := [.int v3]) (Or.inl rfl) q12_m371 (m_cs (as := [.int v3]) (rest := [.ref v8, .int s.2, .int x1, .ref x0, .long 0, .long s.1]) q12_m371 jv2497 rfl rfl rfl rfl rfl) (by decide) (SF12_returnAt e10) rfl ?_
      refine g_ch [(6, .int v3), (0, .ref x0), (1, .int x1), (2, .int x2), (3, .long s.1), (5, .int s.2)] [.int (v11 + 2), .ref v8, .int s.2, .int x1, .ref x0, .long 0, .long s.1] (pc' := 43) rfl rfl rfl ?_
      obtain ⟨v12, e13, h⟩ := m_bd h
      refine g_ia e13 ?_
      obtain ⟨v15, e14, h⟩ := m_bd h
      refine g_call (v := some (.int v15)) (h := hp) (st' := [.int v15, .long 0, .long s.1]) (D1 := 4) (as := [.ref x0, .int x1, .int s.2, .int v12]) (Or.inr (Or.inl rfl)) q12_m377 (m_cv (as := [.int v12, .int s.2, .int x1]) (rest := [.long 0, .long s.1]) (Or.inl rfl) q12_m377 jv2496 (OF12_mustOf e14) rfl rfl rfl rfl) (by decide) (SF12_mustOf e14) rfl ?_
      refine g_ch [(6, .int v3), (0, .ref x0), (1, .int x1), (2, .int x2), (3, .long s.1), (5, .int s.2)] [.ref x0, .long (m_i2l v15), .long 0, .long s.1] (pc' := 49) rfl rfl rfl ?_
      obtain ⟨v16, e17, h⟩ := m_bd h
      refine g_gr q12_f14 e17 ?_
      refine g_ch [(6, .int v3), (0, .ref x0), (1, .int x1), (2, .int x2), (3, .long s.1), (5, .int s.2)] [.int v3, .ref v16, .long (m_i2l v15), .long 0, .long s.1] (pc' := 54) rfl rfl rfl ?_
      obtain ⟨v19, e18, h⟩ := m_bd h
      refine g_call (v := some (.int v19)) (h := hp) (st' := [.int v19, .ref v16, .long (m_i2l v15), .long 0, .long s.1]) (D1 := 0) (as := [.int v3]) (Or.inl rfl) q12_m371 (m_cs (as := [.int v3]) (rest := [.ref v16, .long (m_i2l v15), .long 0, .long s.1]) q12_m371 jv2497 rfl rfl rfl rfl rfl) (by decide) (SF12_returnAt e18) rfl ?_
      refine g_ch [(6, .int v3), (0, .ref x0), (1, .int x1), (2, .int x2), (3, .long s.1), (5, .int s.2)] [.int (v19 + 3), .ref v16, .long (m_i2l v15), .long 0, .long s.1] (pc' := 59) rfl rfl rfl ?_
      obtain ⟨v20, e21, h⟩ := m_bd h
      refine g_ia e21 ?_
      refine g_ch [(6, .int v3), (0, .ref x0), (1, .int x1), (2, .int x2), (3, .long s.1), (5, .int s.2)] [.long ((m_i2l v15) - (m_i2l v20)), .long 0, .long s.1] (pc' := 62) rfl rfl rfl ?_
      refine g_nat (Or.inl rfl) q12_m262 rfl (z := ([.long (m_maxl 0 ((m_i2l v15) - (m_i2l v20))), .long s.1], hp)) rfl (by decide) ?_
      refine g_ch [(3, .long (s.1 + (m_maxl 0 ((m_i2l v15) - (m_i2l v20))))), (6, .int v3), (0, .ref x0), (1, .int x1), (2, .int x2), (5, .int s.2)] [] (pc' := 67) rfl rfl rfl ?_
      refine g_goto (t := 89) rfl ?_
      refine g_in eF12_missing_89 mx2499 ?_
      refine g_ch [(5, .int (s.2 + 1)), (3, .long (s.1 + (m_maxl 0 ((m_i2l v15) - (m_i2l v20))))), (6, .int v3), (0, .ref x0), (1, .int x1), (2, .int x2)] [] (pc' := 92) rfl rfl rfl ?_
      refine g_goto (t := 5) rfl ?_
      cases h
      exact r_lv (k1 ((s.1 + (m_maxl 0 ((m_i2l v15) - (m_i2l v20)))), (s.2 + 1)) hK) rfl ⟨rfl, rfl, rfl, rfl, rfl, trivial⟩
theorem SF12_missing_5 {xs : Nat → Int32} {L : Nat} (x0 : Nat) (x1 : Int32) (x2 : Int32) (x3 : Int64) (x5 : Int32) (hp : m_H) {r : m_O × m_H} {K : Int64 → Prop} (k0 : ∀ x, K x → r = (.inl (some (.long x)), hp)) {t : Int64} (h : F12_missing_5 x0 x1 x2 x3 x5 hp = some t) (hK : K t) : m_Rn xs L 7 2499 5 [(0, .ref x0), (1, .int x1), (2, .int x2), (3, .long x3), (5, .int x5)] [] hp r :=
  m_wh_ok (P := fun s => m_Rn xs L 7 2499 5 [(0, .ref x0), (1, .int x1), (2, .int x2), (3, .long s.1), (5, .int s.2)] [] hp r) (Q := K) (fun s t hb hK => SF12_missing_5b x0 x1 x2 hp s (K := m_KK (fun s => m_Rn xs L 7 2499 5 [(0, .ref x0), (1, .int x1), (2, .int x2), (3, .long s.1), (5, .int s.2)] [] hp r) K) k0 (fun _ q => q) hb hK) m_N _ _ h hK
theorem SF12_missing_0 {xs : Nat → Int32} {L : Nat} (x0 : Nat) (x1 : Int32) (x2 : Int32) (hp : m_H) {r : m_O × m_H} {K : Int64 → Prop} (k0 : ∀ x, K x → r = (.inl (some (.long x)), hp)) {t : Int64} (h : F12_missing_0 x0 x1 x2 hp = some t) (hK : K t) : m_Rn xs L 7 2499 0 [(0, .ref x0), (1, .int x1), (2, .int x2)] [] hp r := by
  unfold F12_missing_0 at h
  refine g_in eF12_missing_0 mx2499 ?_
  refine g_ch [(5, .int 0), (3, .long 0), (0, .ref x0), (1, .int x1), (2, .int x2)] [] (pc' := 5) rfl rfl rfl ?_
  refine g_end ?_
  exact r_lv (SF12_missing_5 x0 x1 x2 0 0 hp (K := K) k0 h hK) rfl ⟨rfl, rfl, rfl, rfl, rfl, trivial⟩
theorem OF12_missing {x0 : Nat} {x1 : Int32} {x2 : Int32} {hp : m_H} {x : Int64} (h : F12_missing x0 x1 x2 hp = some x) : m_isO hp 9 x0 = true := (m_gdd h).1
theorem SF12_missing {xs : Nat → Int32} {L : Nat} {x0 : Nat} {x1 : Int32} {x2 : Int32} {hp : m_H} {x : Int64} (h : F12_missing x0 x1 x2 hp = some x) : m_Rn xs L 7 2499 0 (lv_args 0 [.ref x0, .int x1, .int x2]) [] hp (.inl (some (.long x)), hp) :=
  r_lv (SF12_missing_0 x0 x1 x2 hp (K := fun y => y = x) (fun y e => by rw [e]) (m_gdd h).2 rfl) rfl ⟨rfl, rfl, rfl, trivial⟩
-- F12_land: LendHouseModel.land(II)J
theorem eF12_land_0 : m_Fe mi12_101 0 (m_ap [(.aload_n 0, 1), (.iconst 0, 1)] ((.putfield 3, 3) :: (m_ap [(.aload_n 0, 1), (.iload_n 1, 1)] ((.invokestatic 103, 3) :: (m_ap [(.iconst 1, 1)] ((.invokevirtual 82, 3) :: ([(.ifCond .ne 20, 3)]))))))) := m_Fe_of nd2501 0 9 rfl
theorem eF12_land_34 : m_Fe mi12_101 34 (m_ap [(.lconst 0, 1)] ([(.lreturn, 1)])) := m_Fe_of nd2501 18 2 rfl
theorem eF12_land_17 : m_Fe mi12_101 17 (m_ap [(.aload_n 0, 1), (.iload_n 1, 1)] ([(.ifCond .ne 7, 3)])) := m_Fe_of nd2501 9 3 rfl
theorem eF12_land_26 : m_Fe mi12_101 26 (m_ap [(.iconst 0, 1)] ([])) := m_Fe_of nd2501 14 1 rfl
theorem eF12_land_22 : m_Fe mi12_101 22 (m_ap [(.iconst 1, 1)] ([(.goto 4, 3)])) := m_Fe_of nd2501 12 2 rfl
theorem eF12_land_27 : m_Fe mi12_101 27 (m_ap [(.iconst 2, 1)] ((.invokevirtual 82, 3) :: ([(.ifCond .eq 5, 3)]))) := m_Fe_of nd2501 15 3 rfl
theorem eF12_land_36 : m_Fe mi12_101 36 (m_ap [(.lconst 0, 1), (.lstore_n 3, 1), (.iload_n 2, 1)] ([(.tableswitch 175 0 7 #[45, 57, 69, 75, 104, 154, 161, 168], 45)])) := m_Fe_of nd2501 20 4 rfl
theorem eF12_land_214 : m_Fe mi12_101 214 (m_ap [(.aload_n 0, 1), (.iconst 3, 1)] ((.putfield 3, 3) :: (m_ap [(.lconst 0, 1)] ([(.lreturn, 1)])))) := m_Fe_of nd2501 103 5 rfl
theorem eF12_land_84 : m_Fe mi12_101 84 (m_ap [(.aload_n 0, 1)] ((.getfield 14, 3) :: (m_ap [(.iload_n 1, 1), (.iconst 0, 1)] ((.invokestatic 106, 3) :: ((.iaload, 1) :: (m_ap [(.i2l, 1)] ([(.lreturn, 1)]))))))) := m_Fe_of nd2501 24 8 rfl
theorem eF12_land_96 : m_Fe mi12_101 96 (m_ap [(.aload_n 0, 1)] ((.getfield 14, 3) :: (m_ap [(.iload_n 1, 1), (.iconst 1, 1)] ((.invokestatic 106, 3) :: ((.iaload, 1) :: (m_ap [(.i2l, 1)] ([(.lreturn, 1)]))))))) := m_Fe_of nd2501 32 8 rfl
theorem eF12_land_108 : m_Fe mi12_101 108 (m_ap [(.aload_n 0, 1), (.iload_n 1, 1)] ((.invokevirtual 380, 3) :: ([(.lreturn, 1)]))) := m_Fe_of nd2501 40 4 rfl
theorem eF12_land_114 : m_Fe mi12_101 114 (m_ap [(.iconst 0, 1), (.istore 5, 2)] ([])) := m_Fe_of nd2501 44 2 rfl
theorem eF12_land_143 : m_Fe mi12_101 143 (m_ap [(.iconst 0, 1), (.istore 5, 2)] ([])) := m_Fe_of nd2501 61 2 rfl
theorem eF12_land_193 : m_Fe mi12_101 193 (m_ap [(.aload_n 0, 1), (.iload_n 1, 1)] ((.invokevirtual 259, 3) :: (m_ap [(.i2l, 1)] ([(.lreturn, 1)])))) := m_Fe_of nd2501 88 5 rfl
theorem eF12_land_200 : m_Fe mi12_101 200 (m_ap [(.aload_n 0, 1), (.iload_n 1, 1), (.iconst 0, 1)] ((.invokevirtual 384, 3) :: ([(.lreturn, 1)]))) := m_Fe_of nd2501 93 5 rfl
theorem eF12_land_207 : m_Fe mi12_101 207 (m_ap [(.aload_n 0, 1), (.iload_n 1, 1), (.iconst 1, 1)] ((.invokevirtual 384, 3) :: ([(.lreturn, 1)]))) := m_Fe_of nd2501 98 5 rfl
theorem eF12_land_117 : m_Fe mi12_101 117 (m_ap [(.iload 5, 2), (.bipush 8, 2)] ([(.if_icmp .ge 20, 3)])) := m_Fe_of nd2501 46 3 rfl
theorem eF12_land_141 : m_Fe mi12_101 141 (m_ap [(.lload_n 3, 1)] ([(.lreturn, 1)])) := m_Fe_of nd2501 59 2 rfl
theorem eF12_land_124 : m_Fe mi12_101 124 (m_ap [(.lload_n 3, 1), (.aload_n 0, 1), (.iload_n 1, 1), (.iload 5, 2)] ((.invokevirtual 350, 3) :: (m_ap [(.i2l, 1), (.ladd, 1), (.lstore_n 3, 1), (.iinc 5 1, 3)] ([(.goto (-21), 3)])))) := m_Fe_of nd2501 49 10 rfl
theorem eF12_land_146 : m_Fe mi12_101 146 (m_ap [(.iload 5, 2), (.aload_n 0, 1)] ((.getfield 14, 3) :: (m_ap [(.sipush 807, 3)] ((.iaload, 1) :: ([(.if_icmp .ge 35, 3)]))))) := m_Fe_of nd2501 63 6 rfl
theorem eF12_land_191 : m_Fe mi12_101 191 (m_ap [(.lload_n 3, 1)] ([(.lreturn, 1)])) := m_Fe_of nd2501 86 2 rfl
theorem eF12_land_159 : m_Fe mi12_101 159 (m_ap [(.lload_n 3, 1), (.aload_n 0, 1), (.iload 5, 2), (.iload_n 1, 1)] ((.invokevirtual 347, 3) :: ([(.ifCond .eq 15, 3)]))) := m_Fe_of nd2501 69 6 rfl
theorem eF12_land_182 : m_Fe mi12_101 182 (m_ap [(.lconst 0, 1)] ([])) := m_Fe_of nd2501 81 1 rfl
theorem eF12_land_183 : m_Fe mi12_101 183 (m_ap [(.ladd, 1), (.lstore_n 3, 1), (.iinc 5 1, 3)] ([(.goto (-42), 3)])) := m_Fe_of nd2501 82 4 rfl
theorem eF12_land_170 : m_Fe mi12_101 170 (m_ap [(.aload_n 0, 1), (.iload 5, 2), (.bipush 16, 2)] ((.invokevirtual 115, 3) :: (m_ap [(.i2l, 1)] ([(.goto 4, 3)])))) := m_Fe_of nd2501 75 6 rfl
theorem SF12_land_117b {xs : Nat → Int32} {L : Nat} (x0 : Nat) (x1 : Int32) (hp : m_H) (s : Int64 × Int32) {r : m_O × m_H} {K : ((Int64 × Int32) ⊕ (Int64 × m_H)) → Prop} (k0 : ∀ x, K (.inr x) → r = (.inl (some (.long x.1)), x.2)) (k1 : ∀ s, K (.inl s) → m_Rn xs L 8 2501 117 [(0, .ref x0), (1, .int x1), (3, .long s.1), (5, .int s.2)] [] hp r) {t : (Int64 × Int32) ⊕ (Int64 × m_H)} (h : F12_land_117b x0 x1 hp s = some t) (hK : K t) : m_Rn xs L 8 2501 117 [(0, .ref x0), (1, .int x1), (3, .long s.1), (5, .int s.2)] [] hp r := by
  unfold F12_land_117b at h
  refine g_in eF12_land_117 mx2501 ?_
  refine g_ch [(0, .ref x0), (1, .int x1), (3, .long s.1), (5, .int s.2)] [.int 8, .int s.2] (pc' := 121) rfl rfl rfl ?_
  rcases m_ifd h with ⟨c1, h⟩ | ⟨c1, h⟩
  · refine g_if (t := 141) rfl (m_geT c1) ?_
    refine g_in eF12_land_141 mx2501 ?_
    refine g_ch [(0, .ref x0), (1, .int x1), (3, .long s.1), (5, .int s.2)] [.long s.1] (pc' := 142) rfl rfl rfl ?_
    cases h
    rw [k0 _ hK]
    exact g_lret rfl
  · refine g_ifn (t := 141) rfl (m_geF c1) ?_
    refine g_in eF12_land_124 mx2501 ?_
    refine g_ch [(0, .ref x0), (1, .int x1), (3, .long s.1), (5, .int s.2)] [.int s.2, .int x1, .ref x0, .long s.1] (pc' := 129) rfl rfl rfl ?_
    obtain ⟨v3, e2, h⟩ := m_bd h
    refine g_call (v := some (.int v3)) (h := hp) (st' := [.int v3, .long s.1]) (D1 := 3) (as := [.ref x0, .int x1, .int s.2]) (Or.inr (Or.inl rfl)) q12_m350 (m_cv (as := [.int s.2, .int x1]) (rest := [.long s.1]) (Or.inl rfl) q12_m350 jv2490 (OF12_landedOf e2) rfl rfl rfl rfl) (by decide) (SF12_landedOf e2) rfl ?_
    refine g_ch [(5, .int (s.2 + 1)), (3, .long (s.1 + (m_i2l v3))), (0, .ref x0), (1, .int x1)] [] (pc' := 138) rfl rfl rfl ?_
    refine g_goto (t := 117) rfl ?_
    cases h
    exact r_lv (k1 ((s.1 + (m_i2l v3)), (s.2 + 1)) hK) rfl ⟨rfl, rfl, rfl, rfl, trivial⟩
theorem SF12_land_117 {xs : Nat → Int32} {L : Nat} (x0 : Nat) (x1 : Int32) (x3 : Int64) (x5 : Int32) (hp : m_H) {r : m_O × m_H} {K : Int64 × m_H → Prop} (k0 : ∀ x, K x → r = (.inl (some (.long x.1)), x.2)) {t : Int64 × m_H} (h : F12_land_117 x0 x1 x3 x5 hp = some t) (hK : K t) : m_Rn xs L 8 2501 117 [(0, .ref x0), (1, .int x1), (3, .long x3), (5, .int x5)] [] hp r :=
  m_wh_ok (P := fun s => m_Rn xs L 8 2501 117 [(0, .ref x0), (1, .int x1), (3, .long s.1), (5, .int s.2)] [] hp r) (Q := K) (fun s t hb hK => SF12_land_117b x0 x1 hp s (K := m_KK (fun s => m_Rn xs L 8 2501 117 [(0, .ref x0), (1, .int x1), (3, .long s.1), (5, .int s.2)] [] hp r) K) k0 (fun _ q => q) hb hK) m_N _ _ h hK
theorem SF12_land_146b {xs : Nat → Int32} {L : Nat} (x0 : Nat) (x1 : Int32) (hp : m_H) (s : Int64 × Int32) {r : m_O × m_H} {K : ((Int64 × Int32) ⊕ (Int64 × m_H)) → Prop} (k0 : ∀ x, K (.inr x) → r = (.inl (some (.long x.1)), x.2)) (k1 : ∀ s, K (.inl s) → m_Rn xs L 8 2501 146 [(0, .ref x0), (1, .int x1), (3, .long s.1), (5, .int s.2)] [] hp r) {t : (Int64 × Int32) ⊕ (Int64 × m_H)} (h : F12_land_146b x0 x1 hp s = some t) (hK : K t) : m_Rn xs L 8 2501 146 [(0, .ref x0), (1, .int x1), (3, .long s.1), (5, .int s.2)] [] hp r := by
  unfold F12_land_146b at h
  refine g_in eF12_land_146 mx2501 ?_
  refine g_ch [(0, .ref x0), (1, .int x1), (3, .long s.1), (5, .int s.2)] [.ref x0, .int s.2] (pc' := 149) rfl rfl rfl ?_
  obtain ⟨v1, e2, h⟩ := m_bd h
  refine g_gr q12_f14 e2 ?_
  refine g_ch [(0, .ref x0), (1, .int x1), (3, .long s.1), (5, .int s.2)] [.int 807, .ref v1, .int s.2] (pc' := 155) rfl rfl rfl ?_
  obtain ⟨v3, e4, h⟩ := m_bd h
  refine g_ia e4 ?_
  rcases m_ifd h with ⟨c5, h⟩ | ⟨c5, h⟩
  · refine g_if (t := 191) rfl (m_geT c5) ?_
    refine g_in eF12_land_191 mx2501 ?_
    refine g_ch [(0, .ref x0), (1, .int x1), (3, .long s.1), (5, .int s.2)] [.long s.1] (pc' := 192) rfl rfl rfl ?_
    cases h
    rw [k0 _ hK]
    exact g_lret rfl
  · refine g_ifn (t := 191) rfl (m_geF c5) ?_
    refine g_in eF12_land_159 mx2501 ?_
    refine g_ch [(0, .ref x0), (1, .int x1), (3, .long s.1), (5, .int s.2)] [.int x1, .int s.2, .ref x0, .long s.1] (pc' := 164) rfl rfl rfl ?_
    obtain ⟨v7, e6, h⟩ := m_bd h
    refine g_call (v := some (.int v7)) (h := hp) (st' := [.int v7, .long s.1]) (D1 := 2) (as := [.ref x0, .int s.2, .int x1]) (Or.inr (Or.inl rfl)) q12_m347 (m_cv (as := [.int x1, .int s.2]) (rest := [.long s.1]) (Or.inl rfl) q12_m347 jv2431 (OF12_isFor e6) rfl rfl rfl rfl) (by decide) (SF12_isFor e6) rfl ?_
    rcases m_ifd h with ⟨c8, h⟩ | ⟨c8, h⟩
    · refine g_ifc (t := 182) rfl (m_eqT c8) ?_
      refine g_in eF12_land_182 mx2501 ?_
      refine g_ch [(0, .ref x0), (1, .int x1), (3, .long s.1), (5, .int s.2)] [.long 0, .long s.1] (pc' := 183) rfl rfl rfl ?_
      refine g_end ?_
      refine g_in eF12_land_183 mx2501 ?_
      refine g_ch [(5, .int (s.2 + 1)), (3, .long (s.1 + 0)), (0, .ref x0), (1, .int x1)] [] (pc' := 188) rfl rfl rfl ?_
      refine g_goto (t := 146) rfl ?_
      cases h
      exact r_lv (k1 ((s.1 + 0), (s.2 + 1)) hK) rfl ⟨rfl, rfl, rfl, rfl, trivial⟩
    · refine g_ifcn (t := 182) rfl (m_eqF c8) ?_
      refine g_in eF12_land_170 mx2501 ?_
      refine g_ch [(0, .ref x0), (1, .int x1), (3, .long s.1), (5, .int s.2)] [.int 16, .int s.2, .ref x0, .long s.1] (pc' := 175) rfl rfl rfl ?_
      obtain ⟨v10, e9, h⟩ := m_bd h
      refine g_call (v := some (.int v10)) (h := hp) (st' := [.int v10, .long s.1]) (D1 := 1) (as := [.ref x0, .int s.2, .int 16]) (Or.inr (Or.inl rfl)) q12_m115 (m_cv (as := [.int 16, .int s.2]) (rest := [.long s.1]) (Or.inl rfl) q12_m115 jv2426 (OF12_of e9) rfl rfl rfl rfl) (by decide) (SF12_of e9) rfl ?_
      refine g_ch [(0, .ref x0), (1, .int x1), (3, .long s.1), (5, .int s.2)] [.long (m_i2l v10), .long s.1] (pc' := 179) rfl rfl rfl ?_
      refine g_goto (t := 183) rfl ?_
      refine g_in eF12_land_183 mx2501 ?_
      refine g_ch [(5, .int (s.2 + 1)), (3, .long (s.1 + (m_i2l v10))), (0, .ref x0), (1, .int x1)] [] (pc' := 188) rfl rfl rfl ?_
      refine g_goto (t := 146) rfl ?_
      cases h
      exact r_lv (k1 ((s.1 + (m_i2l v10)), (s.2 + 1)) hK) rfl ⟨rfl, rfl, rfl, rfl, trivial⟩
theorem SF12_land_146 {xs : Nat → Int32} {L : Nat} (x0 : Nat) (x1 : Int32) (x3 : Int64) (x5 : Int32) (hp : m_H) {r : m_O × m_H} {K : Int64 × m_H → Prop} (k0 : ∀ x, K x → r = (.inl (some (.long x.1)), x.2)) {t : Int64 × m_H} (h : F12_land_146 x0 x1 x3 x5 hp = some t) (hK : K t) : m_Rn xs L 8 2501 146 [(0, .ref x0), (1, .int x1), (3, .long x3), (5, .int x5)] [] hp r :=
  m_wh_ok (P := fun s => m_Rn xs L 8 2501 146 [(0, .ref x0), (1, .int x1), (3, .long s.1), (5, .int s.2)] [] hp r) (Q := K) (fun s t hb hK => SF12_land_146b x0 x1 hp s (K := m_KK (fun s => m_Rn xs L 8 2501 146 [(0, .ref x0), (1, .int x1), (3, .long s.1), (5, .int s.2)] [] hp r) K) k0 (fun _ q => q) hb hK) m_N _ _ h hK
theorem SF12_land_27 {xs : Nat → Int32} {L : Nat} (x0 : Nat) (x1 : Int32) (x2 : Int32) (s0 : Int32) (s1 : Nat) (hp : m_H) {r : m_O × m_H} {K : (Int64 × m_H) → Prop} (k0 : ∀ x, K x → r = (.inl (some (.long x.1)), x.2)) {t : Int64 × m_H} (h : F12_land_27 x0 x1 x2 s0 s1 hp = some t) (hK : K t) : m_Rn xs L 8 2501 27 [(0, .ref x0), (1, .int x1), (2, .int x2)] [.int s0, .ref s1] hp r := by
  unfold F12_land_27 at h
  refine g_in eF12_land_27 mx2501 ?_
  refine g_ch [(0, .ref x0), (1, .int x1), (2, .int x2)] [.int 2, .int s0, .ref s1] (pc' := 28) rfl rfl rfl ?_
  obtain ⟨z2, e1, h⟩ := m_bd h
  refine g_call (v := some (.int z2.1)) (h := z2.2) (st' := [.int z2.1]) (D1 := 0) (as := [.ref s1, .int s0, .int 2]) (Or.inr (Or.inl rfl)) q12_m82 (m_cv (as := [.int 2, .int s0]) (rest := []) (Or.inl rfl) q12_m82 jv2401 (OF12_throwsIf e1) rfl rfl rfl rfl) (by decide) (SF12_throwsIf e1) rfl ?_
  rcases m_ifd h with ⟨c3, h⟩ | ⟨c3, h⟩
  · refine g_ifc (t := 36) rfl (m_eqT c3) ?_
    refine g_in eF12_land_36 mx2501 ?_
    refine g_ch [(3, .long 0), (0, .ref x0), (1, .int x1), (2, .int x2)] [.int x2] (pc' := 39) rfl rfl rfl ?_
    rcases m_swd h with ⟨e5, h⟩ | ⟨w4, e5, h⟩
    · refine g_swd e5 (t := 214) rfl ?_
      refine g_in eF12_land_214 mx2501 ?_
      refine g_ch [(3, .long 0), (0, .ref x0), (1, .int x1), (2, .int x2)] [.int 3, .ref x0] (pc' := 216) rfl rfl rfl ?_
      obtain ⟨h6, e7, h⟩ := m_bd h
      refine g_pf q12_f3 e7 ?_
      refine g_ch [(3, .long 0), (0, .ref x0), (1, .int x1), (2, .int x2)] [.long 0] (pc' := 220) rfl rfl rfl ?_
      cases h
      rw [k0 _ hK]
      exact g_lret rfl
    · rcases m_ifd h with ⟨c8, hc8⟩ | ⟨c8, h⟩
      · subst c8
        have h := hc8
        refine g_sw (o := 45) (t := 84) e5 rfl rfl ?_
        refine g_in eF12_land_84 mx2501 ?_
        refine g_ch [(3, .long 0), (0, .ref x0), (1, .int x1), (2, .int x2)] [.ref x0] (pc' := 85) rfl rfl rfl ?_
        obtain ⟨v9, e10, h⟩ := m_bd h
        refine g_gr q12_f14 e10 ?_
        refine g_ch [(3, .long 0), (0, .ref x0), (1, .int x1), (2, .int x2)] [.int 0, .int x1, .ref v9] (pc' := 90) rfl rfl rfl ?_
        obtain ⟨v12, e11, h⟩ := m_bd h
        refine g_call (v := some (.int v12)) (h := z2.2) (st' := [.int v12, .ref v9]) (D1 := 0) (as := [.int x1, .int 0]) (Or.inl rfl) q12_m106 (m_cs (as := [.int 0, .int x1]) (rest := [.ref v9]) q12_m106 jv2413 rfl rfl rfl rfl rfl) (by decide) (SF12_landAt e11) rfl ?_
        obtain ⟨v13, e14, h⟩ := m_bd h
        refine g_ia e14 ?_
        refine g_ch [(3, .long 0), (0, .ref x0), (1, .int x1), (2, .int x2)] [.long (m_i2l v13)] (pc' := 95) rfl rfl rfl ?_
        cases h
        rw [k0 _ hK]
        exact g_lret rfl
      rcases m_ifd h with ⟨c15, hc15⟩ | ⟨c15, h⟩
      · subst c15
        have h := hc15
        refine g_sw (o := 57) (t := 96) e5 rfl rfl ?_
        refine g_in eF12_land_96 mx2501 ?_
        refine g_ch [(3, .long 0), (0, .ref x0), (1, .int x1), (2, .int x2)] [.ref x0] (pc' := 97) rfl rfl rfl ?_
        obtain ⟨v16, e17, h⟩ := m_bd h
        refine g_gr q12_f14 e17 ?_
        refine g_ch [(3, .long 0), (0, .ref x0), (1, .int x1), (2, .int x2)] [.int 1, .int x1, .ref v16] (pc' := 102) rfl rfl rfl ?_
        obtain ⟨v19, e18, h⟩ := m_bd h
        refine g_call (v := some (.int v19)) (h := z2.2) (st' := [.int v19, .ref v16]) (D1 := 0) (as := [.int x1, .int 1]) (Or.inl rfl) q12_m106 (m_cs (as := [.int 1, .int x1]) (rest := [.ref v16]) q12_m106 jv2413 rfl rfl rfl rfl rfl) (by decide) (SF12_landAt e18) rfl ?_
        obtain ⟨v20, e21, h⟩ := m_bd h
        refine g_ia e21 ?_
        refine g_ch [(3, .long 0), (0, .ref x0), (1, .int x1), (2, .int x2)] [.long (m_i2l v20)] (pc' := 107) rfl rfl rfl ?_
        cases h
        rw [k0 _ hK]
        exact g_lret rfl
      rcases m_ifd h with ⟨c22, hc22⟩ | ⟨c22, h⟩
      · subst c22
        have h := hc22
        refine g_sw (o := 69) (t := 108) e5 rfl rfl ?_
        refine g_in eF12_land_108 mx2501 ?_
        refine g_ch [(3, .long 0), (0, .ref x0), (1, .int x1), (2, .int x2)] [.int x1, .ref x0] (pc' := 110) rfl rfl rfl ?_
        obtain ⟨v24, e23, h⟩ := m_bd h
        refine g_call (v := some (.long v24)) (h := z2.2) (st' := [.long v24]) (D1 := 3) (as := [.ref x0, .int x1]) (Or.inr (Or.inl rfl)) q12_m380 (m_cv (as := [.int x1]) (rest := []) (Or.inl rfl) q12_m380 jv2495 (OF12_owedBy e23) rfl rfl rfl rfl) (by decide) (SF12_owedBy e23) rfl ?_
        cases h
        rw [k0 _ hK]
        exact g_lret rfl
      rcases m_ifd h with ⟨c25, hc25⟩ | ⟨c25, h⟩
      · subst c25
        have h := hc25
        refine g_sw (o := 75) (t := 114) e5 rfl rfl ?_
        refine g_in eF12_land_114 mx2501 ?_
        refine g_ch [(5, .int 0), (3, .long 0), (0, .ref x0), (1, .int x1), (2, .int x2)] [] (pc' := 117) rfl rfl rfl ?_
        refine g_end ?_
        exact r_lv (SF12_land_117 x0 x1 0 0 z2.2 (K := K) k0 h hK) rfl ⟨rfl, rfl, rfl, rfl, trivial⟩
      rcases m_ifd h with ⟨c26, hc26⟩ | ⟨c26, h⟩
      · subst c26
        have h := hc26
        refine g_sw (o := 104) (t := 143) e5 rfl rfl ?_
        refine g_in eF12_land_143 mx2501 ?_
        refine g_ch [(5, .int 0), (3, .long 0), (0, .ref x0), (1, .int x1), (2, .int x2)] [] (pc' := 146) rfl rfl rfl ?_
        refine g_end ?_
        exact r_lv (SF12_land_146 x0 x1 0 0 z2.2 (K := K) k0 h hK) rfl ⟨rfl, rfl, rfl, rfl, trivial⟩
      rcases m_ifd h with ⟨c27, hc27⟩ | ⟨c27, h⟩
      · subst c27
        have h := hc27
        refine g_sw (o := 154) (t := 193) e5 rfl rfl ?_
        refine g_in eF12_land_193 mx2501 ?_
        refine g_ch [(3, .long 0), (0, .ref x0), (1, .int x1), (2, .int x2)] [.int x1, .ref x0] (pc' := 195) rfl rfl rfl ?_
        obtain ⟨v29, e28, h⟩ := m_bd h
        refine g_call (v := some (.int v29)) (h := z2.2) (st' := [.int v29]) (D1 := 1) (as := [.ref x0, .int x1]) (Or.inr (Or.inl rfl)) q12_m259 (m_cv (as := [.int x1]) (rest := []) (Or.inl rfl) q12_m259 jv2500 (OF12_leased e28) rfl rfl rfl rfl) (by decide) (SF12_leased e28) rfl ?_
        refine g_ch [(3, .long 0), (0, .ref x0), (1, .int x1), (2, .int x2)] [.long (m_i2l v29)] (pc' := 199) rfl rfl rfl ?_
        cases h
        rw [k0 _ hK]
        exact g_lret rfl
      rcases m_ifd h with ⟨c30, hc30⟩ | ⟨c30, h⟩
      · subst c30
        have h := hc30
        refine g_sw (o := 161) (t := 200) e5 rfl rfl ?_
        refine g_in eF12_land_200 mx2501 ?_
        refine g_ch [(3, .long 0), (0, .ref x0), (1, .int x1), (2, .int x2)] [.int 0, .int x1, .ref x0] (pc' := 203) rfl rfl rfl ?_
        obtain ⟨v32, e31, h⟩ := m_bd h
        refine g_call (v := some (.long v32)) (h := z2.2) (st' := [.long v32]) (D1 := 7) (as := [.ref x0, .int x1, .int 0]) (Or.inr (Or.inl rfl)) q12_m384 (m_cv (as := [.int 0, .int x1]) (rest := []) (Or.inl rfl) q12_m384 jv2499 (OF12_missing e31) rfl rfl rfl rfl) (by decide) (SF12_missing e31) rfl ?_
        cases h
        rw [k0 _ hK]
        exact g_lret rfl
      rcases m_ifd h with ⟨c33, hc33⟩ | ⟨c33, h⟩
      · subst c33
        have h := hc33
        refine g_sw (o := 168) (t := 207) e5 rfl rfl ?_
        refine g_in eF12_land_207 mx2501 ?_
        refine g_ch [(3, .long 0), (0, .ref x0), (1, .int x1), (2, .int x2)] [.int 1, .int x1, .ref x0] (pc' := 210) rfl rfl rfl ?_
        obtain ⟨v35, e34, h⟩ := m_bd h
        refine g_call (v := some (.long v35)) (h := z2.2) (st' := [.long v35]) (D1 := 7) (as := [.ref x0, .int x1, .int 1]) (Or.inr (Or.inl rfl)) q12_m384 (m_cv (as := [.int 1, .int x1]) (rest := []) (Or.inl rfl) q12_m384 jv2499 (OF12_missing e34) rfl rfl rfl rfl) (by decide) (SF12_missing e34) rfl ?_
        cases h
        rw [k0 _ hK]
        exact g_lret rfl
      cases h
  · refine g_ifcn (t := 36) rfl (m_eqF c3) ?_
    refine g_in eF12_land_34 mx2501 ?_
    refine g_ch [(0, .ref x0), (1, .int x1), (2, .int x2)] [.long 0] (pc' := 35) rfl rfl rfl ?_
    cases h
    rw [k0 _ hK]
    exact g_lret rfl
theorem SF12_land_0 {xs : Nat → Int32} {L : Nat} (x0 : Nat) (x1 : Int32) (x2 : Int32) (hp : m_H) {r : m_O × m_H} {K : (Int64 × m_H) → Prop} (k0 : ∀ x, K x → r = (.inl (some (.long x.1)), x.2)) {t : Int64 × m_H} (h : F12_land_0 x0 x1 x2 hp = some t) (hK : K t) : m_Rn xs L 8 2501 0 [(0, .ref x0), (1, .int x1), (2, .int x2)] [] hp r := by
  unfold F12_land_0 at h
  refine g_in eF12_land_0 mx2501 ?_
  refine g_ch [(0, .ref x0), (1, .int x1), (2, .int x2)] [.int 0, .ref x0] (pc' := 2) rfl rfl rfl ?_
  obtain ⟨h1, e2, h⟩ := m_bd h
  refine g_pf q12_f3 e2 ?_
  refine g_ch [(0, .ref x0), (1, .int x1), (2, .int x2)] [.int x1, .ref x0] (pc' := 7) rfl rfl rfl ?_
  obtain ⟨v4, e3, h⟩ := m_bd h
  refine g_call (v := some (.int v4)) (h := h1) (st' := [.int v4, .ref x0]) (D1 := 1) (as := [.int x1]) (Or.inl rfl) q12_m103 (m_cs (as := [.int x1]) (rest := [.ref x0]) q12_m103 jv2411 rfl rfl rfl rfl rfl) (by decide) (SF12_noLand e3) rfl ?_
  refine g_ch [(0, .ref x0), (1, .int x1), (2, .int x2)] [.int 1, .int v4, .ref x0] (pc' := 11) rfl rfl rfl ?_
  obtain ⟨z6, e5, h⟩ := m_bd h
  refine g_call (v := some (.int z6.1)) (h := z6.2) (st' := [.int z6.1]) (D1 := 0) (as := [.ref x0, .int v4, .int 1]) (Or.inr (Or.inl rfl)) q12_m82 (m_cv (as := [.int 1, .int v4]) (rest := []) (Or.inl rfl) q12_m82 jv2401 (OF12_throwsIf e5) rfl rfl rfl rfl) (by decide) (SF12_throwsIf e5) rfl ?_
  rcases m_ifd h with ⟨c7, h⟩ | ⟨c7, h⟩
  · refine g_ifcn (t := 34) rfl (m_neF c7) ?_
    refine g_in eF12_land_17 mx2501 ?_
    refine g_ch [(0, .ref x0), (1, .int x1), (2, .int x2)] [.int x1, .ref x0] (pc' := 19) rfl rfl rfl ?_
    rcases m_ifd h with ⟨c8, h⟩ | ⟨c8, h⟩
    · refine g_ifcn (t := 26) rfl (m_neF c8) ?_
      refine g_in eF12_land_22 mx2501 ?_
      refine g_ch [(0, .ref x0), (1, .int x1), (2, .int x2)] [.int 1, .ref x0] (pc' := 23) rfl rfl rfl ?_
      refine g_goto (t := 27) rfl ?_
      exact r_lv (SF12_land_27 x0 x1 x2 1 x0 z6.2 (K := K) k0 h hK) rfl ⟨rfl, rfl, rfl, trivial⟩
    · refine g_ifc (t := 26) rfl (m_neT c8) ?_
      refine g_in eF12_land_26 mx2501 ?_
      refine g_ch [(0, .ref x0), (1, .int x1), (2, .int x2)] [.int 0, .ref x0] (pc' := 27) rfl rfl rfl ?_
      refine g_end ?_
      exact r_lv (SF12_land_27 x0 x1 x2 0 x0 z6.2 (K := K) k0 h hK) rfl ⟨rfl, rfl, rfl, trivial⟩
  · refine g_ifc (t := 34) rfl (m_neT c7) ?_
    refine g_in eF12_land_34 mx2501 ?_
    refine g_ch [(0, .ref x0), (1, .int x1), (2, .int x2)] [.long 0] (pc' := 35) rfl rfl rfl ?_
    cases h
    rw [k0 _ hK]
    exact g_lret rfl
theorem OF12_land {x0 : Nat} {x1 : Int32} {x2 : Int32} {hp : m_H} {x : Int64 × m_H} (h : F12_land x0 x1 x2 hp = some x) : m_isO hp 9 x0 = true := (m_gdd h).1
theorem SF12_land {xs : Nat → Int32} {L : Nat} {x0 : Nat} {x1 : Int32} {x2 : Int32} {hp : m_H} {x : Int64 × m_H} (h : F12_land x0 x1 x2 hp = some x) : m_Rn xs L 8 2501 0 (lv_args 0 [.ref x0, .int x1, .int x2]) [] hp (.inl (some (.long x.1)), x.2) :=
  r_lv (SF12_land_0 x0 x1 x2 hp (K := fun y => y = x) (fun y e => by rw [e]) (m_gdd h).2 rfl) rfl ⟨rfl, rfl, rfl, trivial⟩
-- F12_balance: LendHouseModel.balance(III)J
theorem eF12_balance_0 : m_Fe mi12_102 0 (m_ap [(.aload_n 0, 1), (.iconst 0, 1)] ((.putfield 3, 3) :: (m_ap [(.aload_n 0, 1), (.iload_n 1, 1)] ((.invokestatic 103, 3) :: (m_ap [(.iconst 1, 1)] ((.invokevirtual 82, 3) :: ([(.ifCond .ne 42, 3)]))))))) := m_Fe_of nd2502 0 9 rfl
theorem eF12_balance_56 : m_Fe mi12_102 56 (m_ap [(.lconst 0, 1)] ([(.lreturn, 1)])) := m_Fe_of nd2502 30 2 rfl
theorem eF12_balance_17 : m_Fe mi12_102 17 (m_ap [(.aload_n 0, 1), (.iload_n 1, 1)] ([(.ifCond .ne 7, 3)])) := m_Fe_of nd2502 9 3 rfl
theorem eF12_balance_26 : m_Fe mi12_102 26 (m_ap [(.iconst 0, 1)] ([])) := m_Fe_of nd2502 14 1 rfl
theorem eF12_balance_22 : m_Fe mi12_102 22 (m_ap [(.iconst 1, 1)] ([(.goto 4, 3)])) := m_Fe_of nd2502 12 2 rfl
theorem eF12_balance_27 : m_Fe mi12_102 27 (m_ap [(.iconst 2, 1)] ((.invokevirtual 82, 3) :: ([(.ifCond .ne 25, 3)]))) := m_Fe_of nd2502 15 3 rfl
theorem eF12_balance_34 : m_Fe mi12_102 34 (m_ap [(.aload_n 0, 1), (.iload_n 2, 1), (.iconst 0, 1), (.iconst 2, 1)] ((.invokestatic 74, 3) :: ([(.ifCond .ne 7, 3)]))) := m_Fe_of nd2502 18 6 rfl
theorem eF12_balance_48 : m_Fe mi12_102 48 (m_ap [(.iconst 0, 1)] ([])) := m_Fe_of nd2502 26 1 rfl
theorem eF12_balance_44 : m_Fe mi12_102 44 (m_ap [(.iconst 1, 1)] ([(.goto 4, 3)])) := m_Fe_of nd2502 24 2 rfl
theorem eF12_balance_49 : m_Fe mi12_102 49 (m_ap [(.iconst 3, 1)] ((.invokevirtual 82, 3) :: ([(.ifCond .eq 5, 3)]))) := m_Fe_of nd2502 27 3 rfl
theorem eF12_balance_58 : m_Fe mi12_102 58 (m_ap [(.lconst 0, 1), (.lstore 4, 2), (.iconst 0, 1), (.istore 6, 2)] ([])) := m_Fe_of nd2502 32 4 rfl
theorem eF12_balance_64 : m_Fe mi12_102 64 (m_ap [(.iload 6, 2), (.bipush 8, 2)] ([(.if_icmp .ge 144, 3)])) := m_Fe_of nd2502 36 3 rfl
theorem eF12_balance_212 : m_Fe mi12_102 212 (m_ap [(.lload 4, 2)] ([(.lreturn, 1)])) := m_Fe_of nd2502 113 2 rfl
theorem eF12_balance_71 : m_Fe mi12_102 71 (m_ap [(.aload_n 0, 1)] ((.getfield 14, 3) :: (m_ap [(.bipush 109, 2), (.iload_n 1, 1), (.iload 6, 2)] ((.invokestatic 109, 3) :: ((.iaload, 1) :: (m_ap [(.i2l, 1), (.lstore 7, 2), (.iconst 0, 1), (.istore 9, 2)] ([]))))))) := m_Fe_of nd2502 39 11 rfl
theorem eF12_balance_90 : m_Fe mi12_102 90 (m_ap [(.iload 9, 2), (.aload_n 0, 1)] ((.getfield 14, 3) :: (m_ap [(.sipush 807, 3)] ((.iaload, 1) :: ([(.if_icmp .ge 61, 3)]))))) := m_Fe_of nd2502 50 6 rfl
theorem eF12_balance_161 : m_Fe mi12_102 161 (m_ap [(.lload 4, 2), (.lload 7, 2), (.iload_n 2, 1)] ([(.ifCond .ne 13, 3)])) := m_Fe_of nd2502 86 4 rfl
theorem eF12_balance_179 : m_Fe mi12_102 179 (m_ap [(.iload_n 2, 1), (.iconst 1, 1)] ([(.if_icmp .ne 13, 3)])) := m_Fe_of nd2502 95 3 rfl
theorem eF12_balance_194 : m_Fe mi12_102 194 (m_ap [(.aload_n 0, 1), (.iload 6, 2), (.iconst 0, 1)] ([(.invokevirtual 256, 3)])) := m_Fe_of nd2502 103 4 rfl
theorem eF12_balance_184 : m_Fe mi12_102 184 (m_ap [(.aload_n 0, 1), (.iload 6, 2), (.iconst 2, 1)] ((.invokevirtual 256, 3) :: ([(.goto 10, 3)]))) := m_Fe_of nd2502 98 5 rfl
theorem eF12_balance_169 : m_Fe mi12_102 169 (m_ap [(.aload_n 0, 1), (.iload 6, 2), (.iload_n 3, 1)] ((.invokevirtual 98, 3) :: ([(.goto 25, 3)]))) := m_Fe_of nd2502 90 5 rfl
theorem eF12_balance_103 : m_Fe mi12_102 103 (m_ap [(.lload 7, 2), (.aload_n 0, 1), (.iload 9, 2), (.iconst 2, 1)] ((.invokevirtual 115, 3) :: (m_ap [(.iload_n 1, 1)] ([(.if_icmp .ne 38, 3)])))) := m_Fe_of nd2502 56 7 rfl
theorem eF12_balance_151 : m_Fe mi12_102 151 (m_ap [(.lconst 0, 1)] ([])) := m_Fe_of nd2502 81 1 rfl
theorem eF12_balance_152 : m_Fe mi12_102 152 (m_ap [(.lsub, 1), (.lstore 7, 2), (.iinc 9 1, 3)] ([(.goto (-68), 3)])) := m_Fe_of nd2502 82 4 rfl
theorem eF12_balance_116 : m_Fe mi12_102 116 (m_ap [(.aload_n 0, 1), (.iload 9, 2), (.iconst 3, 1)] ((.invokevirtual 115, 3) :: (m_ap [(.iconst 1, 1)] ([(.if_icmp .ne 27, 3)])))) := m_Fe_of nd2502 63 6 rfl
theorem eF12_balance_127 : m_Fe mi12_102 127 (m_ap [(.aload_n 0, 1), (.iload 9, 2), (.iconst 0, 1)] ((.invokevirtual 115, 3) :: (m_ap [(.iload 6, 2)] ([(.if_icmp .ne 15, 3)])))) := m_Fe_of nd2502 69 6 rfl
theorem eF12_balance_139 : m_Fe mi12_102 139 (m_ap [(.aload_n 0, 1), (.iload 9, 2), (.bipush 17, 2)] ((.invokevirtual 115, 3) :: (m_ap [(.i2l, 1)] ([(.goto 4, 3)])))) := m_Fe_of nd2502 75 6 rfl
theorem eF12_balance_201 : m_Fe mi12_102 201 (m_ap [(.i2l, 1), (.lmul, 1), (.ladd, 1), (.lstore 4, 2), (.iinc 6 1, 3)] ([(.goto (-145), 3)])) := m_Fe_of nd2502 107 6 rfl
theorem SF12_balance_201 {xs : Nat → Int32} {L : Nat} (x0 : Nat) (x1 : Int32) (x2 : Int32) (x3 : Int32) (x6 : Int32) (s0 : Int32) (s1 : Int64) (s2 : Int64) (hp : m_H) {r : m_O × m_H} {K : ((Int64 × Int32) ⊕ (Int64 × m_H)) → Prop} (k0 : ∀ x, K (.inr x) → r = (.inl (some (.long x.1)), x.2)) (k1 : ∀ s, K (.inl s) → m_Rn xs L 2 2502 64 [(0, .ref x0), (1, .int x1), (2, .int x2), (3, .int x3), (4, .long s.1), (6, .int s.2)] [] hp r) {t : (Int64 × Int32) ⊕ (Int64 × m_H)} (h : F12_balance_201 x0 x1 x2 x3 x6 s0 s1 s2 hp = some t) (hK : K t) : m_Rn xs L 2 2502 201 [(0, .ref x0), (1, .int x1), (2, .int x2), (3, .int x3), (6, .int x6)] [.int s0, .long s1, .long s2] hp r := by
  unfold F12_balance_201 at h
  refine g_in eF12_balance_201 mx2502 ?_
  refine g_ch [(6, .int (x6 + 1)), (4, .long (s2 + (s1 * (m_i2l s0)))), (0, .ref x0), (1, .int x1), (2, .int x2), (3, .int x3)] [] (pc' := 209) rfl rfl rfl ?_
  refine g_goto (t := 64) rfl ?_
  cases h
  exact r_lv (k1 ((s2 + (s1 * (m_i2l s0))), (x6 + 1)) hK) rfl ⟨rfl, rfl, rfl, rfl, rfl, rfl, trivial⟩
theorem SF12_balance_90b {xs : Nat → Int32} {L : Nat} (x0 : Nat) (x1 : Int32) (x2 : Int32) (x3 : Int32) (x4 : Int64) (x6 : Int32) (hp : m_H) (s : Int64 × Int32) {r : m_O × m_H} {K : ((Int64 × Int32) ⊕ ((Int64 × Int32) ⊕ (Int64 × m_H))) → Prop} (k0 : ∀ x, K (.inr (.inr x)) → r = (.inl (some (.long x.1)), x.2)) (k1 : ∀ s, K (.inr (.inl s)) → m_Rn xs L 2 2502 64 [(0, .ref x0), (1, .int x1), (2, .int x2), (3, .int x3), (4, .long s.1), (6, .int s.2)] [] hp r) (k2 : ∀ s, K (.inl s) → m_Rn xs L 2 2502 90 [(0, .ref x0), (1, .int x1), (2, .int x2), (3, .int x3), (4, .long x4), (6, .int x6), (7, .long s.1), (9, .int s.2)] [] hp r) {t : (Int64 × Int32) ⊕ ((Int64 × Int32) ⊕ (Int64 × m_H))} (h : F12_balance_90b x0 x1 x2 x3 x4 x6 hp s = some t) (hK : K t) : m_Rn xs L 2 2502 90 [(0, .ref x0), (1, .int x1), (2, .int x2), (3, .int x3), (4, .long x4), (6, .int x6), (7, .long s.1), (9, .int s.2)] [] hp r := by
  unfold F12_balance_90b at h
  refine g_in eF12_balance_90 mx2502 ?_
  refine g_ch [(0, .ref x0), (1, .int x1), (2, .int x2), (3, .int x3), (4, .long x4), (6, .int x6), (7, .long s.1), (9, .int s.2)] [.ref x0, .int s.2] (pc' := 93) rfl rfl rfl ?_
  obtain ⟨v1, e2, h⟩ := m_bd h
  refine g_gr q12_f14 e2 ?_
  refine g_ch [(0, .ref x0), (1, .int x1), (2, .int x2), (3, .int x3), (4, .long x4), (6, .int x6), (7, .long s.1), (9, .int s.2)] [.int 807, .ref v1, .int s.2] (pc' := 99) rfl rfl rfl ?_
  obtain ⟨v3, e4, h⟩ := m_bd h
  refine g_ia e4 ?_
  rcases m_ifd h with ⟨c5, h⟩ | ⟨c5, h⟩
  · refine g_if (t := 161) rfl (m_geT c5) ?_
    refine g_in eF12_balance_161 mx2502 ?_
    refine g_ch [(0, .ref x0), (1, .int x1), (2, .int x2), (3, .int x3), (4, .long x4), (6, .int x6), (7, .long s.1), (9, .int s.2)] [.int x2, .long s.1, .long x4] (pc' := 166) rfl rfl rfl ?_
    rcases m_ifd h with ⟨c6, h⟩ | ⟨c6, h⟩
    · refine g_ifcn (t := 179) rfl (m_neF c6) ?_
      refine g_in eF12_balance_169 mx2502 ?_
      refine g_ch [(0, .ref x0), (1, .int x1), (2, .int x2), (3, .int x3), (4, .long x4), (6, .int x6), (7, .long s.1), (9, .int s.2)] [.int x3, .int x6, .ref x0, .long s.1, .long x4] (pc' := 173) rfl rfl rfl ?_
      obtain ⟨v13, e12, h⟩ := m_bd h
      refine g_call (v := some (.int v13)) (h := hp) (st' := [.int v13, .long s.1, .long x4]) (D1 := 1) (as := [.ref x0, .int x6, .int x3]) (Or.inr (Or.inl rfl)) q12_m98 (m_cv (as := [.int x3, .int x6]) (rest := [.long s.1, .long x4]) (Or.inl rfl) q12_m98 jv2419 (OF12_priceOf e12) rfl rfl rfl rfl) (by decide) (SF12_priceOf e12) rfl ?_
      refine g_goto (t := 201) rfl ?_
      obtain ⟨t', h2, rfl⟩ := Option.map_eq_some_iff.mp h
      exact r_lv (SF12_balance_201 x0 x1 x2 x3 x6 v13 s.1 x4 hp (K := fun t => K (.inr t)) k0 k1 h2 hK) rfl ⟨rfl, rfl, rfl, rfl, rfl, trivial⟩
    · refine g_ifc (t := 179) rfl (m_neT c6) ?_
      refine g_in eF12_balance_179 mx2502 ?_
      refine g_ch [(0, .ref x0), (1, .int x1), (2, .int x2), (3, .int x3), (4, .long x4), (6, .int x6), (7, .long s.1), (9, .int s.2)] [.int 1, .int x2, .long s.1, .long x4] (pc' := 181) rfl rfl rfl ?_
      rcases m_ifd h with ⟨c7, h⟩ | ⟨c7, h⟩
      · refine g_ifn (t := 194) rfl (m_neF c7) ?_
        refine g_in eF12_balance_184 mx2502 ?_
        refine g_ch [(0, .ref x0), (1, .int x1), (2, .int x2), (3, .int x3), (4, .long x4), (6, .int x6), (7, .long s.1), (9, .int s.2)] [.int 2, .int x6, .ref x0, .long s.1, .long x4] (pc' := 188) rfl rfl rfl ?_
        obtain ⟨v11, e10, h⟩ := m_bd h
        refine g_call (v := some (.int v11)) (h := hp) (st' := [.int v11, .long s.1, .long x4]) (D1 := 0) (as := [.ref x0, .int x6, .int 2]) (Or.inr (Or.inl rfl)) q12_m256 (m_cv (as := [.int 2, .int x6]) (rest := [.long s.1, .long x4]) (Or.inl rfl) q12_m256 jv2412 (OF12_sortOf e10) rfl rfl rfl rfl) (by decide) (SF12_sortOf e10) rfl ?_
        refine g_goto (t := 201) rfl ?_
        obtain ⟨t', h2, rfl⟩ := Option.map_eq_some_iff.mp h
        exact r_lv (SF12_balance_201 x0 x1 x2 x3 x6 v11 s.1 x4 hp (K := fun t => K (.inr t)) k0 k1 h2 hK) rfl ⟨rfl, rfl, rfl, rfl, rfl, trivial⟩
      · refine g_if (t := 194) rfl (m_neT c7) ?_
        refine g_in eF12_balance_194 mx2502 ?_
        refine g_ch [(0, .ref x0), (1, .int x1), (2, .int x2), (3, .int x3), (4, .long x4), (6, .int x6), (7, .long s.1), (9, .int s.2)] [.int 0, .int x6, .ref x0, .long s.1, .long x4] (pc' := 198) rfl rfl rfl ?_
        obtain ⟨v9, e8, h⟩ := m_bd h
        refine g_call (v := some (.int v9)) (h := hp) (st' := [.int v9, .long s.1, .long x4]) (D1 := 0) (as := [.ref x0, .int x6, .int 0]) (Or.inr (Or.inl rfl)) q12_m256 (m_cv (as := [.int 0, .int x6]) (rest := [.long s.1, .long x4]) (Or.inl rfl) q12_m256 jv2412 (OF12_sortOf e8) rfl rfl rfl rfl) (by decide) (SF12_sortOf e8) rfl ?_
        refine g_end ?_
        obtain ⟨t', h2, rfl⟩ := Option.map_eq_some_iff.mp h
        exact r_lv (SF12_balance_201 x0 x1 x2 x3 x6 v9 s.1 x4 hp (K := fun t => K (.inr t)) k0 k1 h2 hK) rfl ⟨rfl, rfl, rfl, rfl, rfl, trivial⟩
  · refine g_ifn (t := 161) rfl (m_geF c5) ?_
    refine g_in eF12_balance_103 mx2502 ?_
    refine g_ch [(0, .ref x0), (1, .int x1), (2, .int x2), (3, .int x3), (4, .long x4), (6, .int x6), (7, .long s.1), (9, .int s.2)] [.int 2, .int s.2, .ref x0, .long s.1] (pc' := 109) rfl rfl rfl ?_
    obtain ⟨v15, e14, h⟩ := m_bd h
    refine g_call (v := some (.int v15)) (h := hp) (st' := [.int v15, .long s.1]) (D1 := 1) (as := [.ref x0, .int s.2, .int 2]) (Or.inr (Or.inl rfl)) q12_m115 (m_cv (as := [.int 2, .int s.2]) (rest := [.long s.1]) (Or.inl rfl) q12_m115 jv2426 (OF12_of e14) rfl rfl rfl rfl) (by decide) (SF12_of e14) rfl ?_
    refine g_ch [(0, .ref x0), (1, .int x1), (2, .int x2), (3, .int x3), (4, .long x4), (6, .int x6), (7, .long s.1), (9, .int s.2)] [.int x1, .int v15, .long s.1] (pc' := 113) rfl rfl rfl ?_
    rcases m_ifd h with ⟨c16, h⟩ | ⟨c16, h⟩
    · refine g_ifn (t := 151) rfl (m_neF c16) ?_
      refine g_in eF12_balance_116 mx2502 ?_
      refine g_ch [(0, .ref x0), (1, .int x1), (2, .int x2), (3, .int x3), (4, .long x4), (6, .int x6), (7, .long s.1), (9, .int s.2)] [.int 3, .int s.2, .ref x0, .long s.1] (pc' := 120) rfl rfl rfl ?_
      obtain ⟨v18, e17, h⟩ := m_bd h
      refine g_call (v := some (.int v18)) (h := hp) (st' := [.int v18, .long s.1]) (D1 := 1) (as := [.ref x0, .int s.2, .int 3]) (Or.inr (Or.inl rfl)) q12_m115 (m_cv (as := [.int 3, .int s.2]) (rest := [.long s.1]) (Or.inl rfl) q12_m115 jv2426 (OF12_of e17) rfl rfl rfl rfl) (by decide) (SF12_of e17) rfl ?_
      refine g_ch [(0, .ref x0), (1, .int x1), (2, .int x2), (3, .int x3), (4, .long x4), (6, .int x6), (7, .long s.1), (9, .int s.2)] [.int 1, .int v18, .long s.1] (pc' := 124) rfl rfl rfl ?_
      rcases m_ifd h with ⟨c19, h⟩ | ⟨c19, h⟩
      · refine g_ifn (t := 151) rfl (m_neF c19) ?_
        refine g_in eF12_balance_127 mx2502 ?_
        refine g_ch [(0, .ref x0), (1, .int x1), (2, .int x2), (3, .int x3), (4, .long x4), (6, .int x6), (7, .long s.1), (9, .int s.2)] [.int 0, .int s.2, .ref x0, .long s.1] (pc' := 131) rfl rfl rfl ?_
        obtain ⟨v21, e20, h⟩ := m_bd h
        refine g_call (v := some (.int v21)) (h := hp) (st' := [.int v21, .long s.1]) (D1 := 1) (as := [.ref x0, .int s.2, .int 0]) (Or.inr (Or.inl rfl)) q12_m115 (m_cv (as := [.int 0, .int s.2]) (rest := [.long s.1]) (Or.inl rfl) q12_m115 jv2426 (OF12_of e20) rfl rfl rfl rfl) (by decide) (SF12_of e20) rfl ?_
        refine g_ch [(0, .ref x0), (1, .int x1), (2, .int x2), (3, .int x3), (4, .long x4), (6, .int x6), (7, .long s.1), (9, .int s.2)] [.int x6, .int v21, .long s.1] (pc' := 136) rfl rfl rfl ?_
        rcases m_ifd h with ⟨c22, h⟩ | ⟨c22, h⟩
        · refine g_ifn (t := 151) rfl (m_neF c22) ?_
          refine g_in eF12_balance_139 mx2502 ?_
          refine g_ch [(0, .ref x0), (1, .int x1), (2, .int x2), (3, .int x3), (4, .long x4), (6, .int x6), (7, .long s.1), (9, .int s.2)] [.int 17, .int s.2, .ref x0, .long s.1] (pc' := 144) rfl rfl rfl ?_
          obtain ⟨v24, e23, h⟩ := m_bd h
          refine g_call (v := some (.int v24)) (h := hp) (st' := [.int v24, .long s.1]) (D1 := 1) (as := [.ref x0, .int s.2, .int 17]) (Or.inr (Or.inl rfl)) q12_m115 (m_cv (as := [.int 17, .int s.2]) (rest := [.long s.1]) (Or.inl rfl) q12_m115 jv2426 (OF12_of e23) rfl rfl rfl rfl) (by decide) (SF12_of e23) rfl ?_
          refine g_ch [(0, .ref x0), (1, .int x1), (2, .int x2), (3, .int x3), (4, .long x4), (6, .int x6), (7, .long s.1), (9, .int s.2)] [.long (m_i2l v24), .long s.1] (pc' := 148) rfl rfl rfl ?_
          refine g_goto (t := 152) rfl ?_
          refine g_in eF12_balance_152 mx2502 ?_
          refine g_ch [(9, .int (s.2 + 1)), (7, .long (s.1 - (m_i2l v24))), (0, .ref x0), (1, .int x1), (2, .int x2), (3, .int x3), (4, .long x4), (6, .int x6)] [] (pc' := 158) rfl rfl rfl ?_
          refine g_goto (t := 90) rfl ?_
          cases h
          exact r_lv (k2 ((s.1 - (m_i2l v24)), (s.2 + 1)) hK) rfl ⟨rfl, rfl, rfl, rfl, rfl, rfl, rfl, rfl, trivial⟩
        · refine g_if (t := 151) rfl (m_neT c22) ?_
          refine g_in eF12_balance_151 mx2502 ?_
          refine g_ch [(0, .ref x0), (1, .int x1), (2, .int x2), (3, .int x3), (4, .long x4), (6, .int x6), (7, .long s.1), (9, .int s.2)] [.long 0, .long s.1] (pc' := 152) rfl rfl rfl ?_
          refine g_end ?_
          refine g_in eF12_balance_152 mx2502 ?_
          refine g_ch [(9, .int (s.2 + 1)), (7, .long (s.1 - 0)), (0, .ref x0), (1, .int x1), (2, .int x2), (3, .int x3), (4, .long x4), (6, .int x6)] [] (pc' := 158) rfl rfl rfl ?_
          refine g_goto (t := 90) rfl ?_
          cases h
          exact r_lv (k2 ((s.1 - 0), (s.2 + 1)) hK) rfl ⟨rfl, rfl, rfl, rfl, rfl, rfl, rfl, rfl, trivial⟩
      · refine g_if (t := 151) rfl (m_neT c19) ?_
        refine g_in eF12_balance_151 mx2502 ?_
        refine g_ch [(0, .ref x0), (1, .int x1), (2, .int x2), (3, .int x3), (4, .long x4), (6, .int x6), (7, .long s.1), (9, .int s.2)] [.long 0, .long s.1] (pc' := 152) rfl rfl rfl ?_
        refine g_end ?_
        refine g_in eF12_balance_152 mx2502 ?_
        refine g_ch [(9, .int (s.2 + 1)), (7, .long (s.1 - 0)), (0, .ref x0), (1, .int x1), (2, .int x2), (3, .int x3), (4, .long x4), (6, .int x6)] [] (pc' := 158) rfl rfl rfl ?_
        refine g_goto (t := 90) rfl ?_
        cases h
        exact r_lv (k2 ((s.1 - 0), (s.2 + 1)) hK) rfl ⟨rfl, rfl, rfl, rfl, rfl, rfl, rfl, rfl, trivial⟩
    · refine g_if (t := 151) rfl (m_neT c16) ?_
      refine g_in eF12_balance_151 mx2502 ?_
      refine g_ch [(0, .ref x0), (1, .int x1), (2, .int x2), (3, .int x3), (4, .long x4), (6, .int x6), (7, .long s.1), (9, .int s.2)] [.long 0, .long s.1] (pc' := 152) rfl rfl rfl ?_
      refine g_end ?_
      refine g_in eF12_balance_152 mx2502 ?_
      refine g_ch [(9, .int (s.2 + 1)), (7, .long (s.1 - 0)), (0, .ref x0), (1, .int x1), (2, .int x2), (3, .int x3), (4, .long x4), (6, .int x6)] [] (pc' := 158) rfl rfl rfl ?_
      refine g_goto (t := 90) rfl ?_
      cases h
      exact r_lv (k2 ((s.1 - 0), (s.2 + 1)) hK) rfl ⟨rfl, rfl, rfl, rfl, rfl, rfl, rfl, rfl, trivial⟩
theorem SF12_balance_90 {xs : Nat → Int32} {L : Nat} (x0 : Nat) (x1 : Int32) (x2 : Int32) (x3 : Int32) (x4 : Int64) (x6 : Int32) (x7 : Int64) (x9 : Int32) (hp : m_H) {r : m_O × m_H} {K : (Int64 × Int32) ⊕ (Int64 × m_H) → Prop} (k0 : ∀ x, K (.inr x) → r = (.inl (some (.long x.1)), x.2)) (k1 : ∀ s, K (.inl s) → m_Rn xs L 2 2502 64 [(0, .ref x0), (1, .int x1), (2, .int x2), (3, .int x3), (4, .long s.1), (6, .int s.2)] [] hp r) {t : (Int64 × Int32) ⊕ (Int64 × m_H)} (h : F12_balance_90 x0 x1 x2 x3 x4 x6 x7 x9 hp = some t) (hK : K t) : m_Rn xs L 2 2502 90 [(0, .ref x0), (1, .int x1), (2, .int x2), (3, .int x3), (4, .long x4), (6, .int x6), (7, .long x7), (9, .int x9)] [] hp r :=
  m_wh_ok (P := fun s => m_Rn xs L 2 2502 90 [(0, .ref x0), (1, .int x1), (2, .int x2), (3, .int x3), (4, .long x4), (6, .int x6), (7, .long s.1), (9, .int s.2)] [] hp r) (Q := K) (fun s t hb hK => SF12_balance_90b x0 x1 x2 x3 x4 x6 hp s (K := m_KK (fun s => m_Rn xs L 2 2502 90 [(0, .ref x0), (1, .int x1), (2, .int x2), (3, .int x3), (4, .long x4), (6, .int x6), (7, .long s.1), (9, .int s.2)] [] hp r) K) k0 k1 (fun _ q => q) hb hK) m_N _ _ h hK
theorem SF12_balance_64b {xs : Nat → Int32} {L : Nat} (x0 : Nat) (x1 : Int32) (x2 : Int32) (x3 : Int32) (hp : m_H) (s : Int64 × Int32) {r : m_O × m_H} {K : ((Int64 × Int32) ⊕ (Int64 × m_H)) → Prop} (k0 : ∀ x, K (.inr x) → r = (.inl (some (.long x.1)), x.2)) (k1 : ∀ s, K (.inl s) → m_Rn xs L 2 2502 64 [(0, .ref x0), (1, .int x1), (2, .int x2), (3, .int x3), (4, .long s.1), (6, .int s.2)] [] hp r) {t : (Int64 × Int32) ⊕ (Int64 × m_H)} (h : F12_balance_64b x0 x1 x2 x3 hp s = some t) (hK : K t) : m_Rn xs L 2 2502 64 [(0, .ref x0), (1, .int x1), (2, .int x2), (3, .int x3), (4, .long s.1), (6, .int s.2)] [] hp r := by
  unfold F12_balance_64b at h
  refine g_in eF12_balance_64 mx2502 ?_
  refine g_ch [(0, .ref x0), (1, .int x1), (2, .int x2), (3, .int x3), (4, .long s.1), (6, .int s.2)] [.int 8, .int s.2] (pc' := 68) rfl rfl rfl ?_
  rcases m_ifd h with ⟨c1, h⟩ | ⟨c1, h⟩
  · refine g_if (t := 212) rfl (m_geT c1) ?_
    refine g_in eF12_balance_212 mx2502 ?_
    refine g_ch [(0, .ref x0), (1, .int x1), (2, .int x2), (3, .int x3), (4, .long s.1), (6, .int s.2)] [.long s.1] (pc' := 214) rfl rfl rfl ?_
    cases h
    rw [k0 _ hK]
    exact g_lret rfl
  · refine g_ifn (t := 212) rfl (m_geF c1) ?_
    refine g_in eF12_balance_71 mx2502 ?_
    refine g_ch [(0, .ref x0), (1, .int x1), (2, .int x2), (3, .int x3), (4, .long s.1), (6, .int s.2)] [.ref x0] (pc' := 72) rfl rfl rfl ?_
    obtain ⟨v2, e3, h⟩ := m_bd h
    refine g_gr q12_f14 e3 ?_
    refine g_ch [(0, .ref x0), (1, .int x1), (2, .int x2), (3, .int x3), (4, .long s.1), (6, .int s.2)] [.int s.2, .int x1, .int 109, .ref v2] (pc' := 80) rfl rfl rfl ?_
    obtain ⟨v5, e4, h⟩ := m_bd h
    refine g_call (v := some (.int v5)) (h := hp) (st' := [.int v5, .ref v2]) (D1 := 0) (as := [.int 109, .int x1, .int s.2]) (Or.inl rfl) q12_m109 (m_cs (as := [.int s.2, .int x1, .int 109]) (rest := [.ref v2]) q12_m109 jv2414 rfl rfl rfl rfl rfl) (by decide) (SF12_both e4) rfl ?_
    obtain ⟨v6, e7, h⟩ := m_bd h
    refine g_ia e7 ?_
    refine g_ch [(9, .int 0), (7, .long (m_i2l v6)), (0, .ref x0), (1, .int x1), (2, .int x2), (3, .int x3), (4, .long s.1), (6, .int s.2)] [] (pc' := 90) rfl rfl rfl ?_
    refine g_end ?_
    exact r_lv (SF12_balance_90 x0 x1 x2 x3 s.1 s.2 (m_i2l v6) 0 hp (K := K) k0 k1 h hK) rfl ⟨rfl, rfl, rfl, rfl, rfl, rfl, rfl, rfl, trivial⟩
theorem SF12_balance_64 {xs : Nat → Int32} {L : Nat} (x0 : Nat) (x1 : Int32) (x2 : Int32) (x3 : Int32) (x4 : Int64) (x6 : Int32) (hp : m_H) {r : m_O × m_H} {K : Int64 × m_H → Prop} (k0 : ∀ x, K x → r = (.inl (some (.long x.1)), x.2)) {t : Int64 × m_H} (h : F12_balance_64 x0 x1 x2 x3 x4 x6 hp = some t) (hK : K t) : m_Rn xs L 2 2502 64 [(0, .ref x0), (1, .int x1), (2, .int x2), (3, .int x3), (4, .long x4), (6, .int x6)] [] hp r :=
  m_wh_ok (P := fun s => m_Rn xs L 2 2502 64 [(0, .ref x0), (1, .int x1), (2, .int x2), (3, .int x3), (4, .long s.1), (6, .int s.2)] [] hp r) (Q := K) (fun s t hb hK => SF12_balance_64b x0 x1 x2 x3 hp s (K := m_KK (fun s => m_Rn xs L 2 2502 64 [(0, .ref x0), (1, .int x1), (2, .int x2), (3, .int x3), (4, .long s.1), (6, .int s.2)] [] hp r) K) k0 (fun _ q => q) hb hK) m_N _ _ h hK
theorem SF12_balance_49 {xs : Nat → Int32} {L : Nat} (x0 : Nat) (x1 : Int32) (x2 : Int32) (x3 : Int32) (s0 : Int32) (s1 : Nat) (hp : m_H) {r : m_O × m_H} {K : (Int64 × m_H) → Prop} (k0 : ∀ x, K x → r = (.inl (some (.long x.1)), x.2)) {t : Int64 × m_H} (h : F12_balance_49 x0 x1 x2 x3 s0 s1 hp = some t) (hK : K t) : m_Rn xs L 2 2502 49 [(0, .ref x0), (1, .int x1), (2, .int x2), (3, .int x3)] [.int s0, .ref s1] hp r := by
  unfold F12_balance_49 at h
  refine g_in eF12_balance_49 mx2502 ?_
  refine g_ch [(0, .ref x0), (1, .int x1), (2, .int x2), (3, .int x3)] [.int 3, .int s0, .ref s1] (pc' := 50) rfl rfl rfl ?_
  obtain ⟨z2, e1, h⟩ := m_bd h
  refine g_call (v := some (.int z2.1)) (h := z2.2) (st' := [.int z2.1]) (D1 := 0) (as := [.ref s1, .int s0, .int 3]) (Or.inr (Or.inl rfl)) q12_m82 (m_cv (as := [.int 3, .int s0]) (rest := []) (Or.inl rfl) q12_m82 jv2401 (OF12_throwsIf e1) rfl rfl rfl rfl) (by decide) (SF12_throwsIf e1) rfl ?_
  rcases m_ifd h with ⟨c3, h⟩ | ⟨c3, h⟩
  · refine g_ifc (t := 58) rfl (m_eqT c3) ?_
    refine g_in eF12_balance_58 mx2502 ?_
    refine g_ch [(6, .int 0), (4, .long 0), (0, .ref x0), (1, .int x1), (2, .int x2), (3, .int x3)] [] (pc' := 64) rfl rfl rfl ?_
    refine g_end ?_
    exact r_lv (SF12_balance_64 x0 x1 x2 x3 0 0 z2.2 (K := K) k0 h hK) rfl ⟨rfl, rfl, rfl, rfl, rfl, rfl, trivial⟩
  · refine g_ifcn (t := 58) rfl (m_eqF c3) ?_
    refine g_in eF12_balance_56 mx2502 ?_
    refine g_ch [(0, .ref x0), (1, .int x1), (2, .int x2), (3, .int x3)] [.long 0] (pc' := 57) rfl rfl rfl ?_
    cases h
    rw [k0 _ hK]
    exact g_lret rfl
theorem SF12_balance_27 {xs : Nat → Int32} {L : Nat} (x0 : Nat) (x1 : Int32) (x2 : Int32) (x3 : Int32) (s0 : Int32) (s1 : Nat) (hp : m_H) {r : m_O × m_H} {K : (Int64 × m_H) → Prop} (k0 : ∀ x, K x → r = (.inl (some (.long x.1)), x.2)) {t : Int64 × m_H} (h : F12_balance_27 x0 x1 x2 x3 s0 s1 hp = some t) (hK : K t) : m_Rn xs L 2 2502 27 [(0, .ref x0), (1, .int x1), (2, .int x2), (3, .int x3)] [.int s0, .ref s1] hp r := by
  unfold F12_balance_27 at h
  refine g_in eF12_balance_27 mx2502 ?_
  refine g_ch [(0, .ref x0), (1, .int x1), (2, .int x2), (3, .int x3)] [.int 2, .int s0, .ref s1] (pc' := 28) rfl rfl rfl ?_
  obtain ⟨z2, e1, h⟩ := m_bd h
  refine g_call (v := some (.int z2.1)) (h := z2.2) (st' := [.int z2.1]) (D1 := 0) (as := [.ref s1, .int s0, .int 2]) (Or.inr (Or.inl rfl)) q12_m82 (m_cv (as := [.int 2, .int s0]) (rest := []) (Or.inl rfl) q12_m82 jv2401 (OF12_throwsIf e1) rfl rfl rfl rfl) (by decide) (SF12_throwsIf e1) rfl ?_
  rcases m_ifd h with ⟨c3, h⟩ | ⟨c3, h⟩
  · refine g_ifcn (t := 56) rfl (m_neF c3) ?_
    refine g_in eF12_balance_34 mx2502 ?_
    refine g_ch [(0, .ref x0), (1, .int x1), (2, .int x2), (3, .int x3)] [.int 2, .int 0, .int x2, .ref x0] (pc' := 38) rfl rfl rfl ?_
    obtain ⟨v5, e4, h⟩ := m_bd h
    refine g_call (v := some (.int v5)) (h := z2.2) (st' := [.int v5, .ref x0]) (D1 := 0) (as := [.int x2, .int 0, .int 2]) (Or.inl rfl) q12_m74 (m_cs (as := [.int 2, .int 0, .int x2]) (rest := [.ref x0]) q12_m74 jv2402 rfl rfl rfl rfl rfl) (by decide) (SF12_in e4) rfl ?_
    rcases m_ifd h with ⟨c6, h⟩ | ⟨c6, h⟩
    · refine g_ifcn (t := 48) rfl (m_neF c6) ?_
      refine g_in eF12_balance_44 mx2502 ?_
      refine g_ch [(0, .ref x0), (1, .int x1), (2, .int x2), (3, .int x3)] [.int 1, .ref x0] (pc' := 45) rfl rfl rfl ?_
      refine g_goto (t := 49) rfl ?_
      exact r_lv (SF12_balance_49 x0 x1 x2 x3 1 x0 z2.2 (K := K) k0 h hK) rfl ⟨rfl, rfl, rfl, rfl, trivial⟩
    · refine g_ifc (t := 48) rfl (m_neT c6) ?_
      refine g_in eF12_balance_48 mx2502 ?_
      refine g_ch [(0, .ref x0), (1, .int x1), (2, .int x2), (3, .int x3)] [.int 0, .ref x0] (pc' := 49) rfl rfl rfl ?_
      refine g_end ?_
      exact r_lv (SF12_balance_49 x0 x1 x2 x3 0 x0 z2.2 (K := K) k0 h hK) rfl ⟨rfl, rfl, rfl, rfl, trivial⟩
  · refine g_ifc (t := 56) rfl (m_neT c3) ?_
    refine g_in eF12_balance_56 mx2502 ?_
    refine g_ch [(0, .ref x0), (1, .int x1), (2, .int x2), (3, .int x3)] [.long 0] (pc' := 57) rfl rfl rfl ?_
    cases h
    rw [k0 _ hK]
    exact g_lret rfl
theorem SF12_balance_0 {xs : Nat → Int32} {L : Nat} (x0 : Nat) (x1 : Int32) (x2 : Int32) (x3 : Int32) (hp : m_H) {r : m_O × m_H} {K : (Int64 × m_H) → Prop} (k0 : ∀ x, K x → r = (.inl (some (.long x.1)), x.2)) {t : Int64 × m_H} (h : F12_balance_0 x0 x1 x2 x3 hp = some t) (hK : K t) : m_Rn xs L 2 2502 0 [(0, .ref x0), (1, .int x1), (2, .int x2), (3, .int x3)] [] hp r := by
  unfold F12_balance_0 at h
  refine g_in eF12_balance_0 mx2502 ?_
  refine g_ch [(0, .ref x0), (1, .int x1), (2, .int x2), (3, .int x3)] [.int 0, .ref x0] (pc' := 2) rfl rfl rfl ?_
  obtain ⟨h1, e2, h⟩ := m_bd h
  refine g_pf q12_f3 e2 ?_
  refine g_ch [(0, .ref x0), (1, .int x1), (2, .int x2), (3, .int x3)] [.int x1, .ref x0] (pc' := 7) rfl rfl rfl ?_
  obtain ⟨v4, e3, h⟩ := m_bd h
  refine g_call (v := some (.int v4)) (h := h1) (st' := [.int v4, .ref x0]) (D1 := 1) (as := [.int x1]) (Or.inl rfl) q12_m103 (m_cs (as := [.int x1]) (rest := [.ref x0]) q12_m103 jv2411 rfl rfl rfl rfl rfl) (by decide) (SF12_noLand e3) rfl ?_
  refine g_ch [(0, .ref x0), (1, .int x1), (2, .int x2), (3, .int x3)] [.int 1, .int v4, .ref x0] (pc' := 11) rfl rfl rfl ?_
  obtain ⟨z6, e5, h⟩ := m_bd h
  refine g_call (v := some (.int z6.1)) (h := z6.2) (st' := [.int z6.1]) (D1 := 0) (as := [.ref x0, .int v4, .int 1]) (Or.inr (Or.inl rfl)) q12_m82 (m_cv (as := [.int 1, .int v4]) (rest := []) (Or.inl rfl) q12_m82 jv2401 (OF12_throwsIf e5) rfl rfl rfl rfl) (by decide) (SF12_throwsIf e5) rfl ?_
  rcases m_ifd h with ⟨c7, h⟩ | ⟨c7, h⟩
  · refine g_ifcn (t := 56) rfl (m_neF c7) ?_
    refine g_in eF12_balance_17 mx2502 ?_
    refine g_ch [(0, .ref x0), (1, .int x1), (2, .int x2), (3, .int x3)] [.int x1, .ref x0] (pc' := 19) rfl rfl rfl ?_
    rcases m_ifd h with ⟨c8, h⟩ | ⟨c8, h⟩
    · refine g_ifcn (t := 26) rfl (m_neF c8) ?_
      refine g_in eF12_balance_22 mx2502 ?_
      refine g_ch [(0, .ref x0), (1, .int x1), (2, .int x2), (3, .int x3)] [.int 1, .ref x0] (pc' := 23) rfl rfl rfl ?_
      refine g_goto (t := 27) rfl ?_
      exact r_lv (SF12_balance_27 x0 x1 x2 x3 1 x0 z6.2 (K := K) k0 h hK) rfl ⟨rfl, rfl, rfl, rfl, trivial⟩
    · refine g_ifc (t := 26) rfl (m_neT c8) ?_
      refine g_in eF12_balance_26 mx2502 ?_
      refine g_ch [(0, .ref x0), (1, .int x1), (2, .int x2), (3, .int x3)] [.int 0, .ref x0] (pc' := 27) rfl rfl rfl ?_
      refine g_end ?_
      exact r_lv (SF12_balance_27 x0 x1 x2 x3 0 x0 z6.2 (K := K) k0 h hK) rfl ⟨rfl, rfl, rfl, rfl, trivial⟩
  · refine g_ifc (t := 56) rfl (m_neT c7) ?_
    refine g_in eF12_balance_56 mx2502 ?_
    refine g_ch [(0, .ref x0), (1, .int x1), (2, .int x2), (3, .int x3)] [.long 0] (pc' := 57) rfl rfl rfl ?_
    cases h
    rw [k0 _ hK]
    exact g_lret rfl
theorem OF12_balance {x0 : Nat} {x1 : Int32} {x2 : Int32} {x3 : Int32} {hp : m_H} {x : Int64 × m_H} (h : F12_balance x0 x1 x2 x3 hp = some x) : m_isO hp 9 x0 = true := (m_gdd h).1
theorem SF12_balance {xs : Nat → Int32} {L : Nat} {x0 : Nat} {x1 : Int32} {x2 : Int32} {x3 : Int32} {hp : m_H} {x : Int64 × m_H} (h : F12_balance x0 x1 x2 x3 hp = some x) : m_Rn xs L 2 2502 0 (lv_args 0 [.ref x0, .int x1, .int x2, .int x3]) [] hp (.inl (some (.long x.1)), x.2) :=
  r_lv (SF12_balance_0 x0 x1 x2 x3 hp (K := fun y => y = x) (fun y e => by rw [e]) (m_gdd h).2 rfl) rfl ⟨rfl, rfl, rfl, rfl, trivial⟩
-- F12_returned: LendHouseModel.returned(IIII)I
theorem eF12_returned_0 : m_Fe mi12_103 0 (m_ap [(.aload_n 0, 1), (.iconst 0, 1)] ((.putfield 3, 3) :: (m_ap [(.aload_n 0, 1), (.iload_n 1, 1)] ((.invokestatic 103, 3) :: ([(.ifCond .ne 10, 3)]))))) := m_Fe_of nd2503 0 7 rfl
theorem eF12_returned_13 : m_Fe mi12_103 13 (m_ap [(.iload_n 2, 1)] ((.invokestatic 78, 3) :: ([(.ifCond .eq 7, 3)]))) := m_Fe_of nd2503 7 3 rfl
theorem eF12_returned_24 : m_Fe mi12_103 24 (m_ap [(.iconst 0, 1)] ([])) := m_Fe_of nd2503 12 1 rfl
theorem eF12_returned_20 : m_Fe mi12_103 20 (m_ap [(.iconst 1, 1)] ([(.goto 4, 3)])) := m_Fe_of nd2503 10 2 rfl
theorem eF12_returned_25 : m_Fe mi12_103 25 (m_ap [(.iconst 1, 1)] ((.invokevirtual 82, 3) :: ([(.ifCond .ne 44, 3)]))) := m_Fe_of nd2503 13 3 rfl
theorem eF12_returned_73 : m_Fe mi12_103 73 (m_ap [(.iconst 0, 1)] ([(.ireturn, 1)])) := m_Fe_of nd2503 36 2 rfl
theorem eF12_returned_32 : m_Fe mi12_103 32 (m_ap [(.aload_n 0, 1), (.iload_n 1, 1)] ([(.ifCond .eq 27, 3)])) := m_Fe_of nd2503 16 3 rfl
theorem eF12_returned_37 : m_Fe mi12_103 37 (m_ap [(.iload_n 3, 1), (.iconst 0, 1), (.aload_n 0, 1)] ((.invokevirtual 86, 3) :: ((.invokestatic 74, 3) :: ([(.ifCond .eq 15, 3)])))) := m_Fe_of nd2503 19 6 rfl
theorem eF12_returned_49 : m_Fe mi12_103 49 (m_ap [(.iload 4, 2), (.iconst 0, 1), (.ldc_w 388, 3)] ((.invokestatic 74, 3) :: ([(.ifCond .ne 7, 3)]))) := m_Fe_of nd2503 25 5 rfl
theorem eF12_returned_65 : m_Fe mi12_103 65 (m_ap [(.iconst 0, 1)] ([])) := m_Fe_of nd2503 32 1 rfl
theorem eF12_returned_61 : m_Fe mi12_103 61 (m_ap [(.iconst 1, 1)] ([(.goto 4, 3)])) := m_Fe_of nd2503 30 2 rfl
theorem eF12_returned_66 : m_Fe mi12_103 66 (m_ap [(.iconst 2, 1)] ((.invokevirtual 82, 3) :: ([(.ifCond .eq 5, 3)]))) := m_Fe_of nd2503 33 3 rfl
theorem eF12_returned_75 : m_Fe mi12_103 75 (m_ap [(.aload_n 0, 1)] ((.getfield 14, 3) :: (m_ap [(.sipush 3486, 3)] ((.iaload, 1) :: (m_ap [(.istore 5, 2), (.iload 5, 2), (.bipush 100, 2)] ([(.if_icmp .ne 5, 3)])))))) := m_Fe_of nd2503 38 8 rfl
theorem eF12_returned_94 : m_Fe mi12_103 94 (m_ap [(.iload 5, 2)] ((.invokestatic 371, 3) :: (m_ap [(.istore 6, 2), (.aload_n 0, 1)] ((.getfield 14, 3) :: (m_ap [(.iload 6, 2), (.iload_n 1, 1)] ((.iastore, 1) :: (m_ap [(.aload_n 0, 1)] ((.getfield 14, 3) :: (m_ap [(.iload 6, 2), (.iconst 1, 1), (.iadd, 1), (.iload_n 2, 1)] ((.iastore, 1) :: (m_ap [(.aload_n 0, 1)] ((.getfield 14, 3) :: (m_ap [(.iload 6, 2), (.iconst 2, 1), (.iadd, 1), (.iload_n 3, 1)] ((.iastore, 1) :: (m_ap [(.aload_n 0, 1)] ((.getfield 14, 3) :: (m_ap [(.iload 6, 2), (.iconst 3, 1), (.iadd, 1), (.iload 4, 2)] ((.iastore, 1) :: (m_ap [(.aload_n 0, 1)] ((.getfield 14, 3) :: (m_ap [(.iload 6, 2), (.iconst 4, 1), (.iadd, 1), (.iload 4, 2)] ((.iastore, 1) :: (m_ap [(.aload_n 0, 1)] ((.getfield 14, 3) :: (m_ap [(.sipush 3486, 3), (.dup2, 1)] ((.iaload, 1) :: (m_ap [(.iconst 1, 1), (.iadd, 1)] ((.iastore, 1) :: (m_ap [(.iload 5, 2), (.iconst 1, 1), (.iadd, 1)] ([(.ireturn, 1)])))))))))))))))))))))))))))))) := m_Fe_of nd2503 48 48 rfl
theorem eF12_returned_92 : m_Fe mi12_103 92 (m_ap [(.iconst (-1), 1)] ([(.ireturn, 1)])) := m_Fe_of nd2503 46 2 rfl
theorem SF12_returned_66 {xs : Nat → Int32} {L : Nat} (x0 : Nat) (x1 : Int32) (x2 : Int32) (x3 : Int32) (x4 : Int32) (s0 : Int32) (s1 : Nat) (hp : m_H) {r : m_O × m_H} {K : (Int32 × m_H) → Prop} (k0 : ∀ x, K x → r = (.inl (some (.int x.1)), x.2)) {t : Int32 × m_H} (h : F12_returned_66 x0 x1 x2 x3 x4 s0 s1 hp = some t) (hK : K t) : m_Rn xs L 2 2503 66 [(0, .ref x0), (1, .int x1), (2, .int x2), (3, .int x3), (4, .int x4)] [.int s0, .ref s1] hp r := by
  unfold F12_returned_66 at h
  refine g_in eF12_returned_66 mx2503 ?_
  refine g_ch [(0, .ref x0), (1, .int x1), (2, .int x2), (3, .int x3), (4, .int x4)] [.int 2, .int s0, .ref s1] (pc' := 67) rfl rfl rfl ?_
  obtain ⟨z2, e1, h⟩ := m_bd h
  refine g_call (v := some (.int z2.1)) (h := z2.2) (st' := [.int z2.1]) (D1 := 0) (as := [.ref s1, .int s0, .int 2]) (Or.inr (Or.inl rfl)) q12_m82 (m_cv (as := [.int 2, .int s0]) (rest := []) (Or.inl rfl) q12_m82 jv2401 (OF12_throwsIf e1) rfl rfl rfl rfl) (by decide) (SF12_throwsIf e1) rfl ?_
  rcases m_ifd h with ⟨c3, h⟩ | ⟨c3, h⟩
  · refine g_ifc (t := 75) rfl (m_eqT c3) ?_
    refine g_in eF12_returned_75 mx2503 ?_
    refine g_ch [(0, .ref x0), (1, .int x1), (2, .int x2), (3, .int x3), (4, .int x4)] [.ref x0] (pc' := 76) rfl rfl rfl ?_
    obtain ⟨v4, e5, h⟩ := m_bd h
    refine g_gr q12_f14 e5 ?_
    refine g_ch [(0, .ref x0), (1, .int x1), (2, .int x2), (3, .int x3), (4, .int x4)] [.int 3486, .ref v4] (pc' := 82) rfl rfl rfl ?_
    obtain ⟨v6, e7, h⟩ := m_bd h
    refine g_ia e7 ?_
    refine g_ch [(5, .int v6), (0, .ref x0), (1, .int x1), (2, .int x2), (3, .int x3), (4, .int x4)] [.int 100, .int v6] (pc' := 89) rfl rfl rfl ?_
    rcases m_ifd h with ⟨c8, h⟩ | ⟨c8, h⟩
    · refine g_ifn (t := 94) rfl (m_neF c8) ?_
      refine g_in eF12_returned_92 mx2503 ?_
      refine g_ch [(5, .int v6), (0, .ref x0), (1, .int x1), (2, .int x2), (3, .int x3), (4, .int x4)] [.int (-1)] (pc' := 93) rfl rfl rfl ?_
      cases h
      rw [k0 _ hK]
      exact g_iret rfl rfl
    · refine g_if (t := 94) rfl (m_neT c8) ?_
      refine g_in eF12_returned_94 mx2503 ?_
      refine g_ch [(5, .int v6), (0, .ref x0), (1, .int x1), (2, .int x2), (3, .int x3), (4, .int x4)] [.int v6] (pc' := 96) rfl rfl rfl ?_
      obtain ⟨v10, e9, h⟩ := m_bd h
      refine g_call (v := some (.int v10)) (h := z2.2) (st' := [.int v10]) (D1 := 0) (as := [.int v6]) (Or.inl rfl) q12_m371 (m_cs (as := [.int v6]) (rest := []) q12_m371 jv2497 rfl rfl rfl rfl rfl) (by decide) (SF12_returnAt e9) rfl ?_
      refine g_ch [(6, .int v10), (5, .int v6), (0, .ref x0), (1, .int x1), (2, .int x2), (3, .int x3), (4, .int x4)] [.ref x0] (pc' := 102) rfl rfl rfl ?_
      obtain ⟨v11, e12, h⟩ := m_bd h
      refine g_gr q12_f14 e12 ?_
      refine g_ch [(6, .int v10), (5, .int v6), (0, .ref x0), (1, .int x1), (2, .int x2), (3, .int x3), (4, .int x4)] [.int x1, .int v10, .ref v11] (pc' := 108) rfl rfl rfl ?_
      obtain ⟨h13, e14, h⟩ := m_bd h
      refine g_is e14 ?_
      refine g_ch [(6, .int v10), (5, .int v6), (0, .ref x0), (1, .int x1), (2, .int x2), (3, .int x3), (4, .int x4)] [.ref x0] (pc' := 110) rfl rfl rfl ?_
      obtain ⟨v15, e16, h⟩ := m_bd h
      refine g_gr q12_f14 e16 ?_
      refine g_ch [(6, .int v10), (5, .int v6), (0, .ref x0), (1, .int x1), (2, .int x2), (3, .int x3), (4, .int x4)] [.int x2, .int (v10 + 1), .ref v15] (pc' := 118) rfl rfl rfl ?_
      obtain ⟨h17, e18, h⟩ := m_bd h
      refine g_is e18 ?_
      refine g_ch [(6, .int v10), (5, .int v6), (0, .ref x0), (1, .int x1), (2, .int x2), (3, .int x3), (4, .int x4)] [.ref x0] (pc' := 120) rfl rfl rfl ?_
      obtain ⟨v19, e20, h⟩ := m_bd h
      refine g_gr q12_f14 e20 ?_
      refine g_ch [(6, .int v10), (5, .int v6), (0, .ref x0), (1, .int x1), (2, .int x2), (3, .int x3), (4, .int x4)] [.int x3, .int (v10 + 2), .ref v19] (pc' := 128) rfl rfl rfl ?_
      obtain ⟨h21, e22, h⟩ := m_bd h
      refine g_is e22 ?_
      refine g_ch [(6, .int v10), (5, .int v6), (0, .ref x0), (1, .int x1), (2, .int x2), (3, .int x3), (4, .int x4)] [.ref x0] (pc' := 130) rfl rfl rfl ?_
      obtain ⟨v23, e24, h⟩ := m_bd h
      refine g_gr q12_f14 e24 ?_
      refine g_ch [(6, .int v10), (5, .int v6), (0, .ref x0), (1, .int x1), (2, .int x2), (3, .int x3), (4, .int x4)] [.int x4, .int (v10 + 3), .ref v23] (pc' := 139) rfl rfl rfl ?_
      obtain ⟨h25, e26, h⟩ := m_bd h
      refine g_is e26 ?_
      refine g_ch [(6, .int v10), (5, .int v6), (0, .ref x0), (1, .int x1), (2, .int x2), (3, .int x3), (4, .int x4)] [.ref x0] (pc' := 141) rfl rfl rfl ?_
      obtain ⟨v27, e28, h⟩ := m_bd h
      refine g_gr q12_f14 e28 ?_
      refine g_ch [(6, .int v10), (5, .int v6), (0, .ref x0), (1, .int x1), (2, .int x2), (3, .int x3), (4, .int x4)] [.int x4, .int (v10 + 4), .ref v27] (pc' := 150) rfl rfl rfl ?_
      obtain ⟨h29, e30, h⟩ := m_bd h
      refine g_is e30 ?_
      refine g_ch [(6, .int v10), (5, .int v6), (0, .ref x0), (1, .int x1), (2, .int x2), (3, .int x3), (4, .int x4)] [.ref x0] (pc' := 152) rfl rfl rfl ?_
      obtain ⟨v31, e32, h⟩ := m_bd h
      refine g_gr q12_f14 e32 ?_
      refine g_ch [(6, .int v10), (5, .int v6), (0, .ref x0), (1, .int x1), (2, .int x2), (3, .int x3), (4, .int x4)] [.int 3486, .ref v31, .int 3486, .ref v31] (pc' := 159) rfl rfl rfl ?_
      obtain ⟨v33, e34, h⟩ := m_bd h
      refine g_ia e34 ?_
      refine g_ch [(6, .int v10), (5, .int v6), (0, .ref x0), (1, .int x1), (2, .int x2), (3, .int x3), (4, .int x4)] [.int (v33 + 1), .int 3486, .ref v31] (pc' := 162) rfl rfl rfl ?_
      obtain ⟨h35, e36, h⟩ := m_bd h
      refine g_is e36 ?_
      refine g_ch [(6, .int v10), (5, .int v6), (0, .ref x0), (1, .int x1), (2, .int x2), (3, .int x3), (4, .int x4)] [.int (v6 + 1)] (pc' := 167) rfl rfl rfl ?_
      cases h
      rw [k0 _ hK]
      exact g_iret rfl rfl
  · refine g_ifcn (t := 75) rfl (m_eqF c3) ?_
    refine g_in eF12_returned_73 mx2503 ?_
    refine g_ch [(0, .ref x0), (1, .int x1), (2, .int x2), (3, .int x3), (4, .int x4)] [.int 0] (pc' := 74) rfl rfl rfl ?_
    cases h
    rw [k0 _ hK]
    exact g_iret rfl rfl
theorem SF12_returned_61 {xs : Nat → Int32} {L : Nat} (x0 : Nat) (x1 : Int32) (x2 : Int32) (x3 : Int32) (x4 : Int32) (s0 : Nat) (hp : m_H) {r : m_O × m_H} {K : (Int32 × m_H) → Prop} (k0 : ∀ x, K x → r = (.inl (some (.int x.1)), x.2)) {t : Int32 × m_H} (h : F12_returned_61 x0 x1 x2 x3 x4 s0 hp = some t) (hK : K t) : m_Rn xs L 2 2503 61 [(0, .ref x0), (1, .int x1), (2, .int x2), (3, .int x3), (4, .int x4)] [.ref s0] hp r := by
  unfold F12_returned_61 at h
  refine g_in eF12_returned_61 mx2503 ?_
  refine g_ch [(0, .ref x0), (1, .int x1), (2, .int x2), (3, .int x3), (4, .int x4)] [.int 1, .ref s0] (pc' := 62) rfl rfl rfl ?_
  refine g_goto (t := 66) rfl ?_
  exact r_lv (SF12_returned_66 x0 x1 x2 x3 x4 1 s0 hp (K := K) k0 h hK) rfl ⟨rfl, rfl, rfl, rfl, rfl, trivial⟩
theorem SF12_returned_25 {xs : Nat → Int32} {L : Nat} (x0 : Nat) (x1 : Int32) (x2 : Int32) (x3 : Int32) (x4 : Int32) (s0 : Int32) (s1 : Nat) (hp : m_H) {r : m_O × m_H} {K : (Int32 × m_H) → Prop} (k0 : ∀ x, K x → r = (.inl (some (.int x.1)), x.2)) {t : Int32 × m_H} (h : F12_returned_25 x0 x1 x2 x3 x4 s0 s1 hp = some t) (hK : K t) : m_Rn xs L 2 2503 25 [(0, .ref x0), (1, .int x1), (2, .int x2), (3, .int x3), (4, .int x4)] [.int s0, .ref s1] hp r := by
  unfold F12_returned_25 at h
  refine g_in eF12_returned_25 mx2503 ?_
  refine g_ch [(0, .ref x0), (1, .int x1), (2, .int x2), (3, .int x3), (4, .int x4)] [.int 1, .int s0, .ref s1] (pc' := 26) rfl rfl rfl ?_
  obtain ⟨z2, e1, h⟩ := m_bd h
  refine g_call (v := some (.int z2.1)) (h := z2.2) (st' := [.int z2.1]) (D1 := 0) (as := [.ref s1, .int s0, .int 1]) (Or.inr (Or.inl rfl)) q12_m82 (m_cv (as := [.int 1, .int s0]) (rest := []) (Or.inl rfl) q12_m82 jv2401 (OF12_throwsIf e1) rfl rfl rfl rfl) (by decide) (SF12_throwsIf e1) rfl ?_
  rcases m_ifd h with ⟨c3, h⟩ | ⟨c3, h⟩
  · refine g_ifcn (t := 73) rfl (m_neF c3) ?_
    refine g_in eF12_returned_32 mx2503 ?_
    refine g_ch [(0, .ref x0), (1, .int x1), (2, .int x2), (3, .int x3), (4, .int x4)] [.int x1, .ref x0] (pc' := 34) rfl rfl rfl ?_
    rcases m_ifd h with ⟨c4, h⟩ | ⟨c4, h⟩
    · refine g_ifc (t := 61) rfl (m_eqT c4) ?_
      exact r_lv (SF12_returned_61 x0 x1 x2 x3 x4 x0 z2.2 (K := K) k0 h hK) rfl ⟨rfl, rfl, rfl, rfl, rfl, trivial⟩
    · refine g_ifcn (t := 61) rfl (m_eqF c4) ?_
      refine g_in eF12_returned_37 mx2503 ?_
      refine g_ch [(0, .ref x0), (1, .int x1), (2, .int x2), (3, .int x3), (4, .int x4)] [.ref x0, .int 0, .int x3, .ref x0] (pc' := 40) rfl rfl rfl ?_
      obtain ⟨v6, e5, h⟩ := m_bd h
      refine g_call (v := some (.int v6)) (h := z2.2) (st' := [.int v6, .int 0, .int x3, .ref x0]) (D1 := 0) (as := [.ref x0]) (Or.inr (Or.inl rfl)) q12_m86 (m_cv (as := []) (rest := [.int 0, .int x3, .ref x0]) (Or.inl rfl) q12_m86 jv2404 (OF12_week e5) rfl rfl rfl rfl) (by decide) (SF12_week e5) rfl ?_
      obtain ⟨v8, e7, h⟩ := m_bd h
      refine g_call (v := some (.int v8)) (h := z2.2) (st' := [.int v8, .ref x0]) (D1 := 0) (as := [.int x3, .int 0, .int v6]) (Or.inl rfl) q12_m74 (m_cs (as := [.int v6, .int 0, .int x3]) (rest := [.ref x0]) q12_m74 jv2402 rfl rfl rfl rfl rfl) (by decide) (SF12_in e7) rfl ?_
      rcases m_ifd h with ⟨c9, h⟩ | ⟨c9, h⟩
      · refine g_ifc (t := 61) rfl (m_eqT c9) ?_
        exact r_lv (SF12_returned_61 x0 x1 x2 x3 x4 x0 z2.2 (K := K) k0 h hK) rfl ⟨rfl, rfl, rfl, rfl, rfl, trivial⟩
      · refine g_ifcn (t := 61) rfl (m_eqF c9) ?_
        refine g_in eF12_returned_49 mx2503 ?_
        refine g_ch [(0, .ref x0), (1, .int x1), (2, .int x2), (3, .int x3), (4, .int x4)] [.int 100000, .int 0, .int x4, .ref x0] (pc' := 55) rfl rfl rfl ?_
        obtain ⟨v11, e10, h⟩ := m_bd h
        refine g_call (v := some (.int v11)) (h := z2.2) (st' := [.int v11, .ref x0]) (D1 := 0) (as := [.int x4, .int 0, .int 100000]) (Or.inl rfl) q12_m74 (m_cs (as := [.int 100000, .int 0, .int x4]) (rest := [.ref x0]) q12_m74 jv2402 rfl rfl rfl rfl rfl) (by decide) (SF12_in e10) rfl ?_
        rcases m_ifd h with ⟨c12, h⟩ | ⟨c12, h⟩
        · refine g_ifcn (t := 65) rfl (m_neF c12) ?_
          exact r_lv (SF12_returned_61 x0 x1 x2 x3 x4 x0 z2.2 (K := K) k0 h hK) rfl ⟨rfl, rfl, rfl, rfl, rfl, trivial⟩
        · refine g_ifc (t := 65) rfl (m_neT c12) ?_
          refine g_in eF12_returned_65 mx2503 ?_
          refine g_ch [(0, .ref x0), (1, .int x1), (2, .int x2), (3, .int x3), (4, .int x4)] [.int 0, .ref x0] (pc' := 66) rfl rfl rfl ?_
          refine g_end ?_
          exact r_lv (SF12_returned_66 x0 x1 x2 x3 x4 0 x0 z2.2 (K := K) k0 h hK) rfl ⟨rfl, rfl, rfl, rfl, rfl, trivial⟩
  · refine g_ifc (t := 73) rfl (m_neT c3) ?_
    refine g_in eF12_returned_73 mx2503 ?_
    refine g_ch [(0, .ref x0), (1, .int x1), (2, .int x2), (3, .int x3), (4, .int x4)] [.int 0] (pc' := 74) rfl rfl rfl ?_
    cases h
    rw [k0 _ hK]
    exact g_iret rfl rfl
theorem SF12_returned_20 {xs : Nat → Int32} {L : Nat} (x0 : Nat) (x1 : Int32) (x2 : Int32) (x3 : Int32) (x4 : Int32) (s0 : Nat) (hp : m_H) {r : m_O × m_H} {K : (Int32 × m_H) → Prop} (k0 : ∀ x, K x → r = (.inl (some (.int x.1)), x.2)) {t : Int32 × m_H} (h : F12_returned_20 x0 x1 x2 x3 x4 s0 hp = some t) (hK : K t) : m_Rn xs L 2 2503 20 [(0, .ref x0), (1, .int x1), (2, .int x2), (3, .int x3), (4, .int x4)] [.ref s0] hp r := by
  unfold F12_returned_20 at h
  refine g_in eF12_returned_20 mx2503 ?_
  refine g_ch [(0, .ref x0), (1, .int x1), (2, .int x2), (3, .int x3), (4, .int x4)] [.int 1, .ref s0] (pc' := 21) rfl rfl rfl ?_
  refine g_goto (t := 25) rfl ?_
  exact r_lv (SF12_returned_25 x0 x1 x2 x3 x4 1 s0 hp (K := K) k0 h hK) rfl ⟨rfl, rfl, rfl, rfl, rfl, trivial⟩
theorem SF12_returned_0 {xs : Nat → Int32} {L : Nat} (x0 : Nat) (x1 : Int32) (x2 : Int32) (x3 : Int32) (x4 : Int32) (hp : m_H) {r : m_O × m_H} {K : (Int32 × m_H) → Prop} (k0 : ∀ x, K x → r = (.inl (some (.int x.1)), x.2)) {t : Int32 × m_H} (h : F12_returned_0 x0 x1 x2 x3 x4 hp = some t) (hK : K t) : m_Rn xs L 2 2503 0 [(0, .ref x0), (1, .int x1), (2, .int x2), (3, .int x3), (4, .int x4)] [] hp r := by
  unfold F12_returned_0 at h
  refine g_in eF12_returned_0 mx2503 ?_
  refine g_ch [(0, .ref x0), (1, .int x1), (2, .int x2), (3, .int x3), (4, .int x4)] [.int 0, .ref x0] (pc' := 2) rfl rfl rfl ?_
  obtain ⟨h1, e2, h⟩ := m_bd h
  refine g_pf q12_f3 e2 ?_
  refine g_ch [(0, .ref x0), (1, .int x1), (2, .int x2), (3, .int x3), (4, .int x4)] [.int x1, .ref x0] (pc' := 7) rfl rfl rfl ?_
  obtain ⟨v4, e3, h⟩ := m_bd h
  refine g_call (v := some (.int v4)) (h := h1) (st' := [.int v4, .ref x0]) (D1 := 1) (as := [.int x1]) (Or.inl rfl) q12_m103 (m_cs (as := [.int x1]) (rest := [.ref x0]) q12_m103 jv2411 rfl rfl rfl rfl rfl) (by decide) (SF12_noLand e3) rfl ?_
  rcases m_ifd h with ⟨c5, h⟩ | ⟨c5, h⟩
  · refine g_ifcn (t := 20) rfl (m_neF c5) ?_
    refine g_in eF12_returned_13 mx2503 ?_
    refine g_ch [(0, .ref x0), (1, .int x1), (2, .int x2), (3, .int x3), (4, .int x4)] [.int x2, .ref x0] (pc' := 14) rfl rfl rfl ?_
    obtain ⟨v7, e6, h⟩ := m_bd h
    refine g_call (v := some (.int v7)) (h := h1) (st' := [.int v7, .ref x0]) (D1 := 1) (as := [.int x2]) (Or.inl rfl) q12_m78 (m_cs (as := [.int x2]) (rest := [.ref x0]) q12_m78 jv2410 rfl rfl rfl rfl rfl) (by decide) (SF12_noSort e6) rfl ?_
    rcases m_ifd h with ⟨c8, h⟩ | ⟨c8, h⟩
    · refine g_ifc (t := 24) rfl (m_eqT c8) ?_
      refine g_in eF12_returned_24 mx2503 ?_
      refine g_ch [(0, .ref x0), (1, .int x1), (2, .int x2), (3, .int x3), (4, .int x4)] [.int 0, .ref x0] (pc' := 25) rfl rfl rfl ?_
      refine g_end ?_
      exact r_lv (SF12_returned_25 x0 x1 x2 x3 x4 0 x0 h1 (K := K) k0 h hK) rfl ⟨rfl, rfl, rfl, rfl, rfl, trivial⟩
    · refine g_ifcn (t := 24) rfl (m_eqF c8) ?_
      exact r_lv (SF12_returned_20 x0 x1 x2 x3 x4 x0 h1 (K := K) k0 h hK) rfl ⟨rfl, rfl, rfl, rfl, rfl, trivial⟩
  · refine g_ifc (t := 20) rfl (m_neT c5) ?_
    exact r_lv (SF12_returned_20 x0 x1 x2 x3 x4 x0 h1 (K := K) k0 h hK) rfl ⟨rfl, rfl, rfl, rfl, rfl, trivial⟩
theorem OF12_returned {x0 : Nat} {x1 : Int32} {x2 : Int32} {x3 : Int32} {x4 : Int32} {hp : m_H} {x : Int32 × m_H} (h : F12_returned x0 x1 x2 x3 x4 hp = some x) : m_isO hp 9 x0 = true := (m_gdd h).1
theorem SF12_returned {xs : Nat → Int32} {L : Nat} {x0 : Nat} {x1 : Int32} {x2 : Int32} {x3 : Int32} {x4 : Int32} {hp : m_H} {x : Int32 × m_H} (h : F12_returned x0 x1 x2 x3 x4 hp = some x) : m_Rn xs L 2 2503 0 (lv_args 0 [.ref x0, .int x1, .int x2, .int x3, .int x4]) [] hp (.inl (some (.int x.1)), x.2) :=
  r_lv (SF12_returned_0 x0 x1 x2 x3 x4 hp (K := fun y => y = x) (fun y e => by rw [e]) (m_gdd h).2 rfl) rfl ⟨rfl, rfl, rfl, rfl, rfl, trivial⟩
-- F12_mustBe: LendHouseModel.mustBe(III)I
theorem eF12_mustBe_0 : m_Fe mi12_104 0 (m_ap [(.aload_n 0, 1), (.iconst 0, 1)] ((.putfield 3, 3) :: (m_ap [(.aload_n 0, 1), (.iload_n 1, 1)] ((.invokestatic 103, 3) :: ([(.ifCond .ne 10, 3)]))))) := m_Fe_of nd2504 0 7 rfl
theorem eF12_mustBe_13 : m_Fe mi12_104 13 (m_ap [(.iload_n 2, 1)] ((.invokestatic 78, 3) :: ([(.ifCond .eq 7, 3)]))) := m_Fe_of nd2504 7 3 rfl
theorem eF12_mustBe_24 : m_Fe mi12_104 24 (m_ap [(.iconst 0, 1)] ([])) := m_Fe_of nd2504 12 1 rfl
theorem eF12_mustBe_20 : m_Fe mi12_104 20 (m_ap [(.iconst 1, 1)] ([(.goto 4, 3)])) := m_Fe_of nd2504 10 2 rfl
theorem eF12_mustBe_25 : m_Fe mi12_104 25 (m_ap [(.iconst 1, 1)] ((.invokevirtual 82, 3) :: ([(.ifCond .ne 32, 3)]))) := m_Fe_of nd2504 13 3 rfl
theorem eF12_mustBe_61 : m_Fe mi12_104 61 (m_ap [(.iconst 0, 1)] ([(.goto 10, 3)])) := m_Fe_of nd2504 31 2 rfl
theorem eF12_mustBe_72 : m_Fe mi12_104 72 ([(.ireturn, 1)]) := m_Fe_of nd2504 38 1 rfl
theorem eF12_mustBe_32 : m_Fe mi12_104 32 (m_ap [(.aload_n 0, 1), (.iload_n 1, 1)] ([(.ifCond .eq 15, 3)])) := m_Fe_of nd2504 16 3 rfl
theorem eF12_mustBe_37 : m_Fe mi12_104 37 (m_ap [(.iload_n 3, 1), (.iconst 0, 1), (.aload_n 0, 1)] ((.invokevirtual 86, 3) :: ((.invokestatic 74, 3) :: ([(.ifCond .ne 7, 3)])))) := m_Fe_of nd2504 19 6 rfl
theorem eF12_mustBe_53 : m_Fe mi12_104 53 (m_ap [(.iconst 0, 1)] ([])) := m_Fe_of nd2504 27 1 rfl
theorem eF12_mustBe_49 : m_Fe mi12_104 49 (m_ap [(.iconst 1, 1)] ([(.goto 4, 3)])) := m_Fe_of nd2504 25 2 rfl
theorem eF12_mustBe_54 : m_Fe mi12_104 54 (m_ap [(.iconst 2, 1)] ((.invokevirtual 82, 3) :: ([(.ifCond .eq 7, 3)]))) := m_Fe_of nd2504 28 3 rfl
theorem eF12_mustBe_65 : m_Fe mi12_104 65 (m_ap [(.aload_n 0, 1), (.iload_n 1, 1), (.iload_n 2, 1), (.iload_n 3, 1)] ([(.invokevirtual 377, 3)])) := m_Fe_of nd2504 33 5 rfl
theorem SF12_mustBe_54 {xs : Nat → Int32} {L : Nat} (x0 : Nat) (x1 : Int32) (x2 : Int32) (x3 : Int32) (s0 : Int32) (s1 : Nat) (hp : m_H) {r : m_O × m_H} {K : (Int32 × m_H) → Prop} (k0 : ∀ x, K x → r = (.inl (some (.int x.1)), x.2)) {t : Int32 × m_H} (h : F12_mustBe_54 x0 x1 x2 x3 s0 s1 hp = some t) (hK : K t) : m_Rn xs L 5 2504 54 [(0, .ref x0), (1, .int x1), (2, .int x2), (3, .int x3)] [.int s0, .ref s1] hp r := by
  unfold F12_mustBe_54 at h
  refine g_in eF12_mustBe_54 mx2504 ?_
  refine g_ch [(0, .ref x0), (1, .int x1), (2, .int x2), (3, .int x3)] [.int 2, .int s0, .ref s1] (pc' := 55) rfl rfl rfl ?_
  obtain ⟨z2, e1, h⟩ := m_bd h
  refine g_call (v := some (.int z2.1)) (h := z2.2) (st' := [.int z2.1]) (D1 := 0) (as := [.ref s1, .int s0, .int 2]) (Or.inr (Or.inl rfl)) q12_m82 (m_cv (as := [.int 2, .int s0]) (rest := []) (Or.inl rfl) q12_m82 jv2401 (OF12_throwsIf e1) rfl rfl rfl rfl) (by decide) (SF12_throwsIf e1) rfl ?_
  rcases m_ifd h with ⟨c3, h⟩ | ⟨c3, h⟩
  · refine g_ifc (t := 65) rfl (m_eqT c3) ?_
    refine g_in eF12_mustBe_65 mx2504 ?_
    refine g_ch [(0, .ref x0), (1, .int x1), (2, .int x2), (3, .int x3)] [.int x3, .int x2, .int x1, .ref x0] (pc' := 69) rfl rfl rfl ?_
    obtain ⟨v5, e4, h⟩ := m_bd h
    refine g_call (v := some (.int v5)) (h := z2.2) (st' := [.int v5]) (D1 := 4) (as := [.ref x0, .int x1, .int x2, .int x3]) (Or.inr (Or.inl rfl)) q12_m377 (m_cv (as := [.int x3, .int x2, .int x1]) (rest := []) (Or.inl rfl) q12_m377 jv2496 (OF12_mustOf e4) rfl rfl rfl rfl) (by decide) (SF12_mustOf e4) rfl ?_
    refine g_end ?_
    refine g_in eF12_mustBe_72 mx2504 ?_
    cases h
    rw [k0 _ hK]
    exact g_iret rfl rfl
  · refine g_ifcn (t := 65) rfl (m_eqF c3) ?_
    refine g_in eF12_mustBe_61 mx2504 ?_
    refine g_ch [(0, .ref x0), (1, .int x1), (2, .int x2), (3, .int x3)] [.int 0] (pc' := 62) rfl rfl rfl ?_
    refine g_goto (t := 72) rfl ?_
    refine g_in eF12_mustBe_72 mx2504 ?_
    cases h
    rw [k0 _ hK]
    exact g_iret rfl rfl
theorem SF12_mustBe_49 {xs : Nat → Int32} {L : Nat} (x0 : Nat) (x1 : Int32) (x2 : Int32) (x3 : Int32) (s0 : Nat) (hp : m_H) {r : m_O × m_H} {K : (Int32 × m_H) → Prop} (k0 : ∀ x, K x → r = (.inl (some (.int x.1)), x.2)) {t : Int32 × m_H} (h : F12_mustBe_49 x0 x1 x2 x3 s0 hp = some t) (hK : K t) : m_Rn xs L 5 2504 49 [(0, .ref x0), (1, .int x1), (2, .int x2), (3, .int x3)] [.ref s0] hp r := by
  unfold F12_mustBe_49 at h
  refine g_in eF12_mustBe_49 mx2504 ?_
  refine g_ch [(0, .ref x0), (1, .int x1), (2, .int x2), (3, .int x3)] [.int 1, .ref s0] (pc' := 50) rfl rfl rfl ?_
  refine g_goto (t := 54) rfl ?_
  exact r_lv (SF12_mustBe_54 x0 x1 x2 x3 1 s0 hp (K := K) k0 h hK) rfl ⟨rfl, rfl, rfl, rfl, trivial⟩
theorem SF12_mustBe_25 {xs : Nat → Int32} {L : Nat} (x0 : Nat) (x1 : Int32) (x2 : Int32) (x3 : Int32) (s0 : Int32) (s1 : Nat) (hp : m_H) {r : m_O × m_H} {K : (Int32 × m_H) → Prop} (k0 : ∀ x, K x → r = (.inl (some (.int x.1)), x.2)) {t : Int32 × m_H} (h : F12_mustBe_25 x0 x1 x2 x3 s0 s1 hp = some t) (hK : K t) : m_Rn xs L 5 2504 25 [(0, .ref x0), (1, .int x1), (2, .int x2), (3, .int x3)] [.int s0, .ref s1] hp r := by
  unfold F12_mustBe_25 at h
  refine g_in eF12_mustBe_25 mx2504 ?_
  refine g_ch [(0, .ref x0), (1, .int x1), (2, .int x2), (3, .int x3)] [.int 1, .int s0, .ref s1] (pc' := 26) rfl rfl rfl ?_
  obtain ⟨z2, e1, h⟩ := m_bd h
  refine g_call (v := some (.int z2.1)) (h := z2.2) (st' := [.int z2.1]) (D1 := 0) (as := [.ref s1, .int s0, .int 1]) (Or.inr (Or.inl rfl)) q12_m82 (m_cv (as := [.int 1, .int s0]) (rest := []) (Or.inl rfl) q12_m82 jv2401 (OF12_throwsIf e1) rfl rfl rfl rfl) (by decide) (SF12_throwsIf e1) rfl ?_
  rcases m_ifd h with ⟨c3, h⟩ | ⟨c3, h⟩
  · refine g_ifcn (t := 61) rfl (m_neF c3) ?_
    refine g_in eF12_mustBe_32 mx2504 ?_
    refine g_ch [(0, .ref x0), (1, .int x1), (2, .int x2), (3, .int x3)] [.int x1, .ref x0] (pc' := 34) rfl rfl rfl ?_
    rcases m_ifd h with ⟨c4, h⟩ | ⟨c4, h⟩
    · refine g_ifc (t := 49) rfl (m_eqT c4) ?_
      exact r_lv (SF12_mustBe_49 x0 x1 x2 x3 x0 z2.2 (K := K) k0 h hK) rfl ⟨rfl, rfl, rfl, rfl, trivial⟩
    · refine g_ifcn (t := 49) rfl (m_eqF c4) ?_
      refine g_in eF12_mustBe_37 mx2504 ?_
      refine g_ch [(0, .ref x0), (1, .int x1), (2, .int x2), (3, .int x3)] [.ref x0, .int 0, .int x3, .ref x0] (pc' := 40) rfl rfl rfl ?_
      obtain ⟨v6, e5, h⟩ := m_bd h
      refine g_call (v := some (.int v6)) (h := z2.2) (st' := [.int v6, .int 0, .int x3, .ref x0]) (D1 := 0) (as := [.ref x0]) (Or.inr (Or.inl rfl)) q12_m86 (m_cv (as := []) (rest := [.int 0, .int x3, .ref x0]) (Or.inl rfl) q12_m86 jv2404 (OF12_week e5) rfl rfl rfl rfl) (by decide) (SF12_week e5) rfl ?_
      obtain ⟨v8, e7, h⟩ := m_bd h
      refine g_call (v := some (.int v8)) (h := z2.2) (st' := [.int v8, .ref x0]) (D1 := 0) (as := [.int x3, .int 0, .int v6]) (Or.inl rfl) q12_m74 (m_cs (as := [.int v6, .int 0, .int x3]) (rest := [.ref x0]) q12_m74 jv2402 rfl rfl rfl rfl rfl) (by decide) (SF12_in e7) rfl ?_
      rcases m_ifd h with ⟨c9, h⟩ | ⟨c9, h⟩
      · refine g_ifcn (t := 53) rfl (m_neF c9) ?_
        exact r_lv (SF12_mustBe_49 x0 x1 x2 x3 x0 z2.2 (K := K) k0 h hK) rfl ⟨rfl, rfl, rfl, rfl, trivial⟩
      · refine g_ifc (t := 53) rfl (m_neT c9) ?_
        refine g_in eF12_mustBe_53 mx2504 ?_
        refine g_ch [(0, .ref x0), (1, .int x1), (2, .int x2), (3, .int x3)] [.int 0, .ref x0] (pc' := 54) rfl rfl rfl ?_
        refine g_end ?_
        exact r_lv (SF12_mustBe_54 x0 x1 x2 x3 0 x0 z2.2 (K := K) k0 h hK) rfl ⟨rfl, rfl, rfl, rfl, trivial⟩
  · refine g_ifc (t := 61) rfl (m_neT c3) ?_
    refine g_in eF12_mustBe_61 mx2504 ?_
    refine g_ch [(0, .ref x0), (1, .int x1), (2, .int x2), (3, .int x3)] [.int 0] (pc' := 62) rfl rfl rfl ?_
    refine g_goto (t := 72) rfl ?_
    refine g_in eF12_mustBe_72 mx2504 ?_
    cases h
    rw [k0 _ hK]
    exact g_iret rfl rfl
theorem SF12_mustBe_20 {xs : Nat → Int32} {L : Nat} (x0 : Nat) (x1 : Int32) (x2 : Int32) (x3 : Int32) (s0 : Nat) (hp : m_H) {r : m_O × m_H} {K : (Int32 × m_H) → Prop} (k0 : ∀ x, K x → r = (.inl (some (.int x.1)), x.2)) {t : Int32 × m_H} (h : F12_mustBe_20 x0 x1 x2 x3 s0 hp = some t) (hK : K t) : m_Rn xs L 5 2504 20 [(0, .ref x0), (1, .int x1), (2, .int x2), (3, .int x3)] [.ref s0] hp r := by
  unfold F12_mustBe_20 at h
  refine g_in eF12_mustBe_20 mx2504 ?_
  refine g_ch [(0, .ref x0), (1, .int x1), (2, .int x2), (3, .int x3)] [.int 1, .ref s0] (pc' := 21) rfl rfl rfl ?_
  refine g_goto (t := 25) rfl ?_
  exact r_lv (SF12_mustBe_25 x0 x1 x2 x3 1 s0 hp (K := K) k0 h hK) rfl ⟨rfl, rfl, rfl, rfl, trivial⟩
theorem SF12_mustBe_0 {xs : Nat → Int32} {L : Nat} (x0 : Nat) (x1 : Int32) (x2 : Int32) (x3 : Int32) (hp : m_H) {r : m_O × m_H} {K : (Int32 × m_H) → Prop} (k0 : ∀ x, K x → r = (.inl (some (.int x.1)), x.2)) {t : Int32 × m_H} (h : F12_mustBe_0 x0 x1 x2 x3 hp = some t) (hK : K t) : m_Rn xs L 5 2504 0 [(0, .ref x0), (1, .int x1), (2, .int x2), (3, .int x3)] [] hp r := by
  unfold F12_mustBe_0 at h
  refine g_in eF12_mustBe_0 mx2504 ?_
  refine g_ch [(0, .ref x0), (1, .int x1), (2, .int x2), (3, .int x3)] [.int 0, .ref x0] (pc' := 2) rfl rfl rfl ?_
  obtain ⟨h1, e2, h⟩ := m_bd h
  refine g_pf q12_f3 e2 ?_
  refine g_ch [(0, .ref x0), (1, .int x1), (2, .int x2), (3, .int x3)] [.int x1, .ref x0] (pc' := 7) rfl rfl rfl ?_
  obtain ⟨v4, e3, h⟩ := m_bd h
  refine g_call (v := some (.int v4)) (h := h1) (st' := [.int v4, .ref x0]) (D1 := 1) (as := [.int x1]) (Or.inl rfl) q12_m103 (m_cs (as := [.int x1]) (rest := [.ref x0]) q12_m103 jv2411 rfl rfl rfl rfl rfl) (by decide) (SF12_noLand e3) rfl ?_
  rcases m_ifd h with ⟨c5, h⟩ | ⟨c5, h⟩
  · refine g_ifcn (t := 20) rfl (m_neF c5) ?_
    refine g_in eF12_mustBe_13 mx2504 ?_
    refine g_ch [(0, .ref x0), (1, .int x1), (2, .int x2), (3, .int x3)] [.int x2, .ref x0] (pc' := 14) rfl rfl rfl ?_
    obtain ⟨v7, e6, h⟩ := m_bd h
    refine g_call (v := some (.int v7)) (h := h1) (st' := [.int v7, .ref x0]) (D1 := 1) (as := [.int x2]) (Or.inl rfl) q12_m78 (m_cs (as := [.int x2]) (rest := [.ref x0]) q12_m78 jv2410 rfl rfl rfl rfl rfl) (by decide) (SF12_noSort e6) rfl ?_
    rcases m_ifd h with ⟨c8, h⟩ | ⟨c8, h⟩
    · refine g_ifc (t := 24) rfl (m_eqT c8) ?_
      refine g_in eF12_mustBe_24 mx2504 ?_
      refine g_ch [(0, .ref x0), (1, .int x1), (2, .int x2), (3, .int x3)] [.int 0, .ref x0] (pc' := 25) rfl rfl rfl ?_
      refine g_end ?_
      exact r_lv (SF12_mustBe_25 x0 x1 x2 x3 0 x0 h1 (K := K) k0 h hK) rfl ⟨rfl, rfl, rfl, rfl, trivial⟩
    · refine g_ifcn (t := 24) rfl (m_eqF c8) ?_
      exact r_lv (SF12_mustBe_20 x0 x1 x2 x3 x0 h1 (K := K) k0 h hK) rfl ⟨rfl, rfl, rfl, rfl, trivial⟩
  · refine g_ifc (t := 20) rfl (m_neT c5) ?_
    exact r_lv (SF12_mustBe_20 x0 x1 x2 x3 x0 h1 (K := K) k0 h hK) rfl ⟨rfl, rfl, rfl, rfl, trivial⟩
theorem OF12_mustBe {x0 : Nat} {x1 : Int32} {x2 : Int32} {x3 : Int32} {hp : m_H} {x : Int32 × m_H} (h : F12_mustBe x0 x1 x2 x3 hp = some x) : m_isO hp 9 x0 = true := (m_gdd h).1
theorem SF12_mustBe {xs : Nat → Int32} {L : Nat} {x0 : Nat} {x1 : Int32} {x2 : Int32} {x3 : Int32} {hp : m_H} {x : Int32 × m_H} (h : F12_mustBe x0 x1 x2 x3 hp = some x) : m_Rn xs L 5 2504 0 (lv_args 0 [.ref x0, .int x1, .int x2, .int x3]) [] hp (.inl (some (.int x.1)), x.2) :=
  r_lv (SF12_mustBe_0 x0 x1 x2 x3 hp (K := fun y => y = x) (fun y e => by rw [e]) (m_gdd h).2 rfl) rfl ⟨rfl, rfl, rfl, rfl, trivial⟩
-- F12_seen: LendHouseModel.seen(III)I
theorem eF12_seen_0 : m_Fe mi12_105 0 (m_ap [(.aload_n 0, 1), (.iconst 0, 1)] ((.putfield 3, 3) :: (m_ap [(.aload_n 0, 1), (.iload_n 1, 1)] ((.invokestatic 103, 3) :: ([(.ifCond .ne 10, 3)]))))) := m_Fe_of nd2505 0 7 rfl
theorem eF12_seen_13 : m_Fe mi12_105 13 (m_ap [(.iload_n 2, 1)] ((.invokestatic 78, 3) :: ([(.ifCond .eq 7, 3)]))) := m_Fe_of nd2505 7 3 rfl
theorem eF12_seen_24 : m_Fe mi12_105 24 (m_ap [(.iconst 0, 1)] ([])) := m_Fe_of nd2505 12 1 rfl
theorem eF12_seen_20 : m_Fe mi12_105 20 (m_ap [(.iconst 1, 1)] ([(.goto 4, 3)])) := m_Fe_of nd2505 10 2 rfl
theorem eF12_seen_25 : m_Fe mi12_105 25 (m_ap [(.iconst 1, 1)] ((.invokevirtual 82, 3) :: ([(.ifCond .ne 31, 3)]))) := m_Fe_of nd2505 13 3 rfl
theorem eF12_seen_60 : m_Fe mi12_105 60 (m_ap [(.iconst 0, 1)] ([(.ireturn, 1)])) := m_Fe_of nd2505 30 2 rfl
theorem eF12_seen_32 : m_Fe mi12_105 32 (m_ap [(.aload_n 0, 1), (.iload_n 1, 1)] ([(.ifCond .eq 14, 3)])) := m_Fe_of nd2505 16 3 rfl
theorem eF12_seen_37 : m_Fe mi12_105 37 (m_ap [(.iload_n 3, 1), (.iconst 1, 1), (.ldc_w 388, 3)] ((.invokestatic 74, 3) :: ([(.ifCond .ne 7, 3)]))) := m_Fe_of nd2505 19 5 rfl
theorem eF12_seen_52 : m_Fe mi12_105 52 (m_ap [(.iconst 0, 1)] ([])) := m_Fe_of nd2505 26 1 rfl
theorem eF12_seen_48 : m_Fe mi12_105 48 (m_ap [(.iconst 1, 1)] ([(.goto 4, 3)])) := m_Fe_of nd2505 24 2 rfl
theorem eF12_seen_53 : m_Fe mi12_105 53 (m_ap [(.iconst 2, 1)] ((.invokevirtual 82, 3) :: ([(.ifCond .eq 5, 3)]))) := m_Fe_of nd2505 27 3 rfl
theorem eF12_seen_62 : m_Fe mi12_105 62 (m_ap [(.aload_n 0, 1)] ((.getfield 14, 3) :: (m_ap [(.sipush 3987, 3)] ((.iaload, 1) :: (m_ap [(.istore 4, 2), (.iload 4, 2), (.bipush 60, 2)] ([(.if_icmp .ne 5, 3)])))))) := m_Fe_of nd2505 32 8 rfl
theorem eF12_seen_81 : m_Fe mi12_105 81 (m_ap [(.aload_n 0, 1)] ((.getfield 14, 3) :: (m_ap [(.sipush 3988, 3), (.iconst 3, 1), (.iload 4, 2), (.imul, 1), (.iadd, 1), (.iload_n 1, 1)] ((.iastore, 1) :: (m_ap [(.aload_n 0, 1)] ((.getfield 14, 3) :: (m_ap [(.sipush 3988, 3), (.iconst 3, 1), (.iload 4, 2), (.imul, 1), (.iadd, 1), (.iconst 1, 1), (.iadd, 1), (.iload_n 2, 1)] ((.iastore, 1) :: (m_ap [(.aload_n 0, 1)] ((.getfield 14, 3) :: (m_ap [(.sipush 3988, 3), (.iconst 3, 1), (.iload 4, 2), (.imul, 1), (.iadd, 1), (.iconst 2, 1), (.iadd, 1), (.iload_n 3, 1)] ((.iastore, 1) :: (m_ap [(.aload_n 0, 1)] ((.getfield 14, 3) :: (m_ap [(.sipush 3987, 3), (.dup2, 1)] ((.iaload, 1) :: (m_ap [(.iconst 1, 1), (.iadd, 1)] ((.iastore, 1) :: (m_ap [(.iload 4, 2), (.iconst 1, 1), (.iadd, 1)] ([(.ireturn, 1)])))))))))))))))))))) := m_Fe_of nd2505 42 43 rfl
theorem eF12_seen_79 : m_Fe mi12_105 79 (m_ap [(.iconst (-1), 1)] ([(.ireturn, 1)])) := m_Fe_of nd2505 40 2 rfl
theorem SF12_seen_53 {xs : Nat → Int32} {L : Nat} (x0 : Nat) (x1 : Int32) (x2 : Int32) (x3 : Int32) (s0 : Int32) (s1 : Nat) (hp : m_H) {r : m_O × m_H} {K : (Int32 × m_H) → Prop} (k0 : ∀ x, K x → r = (.inl (some (.int x.1)), x.2)) {t : Int32 × m_H} (h : F12_seen_53 x0 x1 x2 x3 s0 s1 hp = some t) (hK : K t) : m_Rn xs L 2 2505 53 [(0, .ref x0), (1, .int x1), (2, .int x2), (3, .int x3)] [.int s0, .ref s1] hp r := by
  unfold F12_seen_53 at h
  refine g_in eF12_seen_53 mx2505 ?_
  refine g_ch [(0, .ref x0), (1, .int x1), (2, .int x2), (3, .int x3)] [.int 2, .int s0, .ref s1] (pc' := 54) rfl rfl rfl ?_
  obtain ⟨z2, e1, h⟩ := m_bd h
  refine g_call (v := some (.int z2.1)) (h := z2.2) (st' := [.int z2.1]) (D1 := 0) (as := [.ref s1, .int s0, .int 2]) (Or.inr (Or.inl rfl)) q12_m82 (m_cv (as := [.int 2, .int s0]) (rest := []) (Or.inl rfl) q12_m82 jv2401 (OF12_throwsIf e1) rfl rfl rfl rfl) (by decide) (SF12_throwsIf e1) rfl ?_
  rcases m_ifd h with ⟨c3, h⟩ | ⟨c3, h⟩
  · refine g_ifc (t := 62) rfl (m_eqT c3) ?_
    refine g_in eF12_seen_62 mx2505 ?_
    refine g_ch [(0, .ref x0), (1, .int x1), (2, .int x2), (3, .int x3)] [.ref x0] (pc' := 63) rfl rfl rfl ?_
    obtain ⟨v4, e5, h⟩ := m_bd h
    refine g_gr q12_f14 e5 ?_
    refine g_ch [(0, .ref x0), (1, .int x1), (2, .int x2), (3, .int x3)] [.int 3987, .ref v4] (pc' := 69) rfl rfl rfl ?_
    obtain ⟨v6, e7, h⟩ := m_bd h
    refine g_ia e7 ?_
    refine g_ch [(4, .int v6), (0, .ref x0), (1, .int x1), (2, .int x2), (3, .int x3)] [.int 60, .int v6] (pc' := 76) rfl rfl rfl ?_
    rcases m_ifd h with ⟨c8, h⟩ | ⟨c8, h⟩
    · refine g_ifn (t := 81) rfl (m_neF c8) ?_
      refine g_in eF12_seen_79 mx2505 ?_
      refine g_ch [(4, .int v6), (0, .ref x0), (1, .int x1), (2, .int x2), (3, .int x3)] [.int (-1)] (pc' := 80) rfl rfl rfl ?_
      cases h
      rw [k0 _ hK]
      exact g_iret rfl rfl
    · refine g_if (t := 81) rfl (m_neT c8) ?_
      refine g_in eF12_seen_81 mx2505 ?_
      refine g_ch [(4, .int v6), (0, .ref x0), (1, .int x1), (2, .int x2), (3, .int x3)] [.ref x0] (pc' := 82) rfl rfl rfl ?_
      obtain ⟨v9, e10, h⟩ := m_bd h
      refine g_gr q12_f14 e10 ?_
      refine g_ch [(4, .int v6), (0, .ref x0), (1, .int x1), (2, .int x2), (3, .int x3)] [.int x1, .int (3988 + (3 * v6)), .ref v9] (pc' := 94) rfl rfl rfl ?_
      obtain ⟨h11, e12, h⟩ := m_bd h
      refine g_is e12 ?_
      refine g_ch [(4, .int v6), (0, .ref x0), (1, .int x1), (2, .int x2), (3, .int x3)] [.ref x0] (pc' := 96) rfl rfl rfl ?_
      obtain ⟨v13, e14, h⟩ := m_bd h
      refine g_gr q12_f14 e14 ?_
      refine g_ch [(4, .int v6), (0, .ref x0), (1, .int x1), (2, .int x2), (3, .int x3)] [.int x2, .int ((3988 + (3 * v6)) + 1), .ref v13] (pc' := 110) rfl rfl rfl ?_
      obtain ⟨h15, e16, h⟩ := m_bd h
      refine g_is e16 ?_
      refine g_ch [(4, .int v6), (0, .ref x0), (1, .int x1), (2, .int x2), (3, .int x3)] [.ref x0] (pc' := 112) rfl rfl rfl ?_
      obtain ⟨v17, e18, h⟩ := m_bd h
      refine g_gr q12_f14 e18 ?_
      refine g_ch [(4, .int v6), (0, .ref x0), (1, .int x1), (2, .int x2), (3, .int x3)] [.int x3, .int ((3988 + (3 * v6)) + 2), .ref v17] (pc' := 126) rfl rfl rfl ?_
      obtain ⟨h19, e20, h⟩ := m_bd h
      refine g_is e20 ?_
      refine g_ch [(4, .int v6), (0, .ref x0), (1, .int x1), (2, .int x2), (3, .int x3)] [.ref x0] (pc' := 128) rfl rfl rfl ?_
      obtain ⟨v21, e22, h⟩ := m_bd h
      refine g_gr q12_f14 e22 ?_
      refine g_ch [(4, .int v6), (0, .ref x0), (1, .int x1), (2, .int x2), (3, .int x3)] [.int 3987, .ref v21, .int 3987, .ref v21] (pc' := 135) rfl rfl rfl ?_
      obtain ⟨v23, e24, h⟩ := m_bd h
      refine g_ia e24 ?_
      refine g_ch [(4, .int v6), (0, .ref x0), (1, .int x1), (2, .int x2), (3, .int x3)] [.int (v23 + 1), .int 3987, .ref v21] (pc' := 138) rfl rfl rfl ?_
      obtain ⟨h25, e26, h⟩ := m_bd h
      refine g_is e26 ?_
      refine g_ch [(4, .int v6), (0, .ref x0), (1, .int x1), (2, .int x2), (3, .int x3)] [.int (v6 + 1)] (pc' := 143) rfl rfl rfl ?_
      cases h
      rw [k0 _ hK]
      exact g_iret rfl rfl
  · refine g_ifcn (t := 62) rfl (m_eqF c3) ?_
    refine g_in eF12_seen_60 mx2505 ?_
    refine g_ch [(0, .ref x0), (1, .int x1), (2, .int x2), (3, .int x3)] [.int 0] (pc' := 61) rfl rfl rfl ?_
    cases h
    rw [k0 _ hK]
    exact g_iret rfl rfl
theorem SF12_seen_48 {xs : Nat → Int32} {L : Nat} (x0 : Nat) (x1 : Int32) (x2 : Int32) (x3 : Int32) (s0 : Nat) (hp : m_H) {r : m_O × m_H} {K : (Int32 × m_H) → Prop} (k0 : ∀ x, K x → r = (.inl (some (.int x.1)), x.2)) {t : Int32 × m_H} (h : F12_seen_48 x0 x1 x2 x3 s0 hp = some t) (hK : K t) : m_Rn xs L 2 2505 48 [(0, .ref x0), (1, .int x1), (2, .int x2), (3, .int x3)] [.ref s0] hp r := by
  unfold F12_seen_48 at h
  refine g_in eF12_seen_48 mx2505 ?_
  refine g_ch [(0, .ref x0), (1, .int x1), (2, .int x2), (3, .int x3)] [.int 1, .ref s0] (pc' := 49) rfl rfl rfl ?_
  refine g_goto (t := 53) rfl ?_
  exact r_lv (SF12_seen_53 x0 x1 x2 x3 1 s0 hp (K := K) k0 h hK) rfl ⟨rfl, rfl, rfl, rfl, trivial⟩
theorem SF12_seen_25 {xs : Nat → Int32} {L : Nat} (x0 : Nat) (x1 : Int32) (x2 : Int32) (x3 : Int32) (s0 : Int32) (s1 : Nat) (hp : m_H) {r : m_O × m_H} {K : (Int32 × m_H) → Prop} (k0 : ∀ x, K x → r = (.inl (some (.int x.1)), x.2)) {t : Int32 × m_H} (h : F12_seen_25 x0 x1 x2 x3 s0 s1 hp = some t) (hK : K t) : m_Rn xs L 2 2505 25 [(0, .ref x0), (1, .int x1), (2, .int x2), (3, .int x3)] [.int s0, .ref s1] hp r := by
  unfold F12_seen_25 at h
  refine g_in eF12_seen_25 mx2505 ?_
  refine g_ch [(0, .ref x0), (1, .int x1), (2, .int x2), (3, .int x3)] [.int 1, .int s0, .ref s1] (pc' := 26) rfl rfl rfl ?_
  obtain ⟨z2, e1, h⟩ := m_bd h
  refine g_call (v := some (.int z2.1)) (h := z2.2) (st' := [.int z2.1]) (D1 := 0) (as := [.ref s1, .int s0, .int 1]) (Or.inr (Or.inl rfl)) q12_m82 (m_cv (as := [.int 1, .int s0]) (rest := []) (Or.inl rfl) q12_m82 jv2401 (OF12_throwsIf e1) rfl rfl rfl rfl) (by decide) (SF12_throwsIf e1) rfl ?_
  rcases m_ifd h with ⟨c3, h⟩ | ⟨c3, h⟩
  · refine g_ifcn (t := 60) rfl (m_neF c3) ?_
    refine g_in eF12_seen_32 mx2505 ?_
    refine g_ch [(0, .ref x0), (1, .int x1), (2, .int x2), (3, .int x3)] [.int x1, .ref x0] (pc' := 34) rfl rfl rfl ?_
    rcases m_ifd h with ⟨c4, h⟩ | ⟨c4, h⟩
    · refine g_ifc (t := 48) rfl (m_eqT c4) ?_
      exact r_lv (SF12_seen_48 x0 x1 x2 x3 x0 z2.2 (K := K) k0 h hK) rfl ⟨rfl, rfl, rfl, rfl, trivial⟩
    · refine g_ifcn (t := 48) rfl (m_eqF c4) ?_
      refine g_in eF12_seen_37 mx2505 ?_
      refine g_ch [(0, .ref x0), (1, .int x1), (2, .int x2), (3, .int x3)] [.int 100000, .int 1, .int x3, .ref x0] (pc' := 42) rfl rfl rfl ?_
      obtain ⟨v6, e5, h⟩ := m_bd h
      refine g_call (v := some (.int v6)) (h := z2.2) (st' := [.int v6, .ref x0]) (D1 := 0) (as := [.int x3, .int 1, .int 100000]) (Or.inl rfl) q12_m74 (m_cs (as := [.int 100000, .int 1, .int x3]) (rest := [.ref x0]) q12_m74 jv2402 rfl rfl rfl rfl rfl) (by decide) (SF12_in e5) rfl ?_
      rcases m_ifd h with ⟨c7, h⟩ | ⟨c7, h⟩
      · refine g_ifcn (t := 52) rfl (m_neF c7) ?_
        exact r_lv (SF12_seen_48 x0 x1 x2 x3 x0 z2.2 (K := K) k0 h hK) rfl ⟨rfl, rfl, rfl, rfl, trivial⟩
      · refine g_ifc (t := 52) rfl (m_neT c7) ?_
        refine g_in eF12_seen_52 mx2505 ?_
        refine g_ch [(0, .ref x0), (1, .int x1), (2, .int x2), (3, .int x3)] [.int 0, .ref x0] (pc' := 53) rfl rfl rfl ?_
        refine g_end ?_
        exact r_lv (SF12_seen_53 x0 x1 x2 x3 0 x0 z2.2 (K := K) k0 h hK) rfl ⟨rfl, rfl, rfl, rfl, trivial⟩
  · refine g_ifc (t := 60) rfl (m_neT c3) ?_
    refine g_in eF12_seen_60 mx2505 ?_
    refine g_ch [(0, .ref x0), (1, .int x1), (2, .int x2), (3, .int x3)] [.int 0] (pc' := 61) rfl rfl rfl ?_
    cases h
    rw [k0 _ hK]
    exact g_iret rfl rfl
theorem SF12_seen_20 {xs : Nat → Int32} {L : Nat} (x0 : Nat) (x1 : Int32) (x2 : Int32) (x3 : Int32) (s0 : Nat) (hp : m_H) {r : m_O × m_H} {K : (Int32 × m_H) → Prop} (k0 : ∀ x, K x → r = (.inl (some (.int x.1)), x.2)) {t : Int32 × m_H} (h : F12_seen_20 x0 x1 x2 x3 s0 hp = some t) (hK : K t) : m_Rn xs L 2 2505 20 [(0, .ref x0), (1, .int x1), (2, .int x2), (3, .int x3)] [.ref s0] hp r := by
  unfold F12_seen_20 at h
  refine g_in eF12_seen_20 mx2505 ?_
  refine g_ch [(0, .ref x0), (1, .int x1), (2, .int x2), (3, .int x3)] [.int 1, .ref s0] (pc' := 21) rfl rfl rfl ?_
  refine g_goto (t := 25) rfl ?_
  exact r_lv (SF12_seen_25 x0 x1 x2 x3 1 s0 hp (K := K) k0 h hK) rfl ⟨rfl, rfl, rfl, rfl, trivial⟩
theorem SF12_seen_0 {xs : Nat → Int32} {L : Nat} (x0 : Nat) (x1 : Int32) (x2 : Int32) (x3 : Int32) (hp : m_H) {r : m_O × m_H} {K : (Int32 × m_H) → Prop} (k0 : ∀ x, K x → r = (.inl (some (.int x.1)), x.2)) {t : Int32 × m_H} (h : F12_seen_0 x0 x1 x2 x3 hp = some t) (hK : K t) : m_Rn xs L 2 2505 0 [(0, .ref x0), (1, .int x1), (2, .int x2), (3, .int x3)] [] hp r := by
  unfold F12_seen_0 at h
  refine g_in eF12_seen_0 mx2505 ?_
  refine g_ch [(0, .ref x0), (1, .int x1), (2, .int x2), (3, .int x3)] [.int 0, .ref x0] (pc' := 2) rfl rfl rfl ?_
  obtain ⟨h1, e2, h⟩ := m_bd h
  refine g_pf q12_f3 e2 ?_
  refine g_ch [(0, .ref x0), (1, .int x1), (2, .int x2), (3, .int x3)] [.int x1, .ref x0] (pc' := 7) rfl rfl rfl ?_
  obtain ⟨v4, e3, h⟩ := m_bd h
  refine g_call (v := some (.int v4)) (h := h1) (st' := [.int v4, .ref x0]) (D1 := 1) (as := [.int x1]) (Or.inl rfl) q12_m103 (m_cs (as := [.int x1]) (rest := [.ref x0]) q12_m103 jv2411 rfl rfl rfl rfl rfl) (by decide) (SF12_noLand e3) rfl ?_
  rcases m_ifd h with ⟨c5, h⟩ | ⟨c5, h⟩
  · refine g_ifcn (t := 20) rfl (m_neF c5) ?_
    refine g_in eF12_seen_13 mx2505 ?_
    refine g_ch [(0, .ref x0), (1, .int x1), (2, .int x2), (3, .int x3)] [.int x2, .ref x0] (pc' := 14) rfl rfl rfl ?_
    obtain ⟨v7, e6, h⟩ := m_bd h
    refine g_call (v := some (.int v7)) (h := h1) (st' := [.int v7, .ref x0]) (D1 := 1) (as := [.int x2]) (Or.inl rfl) q12_m78 (m_cs (as := [.int x2]) (rest := [.ref x0]) q12_m78 jv2410 rfl rfl rfl rfl rfl) (by decide) (SF12_noSort e6) rfl ?_
    rcases m_ifd h with ⟨c8, h⟩ | ⟨c8, h⟩
    · refine g_ifc (t := 24) rfl (m_eqT c8) ?_
      refine g_in eF12_seen_24 mx2505 ?_
      refine g_ch [(0, .ref x0), (1, .int x1), (2, .int x2), (3, .int x3)] [.int 0, .ref x0] (pc' := 25) rfl rfl rfl ?_
      refine g_end ?_
      exact r_lv (SF12_seen_25 x0 x1 x2 x3 0 x0 h1 (K := K) k0 h hK) rfl ⟨rfl, rfl, rfl, rfl, trivial⟩
    · refine g_ifcn (t := 24) rfl (m_eqF c8) ?_
      exact r_lv (SF12_seen_20 x0 x1 x2 x3 x0 h1 (K := K) k0 h hK) rfl ⟨rfl, rfl, rfl, rfl, trivial⟩
  · refine g_ifc (t := 20) rfl (m_neT c5) ?_
    exact r_lv (SF12_seen_20 x0 x1 x2 x3 x0 h1 (K := K) k0 h hK) rfl ⟨rfl, rfl, rfl, rfl, trivial⟩
theorem OF12_seen {x0 : Nat} {x1 : Int32} {x2 : Int32} {x3 : Int32} {hp : m_H} {x : Int32 × m_H} (h : F12_seen x0 x1 x2 x3 hp = some x) : m_isO hp 9 x0 = true := (m_gdd h).1
theorem SF12_seen {xs : Nat → Int32} {L : Nat} {x0 : Nat} {x1 : Int32} {x2 : Int32} {x3 : Int32} {hp : m_H} {x : Int32 × m_H} (h : F12_seen x0 x1 x2 x3 hp = some x) : m_Rn xs L 2 2505 0 (lv_args 0 [.ref x0, .int x1, .int x2, .int x3]) [] hp (.inl (some (.int x.1)), x.2) :=
  r_lv (SF12_seen_0 x0 x1 x2 x3 hp (K := fun y => y = x) (fun y e => by rw [e]) (m_gdd h).2 rfl) rfl ⟨rfl, rfl, rfl, rfl, trivial⟩
-- F12_cameTo: LendHouseModel.cameTo(II)I
theorem eF12_cameTo_0 : m_Fe mi12_106 0 (m_ap [(.aload_n 0, 1)] ((.getfield 14, 3) :: (m_ap [(.bipush 109, 2), (.iload_n 1, 1), (.iload_n 2, 1)] ((.invokestatic 109, 3) :: ((.iaload, 1) :: (m_ap [(.aload_n 0, 1)] ((.getfield 14, 3) :: (m_ap [(.sipush 157, 3), (.iload_n 1, 1), (.iload_n 2, 1)] ((.invokestatic 109, 3) :: ((.iaload, 1) :: (m_ap [(.iadd, 1)] ([(.ireturn, 1)])))))))))))) := m_Fe_of nd2506 0 16 rfl
theorem SF12_cameTo_0 {xs : Nat → Int32} {L : Nat} (x0 : Nat) (x1 : Int32) (x2 : Int32) (hp : m_H) {r : m_O × m_H} {K : Int32 → Prop} (k0 : ∀ x, K x → r = (.inl (some (.int x)), hp)) {t : Int32} (h : F12_cameTo_0 x0 x1 x2 hp = some t) (hK : K t) : m_Rn xs L 1 2506 0 [(0, .ref x0), (1, .int x1), (2, .int x2)] [] hp r := by
  unfold F12_cameTo_0 at h
  refine g_in eF12_cameTo_0 mx2506 ?_
  refine g_ch [(0, .ref x0), (1, .int x1), (2, .int x2)] [.ref x0] (pc' := 1) rfl rfl rfl ?_
  obtain ⟨v1, e2, h⟩ := m_bd h
  refine g_gr q12_f14 e2 ?_
  refine g_ch [(0, .ref x0), (1, .int x1), (2, .int x2)] [.int x2, .int x1, .int 109, .ref v1] (pc' := 8) rfl rfl rfl ?_
  obtain ⟨v4, e3, h⟩ := m_bd h
  refine g_call (v := some (.int v4)) (h := hp) (st' := [.int v4, .ref v1]) (D1 := 0) (as := [.int 109, .int x1, .int x2]) (Or.inl rfl) q12_m109 (m_cs (as := [.int x2, .int x1, .int 109]) (rest := [.ref v1]) q12_m109 jv2414 rfl rfl rfl rfl rfl) (by decide) (SF12_both e3) rfl ?_
  obtain ⟨v5, e6, h⟩ := m_bd h
  refine g_ia e6 ?_
  refine g_ch [(0, .ref x0), (1, .int x1), (2, .int x2)] [.ref x0, .int v5] (pc' := 13) rfl rfl rfl ?_
  obtain ⟨v7, e8, h⟩ := m_bd h
  refine g_gr q12_f14 e8 ?_
  refine g_ch [(0, .ref x0), (1, .int x1), (2, .int x2)] [.int x2, .int x1, .int 157, .ref v7, .int v5] (pc' := 21) rfl rfl rfl ?_
  obtain ⟨v10, e9, h⟩ := m_bd h
  refine g_call (v := some (.int v10)) (h := hp) (st' := [.int v10, .ref v7, .int v5]) (D1 := 0) (as := [.int 157, .int x1, .int x2]) (Or.inl rfl) q12_m109 (m_cs (as := [.int x2, .int x1, .int 157]) (rest := [.ref v7, .int v5]) q12_m109 jv2414 rfl rfl rfl rfl rfl) (by decide) (SF12_both e9) rfl ?_
  obtain ⟨v11, e12, h⟩ := m_bd h
  refine g_ia e12 ?_
  refine g_ch [(0, .ref x0), (1, .int x1), (2, .int x2)] [.int (v5 + v11)] (pc' := 26) rfl rfl rfl ?_
  cases h
  rw [k0 _ hK]
  exact g_iret rfl rfl
theorem OF12_cameTo {x0 : Nat} {x1 : Int32} {x2 : Int32} {hp : m_H} {x : Int32} (h : F12_cameTo x0 x1 x2 hp = some x) : m_isO hp 9 x0 = true := (m_gdd h).1
theorem SF12_cameTo {xs : Nat → Int32} {L : Nat} {x0 : Nat} {x1 : Int32} {x2 : Int32} {hp : m_H} {x : Int32} (h : F12_cameTo x0 x1 x2 hp = some x) : m_Rn xs L 1 2506 0 (lv_args 0 [.ref x0, .int x1, .int x2]) [] hp (.inl (some (.int x)), hp) :=
  r_lv (SF12_cameTo_0 x0 x1 x2 hp (K := fun y => y = x) (fun y e => by rw [e]) (m_gdd h).2 rfl) rfl ⟨rfl, rfl, rfl, trivial⟩
-- F12_whence: LendHouseModel.whence(IIZ)I
theorem eF12_whence_0 : m_Fe mi12_107 0 (m_ap [(.aload_n 0, 1), (.iconst 0, 1)] ((.putfield 3, 3) :: (m_ap [(.aload_n 0, 1), (.iload_n 1, 1)] ((.invokestatic 103, 3) :: ([(.ifCond .ne 10, 3)]))))) := m_Fe_of nd2507 0 7 rfl
theorem eF12_whence_13 : m_Fe mi12_107 13 (m_ap [(.iload_n 2, 1)] ((.invokestatic 78, 3) :: ([(.ifCond .eq 7, 3)]))) := m_Fe_of nd2507 7 3 rfl
theorem eF12_whence_24 : m_Fe mi12_107 24 (m_ap [(.iconst 0, 1)] ([])) := m_Fe_of nd2507 12 1 rfl
theorem eF12_whence_20 : m_Fe mi12_107 20 (m_ap [(.iconst 1, 1)] ([(.goto 4, 3)])) := m_Fe_of nd2507 10 2 rfl
theorem eF12_whence_25 : m_Fe mi12_107 25 (m_ap [(.iconst 1, 1)] ((.invokevirtual 82, 3) :: ([(.ifCond .ne 20, 3)]))) := m_Fe_of nd2507 13 3 rfl
theorem eF12_whence_49 : m_Fe mi12_107 49 (m_ap [(.iconst 0, 1)] ([(.ireturn, 1)])) := m_Fe_of nd2507 25 2 rfl
theorem eF12_whence_32 : m_Fe mi12_107 32 (m_ap [(.aload_n 0, 1), (.iload_n 1, 1)] ([(.ifCond .ne 7, 3)])) := m_Fe_of nd2507 16 3 rfl
theorem eF12_whence_41 : m_Fe mi12_107 41 (m_ap [(.iconst 0, 1)] ([])) := m_Fe_of nd2507 21 1 rfl
theorem eF12_whence_37 : m_Fe mi12_107 37 (m_ap [(.iconst 1, 1)] ([(.goto 4, 3)])) := m_Fe_of nd2507 19 2 rfl
theorem eF12_whence_42 : m_Fe mi12_107 42 (m_ap [(.iconst 2, 1)] ((.invokevirtual 82, 3) :: ([(.ifCond .eq 5, 3)]))) := m_Fe_of nd2507 22 3 rfl
theorem eF12_whence_51 : m_Fe mi12_107 51 (m_ap [(.iconst 0, 1), (.istore 4, 2), (.iload_n 3, 1)] ([(.ifCond .eq 51, 3)])) := m_Fe_of nd2507 27 4 rfl
theorem eF12_whence_106 : m_Fe mi12_107 106 (m_ap [(.sipush 3988, 3), (.istore 5, 2)] ([])) := m_Fe_of nd2507 56 2 rfl
theorem eF12_whence_58 : m_Fe mi12_107 58 (m_ap [(.iconst 1, 1), (.istore 5, 2)] ([])) := m_Fe_of nd2507 31 2 rfl
theorem eF12_whence_111 : m_Fe mi12_107 111 (m_ap [(.iload 5, 2), (.sipush 3988, 3), (.iconst 3, 1), (.aload_n 0, 1)] ((.getfield 14, 3) :: (m_ap [(.sipush 3987, 3)] ((.iaload, 1) :: (m_ap [(.imul, 1), (.iadd, 1)] ([(.if_icmp .ge 49, 3)])))))) := m_Fe_of nd2507 58 10 rfl
theorem eF12_whence_176 : m_Fe mi12_107 176 (m_ap [(.iconst 0, 1), (.iload 4, 2), (.aload_n 0, 1), (.iload_n 1, 1), (.iload_n 2, 1)] ((.invokevirtual 389, 3) :: (m_ap [(.isub, 1)] ((.invokestatic 277, 3) :: ([(.ireturn, 1)]))))) := m_Fe_of nd2507 93 9 rfl
theorem eF12_whence_130 : m_Fe mi12_107 130 (m_ap [(.aload_n 0, 1)] ((.getfield 14, 3) :: (m_ap [(.iload 5, 2)] ((.iaload, 1) :: (m_ap [(.iload_n 1, 1)] ([(.if_icmp .ne 32, 3)])))))) := m_Fe_of nd2507 68 6 rfl
theorem eF12_whence_170 : m_Fe mi12_107 170 (m_ap [(.iinc 5 3, 3)] ([(.goto (-62), 3)])) := m_Fe_of nd2507 91 2 rfl
theorem eF12_whence_141 : m_Fe mi12_107 141 (m_ap [(.aload_n 0, 1)] ((.getfield 14, 3) :: (m_ap [(.iload 5, 2), (.iconst 1, 1), (.iadd, 1)] ((.iaload, 1) :: (m_ap [(.iload_n 2, 1)] ([(.if_icmp .ne 19, 3)])))))) := m_Fe_of nd2507 74 8 rfl
theorem eF12_whence_154 : m_Fe mi12_107 154 (m_ap [(.iload 4, 2), (.aload_n 0, 1)] ((.getfield 14, 3) :: (m_ap [(.iload 5, 2), (.iconst 2, 1), (.iadd, 1)] ((.iaload, 1) :: ((.invokestatic 277, 3) :: (m_ap [(.istore 4, 2)] ([]))))))) := m_Fe_of nd2507 82 9 rfl
theorem eF12_whence_61 : m_Fe mi12_107 61 (m_ap [(.iload 5, 2), (.bipush 6, 2)] ([(.if_icmp .ge 38, 3)])) := m_Fe_of nd2507 33 3 rfl
theorem eF12_whence_103 : m_Fe mi12_107 103 (m_ap [(.iload 4, 2)] ([(.ireturn, 1)])) := m_Fe_of nd2507 54 2 rfl
theorem eF12_whence_68 : m_Fe mi12_107 68 (m_ap [(.iload 4, 2), (.aload_n 0, 1)] ((.getfield 14, 3) :: (m_ap [(.bipush 109, 2), (.iload 5, 2), (.iload_n 2, 1)] ((.invokestatic 109, 3) :: ((.iaload, 1) :: ([(.ifCond .le 10, 3)])))))) := m_Fe_of nd2507 36 9 rfl
theorem eF12_whence_93 : m_Fe mi12_107 93 (m_ap [(.iconst 0, 1)] ([])) := m_Fe_of nd2507 49 1 rfl
theorem eF12_whence_94 : m_Fe mi12_107 94 (m_ap [(.ior, 1), (.istore 4, 2), (.iinc 5 1, 3)] ([(.goto (-39), 3)])) := m_Fe_of nd2507 50 4 rfl
theorem eF12_whence_86 : m_Fe mi12_107 86 (m_ap [(.iconst 1, 1), (.iload 5, 2), (.ishl, 1)] ([(.goto 4, 3)])) := m_Fe_of nd2507 45 4 rfl
theorem SF12_whence_111b {xs : Nat → Int32} {L : Nat} (x0 : Nat) (x1 : Int32) (x2 : Int32) (hp : m_H) (s : Int32 × Int32) {r : m_O × m_H} {K : ((Int32 × Int32) ⊕ (Int32 × m_H)) → Prop} (k0 : ∀ x, K (.inr x) → r = (.inl (some (.int x.1)), x.2)) (k1 : ∀ s, K (.inl s) → m_Rn xs L 7 2507 111 [(0, .ref x0), (1, .int x1), (2, .int x2), (4, .int s.1), (5, .int s.2)] [] hp r) {t : (Int32 × Int32) ⊕ (Int32 × m_H)} (h : F12_whence_111b x0 x1 x2 hp s = some t) (hK : K t) : m_Rn xs L 7 2507 111 [(0, .ref x0), (1, .int x1), (2, .int x2), (4, .int s.1), (5, .int s.2)] [] hp r := by
  unfold F12_whence_111b at h
  refine g_in eF12_whence_111 mx2507 ?_
  refine g_ch [(0, .ref x0), (1, .int x1), (2, .int x2), (4, .int s.1), (5, .int s.2)] [.ref x0, .int 3, .int 3988, .int s.2] (pc' := 118) rfl rfl rfl ?_
  obtain ⟨v1, e2, h⟩ := m_bd h
  refine g_gr q12_f14 e2 ?_
  refine g_ch [(0, .ref x0), (1, .int x1), (2, .int x2), (4, .int s.1), (5, .int s.2)] [.int 3987, .ref v1, .int 3, .int 3988, .int s.2] (pc' := 124) rfl rfl rfl ?_
  obtain ⟨v3, e4, h⟩ := m_bd h
  refine g_ia e4 ?_
  refine g_ch [(0, .ref x0), (1, .int x1), (2, .int x2), (4, .int s.1), (5, .int s.2)] [.int (3988 + (3 * v3)), .int s.2] (pc' := 127) rfl rfl rfl ?_
  rcases m_ifd h with ⟨c5, h⟩ | ⟨c5, h⟩
  · refine g_if (t := 176) rfl (m_geT c5) ?_
    refine g_in eF12_whence_176 mx2507 ?_
    refine g_ch [(0, .ref x0), (1, .int x1), (2, .int x2), (4, .int s.1), (5, .int s.2)] [.int x2, .int x1, .ref x0, .int s.1, .int 0] (pc' := 182) rfl rfl rfl ?_
    obtain ⟨v7, e6, h⟩ := m_bd h
    refine g_call (v := some (.int v7)) (h := hp) (st' := [.int v7, .int s.1, .int 0]) (D1 := 1) (as := [.ref x0, .int x1, .int x2]) (Or.inr (Or.inl rfl)) q12_m389 (m_cv (as := [.int x2, .int x1]) (rest := [.int s.1, .int 0]) (Or.inl rfl) q12_m389 jv2506 (OF12_cameTo e6) rfl rfl rfl rfl) (by decide) (SF12_cameTo e6) rfl ?_
    refine g_ch [(0, .ref x0), (1, .int x1), (2, .int x2), (4, .int s.1), (5, .int s.2)] [.int (s.1 - v7), .int 0] (pc' := 186) rfl rfl rfl ?_
    refine g_nat (Or.inl rfl) q12_m277 rfl (z := ([.int (m_max 0 (s.1 - v7))], hp)) rfl (by decide) ?_
    cases h
    rw [k0 _ hK]
    exact g_iret rfl rfl
  · refine g_ifn (t := 176) rfl (m_geF c5) ?_
    refine g_in eF12_whence_130 mx2507 ?_
    refine g_ch [(0, .ref x0), (1, .int x1), (2, .int x2), (4, .int s.1), (5, .int s.2)] [.ref x0] (pc' := 131) rfl rfl rfl ?_
    obtain ⟨v8, e9, h⟩ := m_bd h
    refine g_gr q12_f14 e9 ?_
    refine g_ch [(0, .ref x0), (1, .int x1), (2, .int x2), (4, .int s.1), (5, .int s.2)] [.int s.2, .ref v8] (pc' := 136) rfl rfl rfl ?_
    obtain ⟨v10, e11, h⟩ := m_bd h
    refine g_ia e11 ?_
    refine g_ch [(0, .ref x0), (1, .int x1), (2, .int x2), (4, .int s.1), (5, .int s.2)] [.int x1, .int v10] (pc' := 138) rfl rfl rfl ?_
    rcases m_ifd h with ⟨c12, h⟩ | ⟨c12, h⟩
    · refine g_ifn (t := 170) rfl (m_neF c12) ?_
      refine g_in eF12_whence_141 mx2507 ?_
      refine g_ch [(0, .ref x0), (1, .int x1), (2, .int x2), (4, .int s.1), (5, .int s.2)] [.ref x0] (pc' := 142) rfl rfl rfl ?_
      obtain ⟨v13, e14, h⟩ := m_bd h
      refine g_gr q12_f14 e14 ?_
      refine g_ch [(0, .ref x0), (1, .int x1), (2, .int x2), (4, .int s.1), (5, .int s.2)] [.int (s.2 + 1), .ref v13] (pc' := 149) rfl rfl rfl ?_
      obtain ⟨v15, e16, h⟩ := m_bd h
      refine g_ia e16 ?_
      refine g_ch [(0, .ref x0), (1, .int x1), (2, .int x2), (4, .int s.1), (5, .int s.2)] [.int x2, .int v15] (pc' := 151) rfl rfl rfl ?_
      rcases m_ifd h with ⟨c17, h⟩ | ⟨c17, h⟩
      · refine g_ifn (t := 170) rfl (m_neF c17) ?_
        refine g_in eF12_whence_154 mx2507 ?_
        refine g_ch [(0, .ref x0), (1, .int x1), (2, .int x2), (4, .int s.1), (5, .int s.2)] [.ref x0, .int s.1] (pc' := 157) rfl rfl rfl ?_
        obtain ⟨v18, e19, h⟩ := m_bd h
        refine g_gr q12_f14 e19 ?_
        refine g_ch [(0, .ref x0), (1, .int x1), (2, .int x2), (4, .int s.1), (5, .int s.2)] [.int (s.2 + 2), .ref v18, .int s.1] (pc' := 164) rfl rfl rfl ?_
        obtain ⟨v20, e21, h⟩ := m_bd h
        refine g_ia e21 ?_
        refine g_nat (Or.inl rfl) q12_m277 rfl (z := ([.int (m_max s.1 v20)], hp)) rfl (by decide) ?_
        refine g_ch [(4, .int (m_max s.1 v20)), (0, .ref x0), (1, .int x1), (2, .int x2), (5, .int s.2)] [] (pc' := 170) rfl rfl rfl ?_
        refine g_end ?_
        refine g_in eF12_whence_170 mx2507 ?_
        refine g_ch [(5, .int (s.2 + 3)), (4, .int (m_max s.1 v20)), (0, .ref x0), (1, .int x1), (2, .int x2)] [] (pc' := 173) rfl rfl rfl ?_
        refine g_goto (t := 111) rfl ?_
        cases h
        exact r_lv (k1 ((m_max s.1 v20), (s.2 + 3)) hK) rfl ⟨rfl, rfl, rfl, rfl, rfl, trivial⟩
      · refine g_if (t := 170) rfl (m_neT c17) ?_
        refine g_in eF12_whence_170 mx2507 ?_
        refine g_ch [(5, .int (s.2 + 3)), (0, .ref x0), (1, .int x1), (2, .int x2), (4, .int s.1)] [] (pc' := 173) rfl rfl rfl ?_
        refine g_goto (t := 111) rfl ?_
        cases h
        exact r_lv (k1 (s.1, (s.2 + 3)) hK) rfl ⟨rfl, rfl, rfl, rfl, rfl, trivial⟩
    · refine g_if (t := 170) rfl (m_neT c12) ?_
      refine g_in eF12_whence_170 mx2507 ?_
      refine g_ch [(5, .int (s.2 + 3)), (0, .ref x0), (1, .int x1), (2, .int x2), (4, .int s.1)] [] (pc' := 173) rfl rfl rfl ?_
      refine g_goto (t := 111) rfl ?_
      cases h
      exact r_lv (k1 (s.1, (s.2 + 3)) hK) rfl ⟨rfl, rfl, rfl, rfl, rfl, trivial⟩
theorem SF12_whence_111 {xs : Nat → Int32} {L : Nat} (x0 : Nat) (x1 : Int32) (x2 : Int32) (x4 : Int32) (x5 : Int32) (hp : m_H) {r : m_O × m_H} {K : Int32 × m_H → Prop} (k0 : ∀ x, K x → r = (.inl (some (.int x.1)), x.2)) {t : Int32 × m_H} (h : F12_whence_111 x0 x1 x2 x4 x5 hp = some t) (hK : K t) : m_Rn xs L 7 2507 111 [(0, .ref x0), (1, .int x1), (2, .int x2), (4, .int x4), (5, .int x5)] [] hp r :=
  m_wh_ok (P := fun s => m_Rn xs L 7 2507 111 [(0, .ref x0), (1, .int x1), (2, .int x2), (4, .int s.1), (5, .int s.2)] [] hp r) (Q := K) (fun s t hb hK => SF12_whence_111b x0 x1 x2 hp s (K := m_KK (fun s => m_Rn xs L 7 2507 111 [(0, .ref x0), (1, .int x1), (2, .int x2), (4, .int s.1), (5, .int s.2)] [] hp r) K) k0 (fun _ q => q) hb hK) m_N _ _ h hK
theorem SF12_whence_61b {xs : Nat → Int32} {L : Nat} (x0 : Nat) (x2 : Int32) (hp : m_H) (s : Int32 × Int32) {r : m_O × m_H} {K : ((Int32 × Int32) ⊕ (Int32 × m_H)) → Prop} (k0 : ∀ x, K (.inr x) → r = (.inl (some (.int x.1)), x.2)) (k1 : ∀ s, K (.inl s) → m_Rn xs L 7 2507 61 [(0, .ref x0), (2, .int x2), (4, .int s.1), (5, .int s.2)] [] hp r) {t : (Int32 × Int32) ⊕ (Int32 × m_H)} (h : F12_whence_61b x0 x2 hp s = some t) (hK : K t) : m_Rn xs L 7 2507 61 [(0, .ref x0), (2, .int x2), (4, .int s.1), (5, .int s.2)] [] hp r := by
  unfold F12_whence_61b at h
  refine g_in eF12_whence_61 mx2507 ?_
  refine g_ch [(0, .ref x0), (2, .int x2), (4, .int s.1), (5, .int s.2)] [.int 6, .int s.2] (pc' := 65) rfl rfl rfl ?_
  rcases m_ifd h with ⟨c1, h⟩ | ⟨c1, h⟩
  · refine g_if (t := 103) rfl (m_geT c1) ?_
    refine g_in eF12_whence_103 mx2507 ?_
    refine g_ch [(0, .ref x0), (2, .int x2), (4, .int s.1), (5, .int s.2)] [.int s.1] (pc' := 105) rfl rfl rfl ?_
    cases h
    rw [k0 _ hK]
    exact g_iret rfl rfl
  · refine g_ifn (t := 103) rfl (m_geF c1) ?_
    refine g_in eF12_whence_68 mx2507 ?_
    refine g_ch [(0, .ref x0), (2, .int x2), (4, .int s.1), (5, .int s.2)] [.ref x0, .int s.1] (pc' := 71) rfl rfl rfl ?_
    obtain ⟨v2, e3, h⟩ := m_bd h
    refine g_gr q12_f14 e3 ?_
    refine g_ch [(0, .ref x0), (2, .int x2), (4, .int s.1), (5, .int s.2)] [.int x2, .int s.2, .int 109, .ref v2, .int s.1] (pc' := 79) rfl rfl rfl ?_
    obtain ⟨v5, e4, h⟩ := m_bd h
    refine g_call (v := some (.int v5)) (h := hp) (st' := [.int v5, .ref v2, .int s.1]) (D1 := 0) (as := [.int 109, .int s.2, .int x2]) (Or.inl rfl) q12_m109 (m_cs (as := [.int x2, .int s.2, .int 109]) (rest := [.ref v2, .int s.1]) q12_m109 jv2414 rfl rfl rfl rfl rfl) (by decide) (SF12_both e4) rfl ?_
    obtain ⟨v6, e7, h⟩ := m_bd h
    refine g_ia e7 ?_
    rcases m_ifd h with ⟨c8, h⟩ | ⟨c8, h⟩
    · refine g_ifc (t := 93) rfl (m_leT c8) ?_
      refine g_in eF12_whence_93 mx2507 ?_
      refine g_ch [(0, .ref x0), (2, .int x2), (4, .int s.1), (5, .int s.2)] [.int 0, .int s.1] (pc' := 94) rfl rfl rfl ?_
      refine g_end ?_
      refine g_in eF12_whence_94 mx2507 ?_
      refine g_ch [(5, .int (s.2 + 1)), (4, .int (s.1 ||| 0)), (0, .ref x0), (2, .int x2)] [] (pc' := 100) rfl rfl rfl ?_
      refine g_goto (t := 61) rfl ?_
      cases h
      exact r_lv (k1 ((s.1 ||| 0), (s.2 + 1)) hK) rfl ⟨rfl, rfl, rfl, rfl, trivial⟩
    · refine g_ifcn (t := 93) rfl (m_leF c8) ?_
      refine g_in eF12_whence_86 mx2507 ?_
      refine g_ch [(0, .ref x0), (2, .int x2), (4, .int s.1), (5, .int s.2)] [.int (1 <<< (s.2 &&& 31)), .int s.1] (pc' := 90) rfl rfl rfl ?_
      refine g_goto (t := 94) rfl ?_
      refine g_in eF12_whence_94 mx2507 ?_
      refine g_ch [(5, .int (s.2 + 1)), (4, .int (s.1 ||| (1 <<< (s.2 &&& 31)))), (0, .ref x0), (2, .int x2)] [] (pc' := 100) rfl rfl rfl ?_
      refine g_goto (t := 61) rfl ?_
      cases h
      exact r_lv (k1 ((s.1 ||| (1 <<< (s.2 &&& 31))), (s.2 + 1)) hK) rfl ⟨rfl, rfl, rfl, rfl, trivial⟩
theorem SF12_whence_61 {xs : Nat → Int32} {L : Nat} (x0 : Nat) (x2 : Int32) (x4 : Int32) (x5 : Int32) (hp : m_H) {r : m_O × m_H} {K : Int32 × m_H → Prop} (k0 : ∀ x, K x → r = (.inl (some (.int x.1)), x.2)) {t : Int32 × m_H} (h : F12_whence_61 x0 x2 x4 x5 hp = some t) (hK : K t) : m_Rn xs L 7 2507 61 [(0, .ref x0), (2, .int x2), (4, .int x4), (5, .int x5)] [] hp r :=
  m_wh_ok (P := fun s => m_Rn xs L 7 2507 61 [(0, .ref x0), (2, .int x2), (4, .int s.1), (5, .int s.2)] [] hp r) (Q := K) (fun s t hb hK => SF12_whence_61b x0 x2 hp s (K := m_KK (fun s => m_Rn xs L 7 2507 61 [(0, .ref x0), (2, .int x2), (4, .int s.1), (5, .int s.2)] [] hp r) K) k0 (fun _ q => q) hb hK) m_N _ _ h hK
theorem SF12_whence_42 {xs : Nat → Int32} {L : Nat} (x0 : Nat) (x1 : Int32) (x2 : Int32) (x3 : Int32) (s0 : Int32) (s1 : Nat) (hp : m_H) {r : m_O × m_H} {K : (Int32 × m_H) → Prop} (k0 : ∀ x, K x → r = (.inl (some (.int x.1)), x.2)) {t : Int32 × m_H} (h : F12_whence_42 x0 x1 x2 x3 s0 s1 hp = some t) (hK : K t) : m_Rn xs L 7 2507 42 [(0, .ref x0), (1, .int x1), (2, .int x2), (3, .int x3)] [.int s0, .ref s1] hp r := by
  unfold F12_whence_42 at h
  refine g_in eF12_whence_42 mx2507 ?_
  refine g_ch [(0, .ref x0), (1, .int x1), (2, .int x2), (3, .int x3)] [.int 2, .int s0, .ref s1] (pc' := 43) rfl rfl rfl ?_
  obtain ⟨z2, e1, h⟩ := m_bd h
  refine g_call (v := some (.int z2.1)) (h := z2.2) (st' := [.int z2.1]) (D1 := 0) (as := [.ref s1, .int s0, .int 2]) (Or.inr (Or.inl rfl)) q12_m82 (m_cv (as := [.int 2, .int s0]) (rest := []) (Or.inl rfl) q12_m82 jv2401 (OF12_throwsIf e1) rfl rfl rfl rfl) (by decide) (SF12_throwsIf e1) rfl ?_
  rcases m_ifd h with ⟨c3, h⟩ | ⟨c3, h⟩
  · refine g_ifc (t := 51) rfl (m_eqT c3) ?_
    refine g_in eF12_whence_51 mx2507 ?_
    refine g_ch [(4, .int 0), (0, .ref x0), (1, .int x1), (2, .int x2), (3, .int x3)] [.int x3] (pc' := 55) rfl rfl rfl ?_
    rcases m_ifd h with ⟨c4, h⟩ | ⟨c4, h⟩
    · refine g_ifc (t := 106) rfl (m_eqT c4) ?_
      refine g_in eF12_whence_106 mx2507 ?_
      refine g_ch [(5, .int 3988), (4, .int 0), (0, .ref x0), (1, .int x1), (2, .int x2), (3, .int x3)] [] (pc' := 111) rfl rfl rfl ?_
      refine g_end ?_
      exact r_lv (SF12_whence_111 x0 x1 x2 0 3988 z2.2 (K := K) k0 h hK) rfl ⟨rfl, rfl, rfl, rfl, rfl, trivial⟩
    · refine g_ifcn (t := 106) rfl (m_eqF c4) ?_
      refine g_in eF12_whence_58 mx2507 ?_
      refine g_ch [(5, .int 1), (4, .int 0), (0, .ref x0), (1, .int x1), (2, .int x2), (3, .int x3)] [] (pc' := 61) rfl rfl rfl ?_
      refine g_end ?_
      exact r_lv (SF12_whence_61 x0 x2 0 1 z2.2 (K := K) k0 h hK) rfl ⟨rfl, rfl, rfl, rfl, trivial⟩
  · refine g_ifcn (t := 51) rfl (m_eqF c3) ?_
    refine g_in eF12_whence_49 mx2507 ?_
    refine g_ch [(0, .ref x0), (1, .int x1), (2, .int x2), (3, .int x3)] [.int 0] (pc' := 50) rfl rfl rfl ?_
    cases h
    rw [k0 _ hK]
    exact g_iret rfl rfl
theorem SF12_whence_25 {xs : Nat → Int32} {L : Nat} (x0 : Nat) (x1 : Int32) (x2 : Int32) (x3 : Int32) (s0 : Int32) (s1 : Nat) (hp : m_H) {r : m_O × m_H} {K : (Int32 × m_H) → Prop} (k0 : ∀ x, K x → r = (.inl (some (.int x.1)), x.2)) {t : Int32 × m_H} (h : F12_whence_25 x0 x1 x2 x3 s0 s1 hp = some t) (hK : K t) : m_Rn xs L 7 2507 25 [(0, .ref x0), (1, .int x1), (2, .int x2), (3, .int x3)] [.int s0, .ref s1] hp r := by
  unfold F12_whence_25 at h
  refine g_in eF12_whence_25 mx2507 ?_
  refine g_ch [(0, .ref x0), (1, .int x1), (2, .int x2), (3, .int x3)] [.int 1, .int s0, .ref s1] (pc' := 26) rfl rfl rfl ?_
  obtain ⟨z2, e1, h⟩ := m_bd h
  refine g_call (v := some (.int z2.1)) (h := z2.2) (st' := [.int z2.1]) (D1 := 0) (as := [.ref s1, .int s0, .int 1]) (Or.inr (Or.inl rfl)) q12_m82 (m_cv (as := [.int 1, .int s0]) (rest := []) (Or.inl rfl) q12_m82 jv2401 (OF12_throwsIf e1) rfl rfl rfl rfl) (by decide) (SF12_throwsIf e1) rfl ?_
  rcases m_ifd h with ⟨c3, h⟩ | ⟨c3, h⟩
  · refine g_ifcn (t := 49) rfl (m_neF c3) ?_
    refine g_in eF12_whence_32 mx2507 ?_
    refine g_ch [(0, .ref x0), (1, .int x1), (2, .int x2), (3, .int x3)] [.int x1, .ref x0] (pc' := 34) rfl rfl rfl ?_
    rcases m_ifd h with ⟨c4, h⟩ | ⟨c4, h⟩
    · refine g_ifcn (t := 41) rfl (m_neF c4) ?_
      refine g_in eF12_whence_37 mx2507 ?_
      refine g_ch [(0, .ref x0), (1, .int x1), (2, .int x2), (3, .int x3)] [.int 1, .ref x0] (pc' := 38) rfl rfl rfl ?_
      refine g_goto (t := 42) rfl ?_
      exact r_lv (SF12_whence_42 x0 x1 x2 x3 1 x0 z2.2 (K := K) k0 h hK) rfl ⟨rfl, rfl, rfl, rfl, trivial⟩
    · refine g_ifc (t := 41) rfl (m_neT c4) ?_
      refine g_in eF12_whence_41 mx2507 ?_
      refine g_ch [(0, .ref x0), (1, .int x1), (2, .int x2), (3, .int x3)] [.int 0, .ref x0] (pc' := 42) rfl rfl rfl ?_
      refine g_end ?_
      exact r_lv (SF12_whence_42 x0 x1 x2 x3 0 x0 z2.2 (K := K) k0 h hK) rfl ⟨rfl, rfl, rfl, rfl, trivial⟩
  · refine g_ifc (t := 49) rfl (m_neT c3) ?_
    refine g_in eF12_whence_49 mx2507 ?_
    refine g_ch [(0, .ref x0), (1, .int x1), (2, .int x2), (3, .int x3)] [.int 0] (pc' := 50) rfl rfl rfl ?_
    cases h
    rw [k0 _ hK]
    exact g_iret rfl rfl
theorem SF12_whence_20 {xs : Nat → Int32} {L : Nat} (x0 : Nat) (x1 : Int32) (x2 : Int32) (x3 : Int32) (s0 : Nat) (hp : m_H) {r : m_O × m_H} {K : (Int32 × m_H) → Prop} (k0 : ∀ x, K x → r = (.inl (some (.int x.1)), x.2)) {t : Int32 × m_H} (h : F12_whence_20 x0 x1 x2 x3 s0 hp = some t) (hK : K t) : m_Rn xs L 7 2507 20 [(0, .ref x0), (1, .int x1), (2, .int x2), (3, .int x3)] [.ref s0] hp r := by
  unfold F12_whence_20 at h
  refine g_in eF12_whence_20 mx2507 ?_
  refine g_ch [(0, .ref x0), (1, .int x1), (2, .int x2), (3, .int x3)] [.int 1, .ref s0] (pc' := 21) rfl rfl rfl ?_
  refine g_goto (t := 25) rfl ?_
  exact r_lv (SF12_whence_25 x0 x1 x2 x3 1 s0 hp (K := K) k0 h hK) rfl ⟨rfl, rfl, rfl, rfl, trivial⟩
theorem SF12_whence_0 {xs : Nat → Int32} {L : Nat} (x0 : Nat) (x1 : Int32) (x2 : Int32) (x3 : Int32) (hp : m_H) {r : m_O × m_H} {K : (Int32 × m_H) → Prop} (k0 : ∀ x, K x → r = (.inl (some (.int x.1)), x.2)) {t : Int32 × m_H} (h : F12_whence_0 x0 x1 x2 x3 hp = some t) (hK : K t) : m_Rn xs L 7 2507 0 [(0, .ref x0), (1, .int x1), (2, .int x2), (3, .int x3)] [] hp r := by
  unfold F12_whence_0 at h
  refine g_in eF12_whence_0 mx2507 ?_
  refine g_ch [(0, .ref x0), (1, .int x1), (2, .int x2), (3, .int x3)] [.int 0, .ref x0] (pc' := 2) rfl rfl rfl ?_
  obtain ⟨h1, e2, h⟩ := m_bd h
  refine g_pf q12_f3 e2 ?_
  refine g_ch [(0, .ref x0), (1, .int x1), (2, .int x2), (3, .int x3)] [.int x1, .ref x0] (pc' := 7) rfl rfl rfl ?_
  obtain ⟨v4, e3, h⟩ := m_bd h
  refine g_call (v := some (.int v4)) (h := h1) (st' := [.int v4, .ref x0]) (D1 := 1) (as := [.int x1]) (Or.inl rfl) q12_m103 (m_cs (as := [.int x1]) (rest := [.ref x0]) q12_m103 jv2411 rfl rfl rfl rfl rfl) (by decide) (SF12_noLand e3) rfl ?_
  rcases m_ifd h with ⟨c5, h⟩ | ⟨c5, h⟩
  · refine g_ifcn (t := 20) rfl (m_neF c5) ?_
    refine g_in eF12_whence_13 mx2507 ?_
    refine g_ch [(0, .ref x0), (1, .int x1), (2, .int x2), (3, .int x3)] [.int x2, .ref x0] (pc' := 14) rfl rfl rfl ?_
    obtain ⟨v7, e6, h⟩ := m_bd h
    refine g_call (v := some (.int v7)) (h := h1) (st' := [.int v7, .ref x0]) (D1 := 1) (as := [.int x2]) (Or.inl rfl) q12_m78 (m_cs (as := [.int x2]) (rest := [.ref x0]) q12_m78 jv2410 rfl rfl rfl rfl rfl) (by decide) (SF12_noSort e6) rfl ?_
    rcases m_ifd h with ⟨c8, h⟩ | ⟨c8, h⟩
    · refine g_ifc (t := 24) rfl (m_eqT c8) ?_
      refine g_in eF12_whence_24 mx2507 ?_
      refine g_ch [(0, .ref x0), (1, .int x1), (2, .int x2), (3, .int x3)] [.int 0, .ref x0] (pc' := 25) rfl rfl rfl ?_
      refine g_end ?_
      exact r_lv (SF12_whence_25 x0 x1 x2 x3 0 x0 h1 (K := K) k0 h hK) rfl ⟨rfl, rfl, rfl, rfl, trivial⟩
    · refine g_ifcn (t := 24) rfl (m_eqF c8) ?_
      exact r_lv (SF12_whence_20 x0 x1 x2 x3 x0 h1 (K := K) k0 h hK) rfl ⟨rfl, rfl, rfl, rfl, trivial⟩
  · refine g_ifc (t := 20) rfl (m_neT c5) ?_
    exact r_lv (SF12_whence_20 x0 x1 x2 x3 x0 h1 (K := K) k0 h hK) rfl ⟨rfl, rfl, rfl, rfl, trivial⟩
theorem OF12_whence {x0 : Nat} {x1 : Int32} {x2 : Int32} {x3 : Int32} {hp : m_H} {x : Int32 × m_H} (h : F12_whence x0 x1 x2 x3 hp = some x) : m_isO hp 9 x0 = true := (m_gdd h).1
theorem SF12_whence {xs : Nat → Int32} {L : Nat} {x0 : Nat} {x1 : Int32} {x2 : Int32} {x3 : Int32} {hp : m_H} {x : Int32 × m_H} (h : F12_whence x0 x1 x2 x3 hp = some x) : m_Rn xs L 7 2507 0 (lv_args 0 [.ref x0, .int x1, .int x2, .int x3]) [] hp (.inl (some (.int x.1)), x.2) :=
  r_lv (SF12_whence_0 x0 x1 x2 x3 hp (K := fun y => y = x) (fun y e => by rw [e]) (m_gdd h).2 rfl) rfl ⟨rfl, rfl, rfl, rfl, trivial⟩
-- F12_rock: LendHouseModel.rock(IIII)I
theorem eF12_rock_0 : m_Fe mi12_109 0 (m_ap [(.aload_n 0, 1), (.iconst 0, 1)] ((.putfield 3, 3) :: (m_ap [(.aload_n 0, 1), (.iload_n 1, 1)] ((.invokestatic 103, 3) :: (m_ap [(.iconst 1, 1)] ((.invokevirtual 82, 3) :: ([(.ifCond .ne 80, 3)]))))))) := m_Fe_of nd2509 0 9 rfl
theorem eF12_rock_94 : m_Fe mi12_109 94 (m_ap [(.iconst 0, 1)] ([(.ireturn, 1)])) := m_Fe_of nd2509 46 2 rfl
theorem eF12_rock_17 : m_Fe mi12_109 17 (m_ap [(.aload_n 0, 1), (.iload_n 1, 1)] ([(.ifCond .eq 37, 3)])) := m_Fe_of nd2509 9 3 rfl
theorem eF12_rock_22 : m_Fe mi12_109 22 (m_ap [(.iload_n 2, 1), (.iconst 1, 1), (.sipush 500, 3)] ((.invokestatic 74, 3) :: ([(.ifCond .eq 26, 3)]))) := m_Fe_of nd2509 12 5 rfl
theorem eF12_rock_33 : m_Fe mi12_109 33 (m_ap [(.iload_n 3, 1), (.iconst 0, 1), (.sipush 10000, 3)] ((.invokestatic 74, 3) :: ([(.ifCond .eq 15, 3)]))) := m_Fe_of nd2509 17 5 rfl
theorem eF12_rock_44 : m_Fe mi12_109 44 (m_ap [(.iload 4, 2), (.iconst 0, 1), (.sipush 1000, 3)] ((.invokestatic 74, 3) :: ([(.ifCond .ne 7, 3)]))) := m_Fe_of nd2509 22 5 rfl
theorem eF12_rock_60 : m_Fe mi12_109 60 (m_ap [(.iconst 0, 1)] ([])) := m_Fe_of nd2509 29 1 rfl
theorem eF12_rock_56 : m_Fe mi12_109 56 (m_ap [(.iconst 1, 1)] ([(.goto 4, 3)])) := m_Fe_of nd2509 27 2 rfl
theorem eF12_rock_61 : m_Fe mi12_109 61 (m_ap [(.iconst 2, 1)] ((.invokevirtual 82, 3) :: ([(.ifCond .ne 29, 3)]))) := m_Fe_of nd2509 30 3 rfl
theorem eF12_rock_68 : m_Fe mi12_109 68 (m_ap [(.aload_n 0, 1), (.aload_n 0, 1)] ((.getfield 14, 3) :: (m_ap [(.sipush 4168, 3)] ((.iaload, 1) :: (m_ap [(.bipush 10, 2)] ([(.if_icmp .ne 7, 3)])))))) := m_Fe_of nd2509 33 7 rfl
theorem eF12_rock_86 : m_Fe mi12_109 86 (m_ap [(.iconst 0, 1)] ([])) := m_Fe_of nd2509 42 1 rfl
theorem eF12_rock_82 : m_Fe mi12_109 82 (m_ap [(.iconst 1, 1)] ([(.goto 4, 3)])) := m_Fe_of nd2509 40 2 rfl
theorem eF12_rock_87 : m_Fe mi12_109 87 (m_ap [(.iconst 3, 1)] ((.invokevirtual 82, 3) :: ([(.ifCond .eq 5, 3)]))) := m_Fe_of nd2509 43 3 rfl
theorem eF12_rock_96 : m_Fe mi12_109 96 (m_ap [(.aload_n 0, 1)] ((.getfield 14, 3) :: (m_ap [(.sipush 4168, 3)] ((.iaload, 1) :: (m_ap [(.istore 5, 2), (.iload 5, 2)] ((.invokestatic 363, 3) :: (m_ap [(.istore 6, 2), (.aload_n 0, 1)] ((.getfield 14, 3) :: (m_ap [(.iload 6, 2), (.iload_n 1, 1)] ((.iastore, 1) :: (m_ap [(.aload_n 0, 1)] ((.getfield 14, 3) :: (m_ap [(.iload 6, 2), (.iconst 1, 1), (.iadd, 1), (.aload_n 0, 1)] ((.invokevirtual 86, 3) :: ((.iastore, 1) :: (m_ap [(.aload_n 0, 1)] ((.getfield 14, 3) :: (m_ap [(.iload 6, 2), (.iconst 2, 1), (.iadd, 1), (.iload_n 2, 1)] ((.iastore, 1) :: (m_ap [(.aload_n 0, 1)] ((.getfield 14, 3) :: (m_ap [(.iload 6, 2), (.iconst 3, 1), (.iadd, 1), (.iload_n 3, 1)] ((.iastore, 1) :: (m_ap [(.aload_n 0, 1)] ((.getfield 14, 3) :: (m_ap [(.iload 6, 2), (.iconst 4, 1), (.iadd, 1), (.iload 4, 2)] ((.iastore, 1) :: (m_ap [(.aload_n 0, 1)] ((.getfield 14, 3) :: (m_ap [(.iload 6, 2), (.iconst 5, 1), (.iadd, 1), (.iconst 0, 1)] ((.iastore, 1) :: (m_ap [(.aload_n 0, 1)] ((.getfield 14, 3) :: (m_ap [(.sipush 4168, 3), (.dup2, 1)] ((.iaload, 1) :: (m_ap [(.iconst 1, 1), (.iadd, 1)] ((.iastore, 1) :: (m_ap [(.iload 5, 2)] ([(.ireturn, 1)]))))))))))))))))))))))))))))))))))))))) := m_Fe_of nd2509 48 59 rfl
theorem SF12_rock_87 {xs : Nat → Int32} {L : Nat} (x0 : Nat) (x1 : Int32) (x2 : Int32) (x3 : Int32) (x4 : Int32) (s0 : Int32) (s1 : Nat) (hp : m_H) {r : m_O × m_H} {K : (Int32 × m_H) → Prop} (k0 : ∀ x, K x → r = (.inl (some (.int x.1)), x.2)) {t : Int32 × m_H} (h : F12_rock_87 x0 x1 x2 x3 x4 s0 s1 hp = some t) (hK : K t) : m_Rn xs L 2 2509 87 [(0, .ref x0), (1, .int x1), (2, .int x2), (3, .int x3), (4, .int x4)] [.int s0, .ref s1] hp r := by
  unfold F12_rock_87 at h
  refine g_in eF12_rock_87 mx2509 ?_
  refine g_ch [(0, .ref x0), (1, .int x1), (2, .int x2), (3, .int x3), (4, .int x4)] [.int 3, .int s0, .ref s1] (pc' := 88) rfl rfl rfl ?_
  obtain ⟨z2, e1, h⟩ := m_bd h
  refine g_call (v := some (.int z2.1)) (h := z2.2) (st' := [.int z2.1]) (D1 := 0) (as := [.ref s1, .int s0, .int 3]) (Or.inr (Or.inl rfl)) q12_m82 (m_cv (as := [.int 3, .int s0]) (rest := []) (Or.inl rfl) q12_m82 jv2401 (OF12_throwsIf e1) rfl rfl rfl rfl) (by decide) (SF12_throwsIf e1) rfl ?_
  rcases m_ifd h with ⟨c3, h⟩ | ⟨c3, h⟩
  · refine g_ifc (t := 96) rfl (m_eqT c3) ?_
    refine g_in eF12_rock_96 mx2509 ?_
    refine g_ch [(0, .ref x0), (1, .int x1), (2, .int x2), (3, .int x3), (4, .int x4)] [.ref x0] (pc' := 97) rfl rfl rfl ?_
    obtain ⟨v4, e5, h⟩ := m_bd h
    refine g_gr q12_f14 e5 ?_
    refine g_ch [(0, .ref x0), (1, .int x1), (2, .int x2), (3, .int x3), (4, .int x4)] [.int 4168, .ref v4] (pc' := 103) rfl rfl rfl ?_
    obtain ⟨v6, e7, h⟩ := m_bd h
    refine g_ia e7 ?_
    refine g_ch [(5, .int v6), (0, .ref x0), (1, .int x1), (2, .int x2), (3, .int x3), (4, .int x4)] [.int v6] (pc' := 108) rfl rfl rfl ?_
    obtain ⟨v9, e8, h⟩ := m_bd h
    refine g_call (v := some (.int v9)) (h := z2.2) (st' := [.int v9]) (D1 := 0) (as := [.int v6]) (Or.inl rfl) q12_m363 (m_cs (as := [.int v6]) (rest := []) q12_m363 jv2508 rfl rfl rfl rfl rfl) (by decide) (SF12_baseAt e8) rfl ?_
    refine g_ch [(6, .int v9), (5, .int v6), (0, .ref x0), (1, .int x1), (2, .int x2), (3, .int x3), (4, .int x4)] [.ref x0] (pc' := 114) rfl rfl rfl ?_
    obtain ⟨v10, e11, h⟩ := m_bd h
    refine g_gr q12_f14 e11 ?_
    refine g_ch [(6, .int v9), (5, .int v6), (0, .ref x0), (1, .int x1), (2, .int x2), (3, .int x3), (4, .int x4)] [.int x1, .int v9, .ref v10] (pc' := 120) rfl rfl rfl ?_
    obtain ⟨h12, e13, h⟩ := m_bd h
    refine g_is e13 ?_
    refine g_ch [(6, .int v9), (5, .int v6), (0, .ref x0), (1, .int x1), (2, .int x2), (3, .int x3), (4, .int x4)] [.ref x0] (pc' := 122) rfl rfl rfl ?_
    obtain ⟨v14, e15, h⟩ := m_bd h
    refine g_gr q12_f14 e15 ?_
    refine g_ch [(6, .int v9), (5, .int v6), (0, .ref x0), (1, .int x1), (2, .int x2), (3, .int x3), (4, .int x4)] [.ref x0, .int (v9 + 1), .ref v14] (pc' := 130) rfl rfl rfl ?_
    obtain ⟨v17, e16, h⟩ := m_bd h
    refine g_call (v := some (.int v17)) (h := h12) (st' := [.int v17, .int (v9 + 1), .ref v14]) (D1 := 0) (as := [.ref x0]) (Or.inr (Or.inl rfl)) q12_m86 (m_cv (as := []) (rest := [.int (v9 + 1), .ref v14]) (Or.inl rfl) q12_m86 jv2404 (OF12_week e16) rfl rfl rfl rfl) (by decide) (SF12_week e16) rfl ?_
    obtain ⟨h18, e19, h⟩ := m_bd h
    refine g_is e19 ?_
    refine g_ch [(6, .int v9), (5, .int v6), (0, .ref x0), (1, .int x1), (2, .int x2), (3, .int x3), (4, .int x4)] [.ref x0] (pc' := 135) rfl rfl rfl ?_
    obtain ⟨v20, e21, h⟩ := m_bd h
    refine g_gr q12_f14 e21 ?_
    refine g_ch [(6, .int v9), (5, .int v6), (0, .ref x0), (1, .int x1), (2, .int x2), (3, .int x3), (4, .int x4)] [.int x2, .int (v9 + 2), .ref v20] (pc' := 143) rfl rfl rfl ?_
    obtain ⟨h22, e23, h⟩ := m_bd h
    refine g_is e23 ?_
    refine g_ch [(6, .int v9), (5, .int v6), (0, .ref x0), (1, .int x1), (2, .int x2), (3, .int x3), (4, .int x4)] [.ref x0] (pc' := 145) rfl rfl rfl ?_
    obtain ⟨v24, e25, h⟩ := m_bd h
    refine g_gr q12_f14 e25 ?_
    refine g_ch [(6, .int v9), (5, .int v6), (0, .ref x0), (1, .int x1), (2, .int x2), (3, .int x3), (4, .int x4)] [.int x3, .int (v9 + 3), .ref v24] (pc' := 153) rfl rfl rfl ?_
    obtain ⟨h26, e27, h⟩ := m_bd h
    refine g_is e27 ?_
    refine g_ch [(6, .int v9), (5, .int v6), (0, .ref x0), (1, .int x1), (2, .int x2), (3, .int x3), (4, .int x4)] [.ref x0] (pc' := 155) rfl rfl rfl ?_
    obtain ⟨v28, e29, h⟩ := m_bd h
    refine g_gr q12_f14 e29 ?_
    refine g_ch [(6, .int v9), (5, .int v6), (0, .ref x0), (1, .int x1), (2, .int x2), (3, .int x3), (4, .int x4)] [.int x4, .int (v9 + 4), .ref v28] (pc' := 164) rfl rfl rfl ?_
    obtain ⟨h30, e31, h⟩ := m_bd h
    refine g_is e31 ?_
    refine g_ch [(6, .int v9), (5, .int v6), (0, .ref x0), (1, .int x1), (2, .int x2), (3, .int x3), (4, .int x4)] [.ref x0] (pc' := 166) rfl rfl rfl ?_
    obtain ⟨v32, e33, h⟩ := m_bd h
    refine g_gr q12_f14 e33 ?_
    refine g_ch [(6, .int v9), (5, .int v6), (0, .ref x0), (1, .int x1), (2, .int x2), (3, .int x3), (4, .int x4)] [.int 0, .int (v9 + 5), .ref v32] (pc' := 174) rfl rfl rfl ?_
    obtain ⟨h34, e35, h⟩ := m_bd h
    refine g_is e35 ?_
    refine g_ch [(6, .int v9), (5, .int v6), (0, .ref x0), (1, .int x1), (2, .int x2), (3, .int x3), (4, .int x4)] [.ref x0] (pc' := 176) rfl rfl rfl ?_
    obtain ⟨v36, e37, h⟩ := m_bd h
    refine g_gr q12_f14 e37 ?_
    refine g_ch [(6, .int v9), (5, .int v6), (0, .ref x0), (1, .int x1), (2, .int x2), (3, .int x3), (4, .int x4)] [.int 4168, .ref v36, .int 4168, .ref v36] (pc' := 183) rfl rfl rfl ?_
    obtain ⟨v38, e39, h⟩ := m_bd h
    refine g_ia e39 ?_
    refine g_ch [(6, .int v9), (5, .int v6), (0, .ref x0), (1, .int x1), (2, .int x2), (3, .int x3), (4, .int x4)] [.int (v38 + 1), .int 4168, .ref v36] (pc' := 186) rfl rfl rfl ?_
    obtain ⟨h40, e41, h⟩ := m_bd h
    refine g_is e41 ?_
    refine g_ch [(6, .int v9), (5, .int v6), (0, .ref x0), (1, .int x1), (2, .int x2), (3, .int x3), (4, .int x4)] [.int v6] (pc' := 189) rfl rfl rfl ?_
    cases h
    rw [k0 _ hK]
    exact g_iret rfl rfl
  · refine g_ifcn (t := 96) rfl (m_eqF c3) ?_
    refine g_in eF12_rock_94 mx2509 ?_
    refine g_ch [(0, .ref x0), (1, .int x1), (2, .int x2), (3, .int x3), (4, .int x4)] [.int 0] (pc' := 95) rfl rfl rfl ?_
    cases h
    rw [k0 _ hK]
    exact g_iret rfl rfl
theorem SF12_rock_61 {xs : Nat → Int32} {L : Nat} (x0 : Nat) (x1 : Int32) (x2 : Int32) (x3 : Int32) (x4 : Int32) (s0 : Int32) (s1 : Nat) (hp : m_H) {r : m_O × m_H} {K : (Int32 × m_H) → Prop} (k0 : ∀ x, K x → r = (.inl (some (.int x.1)), x.2)) {t : Int32 × m_H} (h : F12_rock_61 x0 x1 x2 x3 x4 s0 s1 hp = some t) (hK : K t) : m_Rn xs L 2 2509 61 [(0, .ref x0), (1, .int x1), (2, .int x2), (3, .int x3), (4, .int x4)] [.int s0, .ref s1] hp r := by
  unfold F12_rock_61 at h
  refine g_in eF12_rock_61 mx2509 ?_
  refine g_ch [(0, .ref x0), (1, .int x1), (2, .int x2), (3, .int x3), (4, .int x4)] [.int 2, .int s0, .ref s1] (pc' := 62) rfl rfl rfl ?_
  obtain ⟨z2, e1, h⟩ := m_bd h
  refine g_call (v := some (.int z2.1)) (h := z2.2) (st' := [.int z2.1]) (D1 := 0) (as := [.ref s1, .int s0, .int 2]) (Or.inr (Or.inl rfl)) q12_m82 (m_cv (as := [.int 2, .int s0]) (rest := []) (Or.inl rfl) q12_m82 jv2401 (OF12_throwsIf e1) rfl rfl rfl rfl) (by decide) (SF12_throwsIf e1) rfl ?_
  rcases m_ifd h with ⟨c3, h⟩ | ⟨c3, h⟩
  · refine g_ifcn (t := 94) rfl (m_neF c3) ?_
    refine g_in eF12_rock_68 mx2509 ?_
    refine g_ch [(0, .ref x0), (1, .int x1), (2, .int x2), (3, .int x3), (4, .int x4)] [.ref x0, .ref x0] (pc' := 70) rfl rfl rfl ?_
    obtain ⟨v4, e5, h⟩ := m_bd h
    refine g_gr q12_f14 e5 ?_
    refine g_ch [(0, .ref x0), (1, .int x1), (2, .int x2), (3, .int x3), (4, .int x4)] [.int 4168, .ref v4, .ref x0] (pc' := 76) rfl rfl rfl ?_
    obtain ⟨v6, e7, h⟩ := m_bd h
    refine g_ia e7 ?_
    refine g_ch [(0, .ref x0), (1, .int x1), (2, .int x2), (3, .int x3), (4, .int x4)] [.int 10, .int v6, .ref x0] (pc' := 79) rfl rfl rfl ?_
    rcases m_ifd h with ⟨c8, h⟩ | ⟨c8, h⟩
    · refine g_ifn (t := 86) rfl (m_neF c8) ?_
      refine g_in eF12_rock_82 mx2509 ?_
      refine g_ch [(0, .ref x0), (1, .int x1), (2, .int x2), (3, .int x3), (4, .int x4)] [.int 1, .ref x0] (pc' := 83) rfl rfl rfl ?_
      refine g_goto (t := 87) rfl ?_
      exact r_lv (SF12_rock_87 x0 x1 x2 x3 x4 1 x0 z2.2 (K := K) k0 h hK) rfl ⟨rfl, rfl, rfl, rfl, rfl, trivial⟩
    · refine g_if (t := 86) rfl (m_neT c8) ?_
      refine g_in eF12_rock_86 mx2509 ?_
      refine g_ch [(0, .ref x0), (1, .int x1), (2, .int x2), (3, .int x3), (4, .int x4)] [.int 0, .ref x0] (pc' := 87) rfl rfl rfl ?_
      refine g_end ?_
      exact r_lv (SF12_rock_87 x0 x1 x2 x3 x4 0 x0 z2.2 (K := K) k0 h hK) rfl ⟨rfl, rfl, rfl, rfl, rfl, trivial⟩
  · refine g_ifc (t := 94) rfl (m_neT c3) ?_
    refine g_in eF12_rock_94 mx2509 ?_
    refine g_ch [(0, .ref x0), (1, .int x1), (2, .int x2), (3, .int x3), (4, .int x4)] [.int 0] (pc' := 95) rfl rfl rfl ?_
    cases h
    rw [k0 _ hK]
    exact g_iret rfl rfl
theorem SF12_rock_56 {xs : Nat → Int32} {L : Nat} (x0 : Nat) (x1 : Int32) (x2 : Int32) (x3 : Int32) (x4 : Int32) (s0 : Nat) (hp : m_H) {r : m_O × m_H} {K : (Int32 × m_H) → Prop} (k0 : ∀ x, K x → r = (.inl (some (.int x.1)), x.2)) {t : Int32 × m_H} (h : F12_rock_56 x0 x1 x2 x3 x4 s0 hp = some t) (hK : K t) : m_Rn xs L 2 2509 56 [(0, .ref x0), (1, .int x1), (2, .int x2), (3, .int x3), (4, .int x4)] [.ref s0] hp r := by
  unfold F12_rock_56 at h
  refine g_in eF12_rock_56 mx2509 ?_
  refine g_ch [(0, .ref x0), (1, .int x1), (2, .int x2), (3, .int x3), (4, .int x4)] [.int 1, .ref s0] (pc' := 57) rfl rfl rfl ?_
  refine g_goto (t := 61) rfl ?_
  exact r_lv (SF12_rock_61 x0 x1 x2 x3 x4 1 s0 hp (K := K) k0 h hK) rfl ⟨rfl, rfl, rfl, rfl, rfl, trivial⟩
theorem SF12_rock_0 {xs : Nat → Int32} {L : Nat} (x0 : Nat) (x1 : Int32) (x2 : Int32) (x3 : Int32) (x4 : Int32) (hp : m_H) {r : m_O × m_H} {K : (Int32 × m_H) → Prop} (k0 : ∀ x, K x → r = (.inl (some (.int x.1)), x.2)) {t : Int32 × m_H} (h : F12_rock_0 x0 x1 x2 x3 x4 hp = some t) (hK : K t) : m_Rn xs L 2 2509 0 [(0, .ref x0), (1, .int x1), (2, .int x2), (3, .int x3), (4, .int x4)] [] hp r := by
  unfold F12_rock_0 at h
  refine g_in eF12_rock_0 mx2509 ?_
  refine g_ch [(0, .ref x0), (1, .int x1), (2, .int x2), (3, .int x3), (4, .int x4)] [.int 0, .ref x0] (pc' := 2) rfl rfl rfl ?_
  obtain ⟨h1, e2, h⟩ := m_bd h
  refine g_pf q12_f3 e2 ?_
  refine g_ch [(0, .ref x0), (1, .int x1), (2, .int x2), (3, .int x3), (4, .int x4)] [.int x1, .ref x0] (pc' := 7) rfl rfl rfl ?_
  obtain ⟨v4, e3, h⟩ := m_bd h
  refine g_call (v := some (.int v4)) (h := h1) (st' := [.int v4, .ref x0]) (D1 := 1) (as := [.int x1]) (Or.inl rfl) q12_m103 (m_cs (as := [.int x1]) (rest := [.ref x0]) q12_m103 jv2411 rfl rfl rfl rfl rfl) (by decide) (SF12_noLand e3) rfl ?_
  refine g_ch [(0, .ref x0), (1, .int x1), (2, .int x2), (3, .int x3), (4, .int x4)] [.int 1, .int v4, .ref x0] (pc' := 11) rfl rfl rfl ?_
  obtain ⟨z6, e5, h⟩ := m_bd h
  refine g_call (v := some (.int z6.1)) (h := z6.2) (st' := [.int z6.1]) (D1 := 0) (as := [.ref x0, .int v4, .int 1]) (Or.inr (Or.inl rfl)) q12_m82 (m_cv (as := [.int 1, .int v4]) (rest := []) (Or.inl rfl) q12_m82 jv2401 (OF12_throwsIf e5) rfl rfl rfl rfl) (by decide) (SF12_throwsIf e5) rfl ?_
  rcases m_ifd h with ⟨c7, h⟩ | ⟨c7, h⟩
  · refine g_ifcn (t := 94) rfl (m_neF c7) ?_
    refine g_in eF12_rock_17 mx2509 ?_
    refine g_ch [(0, .ref x0), (1, .int x1), (2, .int x2), (3, .int x3), (4, .int x4)] [.int x1, .ref x0] (pc' := 19) rfl rfl rfl ?_
    rcases m_ifd h with ⟨c8, h⟩ | ⟨c8, h⟩
    · refine g_ifc (t := 56) rfl (m_eqT c8) ?_
      exact r_lv (SF12_rock_56 x0 x1 x2 x3 x4 x0 z6.2 (K := K) k0 h hK) rfl ⟨rfl, rfl, rfl, rfl, rfl, trivial⟩
    · refine g_ifcn (t := 56) rfl (m_eqF c8) ?_
      refine g_in eF12_rock_22 mx2509 ?_
      refine g_ch [(0, .ref x0), (1, .int x1), (2, .int x2), (3, .int x3), (4, .int x4)] [.int 500, .int 1, .int x2, .ref x0] (pc' := 27) rfl rfl rfl ?_
      obtain ⟨v10, e9, h⟩ := m_bd h
      refine g_call (v := some (.int v10)) (h := z6.2) (st' := [.int v10, .ref x0]) (D1 := 0) (as := [.int x2, .int 1, .int 500]) (Or.inl rfl) q12_m74 (m_cs (as := [.int 500, .int 1, .int x2]) (rest := [.ref x0]) q12_m74 jv2402 rfl rfl rfl rfl rfl) (by decide) (SF12_in e9) rfl ?_
      rcases m_ifd h with ⟨c11, h⟩ | ⟨c11, h⟩
      · refine g_ifc (t := 56) rfl (m_eqT c11) ?_
        exact r_lv (SF12_rock_56 x0 x1 x2 x3 x4 x0 z6.2 (K := K) k0 h hK) rfl ⟨rfl, rfl, rfl, rfl, rfl, trivial⟩
      · refine g_ifcn (t := 56) rfl (m_eqF c11) ?_
        refine g_in eF12_rock_33 mx2509 ?_
        refine g_ch [(0, .ref x0), (1, .int x1), (2, .int x2), (3, .int x3), (4, .int x4)] [.int 10000, .int 0, .int x3, .ref x0] (pc' := 38) rfl rfl rfl ?_
        obtain ⟨v13, e12, h⟩ := m_bd h
        refine g_call (v := some (.int v13)) (h := z6.2) (st' := [.int v13, .ref x0]) (D1 := 0) (as := [.int x3, .int 0, .int 10000]) (Or.inl rfl) q12_m74 (m_cs (as := [.int 10000, .int 0, .int x3]) (rest := [.ref x0]) q12_m74 jv2402 rfl rfl rfl rfl rfl) (by decide) (SF12_in e12) rfl ?_
        rcases m_ifd h with ⟨c14, h⟩ | ⟨c14, h⟩
        · refine g_ifc (t := 56) rfl (m_eqT c14) ?_
          exact r_lv (SF12_rock_56 x0 x1 x2 x3 x4 x0 z6.2 (K := K) k0 h hK) rfl ⟨rfl, rfl, rfl, rfl, rfl, trivial⟩
        · refine g_ifcn (t := 56) rfl (m_eqF c14) ?_
          refine g_in eF12_rock_44 mx2509 ?_
          refine g_ch [(0, .ref x0), (1, .int x1), (2, .int x2), (3, .int x3), (4, .int x4)] [.int 1000, .int 0, .int x4, .ref x0] (pc' := 50) rfl rfl rfl ?_
          obtain ⟨v16, e15, h⟩ := m_bd h
          refine g_call (v := some (.int v16)) (h := z6.2) (st' := [.int v16, .ref x0]) (D1 := 0) (as := [.int x4, .int 0, .int 1000]) (Or.inl rfl) q12_m74 (m_cs (as := [.int 1000, .int 0, .int x4]) (rest := [.ref x0]) q12_m74 jv2402 rfl rfl rfl rfl rfl) (by decide) (SF12_in e15) rfl ?_
          rcases m_ifd h with ⟨c17, h⟩ | ⟨c17, h⟩
          · refine g_ifcn (t := 60) rfl (m_neF c17) ?_
            exact r_lv (SF12_rock_56 x0 x1 x2 x3 x4 x0 z6.2 (K := K) k0 h hK) rfl ⟨rfl, rfl, rfl, rfl, rfl, trivial⟩
          · refine g_ifc (t := 60) rfl (m_neT c17) ?_
            refine g_in eF12_rock_60 mx2509 ?_
            refine g_ch [(0, .ref x0), (1, .int x1), (2, .int x2), (3, .int x3), (4, .int x4)] [.int 0, .ref x0] (pc' := 61) rfl rfl rfl ?_
            refine g_end ?_
            exact r_lv (SF12_rock_61 x0 x1 x2 x3 x4 0 x0 z6.2 (K := K) k0 h hK) rfl ⟨rfl, rfl, rfl, rfl, rfl, trivial⟩
  · refine g_ifc (t := 94) rfl (m_neT c7) ?_
    refine g_in eF12_rock_94 mx2509 ?_
    refine g_ch [(0, .ref x0), (1, .int x1), (2, .int x2), (3, .int x3), (4, .int x4)] [.int 0] (pc' := 95) rfl rfl rfl ?_
    cases h
    rw [k0 _ hK]
    exact g_iret rfl rfl
theorem OF12_rock {x0 : Nat} {x1 : Int32} {x2 : Int32} {x3 : Int32} {x4 : Int32} {hp : m_H} {x : Int32 × m_H} (h : F12_rock x0 x1 x2 x3 x4 hp = some x) : m_isO hp 9 x0 = true := (m_gdd h).1
theorem SF12_rock {xs : Nat → Int32} {L : Nat} {x0 : Nat} {x1 : Int32} {x2 : Int32} {x3 : Int32} {x4 : Int32} {hp : m_H} {x : Int32 × m_H} (h : F12_rock x0 x1 x2 x3 x4 hp = some x) : m_Rn xs L 2 2509 0 (lv_args 0 [.ref x0, .int x1, .int x2, .int x3, .int x4]) [] hp (.inl (some (.int x.1)), x.2) :=
  r_lv (SF12_rock_0 x0 x1 x2 x3 x4 hp (K := fun y => y = x) (fun y e => by rw [e]) (m_gdd h).2 rfl) rfl ⟨rfl, rfl, rfl, rfl, rfl, trivial⟩
-- F12_net: LendHouseModel.net(I)I
theorem eF12_net_0 : m_Fe mi12_110 0 (m_ap [(.aload_n 0, 1), (.iconst 0, 1)] ((.putfield 3, 3) :: (m_ap [(.aload_n 0, 1), (.iload_n 1, 1), (.iconst 0, 1), (.aload_n 0, 1)] ((.getfield 14, 3) :: (m_ap [(.sipush 4168, 3)] ((.iaload, 1) :: (m_ap [(.iconst 1, 1), (.isub, 1)] ((.invokestatic 74, 3) :: ([(.ifCond .ne 7, 3)]))))))))) := m_Fe_of nd2510 0 14 rfl
theorem eF12_net_28 : m_Fe mi12_110 28 (m_ap [(.iconst 0, 1)] ([])) := m_Fe_of nd2510 16 1 rfl
theorem eF12_net_24 : m_Fe mi12_110 24 (m_ap [(.iconst 1, 1)] ([(.goto 4, 3)])) := m_Fe_of nd2510 14 2 rfl
theorem eF12_net_29 : m_Fe mi12_110 29 (m_ap [(.iconst 1, 1)] ((.invokevirtual 82, 3) :: ([(.ifCond .eq 7, 3)]))) := m_Fe_of nd2510 17 3 rfl
theorem eF12_net_40 : m_Fe mi12_110 40 (m_ap [(.aload_n 0, 1)] ((.getfield 14, 3) :: (m_ap [(.iload_n 1, 1)] ((.invokestatic 363, 3) :: (m_ap [(.iconst 5, 1), (.iadd, 1)] ((.iaload, 1) :: (m_ap [(.aload_n 0, 1)] ((.getfield 14, 3) :: (m_ap [(.iload_n 1, 1)] ((.invokestatic 363, 3) :: (m_ap [(.iconst 3, 1), (.iadd, 1)] ((.iaload, 1) :: (m_ap [(.isub, 1)] ([])))))))))))))) := m_Fe_of nd2510 22 15 rfl
theorem eF12_net_63 : m_Fe mi12_110 63 ([(.ireturn, 1)]) := m_Fe_of nd2510 37 1 rfl
theorem eF12_net_36 : m_Fe mi12_110 36 (m_ap [(.iconst 0, 1)] ([(.goto 26, 3)])) := m_Fe_of nd2510 20 2 rfl
theorem SF12_net_29 {xs : Nat → Int32} {L : Nat} (x0 : Nat) (x1 : Int32) (s0 : Int32) (s1 : Nat) (hp : m_H) {r : m_O × m_H} {K : (Int32 × m_H) → Prop} (k0 : ∀ x, K x → r = (.inl (some (.int x.1)), x.2)) {t : Int32 × m_H} (h : F12_net_29 x0 x1 s0 s1 hp = some t) (hK : K t) : m_Rn xs L 1 2510 29 [(0, .ref x0), (1, .int x1)] [.int s0, .ref s1] hp r := by
  unfold F12_net_29 at h
  refine g_in eF12_net_29 mx2510 ?_
  refine g_ch [(0, .ref x0), (1, .int x1)] [.int 1, .int s0, .ref s1] (pc' := 30) rfl rfl rfl ?_
  obtain ⟨z2, e1, h⟩ := m_bd h
  refine g_call (v := some (.int z2.1)) (h := z2.2) (st' := [.int z2.1]) (D1 := 0) (as := [.ref s1, .int s0, .int 1]) (Or.inr (Or.inl rfl)) q12_m82 (m_cv (as := [.int 1, .int s0]) (rest := []) (Or.inl rfl) q12_m82 jv2401 (OF12_throwsIf e1) rfl rfl rfl rfl) (by decide) (SF12_throwsIf e1) rfl ?_
  rcases m_ifd h with ⟨c3, h⟩ | ⟨c3, h⟩
  · refine g_ifc (t := 40) rfl (m_eqT c3) ?_
    refine g_in eF12_net_40 mx2510 ?_
    refine g_ch [(0, .ref x0), (1, .int x1)] [.ref x0] (pc' := 41) rfl rfl rfl ?_
    obtain ⟨v4, e5, h⟩ := m_bd h
    refine g_gr q12_f14 e5 ?_
    refine g_ch [(0, .ref x0), (1, .int x1)] [.int x1, .ref v4] (pc' := 45) rfl rfl rfl ?_
    obtain ⟨v7, e6, h⟩ := m_bd h
    refine g_call (v := some (.int v7)) (h := z2.2) (st' := [.int v7, .ref v4]) (D1 := 0) (as := [.int x1]) (Or.inl rfl) q12_m363 (m_cs (as := [.int x1]) (rest := [.ref v4]) q12_m363 jv2508 rfl rfl rfl rfl rfl) (by decide) (SF12_baseAt e6) rfl ?_
    refine g_ch [(0, .ref x0), (1, .int x1)] [.int (v7 + 5), .ref v4] (pc' := 50) rfl rfl rfl ?_
    obtain ⟨v8, e9, h⟩ := m_bd h
    refine g_ia e9 ?_
    refine g_ch [(0, .ref x0), (1, .int x1)] [.ref x0, .int v8] (pc' := 52) rfl rfl rfl ?_
    obtain ⟨v10, e11, h⟩ := m_bd h
    refine g_gr q12_f14 e11 ?_
    refine g_ch [(0, .ref x0), (1, .int x1)] [.int x1, .ref v10, .int v8] (pc' := 56) rfl rfl rfl ?_
    obtain ⟨v13, e12, h⟩ := m_bd h
    refine g_call (v := some (.int v13)) (h := z2.2) (st' := [.int v13, .ref v10, .int v8]) (D1 := 0) (as := [.int x1]) (Or.inl rfl) q12_m363 (m_cs (as := [.int x1]) (rest := [.ref v10, .int v8]) q12_m363 jv2508 rfl rfl rfl rfl rfl) (by decide) (SF12_baseAt e12) rfl ?_
    refine g_ch [(0, .ref x0), (1, .int x1)] [.int (v13 + 3), .ref v10, .int v8] (pc' := 61) rfl rfl rfl ?_
    obtain ⟨v14, e15, h⟩ := m_bd h
    refine g_ia e15 ?_
    refine g_ch [(0, .ref x0), (1, .int x1)] [.int (v8 - v14)] (pc' := 63) rfl rfl rfl ?_
    refine g_end ?_
    refine g_in eF12_net_63 mx2510 ?_
    cases h
    rw [k0 _ hK]
    exact g_iret rfl rfl
  · refine g_ifcn (t := 40) rfl (m_eqF c3) ?_
    refine g_in eF12_net_36 mx2510 ?_
    refine g_ch [(0, .ref x0), (1, .int x1)] [.int 0] (pc' := 37) rfl rfl rfl ?_
    refine g_goto (t := 63) rfl ?_
    refine g_in eF12_net_63 mx2510 ?_
    cases h
    rw [k0 _ hK]
    exact g_iret rfl rfl
theorem SF12_net_0 {xs : Nat → Int32} {L : Nat} (x0 : Nat) (x1 : Int32) (hp : m_H) {r : m_O × m_H} {K : (Int32 × m_H) → Prop} (k0 : ∀ x, K x → r = (.inl (some (.int x.1)), x.2)) {t : Int32 × m_H} (h : F12_net_0 x0 x1 hp = some t) (hK : K t) : m_Rn xs L 1 2510 0 [(0, .ref x0), (1, .int x1)] [] hp r := by
  unfold F12_net_0 at h
  refine g_in eF12_net_0 mx2510 ?_
  refine g_ch [(0, .ref x0), (1, .int x1)] [.int 0, .ref x0] (pc' := 2) rfl rfl rfl ?_
  obtain ⟨h1, e2, h⟩ := m_bd h
  refine g_pf q12_f3 e2 ?_
  refine g_ch [(0, .ref x0), (1, .int x1)] [.ref x0, .int 0, .int x1, .ref x0] (pc' := 9) rfl rfl rfl ?_
  obtain ⟨v3, e4, h⟩ := m_bd h
  refine g_gr q12_f14 e4 ?_
  refine g_ch [(0, .ref x0), (1, .int x1)] [.int 4168, .ref v3, .int 0, .int x1, .ref x0] (pc' := 15) rfl rfl rfl ?_
  obtain ⟨v5, e6, h⟩ := m_bd h
  refine g_ia e6 ?_
  refine g_ch [(0, .ref x0), (1, .int x1)] [.int (v5 - 1), .int 0, .int x1, .ref x0] (pc' := 18) rfl rfl rfl ?_
  obtain ⟨v8, e7, h⟩ := m_bd h
  refine g_call (v := some (.int v8)) (h := h1) (st' := [.int v8, .ref x0]) (D1 := 0) (as := [.int x1, .int 0, .int (v5 - 1)]) (Or.inl rfl) q12_m74 (m_cs (as := [.int (v5 - 1), .int 0, .int x1]) (rest := [.ref x0]) q12_m74 jv2402 rfl rfl rfl rfl rfl) (by decide) (SF12_in e7) rfl ?_
  rcases m_ifd h with ⟨c9, h⟩ | ⟨c9, h⟩
  · refine g_ifcn (t := 28) rfl (m_neF c9) ?_
    refine g_in eF12_net_24 mx2510 ?_
    refine g_ch [(0, .ref x0), (1, .int x1)] [.int 1, .ref x0] (pc' := 25) rfl rfl rfl ?_
    refine g_goto (t := 29) rfl ?_
    exact r_lv (SF12_net_29 x0 x1 1 x0 h1 (K := K) k0 h hK) rfl ⟨rfl, rfl, trivial⟩
  · refine g_ifc (t := 28) rfl (m_neT c9) ?_
    refine g_in eF12_net_28 mx2510 ?_
    refine g_ch [(0, .ref x0), (1, .int x1)] [.int 0, .ref x0] (pc' := 29) rfl rfl rfl ?_
    refine g_end ?_
    exact r_lv (SF12_net_29 x0 x1 0 x0 h1 (K := K) k0 h hK) rfl ⟨rfl, rfl, trivial⟩
theorem OF12_net {x0 : Nat} {x1 : Int32} {hp : m_H} {x : Int32 × m_H} (h : F12_net x0 x1 hp = some x) : m_isO hp 9 x0 = true := (m_gdd h).1
theorem SF12_net {xs : Nat → Int32} {L : Nat} {x0 : Nat} {x1 : Int32} {hp : m_H} {x : Int32 × m_H} (h : F12_net x0 x1 hp = some x) : m_Rn xs L 1 2510 0 (lv_args 0 [.ref x0, .int x1]) [] hp (.inl (some (.int x.1)), x.2) :=
  r_lv (SF12_net_0 x0 x1 hp (K := fun y => y = x) (fun y e => by rw [e]) (m_gdd h).2 rfl) rfl ⟨rfl, rfl, trivial⟩
-- F12_over: LendHouseModel.over()I
theorem eF12_over_0 : m_Fe mi12_111 0 (m_ap [(.aload_n 0, 1), (.iconst 0, 1)] ((.putfield 3, 3) :: (m_ap [(.aload_n 0, 1)] ((.invokevirtual 118, 3) :: ([(.ifCond .eq 5, 3)]))))) := m_Fe_of nd2511 0 6 rfl
theorem eF12_over_14 : m_Fe mi12_111 14 (m_ap [(.aload_n 0, 1)] ((.getfield 14, 3) :: (m_ap [(.iconst 3, 1), (.iconst 1, 1)] ((.iastore, 1) :: (m_ap [(.iconst 0, 1), (.istore_n 1, 1), (.iconst 0, 1), (.istore_n 2, 1)] ([])))))) := m_Fe_of nd2511 8 9 rfl
theorem eF12_over_12 : m_Fe mi12_111 12 (m_ap [(.iconst (-1), 1)] ([(.ireturn, 1)])) := m_Fe_of nd2511 6 2 rfl
theorem eF12_over_25 : m_Fe mi12_111 25 (m_ap [(.iload_n 2, 1), (.aload_n 0, 1)] ((.getfield 14, 3) :: (m_ap [(.sipush 807, 3)] ((.iaload, 1) :: ([(.if_icmp .ge 34, 3)]))))) := m_Fe_of nd2511 17 6 rfl
theorem eF12_over_68 : m_Fe mi12_111 68 (m_ap [(.iload_n 1, 1)] ([(.ireturn, 1)])) := m_Fe_of nd2511 41 2 rfl
theorem eF12_over_37 : m_Fe mi12_111 37 (m_ap [(.iload_n 1, 1), (.aload_n 0, 1), (.iload_n 2, 1), (.bipush 13, 2)] ((.invokevirtual 115, 3) :: (m_ap [(.iadd, 1), (.istore_n 1, 1), (.aload_n 0, 1), (.iload_n 2, 1), (.iconst 3, 1), (.bipush 8, 2), (.aload_n 0, 1), (.iload_n 2, 1)] (m_ap [(.bipush 13, 2)] ((.invokevirtual 115, 3) :: ((.invokevirtual 338, 3) :: (m_ap [(.iinc 2 1, 3)] ([(.goto (-40), 3)])))))))) := m_Fe_of nd2511 23 18 rfl
theorem SF12_over_25b {xs : Nat → Int32} {L : Nat} (x0 : Nat) (s : Int32 × Int32 × m_H) {r : m_O × m_H} {K : ((Int32 × Int32 × m_H) ⊕ (Int32 × m_H)) → Prop} (k0 : ∀ x, K (.inr x) → r = (.inl (some (.int x.1)), x.2)) (k1 : ∀ s, K (.inl s) → m_Rn xs L 2 2511 25 [(0, .ref x0), (1, .int s.1), (2, .int s.2.1)] [] s.2.2 r) {t : (Int32 × Int32 × m_H) ⊕ (Int32 × m_H)} (h : F12_over_25b x0 s = some t) (hK : K t) : m_Rn xs L 2 2511 25 [(0, .ref x0), (1, .int s.1), (2, .int s.2.1)] [] s.2.2 r := by
  unfold F12_over_25b at h
  refine g_in eF12_over_25 mx2511 ?_
  refine g_ch [(0, .ref x0), (1, .int s.1), (2, .int s.2.1)] [.ref x0, .int s.2.1] (pc' := 27) rfl rfl rfl ?_
  obtain ⟨v1, e2, h⟩ := m_bd h
  refine g_gr q12_f14 e2 ?_
  refine g_ch [(0, .ref x0), (1, .int s.1), (2, .int s.2.1)] [.int 807, .ref v1, .int s.2.1] (pc' := 33) rfl rfl rfl ?_
  obtain ⟨v3, e4, h⟩ := m_bd h
  refine g_ia e4 ?_
  rcases m_ifd h with ⟨c5, h⟩ | ⟨c5, h⟩
  · refine g_if (t := 68) rfl (m_geT c5) ?_
    refine g_in eF12_over_68 mx2511 ?_
    refine g_ch [(0, .ref x0), (1, .int s.1), (2, .int s.2.1)] [.int s.1] (pc' := 69) rfl rfl rfl ?_
    cases h
    rw [k0 _ hK]
    exact g_iret rfl rfl
  · refine g_ifn (t := 68) rfl (m_geF c5) ?_
    refine g_in eF12_over_37 mx2511 ?_
    refine g_ch [(0, .ref x0), (1, .int s.1), (2, .int s.2.1)] [.int 13, .int s.2.1, .ref x0, .int s.1] (pc' := 42) rfl rfl rfl ?_
    obtain ⟨v7, e6, h⟩ := m_bd h
    refine g_call (v := some (.int v7)) (h := s.2.2) (st' := [.int v7, .int s.1]) (D1 := 1) (as := [.ref x0, .int s.2.1, .int 13]) (Or.inr (Or.inl rfl)) q12_m115 (m_cv (as := [.int 13, .int s.2.1]) (rest := [.int s.1]) (Or.inl rfl) q12_m115 jv2426 (OF12_of e6) rfl rfl rfl rfl) (by decide) (SF12_of e6) rfl ?_
    refine g_ch [(1, .int (s.1 + v7)), (0, .ref x0), (2, .int s.2.1)] [.int s.2.1, .ref x0, .int 8, .int 3, .int s.2.1, .ref x0] (pc' := 54) rfl rfl rfl ?_
    refine g_ch [(1, .int (s.1 + v7)), (0, .ref x0), (2, .int s.2.1)] [.int 13, .int s.2.1, .ref x0, .int 8, .int 3, .int s.2.1, .ref x0] (pc' := 56) rfl rfl rfl ?_
    obtain ⟨v9, e8, h⟩ := m_bd h
    refine g_call (v := some (.int v9)) (h := s.2.2) (st' := [.int v9, .int 8, .int 3, .int s.2.1, .ref x0]) (D1 := 1) (as := [.ref x0, .int s.2.1, .int 13]) (Or.inr (Or.inl rfl)) q12_m115 (m_cv (as := [.int 13, .int s.2.1]) (rest := [.int 8, .int 3, .int s.2.1, .ref x0]) (Or.inl rfl) q12_m115 jv2426 (OF12_of e8) rfl rfl rfl rfl) (by decide) (SF12_of e8) rfl ?_
    obtain ⟨h11, e10, h⟩ := m_bd h
    refine g_call (v := none) (h := h11) (st' := []) (D1 := 1) (as := [.ref x0, .int s.2.1, .int 3, .int 8, .int v9]) (Or.inr (Or.inl rfl)) q12_m338 (m_cv (as := [.int v9, .int 8, .int 3, .int s.2.1]) (rest := []) (Or.inl rfl) q12_m338 jv2429 (OF12_moves e10) rfl rfl rfl rfl) (by decide) (SF12_moves e10) rfl ?_
    refine g_ch [(2, .int (s.2.1 + 1)), (1, .int (s.1 + v7)), (0, .ref x0)] [] (pc' := 65) rfl rfl rfl ?_
    refine g_goto (t := 25) rfl ?_
    cases h
    exact r_lv (k1 ((s.1 + v7), (s.2.1 + 1), h11) hK) rfl ⟨rfl, rfl, rfl, trivial⟩
theorem SF12_over_25 {xs : Nat → Int32} {L : Nat} (x0 : Nat) (x1 : Int32) (x2 : Int32) (hp : m_H) {r : m_O × m_H} {K : Int32 × m_H → Prop} (k0 : ∀ x, K x → r = (.inl (some (.int x.1)), x.2)) {t : Int32 × m_H} (h : F12_over_25 x0 x1 x2 hp = some t) (hK : K t) : m_Rn xs L 2 2511 25 [(0, .ref x0), (1, .int x1), (2, .int x2)] [] hp r :=
  m_wh_ok (P := fun s => m_Rn xs L 2 2511 25 [(0, .ref x0), (1, .int s.1), (2, .int s.2.1)] [] s.2.2 r) (Q := K) (fun s t hb hK => SF12_over_25b x0 s (K := m_KK (fun s => m_Rn xs L 2 2511 25 [(0, .ref x0), (1, .int s.1), (2, .int s.2.1)] [] s.2.2 r) K) k0 (fun _ q => q) hb hK) m_N _ _ h hK
theorem SF12_over_0 {xs : Nat → Int32} {L : Nat} (x0 : Nat) (hp : m_H) {r : m_O × m_H} {K : (Int32 × m_H) → Prop} (k0 : ∀ x, K x → r = (.inl (some (.int x.1)), x.2)) {t : Int32 × m_H} (h : F12_over_0 x0 hp = some t) (hK : K t) : m_Rn xs L 2 2511 0 [(0, .ref x0)] [] hp r := by
  unfold F12_over_0 at h
  refine g_in eF12_over_0 mx2511 ?_
  refine g_ch [(0, .ref x0)] [.int 0, .ref x0] (pc' := 2) rfl rfl rfl ?_
  obtain ⟨h1, e2, h⟩ := m_bd h
  refine g_pf q12_f3 e2 ?_
  refine g_ch [(0, .ref x0)] [.ref x0] (pc' := 6) rfl rfl rfl ?_
  obtain ⟨v4, e3, h⟩ := m_bd h
  refine g_call (v := some (.int v4)) (h := h1) (st' := [.int v4]) (D1 := 0) (as := [.ref x0]) (Or.inr (Or.inl rfl)) q12_m118 (m_cv (as := []) (rest := []) (Or.inl rfl) q12_m118 jv2405 (OF12_isOver e3) rfl rfl rfl rfl) (by decide) (SF12_isOver e3) rfl ?_
  rcases m_ifd h with ⟨c5, h⟩ | ⟨c5, h⟩
  · refine g_ifc (t := 14) rfl (m_eqT c5) ?_
    refine g_in eF12_over_14 mx2511 ?_
    refine g_ch [(0, .ref x0)] [.ref x0] (pc' := 15) rfl rfl rfl ?_
    obtain ⟨v6, e7, h⟩ := m_bd h
    refine g_gr q12_f14 e7 ?_
    refine g_ch [(0, .ref x0)] [.int 1, .int 3, .ref v6] (pc' := 20) rfl rfl rfl ?_
    obtain ⟨h8, e9, h⟩ := m_bd h
    refine g_is e9 ?_
    refine g_ch [(2, .int 0), (1, .int 0), (0, .ref x0)] [] (pc' := 25) rfl rfl rfl ?_
    refine g_end ?_
    exact r_lv (SF12_over_25 x0 0 0 h8 (K := K) k0 h hK) rfl ⟨rfl, rfl, rfl, trivial⟩
  · refine g_ifcn (t := 14) rfl (m_eqF c5) ?_
    refine g_in eF12_over_12 mx2511 ?_
    refine g_ch [(0, .ref x0)] [.int (-1)] (pc' := 13) rfl rfl rfl ?_
    cases h
    rw [k0 _ hK]
    exact g_iret rfl rfl
theorem OF12_over {x0 : Nat} {hp : m_H} {x : Int32 × m_H} (h : F12_over x0 hp = some x) : m_isO hp 9 x0 = true := (m_gdd h).1
theorem SF12_over {xs : Nat → Int32} {L : Nat} {x0 : Nat} {hp : m_H} {x : Int32 × m_H} (h : F12_over x0 hp = some x) : m_Rn xs L 2 2511 0 (lv_args 0 [.ref x0]) [] hp (.inl (some (.int x.1)), x.2) :=
  r_lv (SF12_over_0 x0 hp (K := fun y => y = x) (fun y e => by rw [e]) (m_gdd h).2 rfl) rfl ⟨rfl, trivial⟩
-- F12_tons: LendHouseModel.tons(II)V
theorem eF12_tons_0 : m_Fe mi12_112 0 (m_ap [(.aload_n 0, 1), (.iconst 0, 1)] ((.putfield 3, 3) :: (m_ap [(.aload_n 0, 1), (.iload_n 1, 1)] ((.invokestatic 103, 3) :: (m_ap [(.iconst 1, 1)] ((.invokevirtual 82, 3) :: ([(.ifCond .ne 31, 3)]))))))) := m_Fe_of nd2512 0 9 rfl
theorem eF12_tons_45 : m_Fe mi12_112 45 ([(.return_, 1)]) := m_Fe_of nd2512 23 1 rfl
theorem eF12_tons_17 : m_Fe mi12_112 17 (m_ap [(.aload_n 0, 1), (.iload_n 1, 1)] ([(.ifCond .eq 14, 3)])) := m_Fe_of nd2512 9 3 rfl
theorem eF12_tons_22 : m_Fe mi12_112 22 (m_ap [(.iload_n 2, 1), (.iconst 0, 1), (.ldc_w 388, 3)] ((.invokestatic 74, 3) :: ([(.ifCond .ne 7, 3)]))) := m_Fe_of nd2512 12 5 rfl
theorem eF12_tons_37 : m_Fe mi12_112 37 (m_ap [(.iconst 0, 1)] ([])) := m_Fe_of nd2512 19 1 rfl
theorem eF12_tons_33 : m_Fe mi12_112 33 (m_ap [(.iconst 1, 1)] ([(.goto 4, 3)])) := m_Fe_of nd2512 17 2 rfl
theorem eF12_tons_38 : m_Fe mi12_112 38 (m_ap [(.iconst 2, 1)] ((.invokevirtual 82, 3) :: ([(.ifCond .eq 4, 3)]))) := m_Fe_of nd2512 20 3 rfl
theorem eF12_tons_46 : m_Fe mi12_112 46 (m_ap [(.aload_n 0, 1)] ((.getfield 14, 3) :: (m_ap [(.iload_n 1, 1), (.iconst 3, 1)] ((.invokestatic 106, 3) :: (m_ap [(.iload_n 2, 1)] ((.iastore, 1) :: ([(.return_, 1)]))))))) := m_Fe_of nd2512 24 8 rfl
theorem SF12_tons_38 {xs : Nat → Int32} {L : Nat} (x0 : Nat) (x1 : Int32) (x2 : Int32) (s0 : Int32) (s1 : Nat) (hp : m_H) {r : m_O × m_H} {K : m_H → Prop} (k0 : ∀ x, K x → r = (.inl none, x)) {t : m_H} (h : F12_tons_38 x0 x1 x2 s0 s1 hp = some t) (hK : K t) : m_Rn xs L 2 2512 38 [(0, .ref x0), (1, .int x1), (2, .int x2)] [.int s0, .ref s1] hp r := by
  unfold F12_tons_38 at h
  refine g_in eF12_tons_38 mx2512 ?_
  refine g_ch [(0, .ref x0), (1, .int x1), (2, .int x2)] [.int 2, .int s0, .ref s1] (pc' := 39) rfl rfl rfl ?_
  obtain ⟨z2, e1, h⟩ := m_bd h
  refine g_call (v := some (.int z2.1)) (h := z2.2) (st' := [.int z2.1]) (D1 := 0) (as := [.ref s1, .int s0, .int 2]) (Or.inr (Or.inl rfl)) q12_m82 (m_cv (as := [.int 2, .int s0]) (rest := []) (Or.inl rfl) q12_m82 jv2401 (OF12_throwsIf e1) rfl rfl rfl rfl) (by decide) (SF12_throwsIf e1) rfl ?_
  rcases m_ifd h with ⟨c3, h⟩ | ⟨c3, h⟩
  · refine g_ifc (t := 46) rfl (m_eqT c3) ?_
    refine g_in eF12_tons_46 mx2512 ?_
    refine g_ch [(0, .ref x0), (1, .int x1), (2, .int x2)] [.ref x0] (pc' := 47) rfl rfl rfl ?_
    obtain ⟨v4, e5, h⟩ := m_bd h
    refine g_gr q12_f14 e5 ?_
    refine g_ch [(0, .ref x0), (1, .int x1), (2, .int x2)] [.int 3, .int x1, .ref v4] (pc' := 52) rfl rfl rfl ?_
    obtain ⟨v7, e6, h⟩ := m_bd h
    refine g_call (v := some (.int v7)) (h := z2.2) (st' := [.int v7, .ref v4]) (D1 := 0) (as := [.int x1, .int 3]) (Or.inl rfl) q12_m106 (m_cs (as := [.int 3, .int x1]) (rest := [.ref v4]) q12_m106 jv2413 rfl rfl rfl rfl rfl) (by decide) (SF12_landAt e6) rfl ?_
    refine g_ch [(0, .ref x0), (1, .int x1), (2, .int x2)] [.int x2, .int v7, .ref v4] (pc' := 56) rfl rfl rfl ?_
    obtain ⟨h8, e9, h⟩ := m_bd h
    refine g_is e9 ?_
    cases h
    rw [k0 _ hK]
    exact g_vret rfl
  · refine g_ifcn (t := 46) rfl (m_eqF c3) ?_
    refine g_in eF12_tons_45 mx2512 ?_
    cases h
    rw [k0 _ hK]
    exact g_vret rfl
theorem SF12_tons_33 {xs : Nat → Int32} {L : Nat} (x0 : Nat) (x1 : Int32) (x2 : Int32) (s0 : Nat) (hp : m_H) {r : m_O × m_H} {K : m_H → Prop} (k0 : ∀ x, K x → r = (.inl none, x)) {t : m_H} (h : F12_tons_33 x0 x1 x2 s0 hp = some t) (hK : K t) : m_Rn xs L 2 2512 33 [(0, .ref x0), (1, .int x1), (2, .int x2)] [.ref s0] hp r := by
  unfold F12_tons_33 at h
  refine g_in eF12_tons_33 mx2512 ?_
  refine g_ch [(0, .ref x0), (1, .int x1), (2, .int x2)] [.int 1, .ref s0] (pc' := 34) rfl rfl rfl ?_
  refine g_goto (t := 38) rfl ?_
  exact r_lv (SF12_tons_38 x0 x1 x2 1 s0 hp (K := K) k0 h hK) rfl ⟨rfl, rfl, rfl, trivial⟩
theorem SF12_tons_0 {xs : Nat → Int32} {L : Nat} (x0 : Nat) (x1 : Int32) (x2 : Int32) (hp : m_H) {r : m_O × m_H} {K : m_H → Prop} (k0 : ∀ x, K x → r = (.inl none, x)) {t : m_H} (h : F12_tons_0 x0 x1 x2 hp = some t) (hK : K t) : m_Rn xs L 2 2512 0 [(0, .ref x0), (1, .int x1), (2, .int x2)] [] hp r := by
  unfold F12_tons_0 at h
  refine g_in eF12_tons_0 mx2512 ?_
  refine g_ch [(0, .ref x0), (1, .int x1), (2, .int x2)] [.int 0, .ref x0] (pc' := 2) rfl rfl rfl ?_
  obtain ⟨h1, e2, h⟩ := m_bd h
  refine g_pf q12_f3 e2 ?_
  refine g_ch [(0, .ref x0), (1, .int x1), (2, .int x2)] [.int x1, .ref x0] (pc' := 7) rfl rfl rfl ?_
  obtain ⟨v4, e3, h⟩ := m_bd h
  refine g_call (v := some (.int v4)) (h := h1) (st' := [.int v4, .ref x0]) (D1 := 1) (as := [.int x1]) (Or.inl rfl) q12_m103 (m_cs (as := [.int x1]) (rest := [.ref x0]) q12_m103 jv2411 rfl rfl rfl rfl rfl) (by decide) (SF12_noLand e3) rfl ?_
  refine g_ch [(0, .ref x0), (1, .int x1), (2, .int x2)] [.int 1, .int v4, .ref x0] (pc' := 11) rfl rfl rfl ?_
  obtain ⟨z6, e5, h⟩ := m_bd h
  refine g_call (v := some (.int z6.1)) (h := z6.2) (st' := [.int z6.1]) (D1 := 0) (as := [.ref x0, .int v4, .int 1]) (Or.inr (Or.inl rfl)) q12_m82 (m_cv (as := [.int 1, .int v4]) (rest := []) (Or.inl rfl) q12_m82 jv2401 (OF12_throwsIf e5) rfl rfl rfl rfl) (by decide) (SF12_throwsIf e5) rfl ?_
  rcases m_ifd h with ⟨c7, h⟩ | ⟨c7, h⟩
  · refine g_ifcn (t := 45) rfl (m_neF c7) ?_
    refine g_in eF12_tons_17 mx2512 ?_
    refine g_ch [(0, .ref x0), (1, .int x1), (2, .int x2)] [.int x1, .ref x0] (pc' := 19) rfl rfl rfl ?_
    rcases m_ifd h with ⟨c8, h⟩ | ⟨c8, h⟩
    · refine g_ifc (t := 33) rfl (m_eqT c8) ?_
      exact r_lv (SF12_tons_33 x0 x1 x2 x0 z6.2 (K := K) k0 h hK) rfl ⟨rfl, rfl, rfl, trivial⟩
    · refine g_ifcn (t := 33) rfl (m_eqF c8) ?_
      refine g_in eF12_tons_22 mx2512 ?_
      refine g_ch [(0, .ref x0), (1, .int x1), (2, .int x2)] [.int 100000, .int 0, .int x2, .ref x0] (pc' := 27) rfl rfl rfl ?_
      obtain ⟨v10, e9, h⟩ := m_bd h
      refine g_call (v := some (.int v10)) (h := z6.2) (st' := [.int v10, .ref x0]) (D1 := 0) (as := [.int x2, .int 0, .int 100000]) (Or.inl rfl) q12_m74 (m_cs (as := [.int 100000, .int 0, .int x2]) (rest := [.ref x0]) q12_m74 jv2402 rfl rfl rfl rfl rfl) (by decide) (SF12_in e9) rfl ?_
      rcases m_ifd h with ⟨c11, h⟩ | ⟨c11, h⟩
      · refine g_ifcn (t := 37) rfl (m_neF c11) ?_
        exact r_lv (SF12_tons_33 x0 x1 x2 x0 z6.2 (K := K) k0 h hK) rfl ⟨rfl, rfl, rfl, trivial⟩
      · refine g_ifc (t := 37) rfl (m_neT c11) ?_
        refine g_in eF12_tons_37 mx2512 ?_
        refine g_ch [(0, .ref x0), (1, .int x1), (2, .int x2)] [.int 0, .ref x0] (pc' := 38) rfl rfl rfl ?_
        refine g_end ?_
        exact r_lv (SF12_tons_38 x0 x1 x2 0 x0 z6.2 (K := K) k0 h hK) rfl ⟨rfl, rfl, rfl, trivial⟩
  · refine g_ifc (t := 45) rfl (m_neT c7) ?_
    refine g_in eF12_tons_45 mx2512 ?_
    cases h
    rw [k0 _ hK]
    exact g_vret rfl
theorem OF12_tons {x0 : Nat} {x1 : Int32} {x2 : Int32} {hp : m_H} {x : m_H} (h : F12_tons x0 x1 x2 hp = some x) : m_isO hp 9 x0 = true := (m_gdd h).1
theorem SF12_tons {xs : Nat → Int32} {L : Nat} {x0 : Nat} {x1 : Int32} {x2 : Int32} {hp : m_H} {x : m_H} (h : F12_tons x0 x1 x2 hp = some x) : m_Rn xs L 2 2512 0 (lv_args 0 [.ref x0, .int x1, .int x2]) [] hp (.inl none, x) :=
  r_lv (SF12_tons_0 x0 x1 x2 hp (K := fun y => y = x) (fun y e => by rw [e]) (m_gdd h).2 rfl) rfl ⟨rfl, rfl, rfl, trivial⟩
-- F12_sends: LendHouseModel.sends(III)V
theorem eF12_sends_0 : m_Fe mi12_113 0 (m_ap [(.iload_n 1, 1), (.iload_n 2, 1)] ([(.if_icmp .ne 111, 3)])) := m_Fe_of nd2513 0 3 rfl
theorem eF12_sends_113 : m_Fe mi12_113 113 (m_ap [(.aload_n 0, 1), (.aload_n 0, 1)] ((.getfield 49, 3) :: (m_ap [(.iload_n 1, 1)] ((.iaload, 1) :: (m_ap [(.iconst 0, 1)] ((.invokevirtual 326, 3) :: (m_ap [(.istore 4, 2), (.iconst 0, 1), (.istore 5, 2)] ([])))))))) := m_Fe_of nd2513 58 10 rfl
theorem eF12_sends_5 : m_Fe mi12_113 5 (m_ap [(.iconst 1, 1), (.istore 4, 2), (.iconst 1, 1), (.istore 5, 2)] ([])) := m_Fe_of nd2513 3 4 rfl
theorem eF12_sends_129 : m_Fe mi12_113 129 (m_ap [(.iload 5, 2), (.bipush 6, 2)] ([(.if_icmp .ge 78, 3)])) := m_Fe_of nd2513 68 3 rfl
theorem eF12_sends_211 : m_Fe mi12_113 211 ([(.return_, 1)]) := m_Fe_of nd2513 116 1 rfl
theorem eF12_sends_136 : m_Fe mi12_113 136 (m_ap [(.aload_n 0, 1)] ((.getfield 52, 3) :: (m_ap [(.iload_n 1, 1), (.iload 5, 2)] ((.iastore, 1) :: (m_ap [(.aload_n 0, 1)] ((.getfield 58, 3) :: (m_ap [(.iload 5, 2), (.dup2, 1)] ((.iaload, 1) :: (m_ap [(.iload 4, 2), (.iadd, 1)] ((.iastore, 1) :: (m_ap [(.aload_n 0, 1), (.iload_n 1, 1), (.iconst 1, 1), (.iadd, 1), (.iload_n 2, 1), (.iload_n 3, 1), (.iload 5, 2)] ([(.ifCond .ne 7, 3)])))))))))))) := m_Fe_of nd2513 71 21 rfl
theorem eF12_sends_171 : m_Fe mi12_113 171 (m_ap [(.iload 4, 2), (.aload_n 0, 1), (.sipush 506, 3), (.iload 5, 2), (.aload_n 0, 1)] ((.invokevirtual 86, 3) :: (m_ap [(.iconst 1, 1), (.iadd, 1)] ((.invokevirtual 94, 3) :: (m_ap [(.imul, 1)] ([])))))) := m_Fe_of nd2513 94 10 rfl
theorem eF12_sends_167 : m_Fe mi12_113 167 (m_ap [(.iconst 0, 1)] ([(.goto 21, 3)])) := m_Fe_of nd2513 92 2 rfl
theorem eF12_sends_11 : m_Fe mi12_113 11 (m_ap [(.iload 5, 2), (.bipush 6, 2)] ([(.if_icmp .ge 42, 3)])) := m_Fe_of nd2513 7 3 rfl
theorem eF12_sends_57 : m_Fe mi12_113 57 (m_ap [(.iload 4, 2)] ([(.ifCond .eq 18, 3)])) := m_Fe_of nd2513 29 2 rfl
theorem eF12_sends_77 : m_Fe mi12_113 77 ([(.return_, 1)]) := m_Fe_of nd2513 38 1 rfl
theorem eF12_sends_62 : m_Fe mi12_113 62 (m_ap [(.aload_n 0, 1)] ((.getfield 392, 3) :: ([(.ifCond .lt 12, 3)]))) := m_Fe_of nd2513 31 3 rfl
theorem eF12_sends_69 : m_Fe mi12_113 69 (m_ap [(.iload_n 3, 1), (.aload_n 0, 1)] ((.getfield 392, 3) :: ([(.if_icmp .lt 4, 3)]))) := m_Fe_of nd2513 34 4 rfl
theorem eF12_sends_18 : m_Fe mi12_113 18 (m_ap [(.iload 4, 2)] ([(.ifCond .eq 28, 3)])) := m_Fe_of nd2513 10 2 rfl
theorem eF12_sends_48 : m_Fe mi12_113 48 (m_ap [(.iconst 0, 1)] ([])) := m_Fe_of nd2513 25 1 rfl
theorem eF12_sends_49 : m_Fe mi12_113 49 (m_ap [(.istore 4, 2), (.iinc 5 1, 3)] ([(.goto (-43), 3)])) := m_Fe_of nd2513 26 3 rfl
theorem eF12_sends_23 : m_Fe mi12_113 23 (m_ap [(.aload_n 0, 1)] ((.getfield 58, 3) :: (m_ap [(.iload 5, 2)] ((.iaload, 1) :: (m_ap [(.aload_n 0, 1)] ((.getfield 14, 3) :: (m_ap [(.iload 5, 2), (.iconst 3, 1)] ((.invokestatic 106, 3) :: ((.iaload, 1) :: ([(.if_icmp .lt 7, 3)])))))))))) := m_Fe_of nd2513 12 11 rfl
theorem eF12_sends_44 : m_Fe mi12_113 44 (m_ap [(.iconst 1, 1)] ([(.goto 4, 3)])) := m_Fe_of nd2513 23 2 rfl
theorem eF12_sends_189 : m_Fe mi12_113 189 (m_ap [(.iadd, 1)] ((.invokevirtual 395, 3) :: (m_ap [(.aload_n 0, 1)] ((.getfield 58, 3) :: (m_ap [(.iload 5, 2), (.dup2, 1)] ((.iaload, 1) :: (m_ap [(.iload 4, 2), (.isub, 1)] ((.iastore, 1) :: (m_ap [(.iinc 5 1, 3)] ([(.goto (-79), 3)])))))))))) := m_Fe_of nd2513 104 12 rfl
theorem eF12_sends_78 : m_Fe mi12_113 78 (m_ap [(.aload_n 0, 1), (.iload_n 3, 1)] ((.putfield 392, 3) :: (m_ap [(.iconst 0, 1), (.istore 5, 2)] ([])))) := m_Fe_of nd2513 39 5 rfl
theorem eF12_sends_86 : m_Fe mi12_113 86 (m_ap [(.iload 5, 2), (.iload_n 2, 1)] ([(.if_icmp .ge 23, 3)])) := m_Fe_of nd2513 44 3 rfl
theorem eF12_sends_112 : m_Fe mi12_113 112 ([(.return_, 1)]) := m_Fe_of nd2513 57 1 rfl
theorem eF12_sends_92 : m_Fe mi12_113 92 (m_ap [(.aload_n 0, 1)] ((.getfield 55, 3) :: (m_ap [(.iload 5, 2), (.aload_n 0, 1)] ((.getfield 52, 3) :: (m_ap [(.iload 5, 2)] ((.iaload, 1) :: ((.iastore, 1) :: (m_ap [(.iinc 5 1, 3)] ([(.goto (-23), 3)]))))))))) := m_Fe_of nd2513 47 10 rfl
theorem SF12_sends_189 {xs : Nat → Int32} {L : Nat} {DA : Nat} {A : Nat → Int32 → Int32 → Int32 → m_H → Option m_H} (hDA : 400 ≤ DA + 400) (hD : 20 ≤ DA) (hA : ∀ x0 x1 x2 x3 hp x, A x0 x1 x2 x3 hp = some x → m_isO hp 9 x0 = true ∧ m_Rn xs L DA 2513 0 (lv_args 0 [.ref x0, .int x1, .int x2, .int x3]) [] hp (.inl none, x)) (x0 : Nat) (x1 : Int32) (x2 : Int32) (x3 : Int32) (x4 : Int32) (x5 : Int32) (s0 : Int32) (s1 : Int32) (s2 : Int32) (s3 : Int32) (s4 : Nat) (hp : m_H) {r : m_O × m_H} {K : ((Int32 × m_H) ⊕ m_H) → Prop} (k0 : ∀ x, K (.inr x) → r = (.inl none, x)) (k1 : ∀ s, K (.inl s) → m_Rn xs L (DA + 1) 2513 129 [(0, .ref x0), (1, .int x1), (2, .int x2), (3, .int x3), (4, .int x4), (5, .int s.1)] [] s.2 r) {t : (Int32 × m_H) ⊕ m_H} (h : F12_sends_189 A x0 x1 x2 x3 x4 x5 s0 s1 s2 s3 s4 hp = some t) (hK : K t) : m_Rn xs L (DA + 1) 2513 189 [(0, .ref x0), (1, .int x1), (2, .int x2), (3, .int x3), (4, .int x4), (5, .int x5)] [.int s0, .int s1, .int s2, .int s3, .ref s4] hp r := by
  unfold F12_sends_189 at h
  refine g_in eF12_sends_189 mx2513 ?_
  refine g_ch [(0, .ref x0), (1, .int x1), (2, .int x2), (3, .int x3), (4, .int x4), (5, .int x5)] [.int (s1 + s0), .int s2, .int s3, .ref s4] (pc' := 190) rfl rfl rfl ?_
  obtain ⟨h2, e1, h⟩ := m_bd h
  refine g_call (v := none) (h := h2) (st' := []) (D1 := DA) (as := [.ref s4, .int s3, .int s2, .int (s1 + s0)]) (Or.inr (Or.inl rfl)) q12_m395 (m_cv (as := [.int (s1 + s0), .int s2, .int s3]) (rest := []) (Or.inl rfl) q12_m395 jv2513 (hA _ _ _ _ _ _ e1).1 rfl rfl rfl rfl) (by omega) (hA _ _ _ _ _ _ e1).2 rfl ?_
  refine g_ch [(0, .ref x0), (1, .int x1), (2, .int x2), (3, .int x3), (4, .int x4), (5, .int x5)] [.ref x0] (pc' := 194) rfl rfl rfl ?_
  obtain ⟨v3, e4, h⟩ := m_bd h
  refine g_gr q12_f58 e4 ?_
  refine g_ch [(0, .ref x0), (1, .int x1), (2, .int x2), (3, .int x3), (4, .int x4), (5, .int x5)] [.int x5, .ref v3, .int x5, .ref v3] (pc' := 200) rfl rfl rfl ?_
  obtain ⟨v5, e6, h⟩ := m_bd h
  refine g_ia e6 ?_
  refine g_ch [(0, .ref x0), (1, .int x1), (2, .int x2), (3, .int x3), (4, .int x4), (5, .int x5)] [.int (v5 - x4), .int x5, .ref v3] (pc' := 204) rfl rfl rfl ?_
  obtain ⟨h7, e8, h⟩ := m_bd h
  refine g_is e8 ?_
  refine g_ch [(5, .int (x5 + 1)), (0, .ref x0), (1, .int x1), (2, .int x2), (3, .int x3), (4, .int x4)] [] (pc' := 208) rfl rfl rfl ?_
  refine g_goto (t := 129) rfl ?_
  cases h
  exact r_lv (k1 ((x5 + 1), h7) hK) rfl ⟨rfl, rfl, rfl, rfl, rfl, rfl, trivial⟩
theorem SF12_sends_129b {xs : Nat → Int32} {L : Nat} {DA : Nat} {A : Nat → Int32 → Int32 → Int32 → m_H → Option m_H} (hDA : 400 ≤ DA + 400) (hD : 20 ≤ DA) (hA : ∀ x0 x1 x2 x3 hp x, A x0 x1 x2 x3 hp = some x → m_isO hp 9 x0 = true ∧ m_Rn xs L DA 2513 0 (lv_args 0 [.ref x0, .int x1, .int x2, .int x3]) [] hp (.inl none, x)) (x0 : Nat) (x1 : Int32) (x2 : Int32) (x3 : Int32) (x4 : Int32) (s : Int32 × m_H) {r : m_O × m_H} {K : ((Int32 × m_H) ⊕ m_H) → Prop} (k0 : ∀ x, K (.inr x) → r = (.inl none, x)) (k1 : ∀ s, K (.inl s) → m_Rn xs L (DA + 1) 2513 129 [(0, .ref x0), (1, .int x1), (2, .int x2), (3, .int x3), (4, .int x4), (5, .int s.1)] [] s.2 r) {t : (Int32 × m_H) ⊕ m_H} (h : F12_sends_129b A x0 x1 x2 x3 x4 s = some t) (hK : K t) : m_Rn xs L (DA + 1) 2513 129 [(0, .ref x0), (1, .int x1), (2, .int x2), (3, .int x3), (4, .int x4), (5, .int s.1)] [] s.2 r := by
  unfold F12_sends_129b at h
  refine g_in eF12_sends_129 mx2513 ?_
  refine g_ch [(0, .ref x0), (1, .int x1), (2, .int x2), (3, .int x3), (4, .int x4), (5, .int s.1)] [.int 6, .int s.1] (pc' := 133) rfl rfl rfl ?_
  rcases m_ifd h with ⟨c1, h⟩ | ⟨c1, h⟩
  · refine g_if (t := 211) rfl (m_geT c1) ?_
    refine g_in eF12_sends_211 mx2513 ?_
    cases h
    rw [k0 _ hK]
    exact g_vret rfl
  · refine g_ifn (t := 211) rfl (m_geF c1) ?_
    refine g_in eF12_sends_136 mx2513 ?_
    refine g_ch [(0, .ref x0), (1, .int x1), (2, .int x2), (3, .int x3), (4, .int x4), (5, .int s.1)] [.ref x0] (pc' := 137) rfl rfl rfl ?_
    obtain ⟨v2, e3, h⟩ := m_bd h
    refine g_gr q12_f52 e3 ?_
    refine g_ch [(0, .ref x0), (1, .int x1), (2, .int x2), (3, .int x3), (4, .int x4), (5, .int s.1)] [.int s.1, .int x1, .ref v2] (pc' := 143) rfl rfl rfl ?_
    obtain ⟨h4, e5, h⟩ := m_bd h
    refine g_is e5 ?_
    refine g_ch [(0, .ref x0), (1, .int x1), (2, .int x2), (3, .int x3), (4, .int x4), (5, .int s.1)] [.ref x0] (pc' := 145) rfl rfl rfl ?_
    obtain ⟨v6, e7, h⟩ := m_bd h
    refine g_gr q12_f58 e7 ?_
    refine g_ch [(0, .ref x0), (1, .int x1), (2, .int x2), (3, .int x3), (4, .int x4), (5, .int s.1)] [.int s.1, .ref v6, .int s.1, .ref v6] (pc' := 151) rfl rfl rfl ?_
    obtain ⟨v8, e9, h⟩ := m_bd h
    refine g_ia e9 ?_
    refine g_ch [(0, .ref x0), (1, .int x1), (2, .int x2), (3, .int x3), (4, .int x4), (5, .int s.1)] [.int (v8 + x4), .int s.1, .ref v6] (pc' := 155) rfl rfl rfl ?_
    obtain ⟨h10, e11, h⟩ := m_bd h
    refine g_is e11 ?_
    refine g_ch [(0, .ref x0), (1, .int x1), (2, .int x2), (3, .int x3), (4, .int x4), (5, .int s.1)] [.int s.1, .int x3, .int x2, .int (x1 + 1), .ref x0] (pc' := 164) rfl rfl rfl ?_
    rcases m_ifd h with ⟨c12, h⟩ | ⟨c12, h⟩
    · refine g_ifcn (t := 171) rfl (m_neF c12) ?_
      refine g_in eF12_sends_167 mx2513 ?_
      refine g_ch [(0, .ref x0), (1, .int x1), (2, .int x2), (3, .int x3), (4, .int x4), (5, .int s.1)] [.int 0, .int x3, .int x2, .int (x1 + 1), .ref x0] (pc' := 168) rfl rfl rfl ?_
      refine g_goto (t := 189) rfl ?_
      exact r_lv (SF12_sends_189 hDA hD hA x0 x1 x2 x3 x4 s.1 0 x3 x2 (x1 + 1) x0 h10 (K := K) k0 k1 h hK) rfl ⟨rfl, rfl, rfl, rfl, rfl, rfl, trivial⟩
    · refine g_ifc (t := 171) rfl (m_neT c12) ?_
      refine g_in eF12_sends_171 mx2513 ?_
      refine g_ch [(0, .ref x0), (1, .int x1), (2, .int x2), (3, .int x3), (4, .int x4), (5, .int s.1)] [.ref x0, .int s.1, .int 506, .ref x0, .int x4, .int x3, .int x2, .int (x1 + 1), .ref x0] (pc' := 180) rfl rfl rfl ?_
      obtain ⟨v14, e13, h⟩ := m_bd h
      refine g_call (v := some (.int v14)) (h := h10) (st' := [.int v14, .int s.1, .int 506, .ref x0, .int x4, .int x3, .int x2, .int (x1 + 1), .ref x0]) (D1 := 0) (as := [.ref x0]) (Or.inr (Or.inl rfl)) q12_m86 (m_cv (as := []) (rest := [.int s.1, .int 506, .ref x0, .int x4, .int x3, .int x2, .int (x1 + 1), .ref x0]) (Or.inl rfl) q12_m86 jv2404 (OF12_week e13) rfl rfl rfl rfl) (by omega) (SF12_week e13) rfl ?_
      refine g_ch [(0, .ref x0), (1, .int x1), (2, .int x2), (3, .int x3), (4, .int x4), (5, .int s.1)] [.int (v14 + 1), .int s.1, .int 506, .ref x0, .int x4, .int x3, .int x2, .int (x1 + 1), .ref x0] (pc' := 185) rfl rfl rfl ?_
      obtain ⟨v16, e15, h⟩ := m_bd h
      refine g_call (v := some (.int v16)) (h := h10) (st' := [.int v16, .int x4, .int x3, .int x2, .int (x1 + 1), .ref x0]) (D1 := 0) (as := [.ref x0, .int 506, .int s.1, .int (v14 + 1)]) (Or.inr (Or.inl rfl)) q12_m94 (m_cv (as := [.int (v14 + 1), .int s.1, .int 506]) (rest := [.int x4, .int x3, .int x2, .int (x1 + 1), .ref x0]) (Or.inl rfl) q12_m94 jv2417 (OF12_toldOf e15) rfl rfl rfl rfl) (by omega) (SF12_toldOf e15) rfl ?_
      refine g_ch [(0, .ref x0), (1, .int x1), (2, .int x2), (3, .int x3), (4, .int x4), (5, .int s.1)] [.int (x4 * v16), .int x3, .int x2, .int (x1 + 1), .ref x0] (pc' := 189) rfl rfl rfl ?_
      refine g_end ?_
      exact r_lv (SF12_sends_189 hDA hD hA x0 x1 x2 x3 x4 s.1 (x4 * v16) x3 x2 (x1 + 1) x0 h10 (K := K) k0 k1 h hK) rfl ⟨rfl, rfl, rfl, rfl, rfl, rfl, trivial⟩
theorem SF12_sends_129 {xs : Nat → Int32} {L : Nat} {DA : Nat} {A : Nat → Int32 → Int32 → Int32 → m_H → Option m_H} (hDA : 400 ≤ DA + 400) (hD : 20 ≤ DA) (hA : ∀ x0 x1 x2 x3 hp x, A x0 x1 x2 x3 hp = some x → m_isO hp 9 x0 = true ∧ m_Rn xs L DA 2513 0 (lv_args 0 [.ref x0, .int x1, .int x2, .int x3]) [] hp (.inl none, x)) (x0 : Nat) (x1 : Int32) (x2 : Int32) (x3 : Int32) (x4 : Int32) (x5 : Int32) (hp : m_H) {r : m_O × m_H} {K : m_H → Prop} (k0 : ∀ x, K x → r = (.inl none, x)) {t : m_H} (h : F12_sends_129 A x0 x1 x2 x3 x4 x5 hp = some t) (hK : K t) : m_Rn xs L (DA + 1) 2513 129 [(0, .ref x0), (1, .int x1), (2, .int x2), (3, .int x3), (4, .int x4), (5, .int x5)] [] hp r :=
  m_wh_ok (P := fun s => m_Rn xs L (DA + 1) 2513 129 [(0, .ref x0), (1, .int x1), (2, .int x2), (3, .int x3), (4, .int x4), (5, .int s.1)] [] s.2 r) (Q := K) (fun s t hb hK => SF12_sends_129b hDA hD hA x0 x1 x2 x3 x4 s (K := m_KK (fun s => m_Rn xs L (DA + 1) 2513 129 [(0, .ref x0), (1, .int x1), (2, .int x2), (3, .int x3), (4, .int x4), (5, .int s.1)] [] s.2 r) K) k0 (fun _ q => q) hb hK) m_N _ _ h hK
theorem SF12_sends_86b {xs : Nat → Int32} {L : Nat} {DA : Nat} {A : Nat → Int32 → Int32 → Int32 → m_H → Option m_H} (hDA : 400 ≤ DA + 400) (hD : 20 ≤ DA) (hA : ∀ x0 x1 x2 x3 hp x, A x0 x1 x2 x3 hp = some x → m_isO hp 9 x0 = true ∧ m_Rn xs L DA 2513 0 (lv_args 0 [.ref x0, .int x1, .int x2, .int x3]) [] hp (.inl none, x)) (x0 : Nat) (x2 : Int32) (s : Int32 × m_H) {r : m_O × m_H} {K : ((Int32 × m_H) ⊕ m_H) → Prop} (k0 : ∀ x, K (.inr x) → r = (.inl none, x)) (k1 : ∀ s, K (.inl s) → m_Rn xs L (DA + 1) 2513 86 [(0, .ref x0), (2, .int x2), (5, .int s.1)] [] s.2 r) {t : (Int32 × m_H) ⊕ m_H} (h : F12_sends_86b A x0 x2 s = some t) (hK : K t) : m_Rn xs L (DA + 1) 2513 86 [(0, .ref x0), (2, .int x2), (5, .int s.1)] [] s.2 r := by
  unfold F12_sends_86b at h
  refine g_in eF12_sends_86 mx2513 ?_
  refine g_ch [(0, .ref x0), (2, .int x2), (5, .int s.1)] [.int x2, .int s.1] (pc' := 89) rfl rfl rfl ?_
  rcases m_ifd h with ⟨c1, h⟩ | ⟨c1, h⟩
  · refine g_if (t := 112) rfl (m_geT c1) ?_
    refine g_in eF12_sends_112 mx2513 ?_
    cases h
    rw [k0 _ hK]
    exact g_vret rfl
  · refine g_ifn (t := 112) rfl (m_geF c1) ?_
    refine g_in eF12_sends_92 mx2513 ?_
    refine g_ch [(0, .ref x0), (2, .int x2), (5, .int s.1)] [.ref x0] (pc' := 93) rfl rfl rfl ?_
    obtain ⟨v2, e3, h⟩ := m_bd h
    refine g_gr q12_f55 e3 ?_
    refine g_ch [(0, .ref x0), (2, .int x2), (5, .int s.1)] [.ref x0, .int s.1, .ref v2] (pc' := 99) rfl rfl rfl ?_
    obtain ⟨v4, e5, h⟩ := m_bd h
    refine g_gr q12_f52 e5 ?_
    refine g_ch [(0, .ref x0), (2, .int x2), (5, .int s.1)] [.int s.1, .ref v4, .int s.1, .ref v2] (pc' := 104) rfl rfl rfl ?_
    obtain ⟨v6, e7, h⟩ := m_bd h
    refine g_ia e7 ?_
    obtain ⟨h8, e9, h⟩ := m_bd h
    refine g_is e9 ?_
    refine g_ch [(5, .int (s.1 + 1)), (0, .ref x0), (2, .int x2)] [] (pc' := 109) rfl rfl rfl ?_
    refine g_goto (t := 86) rfl ?_
    cases h
    exact r_lv (k1 ((s.1 + 1), h8) hK) rfl ⟨rfl, rfl, rfl, trivial⟩
theorem SF12_sends_86 {xs : Nat → Int32} {L : Nat} {DA : Nat} {A : Nat → Int32 → Int32 → Int32 → m_H → Option m_H} (hDA : 400 ≤ DA + 400) (hD : 20 ≤ DA) (hA : ∀ x0 x1 x2 x3 hp x, A x0 x1 x2 x3 hp = some x → m_isO hp 9 x0 = true ∧ m_Rn xs L DA 2513 0 (lv_args 0 [.ref x0, .int x1, .int x2, .int x3]) [] hp (.inl none, x)) (x0 : Nat) (x2 : Int32) (x5 : Int32) (hp : m_H) {r : m_O × m_H} {K : m_H → Prop} (k0 : ∀ x, K x → r = (.inl none, x)) {t : m_H} (h : F12_sends_86 A x0 x2 x5 hp = some t) (hK : K t) : m_Rn xs L (DA + 1) 2513 86 [(0, .ref x0), (2, .int x2), (5, .int x5)] [] hp r :=
  m_wh_ok (P := fun s => m_Rn xs L (DA + 1) 2513 86 [(0, .ref x0), (2, .int x2), (5, .int s.1)] [] s.2 r) (Q := K) (fun s t hb hK => SF12_sends_86b hDA hD hA x0 x2 s (K := m_KK (fun s => m_Rn xs L (DA + 1) 2513 86 [(0, .ref x0), (2, .int x2), (5, .int s.1)] [] s.2 r) K) k0 (fun _ q => q) hb hK) m_N _ _ h hK
theorem SF12_sends_78 {xs : Nat → Int32} {L : Nat} {DA : Nat} {A : Nat → Int32 → Int32 → Int32 → m_H → Option m_H} (hDA : 400 ≤ DA + 400) (hD : 20 ≤ DA) (hA : ∀ x0 x1 x2 x3 hp x, A x0 x1 x2 x3 hp = some x → m_isO hp 9 x0 = true ∧ m_Rn xs L DA 2513 0 (lv_args 0 [.ref x0, .int x1, .int x2, .int x3]) [] hp (.inl none, x)) (x0 : Nat) (x2 : Int32) (x3 : Int32) (hp : m_H) {r : m_O × m_H} {K : m_H → Prop} (k0 : ∀ x, K x → r = (.inl none, x)) {t : m_H} (h : F12_sends_78 A x0 x2 x3 hp = some t) (hK : K t) : m_Rn xs L (DA + 1) 2513 78 [(0, .ref x0), (2, .int x2), (3, .int x3)] [] hp r := by
  unfold F12_sends_78 at h
  refine g_in eF12_sends_78 mx2513 ?_
  refine g_ch [(0, .ref x0), (2, .int x2), (3, .int x3)] [.int x3, .ref x0] (pc' := 80) rfl rfl rfl ?_
  obtain ⟨h1, e2, h⟩ := m_bd h
  refine g_pf q12_f392 e2 ?_
  refine g_ch [(5, .int 0), (0, .ref x0), (2, .int x2), (3, .int x3)] [] (pc' := 86) rfl rfl rfl ?_
  refine g_end ?_
  exact r_lv (SF12_sends_86 hDA hD hA x0 x2 0 h1 (K := K) k0 h hK) rfl ⟨rfl, rfl, rfl, trivial⟩
theorem SF12_sends_11b {xs : Nat → Int32} {L : Nat} {DA : Nat} {A : Nat → Int32 → Int32 → Int32 → m_H → Option m_H} (hDA : 400 ≤ DA + 400) (hD : 20 ≤ DA) (hA : ∀ x0 x1 x2 x3 hp x, A x0 x1 x2 x3 hp = some x → m_isO hp 9 x0 = true ∧ m_Rn xs L DA 2513 0 (lv_args 0 [.ref x0, .int x1, .int x2, .int x3]) [] hp (.inl none, x)) (x0 : Nat) (x2 : Int32) (x3 : Int32) (hp : m_H) (s : Int32 × Int32) {r : m_O × m_H} {K : ((Int32 × Int32) ⊕ m_H) → Prop} (k0 : ∀ x, K (.inr x) → r = (.inl none, x)) (k1 : ∀ s, K (.inl s) → m_Rn xs L (DA + 1) 2513 11 [(0, .ref x0), (2, .int x2), (3, .int x3), (4, .int s.1), (5, .int s.2)] [] hp r) {t : (Int32 × Int32) ⊕ m_H} (h : F12_sends_11b A x0 x2 x3 hp s = some t) (hK : K t) : m_Rn xs L (DA + 1) 2513 11 [(0, .ref x0), (2, .int x2), (3, .int x3), (4, .int s.1), (5, .int s.2)] [] hp r := by
  unfold F12_sends_11b at h
  refine g_in eF12_sends_11 mx2513 ?_
  refine g_ch [(0, .ref x0), (2, .int x2), (3, .int x3), (4, .int s.1), (5, .int s.2)] [.int 6, .int s.2] (pc' := 15) rfl rfl rfl ?_
  rcases m_ifd h with ⟨c1, h⟩ | ⟨c1, h⟩
  · refine g_if (t := 57) rfl (m_geT c1) ?_
    refine g_in eF12_sends_57 mx2513 ?_
    refine g_ch [(0, .ref x0), (2, .int x2), (3, .int x3), (4, .int s.1), (5, .int s.2)] [.int s.1] (pc' := 59) rfl rfl rfl ?_
    rcases m_ifd h with ⟨c2, h⟩ | ⟨c2, h⟩
    · refine g_ifc (t := 77) rfl (m_eqT c2) ?_
      refine g_in eF12_sends_77 mx2513 ?_
      cases h
      rw [k0 _ hK]
      exact g_vret rfl
    · refine g_ifcn (t := 77) rfl (m_eqF c2) ?_
      refine g_in eF12_sends_62 mx2513 ?_
      refine g_ch [(0, .ref x0), (2, .int x2), (3, .int x3), (4, .int s.1), (5, .int s.2)] [.ref x0] (pc' := 63) rfl rfl rfl ?_
      obtain ⟨v3, e4, h⟩ := m_bd h
      refine g_gi q12_f392 e4 ?_
      rcases m_ifd h with ⟨c5, h⟩ | ⟨c5, h⟩
      · refine g_ifc (t := 78) rfl (m_ltT c5) ?_
        obtain ⟨t', h2, rfl⟩ := Option.map_eq_some_iff.mp h
        exact r_lv (SF12_sends_78 hDA hD hA x0 x2 x3 hp (K := fun t => K (.inr t)) k0 h2 hK) rfl ⟨rfl, rfl, rfl, trivial⟩
      · refine g_ifcn (t := 78) rfl (m_ltF c5) ?_
        refine g_in eF12_sends_69 mx2513 ?_
        refine g_ch [(0, .ref x0), (2, .int x2), (3, .int x3), (4, .int s.1), (5, .int s.2)] [.ref x0, .int x3] (pc' := 71) rfl rfl rfl ?_
        obtain ⟨v6, e7, h⟩ := m_bd h
        refine g_gi q12_f392 e7 ?_
        rcases m_ifd h with ⟨c8, h⟩ | ⟨c8, h⟩
        · refine g_if (t := 78) rfl (m_ltT c8) ?_
          obtain ⟨t', h2, rfl⟩ := Option.map_eq_some_iff.mp h
          exact r_lv (SF12_sends_78 hDA hD hA x0 x2 x3 hp (K := fun t => K (.inr t)) k0 h2 hK) rfl ⟨rfl, rfl, rfl, trivial⟩
        · refine g_ifn (t := 78) rfl (m_ltF c8) ?_
          refine g_in eF12_sends_77 mx2513 ?_
          cases h
          rw [k0 _ hK]
          exact g_vret rfl
  · refine g_ifn (t := 57) rfl (m_geF c1) ?_
    refine g_in eF12_sends_18 mx2513 ?_
    refine g_ch [(0, .ref x0), (2, .int x2), (3, .int x3), (4, .int s.1), (5, .int s.2)] [.int s.1] (pc' := 20) rfl rfl rfl ?_
    rcases m_ifd h with ⟨c9, h⟩ | ⟨c9, h⟩
    · refine g_ifc (t := 48) rfl (m_eqT c9) ?_
      refine g_in eF12_sends_48 mx2513 ?_
      refine g_ch [(0, .ref x0), (2, .int x2), (3, .int x3), (4, .int s.1), (5, .int s.2)] [.int 0] (pc' := 49) rfl rfl rfl ?_
      refine g_end ?_
      refine g_in eF12_sends_49 mx2513 ?_
      refine g_ch [(5, .int (s.2 + 1)), (4, .int 0), (0, .ref x0), (2, .int x2), (3, .int x3)] [] (pc' := 54) rfl rfl rfl ?_
      refine g_goto (t := 11) rfl ?_
      cases h
      exact r_lv (k1 (0, (s.2 + 1)) hK) rfl ⟨rfl, rfl, rfl, rfl, rfl, trivial⟩
    · refine g_ifcn (t := 48) rfl (m_eqF c9) ?_
      refine g_in eF12_sends_23 mx2513 ?_
      refine g_ch [(0, .ref x0), (2, .int x2), (3, .int x3), (4, .int s.1), (5, .int s.2)] [.ref x0] (pc' := 24) rfl rfl rfl ?_
      obtain ⟨v10, e11, h⟩ := m_bd h
      refine g_gr q12_f58 e11 ?_
      refine g_ch [(0, .ref x0), (2, .int x2), (3, .int x3), (4, .int s.1), (5, .int s.2)] [.int s.2, .ref v10] (pc' := 29) rfl rfl rfl ?_
      obtain ⟨v12, e13, h⟩ := m_bd h
      refine g_ia e13 ?_
      refine g_ch [(0, .ref x0), (2, .int x2), (3, .int x3), (4, .int s.1), (5, .int s.2)] [.ref x0, .int v12] (pc' := 31) rfl rfl rfl ?_
      obtain ⟨v14, e15, h⟩ := m_bd h
      refine g_gr q12_f14 e15 ?_
      refine g_ch [(0, .ref x0), (2, .int x2), (3, .int x3), (4, .int s.1), (5, .int s.2)] [.int 3, .int s.2, .ref v14, .int v12] (pc' := 37) rfl rfl rfl ?_
      obtain ⟨v17, e16, h⟩ := m_bd h
      refine g_call (v := some (.int v17)) (h := hp) (st' := [.int v17, .ref v14, .int v12]) (D1 := 0) (as := [.int s.2, .int 3]) (Or.inl rfl) q12_m106 (m_cs (as := [.int 3, .int s.2]) (rest := [.ref v14, .int v12]) q12_m106 jv2413 rfl rfl rfl rfl rfl) (by omega) (SF12_landAt e16) rfl ?_
      obtain ⟨v18, e19, h⟩ := m_bd h
      refine g_ia e19 ?_
      rcases m_ifd h with ⟨c20, h⟩ | ⟨c20, h⟩
      · refine g_if (t := 48) rfl (m_ltT c20) ?_
        refine g_in eF12_sends_48 mx2513 ?_
        refine g_ch [(0, .ref x0), (2, .int x2), (3, .int x3), (4, .int s.1), (5, .int s.2)] [.int 0] (pc' := 49) rfl rfl rfl ?_
        refine g_end ?_
        refine g_in eF12_sends_49 mx2513 ?_
        refine g_ch [(5, .int (s.2 + 1)), (4, .int 0), (0, .ref x0), (2, .int x2), (3, .int x3)] [] (pc' := 54) rfl rfl rfl ?_
        refine g_goto (t := 11) rfl ?_
        cases h
        exact r_lv (k1 (0, (s.2 + 1)) hK) rfl ⟨rfl, rfl, rfl, rfl, rfl, trivial⟩
      · refine g_ifn (t := 48) rfl (m_ltF c20) ?_
        refine g_in eF12_sends_44 mx2513 ?_
        refine g_ch [(0, .ref x0), (2, .int x2), (3, .int x3), (4, .int s.1), (5, .int s.2)] [.int 1] (pc' := 45) rfl rfl rfl ?_
        refine g_goto (t := 49) rfl ?_
        refine g_in eF12_sends_49 mx2513 ?_
        refine g_ch [(5, .int (s.2 + 1)), (4, .int 1), (0, .ref x0), (2, .int x2), (3, .int x3)] [] (pc' := 54) rfl rfl rfl ?_
        refine g_goto (t := 11) rfl ?_
        cases h
        exact r_lv (k1 (1, (s.2 + 1)) hK) rfl ⟨rfl, rfl, rfl, rfl, rfl, trivial⟩
theorem SF12_sends_11 {xs : Nat → Int32} {L : Nat} {DA : Nat} {A : Nat → Int32 → Int32 → Int32 → m_H → Option m_H} (hDA : 400 ≤ DA + 400) (hD : 20 ≤ DA) (hA : ∀ x0 x1 x2 x3 hp x, A x0 x1 x2 x3 hp = some x → m_isO hp 9 x0 = true ∧ m_Rn xs L DA 2513 0 (lv_args 0 [.ref x0, .int x1, .int x2, .int x3]) [] hp (.inl none, x)) (x0 : Nat) (x2 : Int32) (x3 : Int32) (x4 : Int32) (x5 : Int32) (hp : m_H) {r : m_O × m_H} {K : m_H → Prop} (k0 : ∀ x, K x → r = (.inl none, x)) {t : m_H} (h : F12_sends_11 A x0 x2 x3 x4 x5 hp = some t) (hK : K t) : m_Rn xs L (DA + 1) 2513 11 [(0, .ref x0), (2, .int x2), (3, .int x3), (4, .int x4), (5, .int x5)] [] hp r :=
  m_wh_ok (P := fun s => m_Rn xs L (DA + 1) 2513 11 [(0, .ref x0), (2, .int x2), (3, .int x3), (4, .int s.1), (5, .int s.2)] [] hp r) (Q := K) (fun s t hb hK => SF12_sends_11b hDA hD hA x0 x2 x3 hp s (K := m_KK (fun s => m_Rn xs L (DA + 1) 2513 11 [(0, .ref x0), (2, .int x2), (3, .int x3), (4, .int s.1), (5, .int s.2)] [] hp r) K) k0 (fun _ q => q) hb hK) m_N _ _ h hK
theorem SF12_sends_0 {xs : Nat → Int32} {L : Nat} {DA : Nat} {A : Nat → Int32 → Int32 → Int32 → m_H → Option m_H} (hDA : 400 ≤ DA + 400) (hD : 20 ≤ DA) (hA : ∀ x0 x1 x2 x3 hp x, A x0 x1 x2 x3 hp = some x → m_isO hp 9 x0 = true ∧ m_Rn xs L DA 2513 0 (lv_args 0 [.ref x0, .int x1, .int x2, .int x3]) [] hp (.inl none, x)) (x0 : Nat) (x1 : Int32) (x2 : Int32) (x3 : Int32) (hp : m_H) {r : m_O × m_H} {K : m_H → Prop} (k0 : ∀ x, K x → r = (.inl none, x)) {t : m_H} (h : F12_sends_0 A x0 x1 x2 x3 hp = some t) (hK : K t) : m_Rn xs L (DA + 1) 2513 0 [(0, .ref x0), (1, .int x1), (2, .int x2), (3, .int x3)] [] hp r := by
  unfold F12_sends_0 at h
  refine g_in eF12_sends_0 mx2513 ?_
  refine g_ch [(0, .ref x0), (1, .int x1), (2, .int x2), (3, .int x3)] [.int x2, .int x1] (pc' := 2) rfl rfl rfl ?_
  rcases m_ifd h with ⟨c1, h⟩ | ⟨c1, h⟩
  · refine g_ifn (t := 113) rfl (m_neF c1) ?_
    refine g_in eF12_sends_5 mx2513 ?_
    refine g_ch [(5, .int 1), (4, .int 1), (0, .ref x0), (1, .int x1), (2, .int x2), (3, .int x3)] [] (pc' := 11) rfl rfl rfl ?_
    refine g_end ?_
    exact r_lv (SF12_sends_11 hDA hD hA x0 x2 x3 1 1 hp (K := K) k0 h hK) rfl ⟨rfl, rfl, rfl, rfl, rfl, trivial⟩
  · refine g_if (t := 113) rfl (m_neT c1) ?_
    refine g_in eF12_sends_113 mx2513 ?_
    refine g_ch [(0, .ref x0), (1, .int x1), (2, .int x2), (3, .int x3)] [.ref x0, .ref x0] (pc' := 115) rfl rfl rfl ?_
    obtain ⟨v2, e3, h⟩ := m_bd h
    refine g_gr q12_f49 e3 ?_
    refine g_ch [(0, .ref x0), (1, .int x1), (2, .int x2), (3, .int x3)] [.int x1, .ref v2, .ref x0] (pc' := 119) rfl rfl rfl ?_
    obtain ⟨v4, e5, h⟩ := m_bd h
    refine g_ia e5 ?_
    refine g_ch [(0, .ref x0), (1, .int x1), (2, .int x2), (3, .int x3)] [.int 0, .int v4, .ref x0] (pc' := 121) rfl rfl rfl ?_
    obtain ⟨v7, e6, h⟩ := m_bd h
    refine g_call (v := some (.int v7)) (h := hp) (st' := [.int v7]) (D1 := 1) (as := [.ref x0, .int v4, .int 0]) (Or.inr (Or.inl rfl)) q12_m326 (m_cv (as := [.int 0, .int v4]) (rest := []) (Or.inl rfl) q12_m326 jv2477 (OF12_its e6) rfl rfl rfl rfl) (by omega) (SF12_its e6) rfl ?_
    refine g_ch [(5, .int 0), (4, .int v7), (0, .ref x0), (1, .int x1), (2, .int x2), (3, .int x3)] [] (pc' := 129) rfl rfl rfl ?_
    refine g_end ?_
    exact r_lv (SF12_sends_129 hDA hD hA x0 x1 x2 x3 v7 0 hp (K := K) k0 h hK) rfl ⟨rfl, rfl, rfl, rfl, rfl, rfl, trivial⟩
theorem OF12_sendss {A : Nat → Int32 → Int32 → Int32 → m_H → Option m_H} {x0 : Nat} {x1 : Int32} {x2 : Int32} {x3 : Int32} {hp : m_H} {x : m_H} (h : F12_sendss A x0 x1 x2 x3 hp = some x) : m_isO hp 9 x0 = true := (m_gdd h).1
theorem SF12_sendss {xs : Nat → Int32} {L : Nat} {DA : Nat} {A : Nat → Int32 → Int32 → Int32 → m_H → Option m_H} (hDA : 400 ≤ DA + 400) (hD : 20 ≤ DA) (hA : ∀ x0 x1 x2 x3 hp x, A x0 x1 x2 x3 hp = some x → m_isO hp 9 x0 = true ∧ m_Rn xs L DA 2513 0 (lv_args 0 [.ref x0, .int x1, .int x2, .int x3]) [] hp (.inl none, x)) {x0 : Nat} {x1 : Int32} {x2 : Int32} {x3 : Int32} {hp : m_H} {x : m_H} (h : F12_sendss A x0 x1 x2 x3 hp = some x) : m_Rn xs L (DA + 1) 2513 0 (lv_args 0 [.ref x0, .int x1, .int x2, .int x3]) [] hp (.inl none, x) :=
  r_lv (SF12_sends_0 hDA hD hA x0 x1 x2 x3 hp (K := fun y => y = x) (fun y e => by rw [e]) (m_gdd h).2 rfl) rfl ⟨rfl, rfl, rfl, rfl, trivial⟩
theorem OF12_sends {n : Nat} {x0 : Nat} {x1 : Int32} {x2 : Int32} {x3 : Int32} {hp : m_H} {x : m_H} (h : F12_sends n x0 x1 x2 x3 hp = some x) : m_isO hp 9 x0 = true := by
  cases n with
  | zero => cases h
  | succ n => exact OF12_sendss h
theorem SF12_sends {xs : Nat → Int32} {L : Nat} : ∀ (n : Nat) (x0 : Nat) (x1 : Int32) (x2 : Int32) (x3 : Int32) (hp : m_H) (x : m_H), F12_sends n x0 x1 x2 x3 hp = some x → m_Rn xs L (20 + 1 * n) 2513 0 (lv_args 0 [.ref x0, .int x1, .int x2, .int x3]) [] hp (.inl none, x)
  | 0, _, _, _, _, _, _, h => by cases h
  | n + 1, x0, x1, x2, x3, hp, x, h => SF12_sendss (DA := 20 + 1 * n) (by omega) (by omega) (fun x0 x1 x2 x3 hp x h => ⟨OF12_sends h, SF12_sends n x0 x1 x2 x3 hp x h⟩) h
theorem TF12_sends {xs : Nat → Int32} {L : Nat} {x0 : Nat} {x1 : Int32} {x2 : Int32} {x3 : Int32} {hp : m_H} {x : m_H} (h : F12_sends m_FD x0 x1 x2 x3 hp = some x) : m_Rn xs L 400 2513 0 (lv_args 0 [.ref x0, .int x1, .int x2, .int x3]) [] hp (.inl none, x) := r_dp (SF12_sends m_FD x0 x1 x2 x3 hp x h) (by decide)
-- F12_hulls: LendHouseModel.hulls(I)I
theorem eF12_hulls_0 : m_Fe mi12_114 0 (m_ap [(.aload_n 0, 1), (.iconst 0, 1)] ((.putfield 3, 3) :: (m_ap [(.iconst 0, 1), (.istore_n 2, 1), (.iconst 0, 1), (.istore_n 3, 1)] ([])))) := m_Fe_of nd2514 0 7 rfl
theorem eF12_hulls_9 : m_Fe mi12_114 9 (m_ap [(.iload_n 3, 1), (.aload_n 0, 1)] ((.getfield 14, 3) :: (m_ap [(.sipush 3209, 3)] ((.iaload, 1) :: ([(.if_icmp .ge 37, 3)]))))) := m_Fe_of nd2514 7 6 rfl
theorem eF12_hulls_21 : m_Fe mi12_114 21 (m_ap [(.iload_n 2, 1), (.bipush 6, 2)] ([(.if_icmp .ge 31, 3)])) := m_Fe_of nd2514 13 3 rfl
theorem eF12_hulls_27 : m_Fe mi12_114 27 (m_ap [(.aload_n 0, 1), (.iload_n 3, 1), (.iconst 2, 1)] ((.invokevirtual 326, 3) :: ([(.ifCond .eq 6, 3)]))) := m_Fe_of nd2514 16 5 rfl
theorem eF12_hulls_39 : m_Fe mi12_114 39 (m_ap [(.aload_n 0, 1)] ((.getfield 49, 3) :: (m_ap [(.iload_n 2, 1), (.iload_n 3, 1)] ((.iastore, 1) :: (m_ap [(.iinc 2 1, 3)] ([])))))) := m_Fe_of nd2514 22 6 rfl
theorem eF12_hulls_49 : m_Fe mi12_114 49 (m_ap [(.iinc 3 1, 3)] ([(.goto (-43), 3)])) := m_Fe_of nd2514 28 2 rfl
theorem eF12_hulls_36 : m_Fe mi12_114 36 ([(.goto 13, 3)]) := m_Fe_of nd2514 21 1 rfl
theorem eF12_hulls_55 : m_Fe mi12_114 55 (m_ap [(.iconst 0, 1), (.istore_n 3, 1)] ([])) := m_Fe_of nd2514 30 2 rfl
theorem eF12_hulls_57 : m_Fe mi12_114 57 (m_ap [(.iload_n 3, 1), (.bipush 6, 2)] ([(.if_icmp .ge 16, 3)])) := m_Fe_of nd2514 32 3 rfl
theorem eF12_hulls_76 : m_Fe mi12_114 76 (m_ap [(.aload_n 0, 1), (.iconst (-1), 1)] ((.putfield 392, 3) :: (m_ap [(.aload_n 0, 1), (.iconst 0, 1), (.iload_n 2, 1), (.iconst 0, 1)] ((.invokevirtual 395, 3) :: (m_ap [(.iload_n 1, 1), (.iconst (-1), 1)] ([(.if_icmp .eq 10, 3)])))))) := m_Fe_of nd2514 42 11 rfl
theorem eF12_hulls_100 : m_Fe mi12_114 100 (m_ap [(.aload_n 0, 1)] ((.getfield 392, 3) :: ([(.ireturn, 1)]))) := m_Fe_of nd2514 56 3 rfl
theorem eF12_hulls_93 : m_Fe mi12_114 93 (m_ap [(.aload_n 0, 1)] ((.getfield 392, 3) :: ([(.ifCond .ge 8, 3)]))) := m_Fe_of nd2514 53 3 rfl
theorem eF12_hulls_105 : m_Fe mi12_114 105 (m_ap [(.iconst 0, 1), (.istore_n 3, 1)] ([])) := m_Fe_of nd2514 59 2 rfl
theorem eF12_hulls_63 : m_Fe mi12_114 63 (m_ap [(.aload_n 0, 1)] ((.getfield 58, 3) :: (m_ap [(.iload_n 3, 1), (.iconst 0, 1)] ((.iastore, 1) :: (m_ap [(.iinc 3 1, 3)] ([(.goto (-16), 3)])))))) := m_Fe_of nd2514 35 7 rfl
theorem eF12_hulls_107 : m_Fe mi12_114 107 (m_ap [(.iload_n 3, 1), (.iload_n 2, 1)] ([(.if_icmp .ge 26, 3)])) := m_Fe_of nd2514 61 3 rfl
theorem eF12_hulls_135 : m_Fe mi12_114 135 (m_ap [(.iconst (-1), 1)] ([(.ireturn, 1)])) := m_Fe_of nd2514 77 2 rfl
theorem eF12_hulls_112 : m_Fe mi12_114 112 (m_ap [(.aload_n 0, 1)] ((.getfield 49, 3) :: (m_ap [(.iload_n 3, 1)] ((.iaload, 1) :: (m_ap [(.iload_n 1, 1)] ([(.if_icmp .ne 10, 3)])))))) := m_Fe_of nd2514 64 6 rfl
theorem eF12_hulls_129 : m_Fe mi12_114 129 (m_ap [(.iinc 3 1, 3)] ([(.goto (-25), 3)])) := m_Fe_of nd2514 75 2 rfl
theorem eF12_hulls_122 : m_Fe mi12_114 122 (m_ap [(.aload_n 0, 1)] ((.getfield 55, 3) :: (m_ap [(.iload_n 3, 1)] ((.iaload, 1) :: ([(.ireturn, 1)]))))) := m_Fe_of nd2514 70 5 rfl
theorem SF12_hulls_107b {xs : Nat → Int32} {L : Nat} (x0 : Nat) (x1 : Int32) (x2 : Int32) (hp : m_H) (s : Int32) {r : m_O × m_H} {K : (Int32 ⊕ (Int32 × m_H)) → Prop} (k0 : ∀ x, K (.inr x) → r = (.inl (some (.int x.1)), x.2)) (k1 : ∀ s, K (.inl s) → m_Rn xs L 401 2514 107 [(0, .ref x0), (1, .int x1), (2, .int x2), (3, .int s)] [] hp r) {t : Int32 ⊕ (Int32 × m_H)} (h : F12_hulls_107b x0 x1 x2 hp s = some t) (hK : K t) : m_Rn xs L 401 2514 107 [(0, .ref x0), (1, .int x1), (2, .int x2), (3, .int s)] [] hp r := by
  unfold F12_hulls_107b at h
  refine g_in eF12_hulls_107 mx2514 ?_
  refine g_ch [(0, .ref x0), (1, .int x1), (2, .int x2), (3, .int s)] [.int x2, .int s] (pc' := 109) rfl rfl rfl ?_
  rcases m_ifd h with ⟨c1, h⟩ | ⟨c1, h⟩
  · refine g_if (t := 135) rfl (m_geT c1) ?_
    refine g_in eF12_hulls_135 mx2514 ?_
    refine g_ch [(0, .ref x0), (1, .int x1), (2, .int x2), (3, .int s)] [.int (-1)] (pc' := 136) rfl rfl rfl ?_
    cases h
    rw [k0 _ hK]
    exact g_iret rfl rfl
  · refine g_ifn (t := 135) rfl (m_geF c1) ?_
    refine g_in eF12_hulls_112 mx2514 ?_
    refine g_ch [(0, .ref x0), (1, .int x1), (2, .int x2), (3, .int s)] [.ref x0] (pc' := 113) rfl rfl rfl ?_
    obtain ⟨v2, e3, h⟩ := m_bd h
    refine g_gr q12_f49 e3 ?_
    refine g_ch [(0, .ref x0), (1, .int x1), (2, .int x2), (3, .int s)] [.int s, .ref v2] (pc' := 117) rfl rfl rfl ?_
    obtain ⟨v4, e5, h⟩ := m_bd h
    refine g_ia e5 ?_
    refine g_ch [(0, .ref x0), (1, .int x1), (2, .int x2), (3, .int s)] [.int x1, .int v4] (pc' := 119) rfl rfl rfl ?_
    rcases m_ifd h with ⟨c6, h⟩ | ⟨c6, h⟩
    · refine g_ifn (t := 129) rfl (m_neF c6) ?_
      refine g_in eF12_hulls_122 mx2514 ?_
      refine g_ch [(0, .ref x0), (1, .int x1), (2, .int x2), (3, .int s)] [.ref x0] (pc' := 123) rfl rfl rfl ?_
      obtain ⟨v7, e8, h⟩ := m_bd h
      refine g_gr q12_f55 e8 ?_
      refine g_ch [(0, .ref x0), (1, .int x1), (2, .int x2), (3, .int s)] [.int s, .ref v7] (pc' := 127) rfl rfl rfl ?_
      obtain ⟨v9, e10, h⟩ := m_bd h
      refine g_ia e10 ?_
      cases h
      rw [k0 _ hK]
      exact g_iret rfl rfl
    · refine g_if (t := 129) rfl (m_neT c6) ?_
      refine g_in eF12_hulls_129 mx2514 ?_
      refine g_ch [(3, .int (s + 1)), (0, .ref x0), (1, .int x1), (2, .int x2)] [] (pc' := 132) rfl rfl rfl ?_
      refine g_goto (t := 107) rfl ?_
      cases h
      exact r_lv (k1 (s + 1) hK) rfl ⟨rfl, rfl, rfl, rfl, trivial⟩
theorem SF12_hulls_107 {xs : Nat → Int32} {L : Nat} (x0 : Nat) (x1 : Int32) (x2 : Int32) (x3 : Int32) (hp : m_H) {r : m_O × m_H} {K : Int32 × m_H → Prop} (k0 : ∀ x, K x → r = (.inl (some (.int x.1)), x.2)) {t : Int32 × m_H} (h : F12_hulls_107 x0 x1 x2 x3 hp = some t) (hK : K t) : m_Rn xs L 401 2514 107 [(0, .ref x0), (1, .int x1), (2, .int x2), (3, .int x3)] [] hp r :=
  m_wh_ok (P := fun s => m_Rn xs L 401 2514 107 [(0, .ref x0), (1, .int x1), (2, .int x2), (3, .int s)] [] hp r) (Q := K) (fun s t hb hK => SF12_hulls_107b x0 x1 x2 hp s (K := m_KK (fun s => m_Rn xs L 401 2514 107 [(0, .ref x0), (1, .int x1), (2, .int x2), (3, .int s)] [] hp r) K) k0 (fun _ q => q) hb hK) m_N _ _ h hK
theorem SF12_hulls_57b {xs : Nat → Int32} {L : Nat} (x0 : Nat) (x1 : Int32) (x2 : Int32) (s : Int32 × m_H) {r : m_O × m_H} {K : ((Int32 × m_H) ⊕ (Int32 × m_H)) → Prop} (k0 : ∀ x, K (.inr x) → r = (.inl (some (.int x.1)), x.2)) (k1 : ∀ s, K (.inl s) → m_Rn xs L 401 2514 57 [(0, .ref x0), (1, .int x1), (2, .int x2), (3, .int s.1)] [] s.2 r) {t : (Int32 × m_H) ⊕ (Int32 × m_H)} (h : F12_hulls_57b x0 x1 x2 s = some t) (hK : K t) : m_Rn xs L 401 2514 57 [(0, .ref x0), (1, .int x1), (2, .int x2), (3, .int s.1)] [] s.2 r := by
  unfold F12_hulls_57b at h
  refine g_in eF12_hulls_57 mx2514 ?_
  refine g_ch [(0, .ref x0), (1, .int x1), (2, .int x2), (3, .int s.1)] [.int 6, .int s.1] (pc' := 60) rfl rfl rfl ?_
  rcases m_ifd h with ⟨c1, h⟩ | ⟨c1, h⟩
  · refine g_if (t := 76) rfl (m_geT c1) ?_
    refine g_in eF12_hulls_76 mx2514 ?_
    refine g_ch [(0, .ref x0), (1, .int x1), (2, .int x2), (3, .int s.1)] [.int (-1), .ref x0] (pc' := 78) rfl rfl rfl ?_
    obtain ⟨h2, e3, h⟩ := m_bd h
    refine g_pf q12_f392 e3 ?_
    refine g_ch [(0, .ref x0), (1, .int x1), (2, .int x2), (3, .int s.1)] [.int 0, .int x2, .int 0, .ref x0] (pc' := 85) rfl rfl rfl ?_
    obtain ⟨h5, e4, h⟩ := m_bd h
    refine g_call (v := none) (h := h5) (st' := []) (D1 := 400) (as := [.ref x0, .int 0, .int x2, .int 0]) (Or.inr (Or.inl rfl)) q12_m395 (m_cv (as := [.int 0, .int x2, .int 0]) (rest := []) (Or.inl rfl) q12_m395 jv2513 (OF12_sends e4) rfl rfl rfl rfl) (by decide) (TF12_sends e4) rfl ?_
    refine g_ch [(0, .ref x0), (1, .int x1), (2, .int x2), (3, .int s.1)] [.int (-1), .int x1] (pc' := 90) rfl rfl rfl ?_
    rcases m_ifd h with ⟨c6, h⟩ | ⟨c6, h⟩
    · refine g_if (t := 100) rfl (m_eqT c6) ?_
      refine g_in eF12_hulls_100 mx2514 ?_
      refine g_ch [(0, .ref x0), (1, .int x1), (2, .int x2), (3, .int s.1)] [.ref x0] (pc' := 101) rfl rfl rfl ?_
      obtain ⟨v7, e8, h⟩ := m_bd h
      refine g_gi q12_f392 e8 ?_
      cases h
      rw [k0 _ hK]
      exact g_iret rfl rfl
    · refine g_ifn (t := 100) rfl (m_eqF c6) ?_
      refine g_in eF12_hulls_93 mx2514 ?_
      refine g_ch [(0, .ref x0), (1, .int x1), (2, .int x2), (3, .int s.1)] [.ref x0] (pc' := 94) rfl rfl rfl ?_
      obtain ⟨v9, e10, h⟩ := m_bd h
      refine g_gi q12_f392 e10 ?_
      rcases m_ifd h with ⟨c11, h⟩ | ⟨c11, h⟩
      · refine g_ifc (t := 105) rfl (m_geT c11) ?_
        refine g_in eF12_hulls_105 mx2514 ?_
        refine g_ch [(3, .int 0), (0, .ref x0), (1, .int x1), (2, .int x2)] [] (pc' := 107) rfl rfl rfl ?_
        refine g_end ?_
        obtain ⟨t', h2, rfl⟩ := Option.map_eq_some_iff.mp h
        exact r_lv (SF12_hulls_107 x0 x1 x2 0 h5 (K := fun t => K (.inr t)) k0 h2 hK) rfl ⟨rfl, rfl, rfl, rfl, trivial⟩
      · refine g_ifcn (t := 105) rfl (m_geF c11) ?_
        refine g_in eF12_hulls_100 mx2514 ?_
        refine g_ch [(0, .ref x0), (1, .int x1), (2, .int x2), (3, .int s.1)] [.ref x0] (pc' := 101) rfl rfl rfl ?_
        obtain ⟨v12, e13, h⟩ := m_bd h
        refine g_gi q12_f392 e13 ?_
        cases h
        rw [k0 _ hK]
        exact g_iret rfl rfl
  · refine g_ifn (t := 76) rfl (m_geF c1) ?_
    refine g_in eF12_hulls_63 mx2514 ?_
    refine g_ch [(0, .ref x0), (1, .int x1), (2, .int x2), (3, .int s.1)] [.ref x0] (pc' := 64) rfl rfl rfl ?_
    obtain ⟨v14, e15, h⟩ := m_bd h
    refine g_gr q12_f58 e15 ?_
    refine g_ch [(0, .ref x0), (1, .int x1), (2, .int x2), (3, .int s.1)] [.int 0, .int s.1, .ref v14] (pc' := 69) rfl rfl rfl ?_
    obtain ⟨h16, e17, h⟩ := m_bd h
    refine g_is e17 ?_
    refine g_ch [(3, .int (s.1 + 1)), (0, .ref x0), (1, .int x1), (2, .int x2)] [] (pc' := 73) rfl rfl rfl ?_
    refine g_goto (t := 57) rfl ?_
    cases h
    exact r_lv (k1 ((s.1 + 1), h16) hK) rfl ⟨rfl, rfl, rfl, rfl, trivial⟩
theorem SF12_hulls_57 {xs : Nat → Int32} {L : Nat} (x0 : Nat) (x1 : Int32) (x2 : Int32) (x3 : Int32) (hp : m_H) {r : m_O × m_H} {K : Int32 × m_H → Prop} (k0 : ∀ x, K x → r = (.inl (some (.int x.1)), x.2)) {t : Int32 × m_H} (h : F12_hulls_57 x0 x1 x2 x3 hp = some t) (hK : K t) : m_Rn xs L 401 2514 57 [(0, .ref x0), (1, .int x1), (2, .int x2), (3, .int x3)] [] hp r :=
  m_wh_ok (P := fun s => m_Rn xs L 401 2514 57 [(0, .ref x0), (1, .int x1), (2, .int x2), (3, .int s.1)] [] s.2 r) (Q := K) (fun s t hb hK => SF12_hulls_57b x0 x1 x2 s (K := m_KK (fun s => m_Rn xs L 401 2514 57 [(0, .ref x0), (1, .int x1), (2, .int x2), (3, .int s.1)] [] s.2 r) K) k0 (fun _ q => q) hb hK) m_N _ _ h hK
theorem SF12_hulls_55 {xs : Nat → Int32} {L : Nat} (x0 : Nat) (x1 : Int32) (x2 : Int32) (hp : m_H) {r : m_O × m_H} {K : (Int32 × m_H) → Prop} (k0 : ∀ x, K x → r = (.inl (some (.int x.1)), x.2)) {t : Int32 × m_H} (h : F12_hulls_55 x0 x1 x2 hp = some t) (hK : K t) : m_Rn xs L 401 2514 55 [(0, .ref x0), (1, .int x1), (2, .int x2)] [] hp r := by
  unfold F12_hulls_55 at h
  refine g_in eF12_hulls_55 mx2514 ?_
  refine g_ch [(3, .int 0), (0, .ref x0), (1, .int x1), (2, .int x2)] [] (pc' := 57) rfl rfl rfl ?_
  refine g_end ?_
  exact r_lv (SF12_hulls_57 x0 x1 x2 0 hp (K := K) k0 h hK) rfl ⟨rfl, rfl, rfl, rfl, trivial⟩
theorem SF12_hulls_9b {xs : Nat → Int32} {L : Nat} (x0 : Nat) (x1 : Int32) (s : Int32 × Int32 × m_H) {r : m_O × m_H} {K : ((Int32 × Int32 × m_H) ⊕ (Int32 × m_H)) → Prop} (k0 : ∀ x, K (.inr x) → r = (.inl (some (.int x.1)), x.2)) (k1 : ∀ s, K (.inl s) → m_Rn xs L 401 2514 9 [(0, .ref x0), (1, .int x1), (2, .int s.1), (3, .int s.2.1)] [] s.2.2 r) {t : (Int32 × Int32 × m_H) ⊕ (Int32 × m_H)} (h : F12_hulls_9b x0 x1 s = some t) (hK : K t) : m_Rn xs L 401 2514 9 [(0, .ref x0), (1, .int x1), (2, .int s.1), (3, .int s.2.1)] [] s.2.2 r := by
  unfold F12_hulls_9b at h
  refine g_in eF12_hulls_9 mx2514 ?_
  refine g_ch [(0, .ref x0), (1, .int x1), (2, .int s.1), (3, .int s.2.1)] [.ref x0, .int s.2.1] (pc' := 11) rfl rfl rfl ?_
  obtain ⟨v1, e2, h⟩ := m_bd h
  refine g_gr q12_f14 e2 ?_
  refine g_ch [(0, .ref x0), (1, .int x1), (2, .int s.1), (3, .int s.2.1)] [.int 3209, .ref v1, .int s.2.1] (pc' := 17) rfl rfl rfl ?_
  obtain ⟨v3, e4, h⟩ := m_bd h
  refine g_ia e4 ?_
  rcases m_ifd h with ⟨c5, h⟩ | ⟨c5, h⟩
  · refine g_if (t := 55) rfl (m_geT c5) ?_
    obtain ⟨t', h2, rfl⟩ := Option.map_eq_some_iff.mp h
    exact r_lv (SF12_hulls_55 x0 x1 s.1 s.2.2 (K := fun t => K (.inr t)) k0 h2 hK) rfl ⟨rfl, rfl, rfl, trivial⟩
  · refine g_ifn (t := 55) rfl (m_geF c5) ?_
    refine g_in eF12_hulls_21 mx2514 ?_
    refine g_ch [(0, .ref x0), (1, .int x1), (2, .int s.1), (3, .int s.2.1)] [.int 6, .int s.1] (pc' := 24) rfl rfl rfl ?_
    rcases m_ifd h with ⟨c6, h⟩ | ⟨c6, h⟩
    · refine g_if (t := 55) rfl (m_geT c6) ?_
      obtain ⟨t', h2, rfl⟩ := Option.map_eq_some_iff.mp h
      exact r_lv (SF12_hulls_55 x0 x1 s.1 s.2.2 (K := fun t => K (.inr t)) k0 h2 hK) rfl ⟨rfl, rfl, rfl, trivial⟩
    · refine g_ifn (t := 55) rfl (m_geF c6) ?_
      refine g_in eF12_hulls_27 mx2514 ?_
      refine g_ch [(0, .ref x0), (1, .int x1), (2, .int s.1), (3, .int s.2.1)] [.int 2, .int s.2.1, .ref x0] (pc' := 30) rfl rfl rfl ?_
      obtain ⟨v8, e7, h⟩ := m_bd h
      refine g_call (v := some (.int v8)) (h := s.2.2) (st' := [.int v8]) (D1 := 1) (as := [.ref x0, .int s.2.1, .int 2]) (Or.inr (Or.inl rfl)) q12_m326 (m_cv (as := [.int 2, .int s.2.1]) (rest := []) (Or.inl rfl) q12_m326 jv2477 (OF12_its e7) rfl rfl rfl rfl) (by decide) (SF12_its e7) rfl ?_
      rcases m_ifd h with ⟨c9, h⟩ | ⟨c9, h⟩
      · refine g_ifc (t := 39) rfl (m_eqT c9) ?_
        refine g_in eF12_hulls_39 mx2514 ?_
        refine g_ch [(0, .ref x0), (1, .int x1), (2, .int s.1), (3, .int s.2.1)] [.ref x0] (pc' := 40) rfl rfl rfl ?_
        obtain ⟨v10, e11, h⟩ := m_bd h
        refine g_gr q12_f49 e11 ?_
        refine g_ch [(0, .ref x0), (1, .int x1), (2, .int s.1), (3, .int s.2.1)] [.int s.2.1, .int s.1, .ref v10] (pc' := 45) rfl rfl rfl ?_
        obtain ⟨h12, e13, h⟩ := m_bd h
        refine g_is e13 ?_
        refine g_ch [(2, .int (s.1 + 1)), (0, .ref x0), (1, .int x1), (3, .int s.2.1)] [] (pc' := 49) rfl rfl rfl ?_
        refine g_end ?_
        refine g_in eF12_hulls_49 mx2514 ?_
        refine g_ch [(3, .int (s.2.1 + 1)), (2, .int (s.1 + 1)), (0, .ref x0), (1, .int x1)] [] (pc' := 52) rfl rfl rfl ?_
        refine g_goto (t := 9) rfl ?_
        cases h
        exact r_lv (k1 ((s.1 + 1), (s.2.1 + 1), h12) hK) rfl ⟨rfl, rfl, rfl, rfl, trivial⟩
      · refine g_ifcn (t := 39) rfl (m_eqF c9) ?_
        refine g_in eF12_hulls_36 mx2514 ?_
        refine g_goto (t := 49) rfl ?_
        refine g_in eF12_hulls_49 mx2514 ?_
        refine g_ch [(3, .int (s.2.1 + 1)), (0, .ref x0), (1, .int x1), (2, .int s.1)] [] (pc' := 52) rfl rfl rfl ?_
        refine g_goto (t := 9) rfl ?_
        cases h
        exact r_lv (k1 (s.1, (s.2.1 + 1), s.2.2) hK) rfl ⟨rfl, rfl, rfl, rfl, trivial⟩
theorem SF12_hulls_9 {xs : Nat → Int32} {L : Nat} (x0 : Nat) (x1 : Int32) (x2 : Int32) (x3 : Int32) (hp : m_H) {r : m_O × m_H} {K : Int32 × m_H → Prop} (k0 : ∀ x, K x → r = (.inl (some (.int x.1)), x.2)) {t : Int32 × m_H} (h : F12_hulls_9 x0 x1 x2 x3 hp = some t) (hK : K t) : m_Rn xs L 401 2514 9 [(0, .ref x0), (1, .int x1), (2, .int x2), (3, .int x3)] [] hp r :=
  m_wh_ok (P := fun s => m_Rn xs L 401 2514 9 [(0, .ref x0), (1, .int x1), (2, .int s.1), (3, .int s.2.1)] [] s.2.2 r) (Q := K) (fun s t hb hK => SF12_hulls_9b x0 x1 s (K := m_KK (fun s => m_Rn xs L 401 2514 9 [(0, .ref x0), (1, .int x1), (2, .int s.1), (3, .int s.2.1)] [] s.2.2 r) K) k0 (fun _ q => q) hb hK) m_N _ _ h hK
theorem SF12_hulls_0 {xs : Nat → Int32} {L : Nat} (x0 : Nat) (x1 : Int32) (hp : m_H) {r : m_O × m_H} {K : (Int32 × m_H) → Prop} (k0 : ∀ x, K x → r = (.inl (some (.int x.1)), x.2)) {t : Int32 × m_H} (h : F12_hulls_0 x0 x1 hp = some t) (hK : K t) : m_Rn xs L 401 2514 0 [(0, .ref x0), (1, .int x1)] [] hp r := by
  unfold F12_hulls_0 at h
  refine g_in eF12_hulls_0 mx2514 ?_
  refine g_ch [(0, .ref x0), (1, .int x1)] [.int 0, .ref x0] (pc' := 2) rfl rfl rfl ?_
  obtain ⟨h1, e2, h⟩ := m_bd h
  refine g_pf q12_f3 e2 ?_
  refine g_ch [(3, .int 0), (2, .int 0), (0, .ref x0), (1, .int x1)] [] (pc' := 9) rfl rfl rfl ?_
  refine g_end ?_
  exact r_lv (SF12_hulls_9 x0 x1 0 0 h1 (K := K) k0 h hK) rfl ⟨rfl, rfl, rfl, rfl, trivial⟩
theorem OF12_hulls {x0 : Nat} {x1 : Int32} {hp : m_H} {x : Int32 × m_H} (h : F12_hulls x0 x1 hp = some x) : m_isO hp 9 x0 = true := (m_gdd h).1
theorem SF12_hulls {xs : Nat → Int32} {L : Nat} {x0 : Nat} {x1 : Int32} {hp : m_H} {x : Int32 × m_H} (h : F12_hulls x0 x1 hp = some x) : m_Rn xs L 401 2514 0 (lv_args 0 [.ref x0, .int x1]) [] hp (.inl (some (.int x.1)), x.2) :=
  r_lv (SF12_hulls_0 x0 x1 hp (K := fun y => y = x) (fun y e => by rw [e]) (m_gdd h).2 rfl) rfl ⟨rfl, rfl, trivial⟩
