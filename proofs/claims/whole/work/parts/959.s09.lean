/-! ===== m_: the small machine does what the functions say, piece 9 (printed) ===== -/
-- F12_bestOrders: LendHouseModel.bestOrders()I
theorem eF12_bestOrders_0 : m_Fe mi12_115 0 (m_ap [(.aload_n 0, 1), (.iconst 0, 1)] ((.putfield 3, 3) :: (m_ap [(.iconst 0, 1), (.istore_n 1, 1), (.iconst 0, 1), (.istore_n 2, 1)] ([])))) := m_Fe_of nd2515 0 7 rfl
theorem eF12_bestOrders_9 : m_Fe mi12_115 9 (m_ap [(.iload_n 2, 1), (.aload_n 0, 1)] ((.getfield 14, 3) :: (m_ap [(.sipush 807, 3)] ((.iaload, 1) :: ([(.if_icmp .ge 46, 3)]))))) := m_Fe_of nd2515 7 6 rfl
theorem eF12_bestOrders_21 : m_Fe mi12_115 21 (m_ap [(.iload_n 1, 1), (.bipush 8, 2)] ([(.if_icmp .ge 40, 3)])) := m_Fe_of nd2515 13 3 rfl
theorem eF12_bestOrders_27 : m_Fe mi12_115 27 (m_ap [(.aload_n 0, 1), (.iload_n 2, 1)] ((.invokevirtual 341, 3) :: ([(.ifCond .eq 26, 3)]))) := m_Fe_of nd2515 16 4 rfl
theorem eF12_bestOrders_58 : m_Fe mi12_115 58 (m_ap [(.iinc 2 1, 3)] ([(.goto (-52), 3)])) := m_Fe_of nd2515 33 2 rfl
theorem eF12_bestOrders_35 : m_Fe mi12_115 35 (m_ap [(.aload_n 0, 1), (.iload_n 2, 1), (.iconst 5, 1)] ((.invokevirtual 115, 3) :: (m_ap [(.iconst 1, 1)] ([(.if_icmp .ne 6, 3)])))) := m_Fe_of nd2515 20 6 rfl
theorem eF12_bestOrders_48 : m_Fe mi12_115 48 (m_ap [(.aload_n 0, 1)] ((.getfield 61, 3) :: (m_ap [(.iload_n 1, 1), (.iload_n 2, 1)] ((.iastore, 1) :: (m_ap [(.iinc 1 1, 3)] ([])))))) := m_Fe_of nd2515 27 6 rfl
theorem eF12_bestOrders_45 : m_Fe mi12_115 45 ([(.goto 13, 3)]) := m_Fe_of nd2515 26 1 rfl
theorem eF12_bestOrders_64 : m_Fe mi12_115 64 (m_ap [(.iconst 0, 1), (.istore_n 2, 1), (.iconst 0, 1), (.istore_n 3, 1), (.iconst 0, 1), (.istore 4, 2), (.iconst 1, 1), (.istore 5, 2)] ([])) := m_Fe_of nd2515 35 8 rfl
theorem eF12_bestOrders_74 : m_Fe mi12_115 74 (m_ap [(.iload 5, 2), (.iconst 1, 1), (.iload_n 1, 1), (.ishl, 1)] ([(.if_icmp .ge 187, 3)])) := m_Fe_of nd2515 43 5 rfl
theorem eF12_bestOrders_266 : m_Fe mi12_115 266 (m_ap [(.iload_n 2, 1)] ([(.ireturn, 1)])) := m_Fe_of nd2515 149 2 rfl
theorem eF12_bestOrders_82 : m_Fe mi12_115 82 (m_ap [(.iconst 0, 1), (.istore 6, 2), (.iconst 0, 1), (.istore 7, 2), (.iconst 0, 1), (.istore 8, 2), (.iconst 0, 1), (.istore 9, 2)] ([])) := m_Fe_of nd2515 48 8 rfl
theorem eF12_bestOrders_94 : m_Fe mi12_115 94 (m_ap [(.iload 9, 2), (.iload_n 1, 1)] ([(.if_icmp .ge 109, 3)])) := m_Fe_of nd2515 56 3 rfl
theorem eF12_bestOrders_206 : m_Fe mi12_115 206 (m_ap [(.iload 6, 2), (.aload_n 0, 1)] ((.getfield 14, 3) :: (m_ap [(.iconst 1, 1)] ((.iaload, 1) :: ([(.if_icmp .gt 46, 3)]))))) := m_Fe_of nd2515 119 6 rfl
theorem eF12_bestOrders_260 : m_Fe mi12_115 260 (m_ap [(.iinc 5 1, 3)] ([(.goto (-189), 3)])) := m_Fe_of nd2515 147 2 rfl
theorem eF12_bestOrders_217 : m_Fe mi12_115 217 (m_ap [(.iload 7, 2), (.aload_n 0, 1)] ((.getfield 14, 3) :: (m_ap [(.iconst 2, 1)] ((.iaload, 1) :: ([(.if_icmp .gt 35, 3)]))))) := m_Fe_of nd2515 125 6 rfl
theorem eF12_bestOrders_228 : m_Fe mi12_115 228 (m_ap [(.iload 8, 2), (.iload_n 3, 1)] ([(.if_icmp .lt 29, 3)])) := m_Fe_of nd2515 131 3 rfl
theorem eF12_bestOrders_234 : m_Fe mi12_115 234 (m_ap [(.iload 8, 2), (.iload_n 3, 1)] ([(.if_icmp .ne 13, 3)])) := m_Fe_of nd2515 134 3 rfl
theorem eF12_bestOrders_240 : m_Fe mi12_115 240 (m_ap [(.iload 6, 2), (.iload 4, 2)] ([(.if_icmp .lt 6, 3)])) := m_Fe_of nd2515 137 3 rfl
theorem eF12_bestOrders_247 : m_Fe mi12_115 247 ([(.goto 13, 3)]) := m_Fe_of nd2515 140 1 rfl
theorem eF12_bestOrders_100 : m_Fe mi12_115 100 (m_ap [(.iload 5, 2), (.iload 9, 2), (.ishr, 1), (.iconst 1, 1), (.iand, 1)] ([(.ifCond .ne 6, 3)])) := m_Fe_of nd2515 59 6 rfl
theorem eF12_bestOrders_113 : m_Fe mi12_115 113 (m_ap [(.aload_n 0, 1)] ((.getfield 61, 3) :: (m_ap [(.iload 9, 2)] ((.iaload, 1) :: (m_ap [(.istore 10, 2), (.iload 6, 2), (.aload_n 0, 1), (.iload 10, 2), (.iconst 1, 1)] ((.invokevirtual 115, 3) :: (m_ap [(.aload_n 0, 1), (.aload_n 0, 1), (.iload 10, 2), (.iconst 0, 1)] ((.invokevirtual 115, 3) :: (m_ap [(.iconst 1, 1)] ((.invokevirtual 256, 3) :: (m_ap [(.imul, 1), (.iadd, 1), (.istore 6, 2), (.iload 7, 2), (.aload_n 0, 1), (.iload 10, 2), (.iconst 1, 1)] ((.invokevirtual 115, 3) :: (m_ap [(.aload_n 0, 1), (.aload_n 0, 1), (.iload 10, 2), (.iconst 0, 1)] ((.invokevirtual 115, 3) :: (m_ap [(.iconst 2, 1)] ((.invokevirtual 256, 3) :: (m_ap [(.imul, 1), (.iadd, 1), (.istore 7, 2), (.iload 8, 2), (.aload_n 0, 1), (.iload 10, 2), (.iconst 1, 1)] ((.invokevirtual 115, 3) :: (m_ap [(.aload_n 0, 1), (.aload_n 0, 1), (.iload 10, 2), (.iconst 0, 1)] ((.invokevirtual 115, 3) :: (m_ap [(.aload_n 0, 1)] ((.invokevirtual 86, 3) :: ((.invokevirtual 98, 3) :: (m_ap [(.imul, 1), (.iadd, 1), (.istore 8, 2)] ([]))))))))))))))))))))))))) := m_Fe_of nd2515 66 51 rfl
theorem eF12_bestOrders_200 : m_Fe mi12_115 200 (m_ap [(.iinc 9 1, 3)] ([(.goto (-109), 3)])) := m_Fe_of nd2515 117 2 rfl
theorem eF12_bestOrders_110 : m_Fe mi12_115 110 ([(.goto 90, 3)]) := m_Fe_of nd2515 65 1 rfl
theorem eF12_bestOrders_250 : m_Fe mi12_115 250 (m_ap [(.iload 5, 2), (.istore_n 2, 1), (.iload 8, 2), (.istore_n 3, 1), (.iload 6, 2), (.istore 4, 2)] ([])) := m_Fe_of nd2515 141 6 rfl
theorem SF12_bestOrders_250 {xs : Nat → Int32} {L : Nat} (x0 : Nat) (x1 : Int32) (x5 : Int32) (x6 : Int32) (x8 : Int32) (hp : m_H) {r : m_O × m_H} {K : ((Int32 × Int32 × Int32 × Int32) ⊕ (Int32 × m_H)) → Prop} (k0 : ∀ x, K (.inr x) → r = (.inl (some (.int x.1)), x.2)) (k1 : ∀ s, K (.inl s) → m_Rn xs L 4 2515 74 [(0, .ref x0), (1, .int x1), (2, .int s.1), (3, .int s.2.1), (4, .int s.2.2.1), (5, .int s.2.2.2)] [] hp r) {t : (Int32 × Int32 × Int32 × Int32) ⊕ (Int32 × m_H)} (h : F12_bestOrders_250 x0 x1 x5 x6 x8 hp = some t) (hK : K t) : m_Rn xs L 4 2515 250 [(0, .ref x0), (1, .int x1), (5, .int x5), (6, .int x6), (8, .int x8)] [] hp r := by
  unfold F12_bestOrders_250 at h
  refine g_in eF12_bestOrders_250 mx2515 ?_
  refine g_ch [(4, .int x6), (3, .int x8), (2, .int x5), (0, .ref x0), (1, .int x1), (5, .int x5), (6, .int x6), (8, .int x8)] [] (pc' := 260) rfl rfl rfl ?_
  refine g_end ?_
  refine g_in eF12_bestOrders_260 mx2515 ?_
  refine g_ch [(5, .int (x5 + 1)), (4, .int x6), (3, .int x8), (2, .int x5), (0, .ref x0), (1, .int x1), (6, .int x6), (8, .int x8)] [] (pc' := 263) rfl rfl rfl ?_
  refine g_goto (t := 74) rfl ?_
  cases h
  exact r_lv (k1 (x5, x8, x6, (x5 + 1)) hK) rfl ⟨rfl, rfl, rfl, rfl, rfl, rfl, trivial⟩
theorem SF12_bestOrders_94b {xs : Nat → Int32} {L : Nat} (x0 : Nat) (x1 : Int32) (x2 : Int32) (x3 : Int32) (x4 : Int32) (x5 : Int32) (hp : m_H) (s : Int32 × Int32 × Int32 × Int32) {r : m_O × m_H} {K : ((Int32 × Int32 × Int32 × Int32) ⊕ ((Int32 × Int32 × Int32 × Int32) ⊕ (Int32 × m_H))) → Prop} (k0 : ∀ x, K (.inr (.inr x)) → r = (.inl (some (.int x.1)), x.2)) (k1 : ∀ s, K (.inr (.inl s)) → m_Rn xs L 4 2515 74 [(0, .ref x0), (1, .int x1), (2, .int s.1), (3, .int s.2.1), (4, .int s.2.2.1), (5, .int s.2.2.2)] [] hp r) (k2 : ∀ s, K (.inl s) → m_Rn xs L 4 2515 94 [(0, .ref x0), (1, .int x1), (2, .int x2), (3, .int x3), (4, .int x4), (5, .int x5), (6, .int s.1), (7, .int s.2.1), (8, .int s.2.2.1), (9, .int s.2.2.2)] [] hp r) {t : (Int32 × Int32 × Int32 × Int32) ⊕ ((Int32 × Int32 × Int32 × Int32) ⊕ (Int32 × m_H))} (h : F12_bestOrders_94b x0 x1 x2 x3 x4 x5 hp s = some t) (hK : K t) : m_Rn xs L 4 2515 94 [(0, .ref x0), (1, .int x1), (2, .int x2), (3, .int x3), (4, .int x4), (5, .int x5), (6, .int s.1), (7, .int s.2.1), (8, .int s.2.2.1), (9, .int s.2.2.2)] [] hp r := by
  unfold F12_bestOrders_94b at h
  refine g_in eF12_bestOrders_94 mx2515 ?_
  refine g_ch [(0, .ref x0), (1, .int x1), (2, .int x2), (3, .int x3), (4, .int x4), (5, .int x5), (6, .int s.1), (7, .int s.2.1), (8, .int s.2.2.1), (9, .int s.2.2.2)] [.int x1, .int s.2.2.2] (pc' := 97) rfl rfl rfl ?_
  rcases m_ifd h with ⟨c1, h⟩ | ⟨c1, h⟩
  · refine g_if (t := 206) rfl (m_geT c1) ?_
    refine g_in eF12_bestOrders_206 mx2515 ?_
    refine g_ch [(0, .ref x0), (1, .int x1), (2, .int x2), (3, .int x3), (4, .int x4), (5, .int x5), (6, .int s.1), (7, .int s.2.1), (8, .int s.2.2.1), (9, .int s.2.2.2)] [.ref x0, .int s.1] (pc' := 209) rfl rfl rfl ?_
    obtain ⟨v2, e3, h⟩ := m_bd h
    refine g_gr q12_f14 e3 ?_
    refine g_ch [(0, .ref x0), (1, .int x1), (2, .int x2), (3, .int x3), (4, .int x4), (5, .int x5), (6, .int s.1), (7, .int s.2.1), (8, .int s.2.2.1), (9, .int s.2.2.2)] [.int 1, .ref v2, .int s.1] (pc' := 213) rfl rfl rfl ?_
    obtain ⟨v4, e5, h⟩ := m_bd h
    refine g_ia e5 ?_
    rcases m_ifd h with ⟨c6, h⟩ | ⟨c6, h⟩
    · refine g_if (t := 260) rfl (m_gtT c6) ?_
      refine g_in eF12_bestOrders_260 mx2515 ?_
      refine g_ch [(5, .int (x5 + 1)), (0, .ref x0), (1, .int x1), (2, .int x2), (3, .int x3), (4, .int x4), (6, .int s.1), (7, .int s.2.1), (8, .int s.2.2.1), (9, .int s.2.2.2)] [] (pc' := 263) rfl rfl rfl ?_
      refine g_goto (t := 74) rfl ?_
      cases h
      exact r_lv (k1 (x2, x3, x4, (x5 + 1)) hK) rfl ⟨rfl, rfl, rfl, rfl, rfl, rfl, trivial⟩
    · refine g_ifn (t := 260) rfl (m_gtF c6) ?_
      refine g_in eF12_bestOrders_217 mx2515 ?_
      refine g_ch [(0, .ref x0), (1, .int x1), (2, .int x2), (3, .int x3), (4, .int x4), (5, .int x5), (6, .int s.1), (7, .int s.2.1), (8, .int s.2.2.1), (9, .int s.2.2.2)] [.ref x0, .int s.2.1] (pc' := 220) rfl rfl rfl ?_
      obtain ⟨v7, e8, h⟩ := m_bd h
      refine g_gr q12_f14 e8 ?_
      refine g_ch [(0, .ref x0), (1, .int x1), (2, .int x2), (3, .int x3), (4, .int x4), (5, .int x5), (6, .int s.1), (7, .int s.2.1), (8, .int s.2.2.1), (9, .int s.2.2.2)] [.int 2, .ref v7, .int s.2.1] (pc' := 224) rfl rfl rfl ?_
      obtain ⟨v9, e10, h⟩ := m_bd h
      refine g_ia e10 ?_
      rcases m_ifd h with ⟨c11, h⟩ | ⟨c11, h⟩
      · refine g_if (t := 260) rfl (m_gtT c11) ?_
        refine g_in eF12_bestOrders_260 mx2515 ?_
        refine g_ch [(5, .int (x5 + 1)), (0, .ref x0), (1, .int x1), (2, .int x2), (3, .int x3), (4, .int x4), (6, .int s.1), (7, .int s.2.1), (8, .int s.2.2.1), (9, .int s.2.2.2)] [] (pc' := 263) rfl rfl rfl ?_
        refine g_goto (t := 74) rfl ?_
        cases h
        exact r_lv (k1 (x2, x3, x4, (x5 + 1)) hK) rfl ⟨rfl, rfl, rfl, rfl, rfl, rfl, trivial⟩
      · refine g_ifn (t := 260) rfl (m_gtF c11) ?_
        refine g_in eF12_bestOrders_228 mx2515 ?_
        refine g_ch [(0, .ref x0), (1, .int x1), (2, .int x2), (3, .int x3), (4, .int x4), (5, .int x5), (6, .int s.1), (7, .int s.2.1), (8, .int s.2.2.1), (9, .int s.2.2.2)] [.int x3, .int s.2.2.1] (pc' := 231) rfl rfl rfl ?_
        rcases m_ifd h with ⟨c12, h⟩ | ⟨c12, h⟩
        · refine g_if (t := 260) rfl (m_ltT c12) ?_
          refine g_in eF12_bestOrders_260 mx2515 ?_
          refine g_ch [(5, .int (x5 + 1)), (0, .ref x0), (1, .int x1), (2, .int x2), (3, .int x3), (4, .int x4), (6, .int s.1), (7, .int s.2.1), (8, .int s.2.2.1), (9, .int s.2.2.2)] [] (pc' := 263) rfl rfl rfl ?_
          refine g_goto (t := 74) rfl ?_
          cases h
          exact r_lv (k1 (x2, x3, x4, (x5 + 1)) hK) rfl ⟨rfl, rfl, rfl, rfl, rfl, rfl, trivial⟩
        · refine g_ifn (t := 260) rfl (m_ltF c12) ?_
          refine g_in eF12_bestOrders_234 mx2515 ?_
          refine g_ch [(0, .ref x0), (1, .int x1), (2, .int x2), (3, .int x3), (4, .int x4), (5, .int x5), (6, .int s.1), (7, .int s.2.1), (8, .int s.2.2.1), (9, .int s.2.2.2)] [.int x3, .int s.2.2.1] (pc' := 237) rfl rfl rfl ?_
          rcases m_ifd h with ⟨c13, h⟩ | ⟨c13, h⟩
          · refine g_ifn (t := 250) rfl (m_neF c13) ?_
            refine g_in eF12_bestOrders_240 mx2515 ?_
            refine g_ch [(0, .ref x0), (1, .int x1), (2, .int x2), (3, .int x3), (4, .int x4), (5, .int x5), (6, .int s.1), (7, .int s.2.1), (8, .int s.2.2.1), (9, .int s.2.2.2)] [.int x4, .int s.1] (pc' := 244) rfl rfl rfl ?_
            rcases m_ifd h with ⟨c14, h⟩ | ⟨c14, h⟩
            · refine g_if (t := 250) rfl (m_ltT c14) ?_
              obtain ⟨t', h2, rfl⟩ := Option.map_eq_some_iff.mp h
              exact r_lv (SF12_bestOrders_250 x0 x1 x5 s.1 s.2.2.1 hp (K := fun t => K (.inr t)) k0 k1 h2 hK) rfl ⟨rfl, rfl, rfl, rfl, rfl, trivial⟩
            · refine g_ifn (t := 250) rfl (m_ltF c14) ?_
              refine g_in eF12_bestOrders_247 mx2515 ?_
              refine g_goto (t := 260) rfl ?_
              refine g_in eF12_bestOrders_260 mx2515 ?_
              refine g_ch [(5, .int (x5 + 1)), (0, .ref x0), (1, .int x1), (2, .int x2), (3, .int x3), (4, .int x4), (6, .int s.1), (7, .int s.2.1), (8, .int s.2.2.1), (9, .int s.2.2.2)] [] (pc' := 263) rfl rfl rfl ?_
              refine g_goto (t := 74) rfl ?_
              cases h
              exact r_lv (k1 (x2, x3, x4, (x5 + 1)) hK) rfl ⟨rfl, rfl, rfl, rfl, rfl, rfl, trivial⟩
          · refine g_if (t := 250) rfl (m_neT c13) ?_
            obtain ⟨t', h2, rfl⟩ := Option.map_eq_some_iff.mp h
            exact r_lv (SF12_bestOrders_250 x0 x1 x5 s.1 s.2.2.1 hp (K := fun t => K (.inr t)) k0 k1 h2 hK) rfl ⟨rfl, rfl, rfl, rfl, rfl, trivial⟩
  · refine g_ifn (t := 206) rfl (m_geF c1) ?_
    refine g_in eF12_bestOrders_100 mx2515 ?_
    refine g_ch [(0, .ref x0), (1, .int x1), (2, .int x2), (3, .int x3), (4, .int x4), (5, .int x5), (6, .int s.1), (7, .int s.2.1), (8, .int s.2.2.1), (9, .int s.2.2.2)] [.int ((x5 >>> (s.2.2.2 &&& 31)) &&& 1)] (pc' := 107) rfl rfl rfl ?_
    rcases m_ifd h with ⟨c15, h⟩ | ⟨c15, h⟩
    · refine g_ifcn (t := 113) rfl (m_neF c15) ?_
      refine g_in eF12_bestOrders_110 mx2515 ?_
      refine g_goto (t := 200) rfl ?_
      refine g_in eF12_bestOrders_200 mx2515 ?_
      refine g_ch [(9, .int (s.2.2.2 + 1)), (0, .ref x0), (1, .int x1), (2, .int x2), (3, .int x3), (4, .int x4), (5, .int x5), (6, .int s.1), (7, .int s.2.1), (8, .int s.2.2.1)] [] (pc' := 203) rfl rfl rfl ?_
      refine g_goto (t := 94) rfl ?_
      cases h
      exact r_lv (k2 (s.1, s.2.1, s.2.2.1, (s.2.2.2 + 1)) hK) rfl ⟨rfl, rfl, rfl, rfl, rfl, rfl, rfl, rfl, rfl, rfl, trivial⟩
    · refine g_ifc (t := 113) rfl (m_neT c15) ?_
      refine g_in eF12_bestOrders_113 mx2515 ?_
      refine g_ch [(0, .ref x0), (1, .int x1), (2, .int x2), (3, .int x3), (4, .int x4), (5, .int x5), (6, .int s.1), (7, .int s.2.1), (8, .int s.2.2.1), (9, .int s.2.2.2)] [.ref x0] (pc' := 114) rfl rfl rfl ?_
      obtain ⟨v16, e17, h⟩ := m_bd h
      refine g_gr q12_f61 e17 ?_
      refine g_ch [(0, .ref x0), (1, .int x1), (2, .int x2), (3, .int x3), (4, .int x4), (5, .int x5), (6, .int s.1), (7, .int s.2.1), (8, .int s.2.2.1), (9, .int s.2.2.2)] [.int s.2.2.2, .ref v16] (pc' := 119) rfl rfl rfl ?_
      obtain ⟨v18, e19, h⟩ := m_bd h
      refine g_ia e19 ?_
      refine g_ch [(10, .int v18), (0, .ref x0), (1, .int x1), (2, .int x2), (3, .int x3), (4, .int x4), (5, .int x5), (6, .int s.1), (7, .int s.2.1), (8, .int s.2.2.1), (9, .int s.2.2.2)] [.int 1, .int v18, .ref x0, .int s.1] (pc' := 128) rfl rfl rfl ?_
      obtain ⟨v21, e20, h⟩ := m_bd h
      refine g_call (v := some (.int v21)) (h := hp) (st' := [.int v21, .int s.1]) (D1 := 1) (as := [.ref x0, .int v18, .int 1]) (Or.inr (Or.inl rfl)) q12_m115 (m_cv (as := [.int 1, .int v18]) (rest := [.int s.1]) (Or.inl rfl) q12_m115 jv2426 (OF12_of e20) rfl rfl rfl rfl) (by decide) (SF12_of e20) rfl ?_
      refine g_ch [(10, .int v18), (0, .ref x0), (1, .int x1), (2, .int x2), (3, .int x3), (4, .int x4), (5, .int x5), (6, .int s.1), (7, .int s.2.1), (8, .int s.2.2.1), (9, .int s.2.2.2)] [.int 0, .int v18, .ref x0, .ref x0, .int v21, .int s.1] (pc' := 136) rfl rfl rfl ?_
      obtain ⟨v23, e22, h⟩ := m_bd h
      refine g_call (v := some (.int v23)) (h := hp) (st' := [.int v23, .ref x0, .int v21, .int s.1]) (D1 := 1) (as := [.ref x0, .int v18, .int 0]) (Or.inr (Or.inl rfl)) q12_m115 (m_cv (as := [.int 0, .int v18]) (rest := [.ref x0, .int v21, .int s.1]) (Or.inl rfl) q12_m115 jv2426 (OF12_of e22) rfl rfl rfl rfl) (by decide) (SF12_of e22) rfl ?_
      refine g_ch [(10, .int v18), (0, .ref x0), (1, .int x1), (2, .int x2), (3, .int x3), (4, .int x4), (5, .int x5), (6, .int s.1), (7, .int s.2.1), (8, .int s.2.2.1), (9, .int s.2.2.2)] [.int 1, .int v23, .ref x0, .int v21, .int s.1] (pc' := 140) rfl rfl rfl ?_
      obtain ⟨v25, e24, h⟩ := m_bd h
      refine g_call (v := some (.int v25)) (h := hp) (st' := [.int v25, .int v21, .int s.1]) (D1 := 0) (as := [.ref x0, .int v23, .int 1]) (Or.inr (Or.inl rfl)) q12_m256 (m_cv (as := [.int 1, .int v23]) (rest := [.int v21, .int s.1]) (Or.inl rfl) q12_m256 jv2412 (OF12_sortOf e24) rfl rfl rfl rfl) (by decide) (SF12_sortOf e24) rfl ?_
      refine g_ch [(6, .int (s.1 + (v21 * v25))), (10, .int v18), (0, .ref x0), (1, .int x1), (2, .int x2), (3, .int x3), (4, .int x4), (5, .int x5), (7, .int s.2.1), (8, .int s.2.2.1), (9, .int s.2.2.2)] [.int 1, .int v18, .ref x0, .int s.2.1] (pc' := 153) rfl rfl rfl ?_
      obtain ⟨v27, e26, h⟩ := m_bd h
      refine g_call (v := some (.int v27)) (h := hp) (st' := [.int v27, .int s.2.1]) (D1 := 1) (as := [.ref x0, .int v18, .int 1]) (Or.inr (Or.inl rfl)) q12_m115 (m_cv (as := [.int 1, .int v18]) (rest := [.int s.2.1]) (Or.inl rfl) q12_m115 jv2426 (OF12_of e26) rfl rfl rfl rfl) (by decide) (SF12_of e26) rfl ?_
      refine g_ch [(6, .int (s.1 + (v21 * v25))), (10, .int v18), (0, .ref x0), (1, .int x1), (2, .int x2), (3, .int x3), (4, .int x4), (5, .int x5), (7, .int s.2.1), (8, .int s.2.2.1), (9, .int s.2.2.2)] [.int 0, .int v18, .ref x0, .ref x0, .int v27, .int s.2.1] (pc' := 161) rfl rfl rfl ?_
      obtain ⟨v29, e28, h⟩ := m_bd h
      refine g_call (v := some (.int v29)) (h := hp) (st' := [.int v29, .ref x0, .int v27, .int s.2.1]) (D1 := 1) (as := [.ref x0, .int v18, .int 0]) (Or.inr (Or.inl rfl)) q12_m115 (m_cv (as := [.int 0, .int v18]) (rest := [.ref x0, .int v27, .int s.2.1]) (Or.inl rfl) q12_m115 jv2426 (OF12_of e28) rfl rfl rfl rfl) (by decide) (SF12_of e28) rfl ?_
      refine g_ch [(6, .int (s.1 + (v21 * v25))), (10, .int v18), (0, .ref x0), (1, .int x1), (2, .int x2), (3, .int x3), (4, .int x4), (5, .int x5), (7, .int s.2.1), (8, .int s.2.2.1), (9, .int s.2.2.2)] [.int 2, .int v29, .ref x0, .int v27, .int s.2.1] (pc' := 165) rfl rfl rfl ?_
      obtain ⟨v31, e30, h⟩ := m_bd h
      refine g_call (v := some (.int v31)) (h := hp) (st' := [.int v31, .int v27, .int s.2.1]) (D1 := 0) (as := [.ref x0, .int v29, .int 2]) (Or.inr (Or.inl rfl)) q12_m256 (m_cv (as := [.int 2, .int v29]) (rest := [.int v27, .int s.2.1]) (Or.inl rfl) q12_m256 jv2412 (OF12_sortOf e30) rfl rfl rfl rfl) (by decide) (SF12_sortOf e30) rfl ?_
      refine g_ch [(7, .int (s.2.1 + (v27 * v31))), (6, .int (s.1 + (v21 * v25))), (10, .int v18), (0, .ref x0), (1, .int x1), (2, .int x2), (3, .int x3), (4, .int x4), (5, .int x5), (8, .int s.2.2.1), (9, .int s.2.2.2)] [.int 1, .int v18, .ref x0, .int s.2.2.1] (pc' := 178) rfl rfl rfl ?_
      obtain ⟨v33, e32, h⟩ := m_bd h
      refine g_call (v := some (.int v33)) (h := hp) (st' := [.int v33, .int s.2.2.1]) (D1 := 1) (as := [.ref x0, .int v18, .int 1]) (Or.inr (Or.inl rfl)) q12_m115 (m_cv (as := [.int 1, .int v18]) (rest := [.int s.2.2.1]) (Or.inl rfl) q12_m115 jv2426 (OF12_of e32) rfl rfl rfl rfl) (by decide) (SF12_of e32) rfl ?_
      refine g_ch [(7, .int (s.2.1 + (v27 * v31))), (6, .int (s.1 + (v21 * v25))), (10, .int v18), (0, .ref x0), (1, .int x1), (2, .int x2), (3, .int x3), (4, .int x4), (5, .int x5), (8, .int s.2.2.1), (9, .int s.2.2.2)] [.int 0, .int v18, .ref x0, .ref x0, .int v33, .int s.2.2.1] (pc' := 186) rfl rfl rfl ?_
      obtain ⟨v35, e34, h⟩ := m_bd h
      refine g_call (v := some (.int v35)) (h := hp) (st' := [.int v35, .ref x0, .int v33, .int s.2.2.1]) (D1 := 1) (as := [.ref x0, .int v18, .int 0]) (Or.inr (Or.inl rfl)) q12_m115 (m_cv (as := [.int 0, .int v18]) (rest := [.ref x0, .int v33, .int s.2.2.1]) (Or.inl rfl) q12_m115 jv2426 (OF12_of e34) rfl rfl rfl rfl) (by decide) (SF12_of e34) rfl ?_
      refine g_ch [(7, .int (s.2.1 + (v27 * v31))), (6, .int (s.1 + (v21 * v25))), (10, .int v18), (0, .ref x0), (1, .int x1), (2, .int x2), (3, .int x3), (4, .int x4), (5, .int x5), (8, .int s.2.2.1), (9, .int s.2.2.2)] [.ref x0, .int v35, .ref x0, .int v33, .int s.2.2.1] (pc' := 190) rfl rfl rfl ?_
      obtain ⟨v37, e36, h⟩ := m_bd h
      refine g_call (v := some (.int v37)) (h := hp) (st' := [.int v37, .int v35, .ref x0, .int v33, .int s.2.2.1]) (D1 := 0) (as := [.ref x0]) (Or.inr (Or.inl rfl)) q12_m86 (m_cv (as := []) (rest := [.int v35, .ref x0, .int v33, .int s.2.2.1]) (Or.inl rfl) q12_m86 jv2404 (OF12_week e36) rfl rfl rfl rfl) (by decide) (SF12_week e36) rfl ?_
      obtain ⟨v39, e38, h⟩ := m_bd h
      refine g_call (v := some (.int v39)) (h := hp) (st' := [.int v39, .int v33, .int s.2.2.1]) (D1 := 1) (as := [.ref x0, .int v35, .int v37]) (Or.inr (Or.inl rfl)) q12_m98 (m_cv (as := [.int v37, .int v35]) (rest := [.int v33, .int s.2.2.1]) (Or.inl rfl) q12_m98 jv2419 (OF12_priceOf e38) rfl rfl rfl rfl) (by decide) (SF12_priceOf e38) rfl ?_
      refine g_ch [(8, .int (s.2.2.1 + (v33 * v39))), (7, .int (s.2.1 + (v27 * v31))), (6, .int (s.1 + (v21 * v25))), (10, .int v18), (0, .ref x0), (1, .int x1), (2, .int x2), (3, .int x3), (4, .int x4), (5, .int x5), (9, .int s.2.2.2)] [] (pc' := 200) rfl rfl rfl ?_
      refine g_end ?_
      refine g_in eF12_bestOrders_200 mx2515 ?_
      refine g_ch [(9, .int (s.2.2.2 + 1)), (8, .int (s.2.2.1 + (v33 * v39))), (7, .int (s.2.1 + (v27 * v31))), (6, .int (s.1 + (v21 * v25))), (10, .int v18), (0, .ref x0), (1, .int x1), (2, .int x2), (3, .int x3), (4, .int x4), (5, .int x5)] [] (pc' := 203) rfl rfl rfl ?_
      refine g_goto (t := 94) rfl ?_
      cases h
      exact r_lv (k2 ((s.1 + (v21 * v25)), (s.2.1 + (v27 * v31)), (s.2.2.1 + (v33 * v39)), (s.2.2.2 + 1)) hK) rfl ⟨rfl, rfl, rfl, rfl, rfl, rfl, rfl, rfl, rfl, rfl, trivial⟩
theorem SF12_bestOrders_94 {xs : Nat → Int32} {L : Nat} (x0 : Nat) (x1 : Int32) (x2 : Int32) (x3 : Int32) (x4 : Int32) (x5 : Int32) (x6 : Int32) (x7 : Int32) (x8 : Int32) (x9 : Int32) (hp : m_H) {r : m_O × m_H} {K : (Int32 × Int32 × Int32 × Int32) ⊕ (Int32 × m_H) → Prop} (k0 : ∀ x, K (.inr x) → r = (.inl (some (.int x.1)), x.2)) (k1 : ∀ s, K (.inl s) → m_Rn xs L 4 2515 74 [(0, .ref x0), (1, .int x1), (2, .int s.1), (3, .int s.2.1), (4, .int s.2.2.1), (5, .int s.2.2.2)] [] hp r) {t : (Int32 × Int32 × Int32 × Int32) ⊕ (Int32 × m_H)} (h : F12_bestOrders_94 x0 x1 x2 x3 x4 x5 x6 x7 x8 x9 hp = some t) (hK : K t) : m_Rn xs L 4 2515 94 [(0, .ref x0), (1, .int x1), (2, .int x2), (3, .int x3), (4, .int x4), (5, .int x5), (6, .int x6), (7, .int x7), (8, .int x8), (9, .int x9)] [] hp r :=
  m_wh_ok (P := fun s => m_Rn xs L 4 2515 94 [(0, .ref x0), (1, .int x1), (2, .int x2), (3, .int x3), (4, .int x4), (5, .int x5), (6, .int s.1), (7, .int s.2.1), (8, .int s.2.2.1), (9, .int s.2.2.2)] [] hp r) (Q := K) (fun s t hb hK => SF12_bestOrders_94b x0 x1 x2 x3 x4 x5 hp s (K := m_KK (fun s => m_Rn xs L 4 2515 94 [(0, .ref x0), (1, .int x1), (2, .int x2), (3, .int x3), (4, .int x4), (5, .int x5), (6, .int s.1), (7, .int s.2.1), (8, .int s.2.2.1), (9, .int s.2.2.2)] [] hp r) K) k0 k1 (fun _ q => q) hb hK) m_N _ _ h hK
theorem SF12_bestOrders_74b {xs : Nat → Int32} {L : Nat} (x0 : Nat) (x1 : Int32) (hp : m_H) (s : Int32 × Int32 × Int32 × Int32) {r : m_O × m_H} {K : ((Int32 × Int32 × Int32 × Int32) ⊕ (Int32 × m_H)) → Prop} (k0 : ∀ x, K (.inr x) → r = (.inl (some (.int x.1)), x.2)) (k1 : ∀ s, K (.inl s) → m_Rn xs L 4 2515 74 [(0, .ref x0), (1, .int x1), (2, .int s.1), (3, .int s.2.1), (4, .int s.2.2.1), (5, .int s.2.2.2)] [] hp r) {t : (Int32 × Int32 × Int32 × Int32) ⊕ (Int32 × m_H)} (h : F12_bestOrders_74b x0 x1 hp s = some t) (hK : K t) : m_Rn xs L 4 2515 74 [(0, .ref x0), (1, .int x1), (2, .int s.1), (3, .int s.2.1), (4, .int s.2.2.1), (5, .int s.2.2.2)] [] hp r := by
  unfold F12_bestOrders_74b at h
  refine g_in eF12_bestOrders_74 mx2515 ?_
  refine g_ch [(0, .ref x0), (1, .int x1), (2, .int s.1), (3, .int s.2.1), (4, .int s.2.2.1), (5, .int s.2.2.2)] [.int (1 <<< (x1 &&& 31)), .int s.2.2.2] (pc' := 79) rfl rfl rfl ?_
  rcases m_ifd h with ⟨c1, h⟩ | ⟨c1, h⟩
  · refine g_if (t := 266) rfl (m_geT c1) ?_
    refine g_in eF12_bestOrders_266 mx2515 ?_
    refine g_ch [(0, .ref x0), (1, .int x1), (2, .int s.1), (3, .int s.2.1), (4, .int s.2.2.1), (5, .int s.2.2.2)] [.int s.1] (pc' := 267) rfl rfl rfl ?_
    cases h
    rw [k0 _ hK]
    exact g_iret rfl rfl
  · refine g_ifn (t := 266) rfl (m_geF c1) ?_
    refine g_in eF12_bestOrders_82 mx2515 ?_
    refine g_ch [(9, .int 0), (8, .int 0), (7, .int 0), (6, .int 0), (0, .ref x0), (1, .int x1), (2, .int s.1), (3, .int s.2.1), (4, .int s.2.2.1), (5, .int s.2.2.2)] [] (pc' := 94) rfl rfl rfl ?_
    refine g_end ?_
    exact r_lv (SF12_bestOrders_94 x0 x1 s.1 s.2.1 s.2.2.1 s.2.2.2 0 0 0 0 hp (K := K) k0 k1 h hK) rfl ⟨rfl, rfl, rfl, rfl, rfl, rfl, rfl, rfl, rfl, rfl, trivial⟩
theorem SF12_bestOrders_74 {xs : Nat → Int32} {L : Nat} (x0 : Nat) (x1 : Int32) (x2 : Int32) (x3 : Int32) (x4 : Int32) (x5 : Int32) (hp : m_H) {r : m_O × m_H} {K : Int32 × m_H → Prop} (k0 : ∀ x, K x → r = (.inl (some (.int x.1)), x.2)) {t : Int32 × m_H} (h : F12_bestOrders_74 x0 x1 x2 x3 x4 x5 hp = some t) (hK : K t) : m_Rn xs L 4 2515 74 [(0, .ref x0), (1, .int x1), (2, .int x2), (3, .int x3), (4, .int x4), (5, .int x5)] [] hp r :=
  m_wh_ok (P := fun s => m_Rn xs L 4 2515 74 [(0, .ref x0), (1, .int x1), (2, .int s.1), (3, .int s.2.1), (4, .int s.2.2.1), (5, .int s.2.2.2)] [] hp r) (Q := K) (fun s t hb hK => SF12_bestOrders_74b x0 x1 hp s (K := m_KK (fun s => m_Rn xs L 4 2515 74 [(0, .ref x0), (1, .int x1), (2, .int s.1), (3, .int s.2.1), (4, .int s.2.2.1), (5, .int s.2.2.2)] [] hp r) K) k0 (fun _ q => q) hb hK) m_N _ _ h hK
theorem SF12_bestOrders_64 {xs : Nat → Int32} {L : Nat} (x0 : Nat) (x1 : Int32) (hp : m_H) {r : m_O × m_H} {K : (Int32 × m_H) → Prop} (k0 : ∀ x, K x → r = (.inl (some (.int x.1)), x.2)) {t : Int32 × m_H} (h : F12_bestOrders_64 x0 x1 hp = some t) (hK : K t) : m_Rn xs L 4 2515 64 [(0, .ref x0), (1, .int x1)] [] hp r := by
  unfold F12_bestOrders_64 at h
  refine g_in eF12_bestOrders_64 mx2515 ?_
  refine g_ch [(5, .int 1), (4, .int 0), (3, .int 0), (2, .int 0), (0, .ref x0), (1, .int x1)] [] (pc' := 74) rfl rfl rfl ?_
  refine g_end ?_
  exact r_lv (SF12_bestOrders_74 x0 x1 0 0 0 1 hp (K := K) k0 h hK) rfl ⟨rfl, rfl, rfl, rfl, rfl, rfl, trivial⟩
theorem SF12_bestOrders_9b {xs : Nat → Int32} {L : Nat} (x0 : Nat) (s : Int32 × Int32 × m_H) {r : m_O × m_H} {K : ((Int32 × Int32 × m_H) ⊕ (Int32 × m_H)) → Prop} (k0 : ∀ x, K (.inr x) → r = (.inl (some (.int x.1)), x.2)) (k1 : ∀ s, K (.inl s) → m_Rn xs L 4 2515 9 [(0, .ref x0), (1, .int s.1), (2, .int s.2.1)] [] s.2.2 r) {t : (Int32 × Int32 × m_H) ⊕ (Int32 × m_H)} (h : F12_bestOrders_9b x0 s = some t) (hK : K t) : m_Rn xs L 4 2515 9 [(0, .ref x0), (1, .int s.1), (2, .int s.2.1)] [] s.2.2 r := by
  unfold F12_bestOrders_9b at h
  refine g_in eF12_bestOrders_9 mx2515 ?_
  refine g_ch [(0, .ref x0), (1, .int s.1), (2, .int s.2.1)] [.ref x0, .int s.2.1] (pc' := 11) rfl rfl rfl ?_
  obtain ⟨v1, e2, h⟩ := m_bd h
  refine g_gr q12_f14 e2 ?_
  refine g_ch [(0, .ref x0), (1, .int s.1), (2, .int s.2.1)] [.int 807, .ref v1, .int s.2.1] (pc' := 17) rfl rfl rfl ?_
  obtain ⟨v3, e4, h⟩ := m_bd h
  refine g_ia e4 ?_
  rcases m_ifd h with ⟨c5, h⟩ | ⟨c5, h⟩
  · refine g_if (t := 64) rfl (m_geT c5) ?_
    obtain ⟨t', h2, rfl⟩ := Option.map_eq_some_iff.mp h
    exact r_lv (SF12_bestOrders_64 x0 s.1 s.2.2 (K := fun t => K (.inr t)) k0 h2 hK) rfl ⟨rfl, rfl, trivial⟩
  · refine g_ifn (t := 64) rfl (m_geF c5) ?_
    refine g_in eF12_bestOrders_21 mx2515 ?_
    refine g_ch [(0, .ref x0), (1, .int s.1), (2, .int s.2.1)] [.int 8, .int s.1] (pc' := 24) rfl rfl rfl ?_
    rcases m_ifd h with ⟨c6, h⟩ | ⟨c6, h⟩
    · refine g_if (t := 64) rfl (m_geT c6) ?_
      obtain ⟨t', h2, rfl⟩ := Option.map_eq_some_iff.mp h
      exact r_lv (SF12_bestOrders_64 x0 s.1 s.2.2 (K := fun t => K (.inr t)) k0 h2 hK) rfl ⟨rfl, rfl, trivial⟩
    · refine g_ifn (t := 64) rfl (m_geF c6) ?_
      refine g_in eF12_bestOrders_27 mx2515 ?_
      refine g_ch [(0, .ref x0), (1, .int s.1), (2, .int s.2.1)] [.int s.2.1, .ref x0] (pc' := 29) rfl rfl rfl ?_
      obtain ⟨v8, e7, h⟩ := m_bd h
      refine g_call (v := some (.int v8)) (h := s.2.2) (st' := [.int v8]) (D1 := 3) (as := [.ref x0, .int s.2.1]) (Or.inr (Or.inl rfl)) q12_m341 (m_cv (as := [.int s.2.1]) (rest := []) (Or.inl rfl) q12_m341 jv2486 (OF12_isOrder e7) rfl rfl rfl rfl) (by decide) (SF12_isOrder e7) rfl ?_
      rcases m_ifd h with ⟨c9, h⟩ | ⟨c9, h⟩
      · refine g_ifc (t := 58) rfl (m_eqT c9) ?_
        refine g_in eF12_bestOrders_58 mx2515 ?_
        refine g_ch [(2, .int (s.2.1 + 1)), (0, .ref x0), (1, .int s.1)] [] (pc' := 61) rfl rfl rfl ?_
        refine g_goto (t := 9) rfl ?_
        cases h
        exact r_lv (k1 (s.1, (s.2.1 + 1), s.2.2) hK) rfl ⟨rfl, rfl, rfl, trivial⟩
      · refine g_ifcn (t := 58) rfl (m_eqF c9) ?_
        refine g_in eF12_bestOrders_35 mx2515 ?_
        refine g_ch [(0, .ref x0), (1, .int s.1), (2, .int s.2.1)] [.int 5, .int s.2.1, .ref x0] (pc' := 38) rfl rfl rfl ?_
        obtain ⟨v11, e10, h⟩ := m_bd h
        refine g_call (v := some (.int v11)) (h := s.2.2) (st' := [.int v11]) (D1 := 1) (as := [.ref x0, .int s.2.1, .int 5]) (Or.inr (Or.inl rfl)) q12_m115 (m_cv (as := [.int 5, .int s.2.1]) (rest := []) (Or.inl rfl) q12_m115 jv2426 (OF12_of e10) rfl rfl rfl rfl) (by decide) (SF12_of e10) rfl ?_
        refine g_ch [(0, .ref x0), (1, .int s.1), (2, .int s.2.1)] [.int 1, .int v11] (pc' := 42) rfl rfl rfl ?_
        rcases m_ifd h with ⟨c12, h⟩ | ⟨c12, h⟩
        · refine g_ifn (t := 48) rfl (m_neF c12) ?_
          refine g_in eF12_bestOrders_45 mx2515 ?_
          refine g_goto (t := 58) rfl ?_
          refine g_in eF12_bestOrders_58 mx2515 ?_
          refine g_ch [(2, .int (s.2.1 + 1)), (0, .ref x0), (1, .int s.1)] [] (pc' := 61) rfl rfl rfl ?_
          refine g_goto (t := 9) rfl ?_
          cases h
          exact r_lv (k1 (s.1, (s.2.1 + 1), s.2.2) hK) rfl ⟨rfl, rfl, rfl, trivial⟩
        · refine g_if (t := 48) rfl (m_neT c12) ?_
          refine g_in eF12_bestOrders_48 mx2515 ?_
          refine g_ch [(0, .ref x0), (1, .int s.1), (2, .int s.2.1)] [.ref x0] (pc' := 49) rfl rfl rfl ?_
          obtain ⟨v13, e14, h⟩ := m_bd h
          refine g_gr q12_f61 e14 ?_
          refine g_ch [(0, .ref x0), (1, .int s.1), (2, .int s.2.1)] [.int s.2.1, .int s.1, .ref v13] (pc' := 54) rfl rfl rfl ?_
          obtain ⟨h15, e16, h⟩ := m_bd h
          refine g_is e16 ?_
          refine g_ch [(1, .int (s.1 + 1)), (0, .ref x0), (2, .int s.2.1)] [] (pc' := 58) rfl rfl rfl ?_
          refine g_end ?_
          refine g_in eF12_bestOrders_58 mx2515 ?_
          refine g_ch [(2, .int (s.2.1 + 1)), (1, .int (s.1 + 1)), (0, .ref x0)] [] (pc' := 61) rfl rfl rfl ?_
          refine g_goto (t := 9) rfl ?_
          cases h
          exact r_lv (k1 ((s.1 + 1), (s.2.1 + 1), h15) hK) rfl ⟨rfl, rfl, rfl, trivial⟩
theorem SF12_bestOrders_9 {xs : Nat → Int32} {L : Nat} (x0 : Nat) (x1 : Int32) (x2 : Int32) (hp : m_H) {r : m_O × m_H} {K : Int32 × m_H → Prop} (k0 : ∀ x, K x → r = (.inl (some (.int x.1)), x.2)) {t : Int32 × m_H} (h : F12_bestOrders_9 x0 x1 x2 hp = some t) (hK : K t) : m_Rn xs L 4 2515 9 [(0, .ref x0), (1, .int x1), (2, .int x2)] [] hp r :=
  m_wh_ok (P := fun s => m_Rn xs L 4 2515 9 [(0, .ref x0), (1, .int s.1), (2, .int s.2.1)] [] s.2.2 r) (Q := K) (fun s t hb hK => SF12_bestOrders_9b x0 s (K := m_KK (fun s => m_Rn xs L 4 2515 9 [(0, .ref x0), (1, .int s.1), (2, .int s.2.1)] [] s.2.2 r) K) k0 (fun _ q => q) hb hK) m_N _ _ h hK
theorem SF12_bestOrders_0 {xs : Nat → Int32} {L : Nat} (x0 : Nat) (hp : m_H) {r : m_O × m_H} {K : (Int32 × m_H) → Prop} (k0 : ∀ x, K x → r = (.inl (some (.int x.1)), x.2)) {t : Int32 × m_H} (h : F12_bestOrders_0 x0 hp = some t) (hK : K t) : m_Rn xs L 4 2515 0 [(0, .ref x0)] [] hp r := by
  unfold F12_bestOrders_0 at h
  refine g_in eF12_bestOrders_0 mx2515 ?_
  refine g_ch [(0, .ref x0)] [.int 0, .ref x0] (pc' := 2) rfl rfl rfl ?_
  obtain ⟨h1, e2, h⟩ := m_bd h
  refine g_pf q12_f3 e2 ?_
  refine g_ch [(2, .int 0), (1, .int 0), (0, .ref x0)] [] (pc' := 9) rfl rfl rfl ?_
  refine g_end ?_
  exact r_lv (SF12_bestOrders_9 x0 0 0 h1 (K := K) k0 h hK) rfl ⟨rfl, rfl, rfl, trivial⟩
theorem OF12_bestOrders {x0 : Nat} {hp : m_H} {x : Int32 × m_H} (h : F12_bestOrders x0 hp = some x) : m_isO hp 9 x0 = true := (m_gdd h).1
theorem SF12_bestOrders {xs : Nat → Int32} {L : Nat} {x0 : Nat} {hp : m_H} {x : Int32 × m_H} (h : F12_bestOrders x0 hp = some x) : m_Rn xs L 4 2515 0 (lv_args 0 [.ref x0]) [] hp (.inl (some (.int x.1)), x.2) :=
  r_lv (SF12_bestOrders_0 x0 hp (K := fun y => y = x) (fun y e => by rw [e]) (m_gdd h).2 rfl) rfl ⟨rfl, trivial⟩
-- F12_page: LendHouseModel.page(II)I
theorem eF12_page_0 : m_Fe mi12_116 0 (m_ap [(.aload_n 0, 1), (.iconst 0, 1)] ((.putfield 3, 3) :: (m_ap [(.aload_n 0, 1), (.iload_n 1, 1), (.sipush (-10000), 3), (.sipush 10000, 3)] ((.invokestatic 74, 3) :: ([(.ifCond .eq 16, 3)]))))) := m_Fe_of nd2516 0 9 rfl
theorem eF12_page_19 : m_Fe mi12_116 19 (m_ap [(.iload_n 2, 1), (.sipush (-10000), 3), (.sipush 10000, 3)] ((.invokestatic 74, 3) :: ([(.ifCond .ne 7, 3)]))) := m_Fe_of nd2516 9 5 rfl
theorem eF12_page_36 : m_Fe mi12_116 36 (m_ap [(.iconst 0, 1)] ([])) := m_Fe_of nd2516 16 1 rfl
theorem eF12_page_32 : m_Fe mi12_116 32 (m_ap [(.iconst 1, 1)] ([(.goto 4, 3)])) := m_Fe_of nd2516 14 2 rfl
theorem eF12_page_37 : m_Fe mi12_116 37 (m_ap [(.iconst 1, 1)] ((.invokevirtual 82, 3) :: ([(.ifCond .eq 5, 3)]))) := m_Fe_of nd2516 17 3 rfl
theorem eF12_page_46 : m_Fe mi12_116 46 (m_ap [(.aload_n 0, 1)] ((.getfield 14, 3) :: (m_ap [(.sipush 4229, 3)] ((.iaload, 1) :: (m_ap [(.istore_n 3, 1), (.iload_n 3, 1), (.bipush 9, 2)] ([(.if_icmp .ne 5, 3)])))))) := m_Fe_of nd2516 22 8 rfl
theorem eF12_page_63 : m_Fe mi12_116 63 (m_ap [(.aload_n 0, 1)] ((.getfield 14, 3) :: (m_ap [(.sipush 4230, 3), (.iconst 2, 1), (.iload_n 3, 1), (.imul, 1), (.iadd, 1), (.iload_n 1, 1)] ((.iastore, 1) :: (m_ap [(.aload_n 0, 1)] ((.getfield 14, 3) :: (m_ap [(.sipush 4230, 3), (.iconst 2, 1), (.iload_n 3, 1), (.imul, 1), (.iadd, 1), (.iconst 1, 1), (.iadd, 1), (.iload_n 2, 1)] ((.iastore, 1) :: (m_ap [(.aload_n 0, 1)] ((.getfield 14, 3) :: (m_ap [(.sipush 4229, 3), (.dup2, 1)] ((.iaload, 1) :: (m_ap [(.iconst 1, 1), (.iadd, 1)] ((.iastore, 1) :: (m_ap [(.iload_n 3, 1)] ([(.ireturn, 1)])))))))))))))))) := m_Fe_of nd2516 32 30 rfl
theorem eF12_page_61 : m_Fe mi12_116 61 (m_ap [(.iconst (-1), 1)] ([(.ireturn, 1)])) := m_Fe_of nd2516 30 2 rfl
theorem eF12_page_44 : m_Fe mi12_116 44 (m_ap [(.iconst 0, 1)] ([(.ireturn, 1)])) := m_Fe_of nd2516 20 2 rfl
theorem SF12_page_37 {xs : Nat → Int32} {L : Nat} (x0 : Nat) (x1 : Int32) (x2 : Int32) (s0 : Int32) (s1 : Nat) (hp : m_H) {r : m_O × m_H} {K : (Int32 × m_H) → Prop} (k0 : ∀ x, K x → r = (.inl (some (.int x.1)), x.2)) {t : Int32 × m_H} (h : F12_page_37 x0 x1 x2 s0 s1 hp = some t) (hK : K t) : m_Rn xs L 1 2516 37 [(0, .ref x0), (1, .int x1), (2, .int x2)] [.int s0, .ref s1] hp r := by
  unfold F12_page_37 at h
  refine g_in eF12_page_37 mx2516 ?_
  refine g_ch [(0, .ref x0), (1, .int x1), (2, .int x2)] [.int 1, .int s0, .ref s1] (pc' := 38) rfl rfl rfl ?_
  obtain ⟨z2, e1, h⟩ := m_bd h
  refine g_call (v := some (.int z2.1)) (h := z2.2) (st' := [.int z2.1]) (D1 := 0) (as := [.ref s1, .int s0, .int 1]) (Or.inr (Or.inl rfl)) q12_m82 (m_cv (as := [.int 1, .int s0]) (rest := []) (Or.inl rfl) q12_m82 jv2401 (OF12_throwsIf e1) rfl rfl rfl rfl) (by decide) (SF12_throwsIf e1) rfl ?_
  rcases m_ifd h with ⟨c3, h⟩ | ⟨c3, h⟩
  · refine g_ifc (t := 46) rfl (m_eqT c3) ?_
    refine g_in eF12_page_46 mx2516 ?_
    refine g_ch [(0, .ref x0), (1, .int x1), (2, .int x2)] [.ref x0] (pc' := 47) rfl rfl rfl ?_
    obtain ⟨v4, e5, h⟩ := m_bd h
    refine g_gr q12_f14 e5 ?_
    refine g_ch [(0, .ref x0), (1, .int x1), (2, .int x2)] [.int 4229, .ref v4] (pc' := 53) rfl rfl rfl ?_
    obtain ⟨v6, e7, h⟩ := m_bd h
    refine g_ia e7 ?_
    refine g_ch [(3, .int v6), (0, .ref x0), (1, .int x1), (2, .int x2)] [.int 9, .int v6] (pc' := 58) rfl rfl rfl ?_
    rcases m_ifd h with ⟨c8, h⟩ | ⟨c8, h⟩
    · refine g_ifn (t := 63) rfl (m_neF c8) ?_
      refine g_in eF12_page_61 mx2516 ?_
      refine g_ch [(3, .int v6), (0, .ref x0), (1, .int x1), (2, .int x2)] [.int (-1)] (pc' := 62) rfl rfl rfl ?_
      cases h
      rw [k0 _ hK]
      exact g_iret rfl rfl
    · refine g_if (t := 63) rfl (m_neT c8) ?_
      refine g_in eF12_page_63 mx2516 ?_
      refine g_ch [(3, .int v6), (0, .ref x0), (1, .int x1), (2, .int x2)] [.ref x0] (pc' := 64) rfl rfl rfl ?_
      obtain ⟨v9, e10, h⟩ := m_bd h
      refine g_gr q12_f14 e10 ?_
      refine g_ch [(3, .int v6), (0, .ref x0), (1, .int x1), (2, .int x2)] [.int x1, .int (4230 + (2 * v6)), .ref v9] (pc' := 75) rfl rfl rfl ?_
      obtain ⟨h11, e12, h⟩ := m_bd h
      refine g_is e12 ?_
      refine g_ch [(3, .int v6), (0, .ref x0), (1, .int x1), (2, .int x2)] [.ref x0] (pc' := 77) rfl rfl rfl ?_
      obtain ⟨v13, e14, h⟩ := m_bd h
      refine g_gr q12_f14 e14 ?_
      refine g_ch [(3, .int v6), (0, .ref x0), (1, .int x1), (2, .int x2)] [.int x2, .int ((4230 + (2 * v6)) + 1), .ref v13] (pc' := 90) rfl rfl rfl ?_
      obtain ⟨h15, e16, h⟩ := m_bd h
      refine g_is e16 ?_
      refine g_ch [(3, .int v6), (0, .ref x0), (1, .int x1), (2, .int x2)] [.ref x0] (pc' := 92) rfl rfl rfl ?_
      obtain ⟨v17, e18, h⟩ := m_bd h
      refine g_gr q12_f14 e18 ?_
      refine g_ch [(3, .int v6), (0, .ref x0), (1, .int x1), (2, .int x2)] [.int 4229, .ref v17, .int 4229, .ref v17] (pc' := 99) rfl rfl rfl ?_
      obtain ⟨v19, e20, h⟩ := m_bd h
      refine g_ia e20 ?_
      refine g_ch [(3, .int v6), (0, .ref x0), (1, .int x1), (2, .int x2)] [.int (v19 + 1), .int 4229, .ref v17] (pc' := 102) rfl rfl rfl ?_
      obtain ⟨h21, e22, h⟩ := m_bd h
      refine g_is e22 ?_
      refine g_ch [(3, .int v6), (0, .ref x0), (1, .int x1), (2, .int x2)] [.int v6] (pc' := 104) rfl rfl rfl ?_
      cases h
      rw [k0 _ hK]
      exact g_iret rfl rfl
  · refine g_ifcn (t := 46) rfl (m_eqF c3) ?_
    refine g_in eF12_page_44 mx2516 ?_
    refine g_ch [(0, .ref x0), (1, .int x1), (2, .int x2)] [.int 0] (pc' := 45) rfl rfl rfl ?_
    cases h
    rw [k0 _ hK]
    exact g_iret rfl rfl
theorem SF12_page_32 {xs : Nat → Int32} {L : Nat} (x0 : Nat) (x1 : Int32) (x2 : Int32) (s0 : Nat) (hp : m_H) {r : m_O × m_H} {K : (Int32 × m_H) → Prop} (k0 : ∀ x, K x → r = (.inl (some (.int x.1)), x.2)) {t : Int32 × m_H} (h : F12_page_32 x0 x1 x2 s0 hp = some t) (hK : K t) : m_Rn xs L 1 2516 32 [(0, .ref x0), (1, .int x1), (2, .int x2)] [.ref s0] hp r := by
  unfold F12_page_32 at h
  refine g_in eF12_page_32 mx2516 ?_
  refine g_ch [(0, .ref x0), (1, .int x1), (2, .int x2)] [.int 1, .ref s0] (pc' := 33) rfl rfl rfl ?_
  refine g_goto (t := 37) rfl ?_
  exact r_lv (SF12_page_37 x0 x1 x2 1 s0 hp (K := K) k0 h hK) rfl ⟨rfl, rfl, rfl, trivial⟩
theorem SF12_page_0 {xs : Nat → Int32} {L : Nat} (x0 : Nat) (x1 : Int32) (x2 : Int32) (hp : m_H) {r : m_O × m_H} {K : (Int32 × m_H) → Prop} (k0 : ∀ x, K x → r = (.inl (some (.int x.1)), x.2)) {t : Int32 × m_H} (h : F12_page_0 x0 x1 x2 hp = some t) (hK : K t) : m_Rn xs L 1 2516 0 [(0, .ref x0), (1, .int x1), (2, .int x2)] [] hp r := by
  unfold F12_page_0 at h
  refine g_in eF12_page_0 mx2516 ?_
  refine g_ch [(0, .ref x0), (1, .int x1), (2, .int x2)] [.int 0, .ref x0] (pc' := 2) rfl rfl rfl ?_
  obtain ⟨h1, e2, h⟩ := m_bd h
  refine g_pf q12_f3 e2 ?_
  refine g_ch [(0, .ref x0), (1, .int x1), (2, .int x2)] [.int 10000, .int (-10000), .int x1, .ref x0] (pc' := 13) rfl rfl rfl ?_
  obtain ⟨v4, e3, h⟩ := m_bd h
  refine g_call (v := some (.int v4)) (h := h1) (st' := [.int v4, .ref x0]) (D1 := 0) (as := [.int x1, .int (-10000), .int 10000]) (Or.inl rfl) q12_m74 (m_cs (as := [.int 10000, .int (-10000), .int x1]) (rest := [.ref x0]) q12_m74 jv2402 rfl rfl rfl rfl rfl) (by decide) (SF12_in e3) rfl ?_
  rcases m_ifd h with ⟨c5, h⟩ | ⟨c5, h⟩
  · refine g_ifc (t := 32) rfl (m_eqT c5) ?_
    exact r_lv (SF12_page_32 x0 x1 x2 x0 h1 (K := K) k0 h hK) rfl ⟨rfl, rfl, rfl, trivial⟩
  · refine g_ifcn (t := 32) rfl (m_eqF c5) ?_
    refine g_in eF12_page_19 mx2516 ?_
    refine g_ch [(0, .ref x0), (1, .int x1), (2, .int x2)] [.int 10000, .int (-10000), .int x2, .ref x0] (pc' := 26) rfl rfl rfl ?_
    obtain ⟨v7, e6, h⟩ := m_bd h
    refine g_call (v := some (.int v7)) (h := h1) (st' := [.int v7, .ref x0]) (D1 := 0) (as := [.int x2, .int (-10000), .int 10000]) (Or.inl rfl) q12_m74 (m_cs (as := [.int 10000, .int (-10000), .int x2]) (rest := [.ref x0]) q12_m74 jv2402 rfl rfl rfl rfl rfl) (by decide) (SF12_in e6) rfl ?_
    rcases m_ifd h with ⟨c8, h⟩ | ⟨c8, h⟩
    · refine g_ifcn (t := 36) rfl (m_neF c8) ?_
      exact r_lv (SF12_page_32 x0 x1 x2 x0 h1 (K := K) k0 h hK) rfl ⟨rfl, rfl, rfl, trivial⟩
    · refine g_ifc (t := 36) rfl (m_neT c8) ?_
      refine g_in eF12_page_36 mx2516 ?_
      refine g_ch [(0, .ref x0), (1, .int x1), (2, .int x2)] [.int 0, .ref x0] (pc' := 37) rfl rfl rfl ?_
      refine g_end ?_
      exact r_lv (SF12_page_37 x0 x1 x2 0 x0 h1 (K := K) k0 h hK) rfl ⟨rfl, rfl, rfl, trivial⟩
theorem OF12_page {x0 : Nat} {x1 : Int32} {x2 : Int32} {hp : m_H} {x : Int32 × m_H} (h : F12_page x0 x1 x2 hp = some x) : m_isO hp 9 x0 = true := (m_gdd h).1
theorem SF12_page {xs : Nat → Int32} {L : Nat} {x0 : Nat} {x1 : Int32} {x2 : Int32} {hp : m_H} {x : Int32 × m_H} (h : F12_page x0 x1 x2 hp = some x) : m_Rn xs L 1 2516 0 (lv_args 0 [.ref x0, .int x1, .int x2]) [] hp (.inl (some (.int x.1)), x.2) :=
  r_lv (SF12_page_0 x0 x1 x2 hp (K := fun y => y = x) (fun y e => by rw [e]) (m_gdd h).2 rfl) rfl ⟨rfl, rfl, rfl, trivial⟩
-- F12_signed: LendHouseModel.signed(II)I
theorem eF12_signed_0 : m_Fe mi12_117 0 (m_ap [(.aload_n 0, 1), (.iconst 0, 1)] ((.putfield 3, 3) :: (m_ap [(.iconst (-1), 1), (.istore_n 3, 1), (.iconst 0, 1), (.istore 4, 2), (.iconst 0, 1), (.istore 5, 2), (.iconst 0, 1), (.istore 6, 2)] ([])))) := m_Fe_of nd2517 0 11 rfl
theorem eF12_signed_16 : m_Fe mi12_117 16 (m_ap [(.iload 6, 2), (.iconst 1, 1), (.aload_n 0, 1)] ((.getfield 14, 3) :: (m_ap [(.sipush 4229, 3)] ((.iaload, 1) :: (m_ap [(.ishl, 1)] ([(.if_icmp .ge 156, 3)])))))) := m_Fe_of nd2517 11 8 rfl
theorem eF12_signed_184 : m_Fe mi12_117 184 (m_ap [(.iload_n 3, 1)] ([(.ireturn, 1)])) := m_Fe_of nd2517 101 2 rfl
theorem eF12_signed_31 : m_Fe mi12_117 31 (m_ap [(.iconst 0, 1), (.istore 7, 2), (.iconst 0, 1), (.istore 8, 2), (.iconst 0, 1), (.istore 9, 2)] ([])) := m_Fe_of nd2517 19 6 rfl
theorem eF12_signed_40 : m_Fe mi12_117 40 (m_ap [(.iload 9, 2), (.aload_n 0, 1)] ((.getfield 14, 3) :: (m_ap [(.sipush 4229, 3)] ((.iaload, 1) :: ([(.if_icmp .ge 77, 3)]))))) := m_Fe_of nd2517 25 6 rfl
theorem eF12_signed_127 : m_Fe mi12_117 127 (m_ap [(.iload 7, 2), (.iload_n 1, 1)] ([(.if_icmp .lt 48, 3)])) := m_Fe_of nd2517 75 3 rfl
theorem eF12_signed_178 : m_Fe mi12_117 178 (m_ap [(.iinc 6 1, 3)] ([(.goto (-165), 3)])) := m_Fe_of nd2517 99 2 rfl
theorem eF12_signed_133 : m_Fe mi12_117 133 (m_ap [(.iload 8, 2), (.iload_n 2, 1)] ([(.if_icmp .lt 42, 3)])) := m_Fe_of nd2517 78 3 rfl
theorem eF12_signed_139 : m_Fe mi12_117 139 (m_ap [(.iload_n 3, 1)] ([(.ifCond .lt 27, 3)])) := m_Fe_of nd2517 81 2 rfl
theorem eF12_signed_143 : m_Fe mi12_117 143 (m_ap [(.iload 7, 2), (.iload 4, 2)] ([(.if_icmp .lt 31, 3)])) := m_Fe_of nd2517 83 3 rfl
theorem eF12_signed_150 : m_Fe mi12_117 150 (m_ap [(.iload 7, 2), (.iload 4, 2)] ([(.if_icmp .ne 13, 3)])) := m_Fe_of nd2517 86 3 rfl
theorem eF12_signed_157 : m_Fe mi12_117 157 (m_ap [(.iload 8, 2), (.iload 5, 2)] ([(.if_icmp .gt 6, 3)])) := m_Fe_of nd2517 89 3 rfl
theorem eF12_signed_164 : m_Fe mi12_117 164 ([(.goto 14, 3)]) := m_Fe_of nd2517 92 1 rfl
theorem eF12_signed_53 : m_Fe mi12_117 53 (m_ap [(.iload 7, 2), (.iload 6, 2), (.iload 9, 2), (.ishr, 1), (.iconst 1, 1), (.iand, 1), (.iconst 1, 1)] ([(.if_icmp .ne 19, 3)])) := m_Fe_of nd2517 31 8 rfl
theorem eF12_signed_82 : m_Fe mi12_117 82 (m_ap [(.iconst 0, 1)] ([])) := m_Fe_of nd2517 48 1 rfl
theorem eF12_signed_66 : m_Fe mi12_117 66 (m_ap [(.aload_n 0, 1)] ((.getfield 14, 3) :: (m_ap [(.sipush 4230, 3), (.iconst 2, 1), (.iload 9, 2), (.imul, 1), (.iadd, 1)] ((.iaload, 1) :: ([(.goto 4, 3)]))))) := m_Fe_of nd2517 39 9 rfl
theorem eF12_signed_167 : m_Fe mi12_117 167 (m_ap [(.iload 6, 2), (.istore_n 3, 1), (.iload 7, 2), (.istore 4, 2), (.iload 8, 2), (.istore 5, 2)] ([])) := m_Fe_of nd2517 93 6 rfl
theorem eF12_signed_83 : m_Fe mi12_117 83 (m_ap [(.iadd, 1), (.istore 7, 2), (.iload 8, 2), (.iload 6, 2), (.iload 9, 2), (.ishr, 1), (.iconst 1, 1), (.iand, 1)] (m_ap [(.iconst 1, 1)] ([(.if_icmp .ne 21, 3)]))) := m_Fe_of nd2517 49 10 rfl
theorem eF12_signed_117 : m_Fe mi12_117 117 (m_ap [(.iconst 0, 1)] ([])) := m_Fe_of nd2517 70 1 rfl
theorem eF12_signed_118 : m_Fe mi12_117 118 (m_ap [(.iadd, 1), (.istore 8, 2), (.iinc 9 1, 3)] ([(.goto (-84), 3)])) := m_Fe_of nd2517 71 4 rfl
theorem eF12_signed_99 : m_Fe mi12_117 99 (m_ap [(.aload_n 0, 1)] ((.getfield 14, 3) :: (m_ap [(.sipush 4230, 3), (.iconst 2, 1), (.iload 9, 2), (.imul, 1), (.iadd, 1), (.iconst 1, 1), (.iadd, 1)] ((.iaload, 1) :: ([(.goto 4, 3)]))))) := m_Fe_of nd2517 59 11 rfl
theorem SF12_signed_167 {xs : Nat → Int32} {L : Nat} (x0 : Nat) (x1 : Int32) (x2 : Int32) (x6 : Int32) (x7 : Int32) (x8 : Int32) (hp : m_H) {r : m_O × m_H} {K : ((Int32 × Int32 × Int32 × Int32) ⊕ (Int32 × m_H)) → Prop} (k0 : ∀ x, K (.inr x) → r = (.inl (some (.int x.1)), x.2)) (k1 : ∀ s, K (.inl s) → m_Rn xs L 0 2517 16 [(0, .ref x0), (1, .int x1), (2, .int x2), (3, .int s.1), (4, .int s.2.1), (5, .int s.2.2.1), (6, .int s.2.2.2)] [] hp r) {t : (Int32 × Int32 × Int32 × Int32) ⊕ (Int32 × m_H)} (h : F12_signed_167 x0 x1 x2 x6 x7 x8 hp = some t) (hK : K t) : m_Rn xs L 0 2517 167 [(0, .ref x0), (1, .int x1), (2, .int x2), (6, .int x6), (7, .int x7), (8, .int x8)] [] hp r := by
  unfold F12_signed_167 at h
  refine g_in eF12_signed_167 mx2517 ?_
  refine g_ch [(5, .int x8), (4, .int x7), (3, .int x6), (0, .ref x0), (1, .int x1), (2, .int x2), (6, .int x6), (7, .int x7), (8, .int x8)] [] (pc' := 178) rfl rfl rfl ?_
  refine g_end ?_
  refine g_in eF12_signed_178 mx2517 ?_
  refine g_ch [(6, .int (x6 + 1)), (5, .int x8), (4, .int x7), (3, .int x6), (0, .ref x0), (1, .int x1), (2, .int x2), (7, .int x7), (8, .int x8)] [] (pc' := 181) rfl rfl rfl ?_
  refine g_goto (t := 16) rfl ?_
  cases h
  exact r_lv (k1 (x6, x7, x8, (x6 + 1)) hK) rfl ⟨rfl, rfl, rfl, rfl, rfl, rfl, rfl, trivial⟩
theorem SF12_signed_83 {xs : Nat → Int32} {L : Nat} (x0 : Nat) (x1 : Int32) (x2 : Int32) (x3 : Int32) (x4 : Int32) (x5 : Int32) (x6 : Int32) (x8 : Int32) (x9 : Int32) (s0 : Int32) (s1 : Int32) (hp : m_H) {r : m_O × m_H} {K : ((Int32 × Int32 × Int32) ⊕ ((Int32 × Int32 × Int32 × Int32) ⊕ (Int32 × m_H))) → Prop} (k0 : ∀ x, K (.inr (.inr x)) → r = (.inl (some (.int x.1)), x.2)) (k1 : ∀ s, K (.inr (.inl s)) → m_Rn xs L 0 2517 16 [(0, .ref x0), (1, .int x1), (2, .int x2), (3, .int s.1), (4, .int s.2.1), (5, .int s.2.2.1), (6, .int s.2.2.2)] [] hp r) (k2 : ∀ s, K (.inl s) → m_Rn xs L 0 2517 40 [(0, .ref x0), (1, .int x1), (2, .int x2), (3, .int x3), (4, .int x4), (5, .int x5), (6, .int x6), (7, .int s.1), (8, .int s.2.1), (9, .int s.2.2)] [] hp r) {t : (Int32 × Int32 × Int32) ⊕ ((Int32 × Int32 × Int32 × Int32) ⊕ (Int32 × m_H))} (h : F12_signed_83 x0 x1 x2 x3 x4 x5 x6 x8 x9 s0 s1 hp = some t) (hK : K t) : m_Rn xs L 0 2517 83 [(0, .ref x0), (1, .int x1), (2, .int x2), (3, .int x3), (4, .int x4), (5, .int x5), (6, .int x6), (8, .int x8), (9, .int x9)] [.int s0, .int s1] hp r := by
  unfold F12_signed_83 at h
  refine g_in eF12_signed_83 mx2517 ?_
  refine g_ch [(7, .int (s1 + s0)), (0, .ref x0), (1, .int x1), (2, .int x2), (3, .int x3), (4, .int x4), (5, .int x5), (6, .int x6), (8, .int x8), (9, .int x9)] [.int ((x6 >>> (x9 &&& 31)) &&& 1), .int x8] (pc' := 95) rfl rfl rfl ?_
  refine g_ch [(7, .int (s1 + s0)), (0, .ref x0), (1, .int x1), (2, .int x2), (3, .int x3), (4, .int x4), (5, .int x5), (6, .int x6), (8, .int x8), (9, .int x9)] [.int 1, .int ((x6 >>> (x9 &&& 31)) &&& 1), .int x8] (pc' := 96) rfl rfl rfl ?_
  rcases m_ifd h with ⟨c1, h⟩ | ⟨c1, h⟩
  · refine g_ifn (t := 117) rfl (m_neF c1) ?_
    refine g_in eF12_signed_99 mx2517 ?_
    refine g_ch [(7, .int (s1 + s0)), (0, .ref x0), (1, .int x1), (2, .int x2), (3, .int x3), (4, .int x4), (5, .int x5), (6, .int x6), (8, .int x8), (9, .int x9)] [.ref x0, .int x8] (pc' := 100) rfl rfl rfl ?_
    obtain ⟨v2, e3, h⟩ := m_bd h
    refine g_gr q12_f14 e3 ?_
    refine g_ch [(7, .int (s1 + s0)), (0, .ref x0), (1, .int x1), (2, .int x2), (3, .int x3), (4, .int x4), (5, .int x5), (6, .int x6), (8, .int x8), (9, .int x9)] [.int ((4230 + (2 * x9)) + 1), .ref v2, .int x8] (pc' := 113) rfl rfl rfl ?_
    obtain ⟨v4, e5, h⟩ := m_bd h
    refine g_ia e5 ?_
    refine g_goto (t := 118) rfl ?_
    refine g_in eF12_signed_118 mx2517 ?_
    refine g_ch [(9, .int (x9 + 1)), (8, .int (x8 + v4)), (7, .int (s1 + s0)), (0, .ref x0), (1, .int x1), (2, .int x2), (3, .int x3), (4, .int x4), (5, .int x5), (6, .int x6)] [] (pc' := 124) rfl rfl rfl ?_
    refine g_goto (t := 40) rfl ?_
    cases h
    exact r_lv (k2 ((s1 + s0), (x8 + v4), (x9 + 1)) hK) rfl ⟨rfl, rfl, rfl, rfl, rfl, rfl, rfl, rfl, rfl, rfl, trivial⟩
  · refine g_if (t := 117) rfl (m_neT c1) ?_
    refine g_in eF12_signed_117 mx2517 ?_
    refine g_ch [(7, .int (s1 + s0)), (0, .ref x0), (1, .int x1), (2, .int x2), (3, .int x3), (4, .int x4), (5, .int x5), (6, .int x6), (8, .int x8), (9, .int x9)] [.int 0, .int x8] (pc' := 118) rfl rfl rfl ?_
    refine g_end ?_
    refine g_in eF12_signed_118 mx2517 ?_
    refine g_ch [(9, .int (x9 + 1)), (8, .int (x8 + 0)), (7, .int (s1 + s0)), (0, .ref x0), (1, .int x1), (2, .int x2), (3, .int x3), (4, .int x4), (5, .int x5), (6, .int x6)] [] (pc' := 124) rfl rfl rfl ?_
    refine g_goto (t := 40) rfl ?_
    cases h
    exact r_lv (k2 ((s1 + s0), (x8 + 0), (x9 + 1)) hK) rfl ⟨rfl, rfl, rfl, rfl, rfl, rfl, rfl, rfl, rfl, rfl, trivial⟩
theorem SF12_signed_40b {xs : Nat → Int32} {L : Nat} (x0 : Nat) (x1 : Int32) (x2 : Int32) (x3 : Int32) (x4 : Int32) (x5 : Int32) (x6 : Int32) (hp : m_H) (s : Int32 × Int32 × Int32) {r : m_O × m_H} {K : ((Int32 × Int32 × Int32) ⊕ ((Int32 × Int32 × Int32 × Int32) ⊕ (Int32 × m_H))) → Prop} (k0 : ∀ x, K (.inr (.inr x)) → r = (.inl (some (.int x.1)), x.2)) (k1 : ∀ s, K (.inr (.inl s)) → m_Rn xs L 0 2517 16 [(0, .ref x0), (1, .int x1), (2, .int x2), (3, .int s.1), (4, .int s.2.1), (5, .int s.2.2.1), (6, .int s.2.2.2)] [] hp r) (k2 : ∀ s, K (.inl s) → m_Rn xs L 0 2517 40 [(0, .ref x0), (1, .int x1), (2, .int x2), (3, .int x3), (4, .int x4), (5, .int x5), (6, .int x6), (7, .int s.1), (8, .int s.2.1), (9, .int s.2.2)] [] hp r) {t : (Int32 × Int32 × Int32) ⊕ ((Int32 × Int32 × Int32 × Int32) ⊕ (Int32 × m_H))} (h : F12_signed_40b x0 x1 x2 x3 x4 x5 x6 hp s = some t) (hK : K t) : m_Rn xs L 0 2517 40 [(0, .ref x0), (1, .int x1), (2, .int x2), (3, .int x3), (4, .int x4), (5, .int x5), (6, .int x6), (7, .int s.1), (8, .int s.2.1), (9, .int s.2.2)] [] hp r := by
  unfold F12_signed_40b at h
  refine g_in eF12_signed_40 mx2517 ?_
  refine g_ch [(0, .ref x0), (1, .int x1), (2, .int x2), (3, .int x3), (4, .int x4), (5, .int x5), (6, .int x6), (7, .int s.1), (8, .int s.2.1), (9, .int s.2.2)] [.ref x0, .int s.2.2] (pc' := 43) rfl rfl rfl ?_
  obtain ⟨v1, e2, h⟩ := m_bd h
  refine g_gr q12_f14 e2 ?_
  refine g_ch [(0, .ref x0), (1, .int x1), (2, .int x2), (3, .int x3), (4, .int x4), (5, .int x5), (6, .int x6), (7, .int s.1), (8, .int s.2.1), (9, .int s.2.2)] [.int 4229, .ref v1, .int s.2.2] (pc' := 49) rfl rfl rfl ?_
  obtain ⟨v3, e4, h⟩ := m_bd h
  refine g_ia e4 ?_
  rcases m_ifd h with ⟨c5, h⟩ | ⟨c5, h⟩
  · refine g_if (t := 127) rfl (m_geT c5) ?_
    refine g_in eF12_signed_127 mx2517 ?_
    refine g_ch [(0, .ref x0), (1, .int x1), (2, .int x2), (3, .int x3), (4, .int x4), (5, .int x5), (6, .int x6), (7, .int s.1), (8, .int s.2.1), (9, .int s.2.2)] [.int x1, .int s.1] (pc' := 130) rfl rfl rfl ?_
    rcases m_ifd h with ⟨c6, h⟩ | ⟨c6, h⟩
    · refine g_if (t := 178) rfl (m_ltT c6) ?_
      refine g_in eF12_signed_178 mx2517 ?_
      refine g_ch [(6, .int (x6 + 1)), (0, .ref x0), (1, .int x1), (2, .int x2), (3, .int x3), (4, .int x4), (5, .int x5), (7, .int s.1), (8, .int s.2.1), (9, .int s.2.2)] [] (pc' := 181) rfl rfl rfl ?_
      refine g_goto (t := 16) rfl ?_
      cases h
      exact r_lv (k1 (x3, x4, x5, (x6 + 1)) hK) rfl ⟨rfl, rfl, rfl, rfl, rfl, rfl, rfl, trivial⟩
    · refine g_ifn (t := 178) rfl (m_ltF c6) ?_
      refine g_in eF12_signed_133 mx2517 ?_
      refine g_ch [(0, .ref x0), (1, .int x1), (2, .int x2), (3, .int x3), (4, .int x4), (5, .int x5), (6, .int x6), (7, .int s.1), (8, .int s.2.1), (9, .int s.2.2)] [.int x2, .int s.2.1] (pc' := 136) rfl rfl rfl ?_
      rcases m_ifd h with ⟨c7, h⟩ | ⟨c7, h⟩
      · refine g_if (t := 178) rfl (m_ltT c7) ?_
        refine g_in eF12_signed_178 mx2517 ?_
        refine g_ch [(6, .int (x6 + 1)), (0, .ref x0), (1, .int x1), (2, .int x2), (3, .int x3), (4, .int x4), (5, .int x5), (7, .int s.1), (8, .int s.2.1), (9, .int s.2.2)] [] (pc' := 181) rfl rfl rfl ?_
        refine g_goto (t := 16) rfl ?_
        cases h
        exact r_lv (k1 (x3, x4, x5, (x6 + 1)) hK) rfl ⟨rfl, rfl, rfl, rfl, rfl, rfl, rfl, trivial⟩
      · refine g_ifn (t := 178) rfl (m_ltF c7) ?_
        refine g_in eF12_signed_139 mx2517 ?_
        refine g_ch [(0, .ref x0), (1, .int x1), (2, .int x2), (3, .int x3), (4, .int x4), (5, .int x5), (6, .int x6), (7, .int s.1), (8, .int s.2.1), (9, .int s.2.2)] [.int x3] (pc' := 140) rfl rfl rfl ?_
        rcases m_ifd h with ⟨c8, h⟩ | ⟨c8, h⟩
        · refine g_ifc (t := 167) rfl (m_ltT c8) ?_
          obtain ⟨t', h2, rfl⟩ := Option.map_eq_some_iff.mp h
          exact r_lv (SF12_signed_167 x0 x1 x2 x6 s.1 s.2.1 hp (K := fun t => K (.inr t)) k0 k1 h2 hK) rfl ⟨rfl, rfl, rfl, rfl, rfl, rfl, trivial⟩
        · refine g_ifcn (t := 167) rfl (m_ltF c8) ?_
          refine g_in eF12_signed_143 mx2517 ?_
          refine g_ch [(0, .ref x0), (1, .int x1), (2, .int x2), (3, .int x3), (4, .int x4), (5, .int x5), (6, .int x6), (7, .int s.1), (8, .int s.2.1), (9, .int s.2.2)] [.int x4, .int s.1] (pc' := 147) rfl rfl rfl ?_
          rcases m_ifd h with ⟨c9, h⟩ | ⟨c9, h⟩
          · refine g_if (t := 178) rfl (m_ltT c9) ?_
            refine g_in eF12_signed_178 mx2517 ?_
            refine g_ch [(6, .int (x6 + 1)), (0, .ref x0), (1, .int x1), (2, .int x2), (3, .int x3), (4, .int x4), (5, .int x5), (7, .int s.1), (8, .int s.2.1), (9, .int s.2.2)] [] (pc' := 181) rfl rfl rfl ?_
            refine g_goto (t := 16) rfl ?_
            cases h
            exact r_lv (k1 (x3, x4, x5, (x6 + 1)) hK) rfl ⟨rfl, rfl, rfl, rfl, rfl, rfl, rfl, trivial⟩
          · refine g_ifn (t := 178) rfl (m_ltF c9) ?_
            refine g_in eF12_signed_150 mx2517 ?_
            refine g_ch [(0, .ref x0), (1, .int x1), (2, .int x2), (3, .int x3), (4, .int x4), (5, .int x5), (6, .int x6), (7, .int s.1), (8, .int s.2.1), (9, .int s.2.2)] [.int x4, .int s.1] (pc' := 154) rfl rfl rfl ?_
            rcases m_ifd h with ⟨c10, h⟩ | ⟨c10, h⟩
            · refine g_ifn (t := 167) rfl (m_neF c10) ?_
              refine g_in eF12_signed_157 mx2517 ?_
              refine g_ch [(0, .ref x0), (1, .int x1), (2, .int x2), (3, .int x3), (4, .int x4), (5, .int x5), (6, .int x6), (7, .int s.1), (8, .int s.2.1), (9, .int s.2.2)] [.int x5, .int s.2.1] (pc' := 161) rfl rfl rfl ?_
              rcases m_ifd h with ⟨c11, h⟩ | ⟨c11, h⟩
              · refine g_if (t := 167) rfl (m_gtT c11) ?_
                obtain ⟨t', h2, rfl⟩ := Option.map_eq_some_iff.mp h
                exact r_lv (SF12_signed_167 x0 x1 x2 x6 s.1 s.2.1 hp (K := fun t => K (.inr t)) k0 k1 h2 hK) rfl ⟨rfl, rfl, rfl, rfl, rfl, rfl, trivial⟩
              · refine g_ifn (t := 167) rfl (m_gtF c11) ?_
                refine g_in eF12_signed_164 mx2517 ?_
                refine g_goto (t := 178) rfl ?_
                refine g_in eF12_signed_178 mx2517 ?_
                refine g_ch [(6, .int (x6 + 1)), (0, .ref x0), (1, .int x1), (2, .int x2), (3, .int x3), (4, .int x4), (5, .int x5), (7, .int s.1), (8, .int s.2.1), (9, .int s.2.2)] [] (pc' := 181) rfl rfl rfl ?_
                refine g_goto (t := 16) rfl ?_
                cases h
                exact r_lv (k1 (x3, x4, x5, (x6 + 1)) hK) rfl ⟨rfl, rfl, rfl, rfl, rfl, rfl, rfl, trivial⟩
            · refine g_if (t := 167) rfl (m_neT c10) ?_
              obtain ⟨t', h2, rfl⟩ := Option.map_eq_some_iff.mp h
              exact r_lv (SF12_signed_167 x0 x1 x2 x6 s.1 s.2.1 hp (K := fun t => K (.inr t)) k0 k1 h2 hK) rfl ⟨rfl, rfl, rfl, rfl, rfl, rfl, trivial⟩
  · refine g_ifn (t := 127) rfl (m_geF c5) ?_
    refine g_in eF12_signed_53 mx2517 ?_
    refine g_ch [(0, .ref x0), (1, .int x1), (2, .int x2), (3, .int x3), (4, .int x4), (5, .int x5), (6, .int x6), (7, .int s.1), (8, .int s.2.1), (9, .int s.2.2)] [.int 1, .int ((x6 >>> (s.2.2 &&& 31)) &&& 1), .int s.1] (pc' := 63) rfl rfl rfl ?_
    rcases m_ifd h with ⟨c12, h⟩ | ⟨c12, h⟩
    · refine g_ifn (t := 82) rfl (m_neF c12) ?_
      refine g_in eF12_signed_66 mx2517 ?_
      refine g_ch [(0, .ref x0), (1, .int x1), (2, .int x2), (3, .int x3), (4, .int x4), (5, .int x5), (6, .int x6), (7, .int s.1), (8, .int s.2.1), (9, .int s.2.2)] [.ref x0, .int s.1] (pc' := 67) rfl rfl rfl ?_
      obtain ⟨v13, e14, h⟩ := m_bd h
      refine g_gr q12_f14 e14 ?_
      refine g_ch [(0, .ref x0), (1, .int x1), (2, .int x2), (3, .int x3), (4, .int x4), (5, .int x5), (6, .int x6), (7, .int s.1), (8, .int s.2.1), (9, .int s.2.2)] [.int (4230 + (2 * s.2.2)), .ref v13, .int s.1] (pc' := 78) rfl rfl rfl ?_
      obtain ⟨v15, e16, h⟩ := m_bd h
      refine g_ia e16 ?_
      refine g_goto (t := 83) rfl ?_
      exact r_lv (SF12_signed_83 x0 x1 x2 x3 x4 x5 x6 s.2.1 s.2.2 v15 s.1 hp (K := K) k0 k1 k2 h hK) rfl ⟨rfl, rfl, rfl, rfl, rfl, rfl, rfl, rfl, rfl, trivial⟩
    · refine g_if (t := 82) rfl (m_neT c12) ?_
      refine g_in eF12_signed_82 mx2517 ?_
      refine g_ch [(0, .ref x0), (1, .int x1), (2, .int x2), (3, .int x3), (4, .int x4), (5, .int x5), (6, .int x6), (7, .int s.1), (8, .int s.2.1), (9, .int s.2.2)] [.int 0, .int s.1] (pc' := 83) rfl rfl rfl ?_
      refine g_end ?_
      exact r_lv (SF12_signed_83 x0 x1 x2 x3 x4 x5 x6 s.2.1 s.2.2 0 s.1 hp (K := K) k0 k1 k2 h hK) rfl ⟨rfl, rfl, rfl, rfl, rfl, rfl, rfl, rfl, rfl, trivial⟩
theorem SF12_signed_40 {xs : Nat → Int32} {L : Nat} (x0 : Nat) (x1 : Int32) (x2 : Int32) (x3 : Int32) (x4 : Int32) (x5 : Int32) (x6 : Int32) (x7 : Int32) (x8 : Int32) (x9 : Int32) (hp : m_H) {r : m_O × m_H} {K : (Int32 × Int32 × Int32 × Int32) ⊕ (Int32 × m_H) → Prop} (k0 : ∀ x, K (.inr x) → r = (.inl (some (.int x.1)), x.2)) (k1 : ∀ s, K (.inl s) → m_Rn xs L 0 2517 16 [(0, .ref x0), (1, .int x1), (2, .int x2), (3, .int s.1), (4, .int s.2.1), (5, .int s.2.2.1), (6, .int s.2.2.2)] [] hp r) {t : (Int32 × Int32 × Int32 × Int32) ⊕ (Int32 × m_H)} (h : F12_signed_40 x0 x1 x2 x3 x4 x5 x6 x7 x8 x9 hp = some t) (hK : K t) : m_Rn xs L 0 2517 40 [(0, .ref x0), (1, .int x1), (2, .int x2), (3, .int x3), (4, .int x4), (5, .int x5), (6, .int x6), (7, .int x7), (8, .int x8), (9, .int x9)] [] hp r :=
  m_wh_ok (P := fun s => m_Rn xs L 0 2517 40 [(0, .ref x0), (1, .int x1), (2, .int x2), (3, .int x3), (4, .int x4), (5, .int x5), (6, .int x6), (7, .int s.1), (8, .int s.2.1), (9, .int s.2.2)] [] hp r) (Q := K) (fun s t hb hK => SF12_signed_40b x0 x1 x2 x3 x4 x5 x6 hp s (K := m_KK (fun s => m_Rn xs L 0 2517 40 [(0, .ref x0), (1, .int x1), (2, .int x2), (3, .int x3), (4, .int x4), (5, .int x5), (6, .int x6), (7, .int s.1), (8, .int s.2.1), (9, .int s.2.2)] [] hp r) K) k0 k1 (fun _ q => q) hb hK) m_N _ _ h hK
theorem SF12_signed_16b {xs : Nat → Int32} {L : Nat} (x0 : Nat) (x1 : Int32) (x2 : Int32) (hp : m_H) (s : Int32 × Int32 × Int32 × Int32) {r : m_O × m_H} {K : ((Int32 × Int32 × Int32 × Int32) ⊕ (Int32 × m_H)) → Prop} (k0 : ∀ x, K (.inr x) → r = (.inl (some (.int x.1)), x.2)) (k1 : ∀ s, K (.inl s) → m_Rn xs L 0 2517 16 [(0, .ref x0), (1, .int x1), (2, .int x2), (3, .int s.1), (4, .int s.2.1), (5, .int s.2.2.1), (6, .int s.2.2.2)] [] hp r) {t : (Int32 × Int32 × Int32 × Int32) ⊕ (Int32 × m_H)} (h : F12_signed_16b x0 x1 x2 hp s = some t) (hK : K t) : m_Rn xs L 0 2517 16 [(0, .ref x0), (1, .int x1), (2, .int x2), (3, .int s.1), (4, .int s.2.1), (5, .int s.2.2.1), (6, .int s.2.2.2)] [] hp r := by
  unfold F12_signed_16b at h
  refine g_in eF12_signed_16 mx2517 ?_
  refine g_ch [(0, .ref x0), (1, .int x1), (2, .int x2), (3, .int s.1), (4, .int s.2.1), (5, .int s.2.2.1), (6, .int s.2.2.2)] [.ref x0, .int 1, .int s.2.2.2] (pc' := 20) rfl rfl rfl ?_
  obtain ⟨v1, e2, h⟩ := m_bd h
  refine g_gr q12_f14 e2 ?_
  refine g_ch [(0, .ref x0), (1, .int x1), (2, .int x2), (3, .int s.1), (4, .int s.2.1), (5, .int s.2.2.1), (6, .int s.2.2.2)] [.int 4229, .ref v1, .int 1, .int s.2.2.2] (pc' := 26) rfl rfl rfl ?_
  obtain ⟨v3, e4, h⟩ := m_bd h
  refine g_ia e4 ?_
  refine g_ch [(0, .ref x0), (1, .int x1), (2, .int x2), (3, .int s.1), (4, .int s.2.1), (5, .int s.2.2.1), (6, .int s.2.2.2)] [.int (1 <<< (v3 &&& 31)), .int s.2.2.2] (pc' := 28) rfl rfl rfl ?_
  rcases m_ifd h with ⟨c5, h⟩ | ⟨c5, h⟩
  · refine g_if (t := 184) rfl (m_geT c5) ?_
    refine g_in eF12_signed_184 mx2517 ?_
    refine g_ch [(0, .ref x0), (1, .int x1), (2, .int x2), (3, .int s.1), (4, .int s.2.1), (5, .int s.2.2.1), (6, .int s.2.2.2)] [.int s.1] (pc' := 185) rfl rfl rfl ?_
    cases h
    rw [k0 _ hK]
    exact g_iret rfl rfl
  · refine g_ifn (t := 184) rfl (m_geF c5) ?_
    refine g_in eF12_signed_31 mx2517 ?_
    refine g_ch [(9, .int 0), (8, .int 0), (7, .int 0), (0, .ref x0), (1, .int x1), (2, .int x2), (3, .int s.1), (4, .int s.2.1), (5, .int s.2.2.1), (6, .int s.2.2.2)] [] (pc' := 40) rfl rfl rfl ?_
    refine g_end ?_
    exact r_lv (SF12_signed_40 x0 x1 x2 s.1 s.2.1 s.2.2.1 s.2.2.2 0 0 0 hp (K := K) k0 k1 h hK) rfl ⟨rfl, rfl, rfl, rfl, rfl, rfl, rfl, rfl, rfl, rfl, trivial⟩
theorem SF12_signed_16 {xs : Nat → Int32} {L : Nat} (x0 : Nat) (x1 : Int32) (x2 : Int32) (x3 : Int32) (x4 : Int32) (x5 : Int32) (x6 : Int32) (hp : m_H) {r : m_O × m_H} {K : Int32 × m_H → Prop} (k0 : ∀ x, K x → r = (.inl (some (.int x.1)), x.2)) {t : Int32 × m_H} (h : F12_signed_16 x0 x1 x2 x3 x4 x5 x6 hp = some t) (hK : K t) : m_Rn xs L 0 2517 16 [(0, .ref x0), (1, .int x1), (2, .int x2), (3, .int x3), (4, .int x4), (5, .int x5), (6, .int x6)] [] hp r :=
  m_wh_ok (P := fun s => m_Rn xs L 0 2517 16 [(0, .ref x0), (1, .int x1), (2, .int x2), (3, .int s.1), (4, .int s.2.1), (5, .int s.2.2.1), (6, .int s.2.2.2)] [] hp r) (Q := K) (fun s t hb hK => SF12_signed_16b x0 x1 x2 hp s (K := m_KK (fun s => m_Rn xs L 0 2517 16 [(0, .ref x0), (1, .int x1), (2, .int x2), (3, .int s.1), (4, .int s.2.1), (5, .int s.2.2.1), (6, .int s.2.2.2)] [] hp r) K) k0 (fun _ q => q) hb hK) m_N _ _ h hK
theorem SF12_signed_0 {xs : Nat → Int32} {L : Nat} (x0 : Nat) (x1 : Int32) (x2 : Int32) (hp : m_H) {r : m_O × m_H} {K : (Int32 × m_H) → Prop} (k0 : ∀ x, K x → r = (.inl (some (.int x.1)), x.2)) {t : Int32 × m_H} (h : F12_signed_0 x0 x1 x2 hp = some t) (hK : K t) : m_Rn xs L 0 2517 0 [(0, .ref x0), (1, .int x1), (2, .int x2)] [] hp r := by
  unfold F12_signed_0 at h
  refine g_in eF12_signed_0 mx2517 ?_
  refine g_ch [(0, .ref x0), (1, .int x1), (2, .int x2)] [.int 0, .ref x0] (pc' := 2) rfl rfl rfl ?_
  obtain ⟨h1, e2, h⟩ := m_bd h
  refine g_pf q12_f3 e2 ?_
  refine g_ch [(6, .int 0), (5, .int 0), (4, .int 0), (3, .int (-1)), (0, .ref x0), (1, .int x1), (2, .int x2)] [] (pc' := 16) rfl rfl rfl ?_
  refine g_end ?_
  exact r_lv (SF12_signed_16 x0 x1 x2 (-1) 0 0 0 h1 (K := K) k0 h hK) rfl ⟨rfl, rfl, rfl, rfl, rfl, rfl, rfl, trivial⟩
theorem OF12_signed {x0 : Nat} {x1 : Int32} {x2 : Int32} {hp : m_H} {x : Int32 × m_H} (h : F12_signed x0 x1 x2 hp = some x) : m_isO hp 9 x0 = true := (m_gdd h).1
theorem SF12_signed {xs : Nat → Int32} {L : Nat} {x0 : Nat} {x1 : Int32} {x2 : Int32} {hp : m_H} {x : Int32 × m_H} (h : F12_signed x0 x1 x2 hp = some x) : m_Rn xs L 0 2517 0 (lv_args 0 [.ref x0, .int x1, .int x2]) [] hp (.inl (some (.int x.1)), x.2) :=
  r_lv (SF12_signed_0 x0 x1 x2 hp (K := fun y => y = x) (fun y e => by rw [e]) (m_gdd h).2 rfl) rfl ⟨rfl, rfl, rfl, trivial⟩
-- F12_choice: LendHouseModel.choice(IIII)I
theorem eF12_choice_0 : m_Fe mi12_118 0 (m_ap [(.aload_n 0, 1), (.iconst 0, 1)] ((.putfield 3, 3) :: (m_ap [(.aload_n 0, 1), (.iload_n 1, 1), (.iconst 0, 1), (.sipush 10000, 3)] ((.invokestatic 74, 3) :: ([(.ifCond .eq 35, 3)]))))) := m_Fe_of nd2518 0 9 rfl
theorem eF12_choice_17 : m_Fe mi12_118 17 (m_ap [(.iload_n 2, 1), (.iconst 0, 1), (.iconst 4, 1)] ((.invokestatic 74, 3) :: ([(.ifCond .eq 26, 3)]))) := m_Fe_of nd2518 9 5 rfl
theorem eF12_choice_26 : m_Fe mi12_118 26 (m_ap [(.iload_n 3, 1), (.iconst 0, 1), (.sipush 10000, 3)] ((.invokestatic 74, 3) :: ([(.ifCond .eq 15, 3)]))) := m_Fe_of nd2518 14 5 rfl
theorem eF12_choice_37 : m_Fe mi12_118 37 (m_ap [(.iload 4, 2), (.iconst 0, 1), (.sipush 10000, 3)] ((.invokestatic 74, 3) :: ([(.ifCond .ne 7, 3)]))) := m_Fe_of nd2518 19 5 rfl
theorem eF12_choice_53 : m_Fe mi12_118 53 (m_ap [(.iconst 0, 1)] ([])) := m_Fe_of nd2518 26 1 rfl
theorem eF12_choice_49 : m_Fe mi12_118 49 (m_ap [(.iconst 1, 1)] ([(.goto 4, 3)])) := m_Fe_of nd2518 24 2 rfl
theorem eF12_choice_54 : m_Fe mi12_118 54 (m_ap [(.iconst 1, 1)] ((.invokevirtual 82, 3) :: ([(.ifCond .eq 5, 3)]))) := m_Fe_of nd2518 27 3 rfl
theorem eF12_choice_63 : m_Fe mi12_118 63 (m_ap [(.aload_n 0, 1)] ((.getfield 14, 3) :: (m_ap [(.sipush 4248, 3)] ((.iaload, 1) :: (m_ap [(.istore 5, 2), (.iload 5, 2), (.bipush 8, 2)] ([(.if_icmp .ne 5, 3)])))))) := m_Fe_of nd2518 32 8 rfl
theorem eF12_choice_82 : m_Fe mi12_118 82 (m_ap [(.aload_n 0, 1)] ((.getfield 14, 3) :: (m_ap [(.sipush 4249, 3), (.iconst 4, 1), (.iload 5, 2), (.imul, 1), (.iadd, 1), (.iload_n 1, 1)] ((.iastore, 1) :: (m_ap [(.aload_n 0, 1)] ((.getfield 14, 3) :: (m_ap [(.sipush 4249, 3), (.iconst 4, 1), (.iload 5, 2), (.imul, 1), (.iadd, 1), (.iconst 1, 1), (.iadd, 1), (.iload_n 2, 1)] ((.iastore, 1) :: (m_ap [(.aload_n 0, 1)] ((.getfield 14, 3) :: (m_ap [(.sipush 4249, 3), (.iconst 4, 1), (.iload 5, 2), (.imul, 1), (.iadd, 1), (.iconst 2, 1), (.iadd, 1), (.iload_n 3, 1)] ((.iastore, 1) :: (m_ap [(.aload_n 0, 1)] ((.getfield 14, 3) :: (m_ap [(.sipush 4249, 3), (.iconst 4, 1), (.iload 5, 2), (.imul, 1), (.iadd, 1), (.iconst 3, 1), (.iadd, 1), (.iload 4, 2)] ((.iastore, 1) :: (m_ap [(.aload_n 0, 1)] ((.getfield 14, 3) :: (m_ap [(.sipush 4248, 3), (.dup2, 1)] ((.iaload, 1) :: (m_ap [(.iconst 1, 1), (.iadd, 1)] ((.iastore, 1) :: (m_ap [(.iload 5, 2), (.iconst 1, 1), (.iadd, 1)] ([(.ireturn, 1)])))))))))))))))))))))))) := m_Fe_of nd2518 42 54 rfl
theorem eF12_choice_80 : m_Fe mi12_118 80 (m_ap [(.iconst (-1), 1)] ([(.ireturn, 1)])) := m_Fe_of nd2518 40 2 rfl
theorem eF12_choice_61 : m_Fe mi12_118 61 (m_ap [(.iconst 0, 1)] ([(.ireturn, 1)])) := m_Fe_of nd2518 30 2 rfl
theorem SF12_choice_54 {xs : Nat → Int32} {L : Nat} (x0 : Nat) (x1 : Int32) (x2 : Int32) (x3 : Int32) (x4 : Int32) (s0 : Int32) (s1 : Nat) (hp : m_H) {r : m_O × m_H} {K : (Int32 × m_H) → Prop} (k0 : ∀ x, K x → r = (.inl (some (.int x.1)), x.2)) {t : Int32 × m_H} (h : F12_choice_54 x0 x1 x2 x3 x4 s0 s1 hp = some t) (hK : K t) : m_Rn xs L 1 2518 54 [(0, .ref x0), (1, .int x1), (2, .int x2), (3, .int x3), (4, .int x4)] [.int s0, .ref s1] hp r := by
  unfold F12_choice_54 at h
  refine g_in eF12_choice_54 mx2518 ?_
  refine g_ch [(0, .ref x0), (1, .int x1), (2, .int x2), (3, .int x3), (4, .int x4)] [.int 1, .int s0, .ref s1] (pc' := 55) rfl rfl rfl ?_
  obtain ⟨z2, e1, h⟩ := m_bd h
  refine g_call (v := some (.int z2.1)) (h := z2.2) (st' := [.int z2.1]) (D1 := 0) (as := [.ref s1, .int s0, .int 1]) (Or.inr (Or.inl rfl)) q12_m82 (m_cv (as := [.int 1, .int s0]) (rest := []) (Or.inl rfl) q12_m82 jv2401 (OF12_throwsIf e1) rfl rfl rfl rfl) (by decide) (SF12_throwsIf e1) rfl ?_
  rcases m_ifd h with ⟨c3, h⟩ | ⟨c3, h⟩
  · refine g_ifc (t := 63) rfl (m_eqT c3) ?_
    refine g_in eF12_choice_63 mx2518 ?_
    refine g_ch [(0, .ref x0), (1, .int x1), (2, .int x2), (3, .int x3), (4, .int x4)] [.ref x0] (pc' := 64) rfl rfl rfl ?_
    obtain ⟨v4, e5, h⟩ := m_bd h
    refine g_gr q12_f14 e5 ?_
    refine g_ch [(0, .ref x0), (1, .int x1), (2, .int x2), (3, .int x3), (4, .int x4)] [.int 4248, .ref v4] (pc' := 70) rfl rfl rfl ?_
    obtain ⟨v6, e7, h⟩ := m_bd h
    refine g_ia e7 ?_
    refine g_ch [(5, .int v6), (0, .ref x0), (1, .int x1), (2, .int x2), (3, .int x3), (4, .int x4)] [.int 8, .int v6] (pc' := 77) rfl rfl rfl ?_
    rcases m_ifd h with ⟨c8, h⟩ | ⟨c8, h⟩
    · refine g_ifn (t := 82) rfl (m_neF c8) ?_
      refine g_in eF12_choice_80 mx2518 ?_
      refine g_ch [(5, .int v6), (0, .ref x0), (1, .int x1), (2, .int x2), (3, .int x3), (4, .int x4)] [.int (-1)] (pc' := 81) rfl rfl rfl ?_
      cases h
      rw [k0 _ hK]
      exact g_iret rfl rfl
    · refine g_if (t := 82) rfl (m_neT c8) ?_
      refine g_in eF12_choice_82 mx2518 ?_
      refine g_ch [(5, .int v6), (0, .ref x0), (1, .int x1), (2, .int x2), (3, .int x3), (4, .int x4)] [.ref x0] (pc' := 83) rfl rfl rfl ?_
      obtain ⟨v9, e10, h⟩ := m_bd h
      refine g_gr q12_f14 e10 ?_
      refine g_ch [(5, .int v6), (0, .ref x0), (1, .int x1), (2, .int x2), (3, .int x3), (4, .int x4)] [.int x1, .int (4249 + (4 * v6)), .ref v9] (pc' := 95) rfl rfl rfl ?_
      obtain ⟨h11, e12, h⟩ := m_bd h
      refine g_is e12 ?_
      refine g_ch [(5, .int v6), (0, .ref x0), (1, .int x1), (2, .int x2), (3, .int x3), (4, .int x4)] [.ref x0] (pc' := 97) rfl rfl rfl ?_
      obtain ⟨v13, e14, h⟩ := m_bd h
      refine g_gr q12_f14 e14 ?_
      refine g_ch [(5, .int v6), (0, .ref x0), (1, .int x1), (2, .int x2), (3, .int x3), (4, .int x4)] [.int x2, .int ((4249 + (4 * v6)) + 1), .ref v13] (pc' := 111) rfl rfl rfl ?_
      obtain ⟨h15, e16, h⟩ := m_bd h
      refine g_is e16 ?_
      refine g_ch [(5, .int v6), (0, .ref x0), (1, .int x1), (2, .int x2), (3, .int x3), (4, .int x4)] [.ref x0] (pc' := 113) rfl rfl rfl ?_
      obtain ⟨v17, e18, h⟩ := m_bd h
      refine g_gr q12_f14 e18 ?_
      refine g_ch [(5, .int v6), (0, .ref x0), (1, .int x1), (2, .int x2), (3, .int x3), (4, .int x4)] [.int x3, .int ((4249 + (4 * v6)) + 2), .ref v17] (pc' := 127) rfl rfl rfl ?_
      obtain ⟨h19, e20, h⟩ := m_bd h
      refine g_is e20 ?_
      refine g_ch [(5, .int v6), (0, .ref x0), (1, .int x1), (2, .int x2), (3, .int x3), (4, .int x4)] [.ref x0] (pc' := 129) rfl rfl rfl ?_
      obtain ⟨v21, e22, h⟩ := m_bd h
      refine g_gr q12_f14 e22 ?_
      refine g_ch [(5, .int v6), (0, .ref x0), (1, .int x1), (2, .int x2), (3, .int x3), (4, .int x4)] [.int x4, .int ((4249 + (4 * v6)) + 3), .ref v21] (pc' := 144) rfl rfl rfl ?_
      obtain ⟨h23, e24, h⟩ := m_bd h
      refine g_is e24 ?_
      refine g_ch [(5, .int v6), (0, .ref x0), (1, .int x1), (2, .int x2), (3, .int x3), (4, .int x4)] [.ref x0] (pc' := 146) rfl rfl rfl ?_
      obtain ⟨v25, e26, h⟩ := m_bd h
      refine g_gr q12_f14 e26 ?_
      refine g_ch [(5, .int v6), (0, .ref x0), (1, .int x1), (2, .int x2), (3, .int x3), (4, .int x4)] [.int 4248, .ref v25, .int 4248, .ref v25] (pc' := 153) rfl rfl rfl ?_
      obtain ⟨v27, e28, h⟩ := m_bd h
      refine g_ia e28 ?_
      refine g_ch [(5, .int v6), (0, .ref x0), (1, .int x1), (2, .int x2), (3, .int x3), (4, .int x4)] [.int (v27 + 1), .int 4248, .ref v25] (pc' := 156) rfl rfl rfl ?_
      obtain ⟨h29, e30, h⟩ := m_bd h
      refine g_is e30 ?_
      refine g_ch [(5, .int v6), (0, .ref x0), (1, .int x1), (2, .int x2), (3, .int x3), (4, .int x4)] [.int (v6 + 1)] (pc' := 161) rfl rfl rfl ?_
      cases h
      rw [k0 _ hK]
      exact g_iret rfl rfl
  · refine g_ifcn (t := 63) rfl (m_eqF c3) ?_
    refine g_in eF12_choice_61 mx2518 ?_
    refine g_ch [(0, .ref x0), (1, .int x1), (2, .int x2), (3, .int x3), (4, .int x4)] [.int 0] (pc' := 62) rfl rfl rfl ?_
    cases h
    rw [k0 _ hK]
    exact g_iret rfl rfl
theorem SF12_choice_49 {xs : Nat → Int32} {L : Nat} (x0 : Nat) (x1 : Int32) (x2 : Int32) (x3 : Int32) (x4 : Int32) (s0 : Nat) (hp : m_H) {r : m_O × m_H} {K : (Int32 × m_H) → Prop} (k0 : ∀ x, K x → r = (.inl (some (.int x.1)), x.2)) {t : Int32 × m_H} (h : F12_choice_49 x0 x1 x2 x3 x4 s0 hp = some t) (hK : K t) : m_Rn xs L 1 2518 49 [(0, .ref x0), (1, .int x1), (2, .int x2), (3, .int x3), (4, .int x4)] [.ref s0] hp r := by
  unfold F12_choice_49 at h
  refine g_in eF12_choice_49 mx2518 ?_
  refine g_ch [(0, .ref x0), (1, .int x1), (2, .int x2), (3, .int x3), (4, .int x4)] [.int 1, .ref s0] (pc' := 50) rfl rfl rfl ?_
  refine g_goto (t := 54) rfl ?_
  exact r_lv (SF12_choice_54 x0 x1 x2 x3 x4 1 s0 hp (K := K) k0 h hK) rfl ⟨rfl, rfl, rfl, rfl, rfl, trivial⟩
theorem SF12_choice_0 {xs : Nat → Int32} {L : Nat} (x0 : Nat) (x1 : Int32) (x2 : Int32) (x3 : Int32) (x4 : Int32) (hp : m_H) {r : m_O × m_H} {K : (Int32 × m_H) → Prop} (k0 : ∀ x, K x → r = (.inl (some (.int x.1)), x.2)) {t : Int32 × m_H} (h : F12_choice_0 x0 x1 x2 x3 x4 hp = some t) (hK : K t) : m_Rn xs L 1 2518 0 [(0, .ref x0), (1, .int x1), (2, .int x2), (3, .int x3), (4, .int x4)] [] hp r := by
  unfold F12_choice_0 at h
  refine g_in eF12_choice_0 mx2518 ?_
  refine g_ch [(0, .ref x0), (1, .int x1), (2, .int x2), (3, .int x3), (4, .int x4)] [.int 0, .ref x0] (pc' := 2) rfl rfl rfl ?_
  obtain ⟨h1, e2, h⟩ := m_bd h
  refine g_pf q12_f3 e2 ?_
  refine g_ch [(0, .ref x0), (1, .int x1), (2, .int x2), (3, .int x3), (4, .int x4)] [.int 10000, .int 0, .int x1, .ref x0] (pc' := 11) rfl rfl rfl ?_
  obtain ⟨v4, e3, h⟩ := m_bd h
  refine g_call (v := some (.int v4)) (h := h1) (st' := [.int v4, .ref x0]) (D1 := 0) (as := [.int x1, .int 0, .int 10000]) (Or.inl rfl) q12_m74 (m_cs (as := [.int 10000, .int 0, .int x1]) (rest := [.ref x0]) q12_m74 jv2402 rfl rfl rfl rfl rfl) (by decide) (SF12_in e3) rfl ?_
  rcases m_ifd h with ⟨c5, h⟩ | ⟨c5, h⟩
  · refine g_ifc (t := 49) rfl (m_eqT c5) ?_
    exact r_lv (SF12_choice_49 x0 x1 x2 x3 x4 x0 h1 (K := K) k0 h hK) rfl ⟨rfl, rfl, rfl, rfl, rfl, trivial⟩
  · refine g_ifcn (t := 49) rfl (m_eqF c5) ?_
    refine g_in eF12_choice_17 mx2518 ?_
    refine g_ch [(0, .ref x0), (1, .int x1), (2, .int x2), (3, .int x3), (4, .int x4)] [.int 4, .int 0, .int x2, .ref x0] (pc' := 20) rfl rfl rfl ?_
    obtain ⟨v7, e6, h⟩ := m_bd h
    refine g_call (v := some (.int v7)) (h := h1) (st' := [.int v7, .ref x0]) (D1 := 0) (as := [.int x2, .int 0, .int 4]) (Or.inl rfl) q12_m74 (m_cs (as := [.int 4, .int 0, .int x2]) (rest := [.ref x0]) q12_m74 jv2402 rfl rfl rfl rfl rfl) (by decide) (SF12_in e6) rfl ?_
    rcases m_ifd h with ⟨c8, h⟩ | ⟨c8, h⟩
    · refine g_ifc (t := 49) rfl (m_eqT c8) ?_
      exact r_lv (SF12_choice_49 x0 x1 x2 x3 x4 x0 h1 (K := K) k0 h hK) rfl ⟨rfl, rfl, rfl, rfl, rfl, trivial⟩
    · refine g_ifcn (t := 49) rfl (m_eqF c8) ?_
      refine g_in eF12_choice_26 mx2518 ?_
      refine g_ch [(0, .ref x0), (1, .int x1), (2, .int x2), (3, .int x3), (4, .int x4)] [.int 10000, .int 0, .int x3, .ref x0] (pc' := 31) rfl rfl rfl ?_
      obtain ⟨v10, e9, h⟩ := m_bd h
      refine g_call (v := some (.int v10)) (h := h1) (st' := [.int v10, .ref x0]) (D1 := 0) (as := [.int x3, .int 0, .int 10000]) (Or.inl rfl) q12_m74 (m_cs (as := [.int 10000, .int 0, .int x3]) (rest := [.ref x0]) q12_m74 jv2402 rfl rfl rfl rfl rfl) (by decide) (SF12_in e9) rfl ?_
      rcases m_ifd h with ⟨c11, h⟩ | ⟨c11, h⟩
      · refine g_ifc (t := 49) rfl (m_eqT c11) ?_
        exact r_lv (SF12_choice_49 x0 x1 x2 x3 x4 x0 h1 (K := K) k0 h hK) rfl ⟨rfl, rfl, rfl, rfl, rfl, trivial⟩
      · refine g_ifcn (t := 49) rfl (m_eqF c11) ?_
        refine g_in eF12_choice_37 mx2518 ?_
        refine g_ch [(0, .ref x0), (1, .int x1), (2, .int x2), (3, .int x3), (4, .int x4)] [.int 10000, .int 0, .int x4, .ref x0] (pc' := 43) rfl rfl rfl ?_
        obtain ⟨v13, e12, h⟩ := m_bd h
        refine g_call (v := some (.int v13)) (h := h1) (st' := [.int v13, .ref x0]) (D1 := 0) (as := [.int x4, .int 0, .int 10000]) (Or.inl rfl) q12_m74 (m_cs (as := [.int 10000, .int 0, .int x4]) (rest := [.ref x0]) q12_m74 jv2402 rfl rfl rfl rfl rfl) (by decide) (SF12_in e12) rfl ?_
        rcases m_ifd h with ⟨c14, h⟩ | ⟨c14, h⟩
        · refine g_ifcn (t := 53) rfl (m_neF c14) ?_
          exact r_lv (SF12_choice_49 x0 x1 x2 x3 x4 x0 h1 (K := K) k0 h hK) rfl ⟨rfl, rfl, rfl, rfl, rfl, trivial⟩
        · refine g_ifc (t := 53) rfl (m_neT c14) ?_
          refine g_in eF12_choice_53 mx2518 ?_
          refine g_ch [(0, .ref x0), (1, .int x1), (2, .int x2), (3, .int x3), (4, .int x4)] [.int 0, .ref x0] (pc' := 54) rfl rfl rfl ?_
          refine g_end ?_
          exact r_lv (SF12_choice_54 x0 x1 x2 x3 x4 0 x0 h1 (K := K) k0 h hK) rfl ⟨rfl, rfl, rfl, rfl, rfl, trivial⟩
theorem OF12_choice {x0 : Nat} {x1 : Int32} {x2 : Int32} {x3 : Int32} {x4 : Int32} {hp : m_H} {x : Int32 × m_H} (h : F12_choice x0 x1 x2 x3 x4 hp = some x) : m_isO hp 9 x0 = true := (m_gdd h).1
theorem SF12_choice {xs : Nat → Int32} {L : Nat} {x0 : Nat} {x1 : Int32} {x2 : Int32} {x3 : Int32} {x4 : Int32} {hp : m_H} {x : Int32 × m_H} (h : F12_choice x0 x1 x2 x3 x4 hp = some x) : m_Rn xs L 1 2518 0 (lv_args 0 [.ref x0, .int x1, .int x2, .int x3, .int x4]) [] hp (.inl (some (.int x.1)), x.2) :=
  r_lv (SF12_choice_0 x0 x1 x2 x3 x4 hp (K := fun y => y = x) (fun y e => by rw [e]) (m_gdd h).2 rfl) rfl ⟨rfl, rfl, rfl, rfl, rfl, trivial⟩
-- F12_row: LendHouseModel.row(IIIII)V
theorem eF12_row_0 : m_Fe mi12_119 0 (m_ap [(.aload_n 0, 1), (.iconst 0, 1)] ((.putfield 3, 3) :: (m_ap [(.aload_n 0, 1), (.iload_n 1, 1), (.iconst 0, 1), (.iconst 2, 1)] ((.invokestatic 74, 3) :: ([(.ifCond .eq 47, 3)]))))) := m_Fe_of nd2519 0 9 rfl
theorem eF12_row_15 : m_Fe mi12_119 15 (m_ap [(.iload_n 2, 1), (.iconst 0, 1), (.iconst 4, 1)] ((.invokestatic 74, 3) :: ([(.ifCond .eq 38, 3)]))) := m_Fe_of nd2519 9 5 rfl
theorem eF12_row_24 : m_Fe mi12_119 24 (m_ap [(.iload_n 3, 1), (.iconst 0, 1), (.ldc_w 388, 3)] ((.invokestatic 74, 3) :: ([(.ifCond .eq 27, 3)]))) := m_Fe_of nd2519 14 5 rfl
theorem eF12_row_35 : m_Fe mi12_119 35 (m_ap [(.iload 4, 2), (.iconst 0, 1), (.ldc_w 388, 3)] ((.invokestatic 74, 3) :: ([(.ifCond .eq 15, 3)]))) := m_Fe_of nd2519 19 5 rfl
theorem eF12_row_47 : m_Fe mi12_119 47 (m_ap [(.iload 5, 2), (.iconst 0, 1), (.ldc_w 388, 3)] ((.invokestatic 74, 3) :: ([(.ifCond .ne 7, 3)]))) := m_Fe_of nd2519 24 5 rfl
theorem eF12_row_63 : m_Fe mi12_119 63 (m_ap [(.iconst 0, 1)] ([])) := m_Fe_of nd2519 31 1 rfl
theorem eF12_row_59 : m_Fe mi12_119 59 (m_ap [(.iconst 1, 1)] ([(.goto 4, 3)])) := m_Fe_of nd2519 29 2 rfl
theorem eF12_row_64 : m_Fe mi12_119 64 (m_ap [(.iconst 1, 1)] ((.invokevirtual 82, 3) :: ([(.ifCond .eq 4, 3)]))) := m_Fe_of nd2519 32 3 rfl
theorem eF12_row_72 : m_Fe mi12_119 72 (m_ap [(.sipush 4281, 3), (.bipush 15, 2), (.iload_n 1, 1), (.imul, 1), (.iadd, 1), (.iconst 3, 1), (.iload_n 2, 1), (.imul, 1)] (m_ap [(.iadd, 1), (.istore 6, 2), (.aload_n 0, 1)] ((.getfield 14, 3) :: (m_ap [(.iload 6, 2), (.iload_n 3, 1)] ((.iastore, 1) :: (m_ap [(.aload_n 0, 1)] ((.getfield 14, 3) :: (m_ap [(.iload 6, 2), (.iconst 1, 1), (.iadd, 1), (.iload 4, 2)] ((.iastore, 1) :: (m_ap [(.aload_n 0, 1)] ((.getfield 14, 3) :: (m_ap [(.iload 6, 2), (.iconst 2, 1), (.iadd, 1), (.iload 5, 2)] ((.iastore, 1) :: ([(.return_, 1)])))))))))))))) := m_Fe_of nd2519 36 30 rfl
theorem eF12_row_71 : m_Fe mi12_119 71 ([(.return_, 1)]) := m_Fe_of nd2519 35 1 rfl
theorem SF12_row_64 {xs : Nat → Int32} {L : Nat} (x0 : Nat) (x1 : Int32) (x2 : Int32) (x3 : Int32) (x4 : Int32) (x5 : Int32) (s0 : Int32) (s1 : Nat) (hp : m_H) {r : m_O × m_H} {K : m_H → Prop} (k0 : ∀ x, K x → r = (.inl none, x)) {t : m_H} (h : F12_row_64 x0 x1 x2 x3 x4 x5 s0 s1 hp = some t) (hK : K t) : m_Rn xs L 1 2519 64 [(0, .ref x0), (1, .int x1), (2, .int x2), (3, .int x3), (4, .int x4), (5, .int x5)] [.int s0, .ref s1] hp r := by
  unfold F12_row_64 at h
  refine g_in eF12_row_64 mx2519 ?_
  refine g_ch [(0, .ref x0), (1, .int x1), (2, .int x2), (3, .int x3), (4, .int x4), (5, .int x5)] [.int 1, .int s0, .ref s1] (pc' := 65) rfl rfl rfl ?_
  obtain ⟨z2, e1, h⟩ := m_bd h
  refine g_call (v := some (.int z2.1)) (h := z2.2) (st' := [.int z2.1]) (D1 := 0) (as := [.ref s1, .int s0, .int 1]) (Or.inr (Or.inl rfl)) q12_m82 (m_cv (as := [.int 1, .int s0]) (rest := []) (Or.inl rfl) q12_m82 jv2401 (OF12_throwsIf e1) rfl rfl rfl rfl) (by decide) (SF12_throwsIf e1) rfl ?_
  rcases m_ifd h with ⟨c3, h⟩ | ⟨c3, h⟩
  · refine g_ifc (t := 72) rfl (m_eqT c3) ?_
    refine g_in eF12_row_72 mx2519 ?_
    refine g_ch [(0, .ref x0), (1, .int x1), (2, .int x2), (3, .int x3), (4, .int x4), (5, .int x5)] [.int (3 * x2), .int (4281 + (15 * x1))] (pc' := 83) rfl rfl rfl ?_
    refine g_ch [(6, .int ((4281 + (15 * x1)) + (3 * x2))), (0, .ref x0), (1, .int x1), (2, .int x2), (3, .int x3), (4, .int x4), (5, .int x5)] [.ref x0] (pc' := 87) rfl rfl rfl ?_
    obtain ⟨v4, e5, h⟩ := m_bd h
    refine g_gr q12_f14 e5 ?_
    refine g_ch [(6, .int ((4281 + (15 * x1)) + (3 * x2))), (0, .ref x0), (1, .int x1), (2, .int x2), (3, .int x3), (4, .int x4), (5, .int x5)] [.int x3, .int ((4281 + (15 * x1)) + (3 * x2)), .ref v4] (pc' := 93) rfl rfl rfl ?_
    obtain ⟨h6, e7, h⟩ := m_bd h
    refine g_is e7 ?_
    refine g_ch [(6, .int ((4281 + (15 * x1)) + (3 * x2))), (0, .ref x0), (1, .int x1), (2, .int x2), (3, .int x3), (4, .int x4), (5, .int x5)] [.ref x0] (pc' := 95) rfl rfl rfl ?_
    obtain ⟨v8, e9, h⟩ := m_bd h
    refine g_gr q12_f14 e9 ?_
    refine g_ch [(6, .int ((4281 + (15 * x1)) + (3 * x2))), (0, .ref x0), (1, .int x1), (2, .int x2), (3, .int x3), (4, .int x4), (5, .int x5)] [.int x4, .int (((4281 + (15 * x1)) + (3 * x2)) + 1), .ref v8] (pc' := 104) rfl rfl rfl ?_
    obtain ⟨h10, e11, h⟩ := m_bd h
    refine g_is e11 ?_
    refine g_ch [(6, .int ((4281 + (15 * x1)) + (3 * x2))), (0, .ref x0), (1, .int x1), (2, .int x2), (3, .int x3), (4, .int x4), (5, .int x5)] [.ref x0] (pc' := 106) rfl rfl rfl ?_
    obtain ⟨v12, e13, h⟩ := m_bd h
    refine g_gr q12_f14 e13 ?_
    refine g_ch [(6, .int ((4281 + (15 * x1)) + (3 * x2))), (0, .ref x0), (1, .int x1), (2, .int x2), (3, .int x3), (4, .int x4), (5, .int x5)] [.int x5, .int (((4281 + (15 * x1)) + (3 * x2)) + 2), .ref v12] (pc' := 115) rfl rfl rfl ?_
    obtain ⟨h14, e15, h⟩ := m_bd h
    refine g_is e15 ?_
    cases h
    rw [k0 _ hK]
    exact g_vret rfl
  · refine g_ifcn (t := 72) rfl (m_eqF c3) ?_
    refine g_in eF12_row_71 mx2519 ?_
    cases h
    rw [k0 _ hK]
    exact g_vret rfl
theorem SF12_row_59 {xs : Nat → Int32} {L : Nat} (x0 : Nat) (x1 : Int32) (x2 : Int32) (x3 : Int32) (x4 : Int32) (x5 : Int32) (s0 : Nat) (hp : m_H) {r : m_O × m_H} {K : m_H → Prop} (k0 : ∀ x, K x → r = (.inl none, x)) {t : m_H} (h : F12_row_59 x0 x1 x2 x3 x4 x5 s0 hp = some t) (hK : K t) : m_Rn xs L 1 2519 59 [(0, .ref x0), (1, .int x1), (2, .int x2), (3, .int x3), (4, .int x4), (5, .int x5)] [.ref s0] hp r := by
  unfold F12_row_59 at h
  refine g_in eF12_row_59 mx2519 ?_
  refine g_ch [(0, .ref x0), (1, .int x1), (2, .int x2), (3, .int x3), (4, .int x4), (5, .int x5)] [.int 1, .ref s0] (pc' := 60) rfl rfl rfl ?_
  refine g_goto (t := 64) rfl ?_
  exact r_lv (SF12_row_64 x0 x1 x2 x3 x4 x5 1 s0 hp (K := K) k0 h hK) rfl ⟨rfl, rfl, rfl, rfl, rfl, rfl, trivial⟩
theorem SF12_row_0 {xs : Nat → Int32} {L : Nat} (x0 : Nat) (x1 : Int32) (x2 : Int32) (x3 : Int32) (x4 : Int32) (x5 : Int32) (hp : m_H) {r : m_O × m_H} {K : m_H → Prop} (k0 : ∀ x, K x → r = (.inl none, x)) {t : m_H} (h : F12_row_0 x0 x1 x2 x3 x4 x5 hp = some t) (hK : K t) : m_Rn xs L 1 2519 0 [(0, .ref x0), (1, .int x1), (2, .int x2), (3, .int x3), (4, .int x4), (5, .int x5)] [] hp r := by
  unfold F12_row_0 at h
  refine g_in eF12_row_0 mx2519 ?_
  refine g_ch [(0, .ref x0), (1, .int x1), (2, .int x2), (3, .int x3), (4, .int x4), (5, .int x5)] [.int 0, .ref x0] (pc' := 2) rfl rfl rfl ?_
  obtain ⟨h1, e2, h⟩ := m_bd h
  refine g_pf q12_f3 e2 ?_
  refine g_ch [(0, .ref x0), (1, .int x1), (2, .int x2), (3, .int x3), (4, .int x4), (5, .int x5)] [.int 2, .int 0, .int x1, .ref x0] (pc' := 9) rfl rfl rfl ?_
  obtain ⟨v4, e3, h⟩ := m_bd h
  refine g_call (v := some (.int v4)) (h := h1) (st' := [.int v4, .ref x0]) (D1 := 0) (as := [.int x1, .int 0, .int 2]) (Or.inl rfl) q12_m74 (m_cs (as := [.int 2, .int 0, .int x1]) (rest := [.ref x0]) q12_m74 jv2402 rfl rfl rfl rfl rfl) (by decide) (SF12_in e3) rfl ?_
  rcases m_ifd h with ⟨c5, h⟩ | ⟨c5, h⟩
  · refine g_ifc (t := 59) rfl (m_eqT c5) ?_
    exact r_lv (SF12_row_59 x0 x1 x2 x3 x4 x5 x0 h1 (K := K) k0 h hK) rfl ⟨rfl, rfl, rfl, rfl, rfl, rfl, trivial⟩
  · refine g_ifcn (t := 59) rfl (m_eqF c5) ?_
    refine g_in eF12_row_15 mx2519 ?_
    refine g_ch [(0, .ref x0), (1, .int x1), (2, .int x2), (3, .int x3), (4, .int x4), (5, .int x5)] [.int 4, .int 0, .int x2, .ref x0] (pc' := 18) rfl rfl rfl ?_
    obtain ⟨v7, e6, h⟩ := m_bd h
    refine g_call (v := some (.int v7)) (h := h1) (st' := [.int v7, .ref x0]) (D1 := 0) (as := [.int x2, .int 0, .int 4]) (Or.inl rfl) q12_m74 (m_cs (as := [.int 4, .int 0, .int x2]) (rest := [.ref x0]) q12_m74 jv2402 rfl rfl rfl rfl rfl) (by decide) (SF12_in e6) rfl ?_
    rcases m_ifd h with ⟨c8, h⟩ | ⟨c8, h⟩
    · refine g_ifc (t := 59) rfl (m_eqT c8) ?_
      exact r_lv (SF12_row_59 x0 x1 x2 x3 x4 x5 x0 h1 (K := K) k0 h hK) rfl ⟨rfl, rfl, rfl, rfl, rfl, rfl, trivial⟩
    · refine g_ifcn (t := 59) rfl (m_eqF c8) ?_
      refine g_in eF12_row_24 mx2519 ?_
      refine g_ch [(0, .ref x0), (1, .int x1), (2, .int x2), (3, .int x3), (4, .int x4), (5, .int x5)] [.int 100000, .int 0, .int x3, .ref x0] (pc' := 29) rfl rfl rfl ?_
      obtain ⟨v10, e9, h⟩ := m_bd h
      refine g_call (v := some (.int v10)) (h := h1) (st' := [.int v10, .ref x0]) (D1 := 0) (as := [.int x3, .int 0, .int 100000]) (Or.inl rfl) q12_m74 (m_cs (as := [.int 100000, .int 0, .int x3]) (rest := [.ref x0]) q12_m74 jv2402 rfl rfl rfl rfl rfl) (by decide) (SF12_in e9) rfl ?_
      rcases m_ifd h with ⟨c11, h⟩ | ⟨c11, h⟩
      · refine g_ifc (t := 59) rfl (m_eqT c11) ?_
        exact r_lv (SF12_row_59 x0 x1 x2 x3 x4 x5 x0 h1 (K := K) k0 h hK) rfl ⟨rfl, rfl, rfl, rfl, rfl, rfl, trivial⟩
      · refine g_ifcn (t := 59) rfl (m_eqF c11) ?_
        refine g_in eF12_row_35 mx2519 ?_
        refine g_ch [(0, .ref x0), (1, .int x1), (2, .int x2), (3, .int x3), (4, .int x4), (5, .int x5)] [.int 100000, .int 0, .int x4, .ref x0] (pc' := 41) rfl rfl rfl ?_
        obtain ⟨v13, e12, h⟩ := m_bd h
        refine g_call (v := some (.int v13)) (h := h1) (st' := [.int v13, .ref x0]) (D1 := 0) (as := [.int x4, .int 0, .int 100000]) (Or.inl rfl) q12_m74 (m_cs (as := [.int 100000, .int 0, .int x4]) (rest := [.ref x0]) q12_m74 jv2402 rfl rfl rfl rfl rfl) (by decide) (SF12_in e12) rfl ?_
        rcases m_ifd h with ⟨c14, h⟩ | ⟨c14, h⟩
        · refine g_ifc (t := 59) rfl (m_eqT c14) ?_
          exact r_lv (SF12_row_59 x0 x1 x2 x3 x4 x5 x0 h1 (K := K) k0 h hK) rfl ⟨rfl, rfl, rfl, rfl, rfl, rfl, trivial⟩
        · refine g_ifcn (t := 59) rfl (m_eqF c14) ?_
          refine g_in eF12_row_47 mx2519 ?_
          refine g_ch [(0, .ref x0), (1, .int x1), (2, .int x2), (3, .int x3), (4, .int x4), (5, .int x5)] [.int 100000, .int 0, .int x5, .ref x0] (pc' := 53) rfl rfl rfl ?_
          obtain ⟨v16, e15, h⟩ := m_bd h
          refine g_call (v := some (.int v16)) (h := h1) (st' := [.int v16, .ref x0]) (D1 := 0) (as := [.int x5, .int 0, .int 100000]) (Or.inl rfl) q12_m74 (m_cs (as := [.int 100000, .int 0, .int x5]) (rest := [.ref x0]) q12_m74 jv2402 rfl rfl rfl rfl rfl) (by decide) (SF12_in e15) rfl ?_
          rcases m_ifd h with ⟨c17, h⟩ | ⟨c17, h⟩
          · refine g_ifcn (t := 63) rfl (m_neF c17) ?_
            exact r_lv (SF12_row_59 x0 x1 x2 x3 x4 x5 x0 h1 (K := K) k0 h hK) rfl ⟨rfl, rfl, rfl, rfl, rfl, rfl, trivial⟩
          · refine g_ifc (t := 63) rfl (m_neT c17) ?_
            refine g_in eF12_row_63 mx2519 ?_
            refine g_ch [(0, .ref x0), (1, .int x1), (2, .int x2), (3, .int x3), (4, .int x4), (5, .int x5)] [.int 0, .ref x0] (pc' := 64) rfl rfl rfl ?_
            refine g_end ?_
            exact r_lv (SF12_row_64 x0 x1 x2 x3 x4 x5 0 x0 h1 (K := K) k0 h hK) rfl ⟨rfl, rfl, rfl, rfl, rfl, rfl, trivial⟩
theorem OF12_row {x0 : Nat} {x1 : Int32} {x2 : Int32} {x3 : Int32} {x4 : Int32} {x5 : Int32} {hp : m_H} {x : m_H} (h : F12_row x0 x1 x2 x3 x4 x5 hp = some x) : m_isO hp 9 x0 = true := (m_gdd h).1
theorem SF12_row {xs : Nat → Int32} {L : Nat} {x0 : Nat} {x1 : Int32} {x2 : Int32} {x3 : Int32} {x4 : Int32} {x5 : Int32} {hp : m_H} {x : m_H} (h : F12_row x0 x1 x2 x3 x4 x5 hp = some x) : m_Rn xs L 1 2519 0 (lv_args 0 [.ref x0, .int x1, .int x2, .int x3, .int x4, .int x5]) [] hp (.inl none, x) :=
  r_lv (SF12_row_0 x0 x1 x2 x3 x4 x5 hp (K := fun y => y = x) (fun y e => by rw [e]) (m_gdd h).2 rfl) rfl ⟨rfl, rfl, rfl, rfl, rfl, rfl, trivial⟩
-- F12_setHas: LendHouseModel.setHas(III)I
theorem eF12_setHas_0 : m_Fe mi12_120 0 (m_ap [(.iconst 0, 1), (.istore 4, 2), (.iconst 0, 1), (.istore 5, 2)] ([])) := m_Fe_of nd2520 0 4 rfl
theorem eF12_setHas_6 : m_Fe mi12_120 6 (m_ap [(.iload 5, 2), (.aload_n 0, 1)] ((.getfield 14, 3) :: (m_ap [(.sipush 4248, 3)] ((.iaload, 1) :: ([(.if_icmp .ge 62, 3)]))))) := m_Fe_of nd2520 4 6 rfl
theorem eF12_setHas_78 : m_Fe mi12_120 78 (m_ap [(.iload 4, 2)] ([(.ireturn, 1)])) := m_Fe_of nd2520 46 2 rfl
theorem eF12_setHas_19 : m_Fe mi12_120 19 (m_ap [(.iload 4, 2), (.iload_n 1, 1), (.iload 5, 2), (.ishr, 1), (.iconst 1, 1), (.iand, 1), (.iconst 1, 1)] ([(.if_icmp .ne 40, 3)])) := m_Fe_of nd2520 10 8 rfl
theorem eF12_setHas_68 : m_Fe mi12_120 68 (m_ap [(.iconst 0, 1)] ([])) := m_Fe_of nd2520 41 1 rfl
theorem eF12_setHas_69 : m_Fe mi12_120 69 (m_ap [(.iadd, 1), (.istore 4, 2), (.iinc 5 1, 3)] ([(.goto (-69), 3)])) := m_Fe_of nd2520 42 4 rfl
theorem eF12_setHas_31 : m_Fe mi12_120 31 (m_ap [(.aload_n 0, 1)] ((.getfield 14, 3) :: (m_ap [(.sipush 4249, 3), (.iconst 4, 1), (.iload 5, 2), (.imul, 1), (.iadd, 1), (.iconst 1, 1), (.iadd, 1)] ((.iaload, 1) :: (m_ap [(.iload_n 2, 1)] ([(.if_icmp .gt 21, 3)])))))) := m_Fe_of nd2520 18 12 rfl
theorem eF12_setHas_50 : m_Fe mi12_120 50 (m_ap [(.aload_n 0, 1)] ((.getfield 14, 3) :: (m_ap [(.sipush 4249, 3), (.iconst 4, 1), (.iload 5, 2), (.imul, 1), (.iadd, 1), (.iload_n 3, 1), (.iadd, 1)] ((.iaload, 1) :: ([(.goto 4, 3)]))))) := m_Fe_of nd2520 30 11 rfl
theorem SF12_setHas_6b {xs : Nat → Int32} {L : Nat} (x0 : Nat) (x1 : Int32) (x2 : Int32) (x3 : Int32) (hp : m_H) (s : Int32 × Int32) {r : m_O × m_H} {K : ((Int32 × Int32) ⊕ Int32) → Prop} (k0 : ∀ x, K (.inr x) → r = (.inl (some (.int x)), hp)) (k1 : ∀ s, K (.inl s) → m_Rn xs L 0 2520 6 [(0, .ref x0), (1, .int x1), (2, .int x2), (3, .int x3), (4, .int s.1), (5, .int s.2)] [] hp r) {t : (Int32 × Int32) ⊕ Int32} (h : F12_setHas_6b x0 x1 x2 x3 hp s = some t) (hK : K t) : m_Rn xs L 0 2520 6 [(0, .ref x0), (1, .int x1), (2, .int x2), (3, .int x3), (4, .int s.1), (5, .int s.2)] [] hp r := by
  unfold F12_setHas_6b at h
  refine g_in eF12_setHas_6 mx2520 ?_
  refine g_ch [(0, .ref x0), (1, .int x1), (2, .int x2), (3, .int x3), (4, .int s.1), (5, .int s.2)] [.ref x0, .int s.2] (pc' := 9) rfl rfl rfl ?_
  obtain ⟨v1, e2, h⟩ := m_bd h
  refine g_gr q12_f14 e2 ?_
  refine g_ch [(0, .ref x0), (1, .int x1), (2, .int x2), (3, .int x3), (4, .int s.1), (5, .int s.2)] [.int 4248, .ref v1, .int s.2] (pc' := 15) rfl rfl rfl ?_
  obtain ⟨v3, e4, h⟩ := m_bd h
  refine g_ia e4 ?_
  rcases m_ifd h with ⟨c5, h⟩ | ⟨c5, h⟩
  · refine g_if (t := 78) rfl (m_geT c5) ?_
    refine g_in eF12_setHas_78 mx2520 ?_
    refine g_ch [(0, .ref x0), (1, .int x1), (2, .int x2), (3, .int x3), (4, .int s.1), (5, .int s.2)] [.int s.1] (pc' := 80) rfl rfl rfl ?_
    cases h
    rw [k0 _ hK]
    exact g_iret rfl rfl
  · refine g_ifn (t := 78) rfl (m_geF c5) ?_
    refine g_in eF12_setHas_19 mx2520 ?_
    refine g_ch [(0, .ref x0), (1, .int x1), (2, .int x2), (3, .int x3), (4, .int s.1), (5, .int s.2)] [.int 1, .int ((x1 >>> (s.2 &&& 31)) &&& 1), .int s.1] (pc' := 28) rfl rfl rfl ?_
    rcases m_ifd h with ⟨c6, h⟩ | ⟨c6, h⟩
    · refine g_ifn (t := 68) rfl (m_neF c6) ?_
      refine g_in eF12_setHas_31 mx2520 ?_
      refine g_ch [(0, .ref x0), (1, .int x1), (2, .int x2), (3, .int x3), (4, .int s.1), (5, .int s.2)] [.ref x0, .int s.1] (pc' := 32) rfl rfl rfl ?_
      obtain ⟨v7, e8, h⟩ := m_bd h
      refine g_gr q12_f14 e8 ?_
      refine g_ch [(0, .ref x0), (1, .int x1), (2, .int x2), (3, .int x3), (4, .int s.1), (5, .int s.2)] [.int ((4249 + (4 * s.2)) + 1), .ref v7, .int s.1] (pc' := 45) rfl rfl rfl ?_
      obtain ⟨v9, e10, h⟩ := m_bd h
      refine g_ia e10 ?_
      refine g_ch [(0, .ref x0), (1, .int x1), (2, .int x2), (3, .int x3), (4, .int s.1), (5, .int s.2)] [.int x2, .int v9, .int s.1] (pc' := 47) rfl rfl rfl ?_
      rcases m_ifd h with ⟨c11, h⟩ | ⟨c11, h⟩
      · refine g_if (t := 68) rfl (m_gtT c11) ?_
        refine g_in eF12_setHas_68 mx2520 ?_
        refine g_ch [(0, .ref x0), (1, .int x1), (2, .int x2), (3, .int x3), (4, .int s.1), (5, .int s.2)] [.int 0, .int s.1] (pc' := 69) rfl rfl rfl ?_
        refine g_end ?_
        refine g_in eF12_setHas_69 mx2520 ?_
        refine g_ch [(5, .int (s.2 + 1)), (4, .int (s.1 + 0)), (0, .ref x0), (1, .int x1), (2, .int x2), (3, .int x3)] [] (pc' := 75) rfl rfl rfl ?_
        refine g_goto (t := 6) rfl ?_
        cases h
        exact r_lv (k1 ((s.1 + 0), (s.2 + 1)) hK) rfl ⟨rfl, rfl, rfl, rfl, rfl, rfl, trivial⟩
      · refine g_ifn (t := 68) rfl (m_gtF c11) ?_
        refine g_in eF12_setHas_50 mx2520 ?_
        refine g_ch [(0, .ref x0), (1, .int x1), (2, .int x2), (3, .int x3), (4, .int s.1), (5, .int s.2)] [.ref x0, .int s.1] (pc' := 51) rfl rfl rfl ?_
        obtain ⟨v12, e13, h⟩ := m_bd h
        refine g_gr q12_f14 e13 ?_
        refine g_ch [(0, .ref x0), (1, .int x1), (2, .int x2), (3, .int x3), (4, .int s.1), (5, .int s.2)] [.int ((4249 + (4 * s.2)) + x3), .ref v12, .int s.1] (pc' := 64) rfl rfl rfl ?_
        obtain ⟨v14, e15, h⟩ := m_bd h
        refine g_ia e15 ?_
        refine g_goto (t := 69) rfl ?_
        refine g_in eF12_setHas_69 mx2520 ?_
        refine g_ch [(5, .int (s.2 + 1)), (4, .int (s.1 + v14)), (0, .ref x0), (1, .int x1), (2, .int x2), (3, .int x3)] [] (pc' := 75) rfl rfl rfl ?_
        refine g_goto (t := 6) rfl ?_
        cases h
        exact r_lv (k1 ((s.1 + v14), (s.2 + 1)) hK) rfl ⟨rfl, rfl, rfl, rfl, rfl, rfl, trivial⟩
    · refine g_if (t := 68) rfl (m_neT c6) ?_
      refine g_in eF12_setHas_68 mx2520 ?_
      refine g_ch [(0, .ref x0), (1, .int x1), (2, .int x2), (3, .int x3), (4, .int s.1), (5, .int s.2)] [.int 0, .int s.1] (pc' := 69) rfl rfl rfl ?_
      refine g_end ?_
      refine g_in eF12_setHas_69 mx2520 ?_
      refine g_ch [(5, .int (s.2 + 1)), (4, .int (s.1 + 0)), (0, .ref x0), (1, .int x1), (2, .int x2), (3, .int x3)] [] (pc' := 75) rfl rfl rfl ?_
      refine g_goto (t := 6) rfl ?_
      cases h
      exact r_lv (k1 ((s.1 + 0), (s.2 + 1)) hK) rfl ⟨rfl, rfl, rfl, rfl, rfl, rfl, trivial⟩
theorem SF12_setHas_6 {xs : Nat → Int32} {L : Nat} (x0 : Nat) (x1 : Int32) (x2 : Int32) (x3 : Int32) (x4 : Int32) (x5 : Int32) (hp : m_H) {r : m_O × m_H} {K : Int32 → Prop} (k0 : ∀ x, K x → r = (.inl (some (.int x)), hp)) {t : Int32} (h : F12_setHas_6 x0 x1 x2 x3 x4 x5 hp = some t) (hK : K t) : m_Rn xs L 0 2520 6 [(0, .ref x0), (1, .int x1), (2, .int x2), (3, .int x3), (4, .int x4), (5, .int x5)] [] hp r :=
  m_wh_ok (P := fun s => m_Rn xs L 0 2520 6 [(0, .ref x0), (1, .int x1), (2, .int x2), (3, .int x3), (4, .int s.1), (5, .int s.2)] [] hp r) (Q := K) (fun s t hb hK => SF12_setHas_6b x0 x1 x2 x3 hp s (K := m_KK (fun s => m_Rn xs L 0 2520 6 [(0, .ref x0), (1, .int x1), (2, .int x2), (3, .int x3), (4, .int s.1), (5, .int s.2)] [] hp r) K) k0 (fun _ q => q) hb hK) m_N _ _ h hK
theorem SF12_setHas_0 {xs : Nat → Int32} {L : Nat} (x0 : Nat) (x1 : Int32) (x2 : Int32) (x3 : Int32) (hp : m_H) {r : m_O × m_H} {K : Int32 → Prop} (k0 : ∀ x, K x → r = (.inl (some (.int x)), hp)) {t : Int32} (h : F12_setHas_0 x0 x1 x2 x3 hp = some t) (hK : K t) : m_Rn xs L 0 2520 0 [(0, .ref x0), (1, .int x1), (2, .int x2), (3, .int x3)] [] hp r := by
  unfold F12_setHas_0 at h
  refine g_in eF12_setHas_0 mx2520 ?_
  refine g_ch [(5, .int 0), (4, .int 0), (0, .ref x0), (1, .int x1), (2, .int x2), (3, .int x3)] [] (pc' := 6) rfl rfl rfl ?_
  refine g_end ?_
  exact r_lv (SF12_setHas_6 x0 x1 x2 x3 0 0 hp (K := K) k0 h hK) rfl ⟨rfl, rfl, rfl, rfl, rfl, rfl, trivial⟩
theorem OF12_setHas {x0 : Nat} {x1 : Int32} {x2 : Int32} {x3 : Int32} {hp : m_H} {x : Int32} (h : F12_setHas x0 x1 x2 x3 hp = some x) : m_isO hp 9 x0 = true := (m_gdd h).1
theorem SF12_setHas {xs : Nat → Int32} {L : Nat} {x0 : Nat} {x1 : Int32} {x2 : Int32} {x3 : Int32} {hp : m_H} {x : Int32} (h : F12_setHas x0 x1 x2 x3 hp = some x) : m_Rn xs L 0 2520 0 (lv_args 0 [.ref x0, .int x1, .int x2, .int x3]) [] hp (.inl (some (.int x)), hp) :=
  r_lv (SF12_setHas_0 x0 x1 x2 x3 hp (K := fun y => y = x) (fun y e => by rw [e]) (m_gdd h).2 rfl) rfl ⟨rfl, rfl, rfl, rfl, trivial⟩
-- F12_lasting: LendHouseModel.lasting(I)Z
theorem eF12_lasting_0 : m_Fe mi12_121 0 (m_ap [(.iconst 1, 1), (.istore_n 2, 1), (.iconst 0, 1), (.istore_n 3, 1)] ([])) := m_Fe_of nd2521 0 4 rfl
theorem eF12_lasting_4 : m_Fe mi12_121 4 (m_ap [(.iload_n 3, 1), (.iconst 5, 1)] ([(.if_icmp .ge 104, 3)])) := m_Fe_of nd2521 4 3 rfl
theorem eF12_lasting_110 : m_Fe mi12_121 110 (m_ap [(.iload_n 2, 1)] ([(.ireturn, 1)])) := m_Fe_of nd2521 66 2 rfl
theorem eF12_lasting_9 : m_Fe mi12_121 9 (m_ap [(.iconst 0, 1), (.istore 4, 2)] ([])) := m_Fe_of nd2521 7 2 rfl
theorem eF12_lasting_12 : m_Fe mi12_121 12 (m_ap [(.iload 4, 2), (.iconst 3, 1)] ([(.if_icmp .ge 89, 3)])) := m_Fe_of nd2521 9 3 rfl
theorem eF12_lasting_104 : m_Fe mi12_121 104 (m_ap [(.iinc 3 1, 3)] ([(.goto (-103), 3)])) := m_Fe_of nd2521 64 2 rfl
theorem eF12_lasting_18 : m_Fe mi12_121 18 (m_ap [(.sipush 4281, 3), (.bipush 15, 2), (.iload 4, 2), (.imul, 1), (.iadd, 1), (.iconst 3, 1), (.iload_n 3, 1), (.imul, 1)] (m_ap [(.iadd, 1), (.istore 5, 2), (.iload_n 2, 1)] ([(.ifCond .eq 62, 3)]))) := m_Fe_of nd2521 12 12 rfl
theorem eF12_lasting_96 : m_Fe mi12_121 96 (m_ap [(.iconst 0, 1)] ([])) := m_Fe_of nd2521 60 1 rfl
theorem eF12_lasting_97 : m_Fe mi12_121 97 (m_ap [(.istore_n 2, 1), (.iinc 4 1, 3)] ([(.goto (-89), 3)])) := m_Fe_of nd2521 61 3 rfl
theorem eF12_lasting_37 : m_Fe mi12_121 37 (m_ap [(.aload_n 0, 1), (.iload_n 1, 1), (.iload_n 3, 1), (.iconst 0, 1)] ((.invokevirtual 398, 3) :: (m_ap [(.aload_n 0, 1)] ((.getfield 14, 3) :: (m_ap [(.iload 5, 2)] ((.iaload, 1) :: ([(.if_icmp .gt 45, 3)]))))))) := m_Fe_of nd2521 24 10 rfl
theorem eF12_lasting_54 : m_Fe mi12_121 54 (m_ap [(.aload_n 0, 1), (.iload_n 1, 1), (.iload_n 3, 1), (.iconst 2, 1)] ((.invokevirtual 398, 3) :: (m_ap [(.aload_n 0, 1)] ((.getfield 14, 3) :: (m_ap [(.iload 5, 2), (.iconst 1, 1), (.iadd, 1)] ((.iaload, 1) :: ([(.if_icmp .lt 26, 3)]))))))) := m_Fe_of nd2521 34 12 rfl
theorem eF12_lasting_73 : m_Fe mi12_121 73 (m_ap [(.aload_n 0, 1), (.iload_n 1, 1), (.iload_n 3, 1), (.iconst 3, 1)] ((.invokevirtual 398, 3) :: (m_ap [(.aload_n 0, 1)] ((.getfield 14, 3) :: (m_ap [(.iload 5, 2), (.iconst 2, 1), (.iadd, 1)] ((.iaload, 1) :: ([(.if_icmp .lt 7, 3)]))))))) := m_Fe_of nd2521 46 12 rfl
theorem eF12_lasting_92 : m_Fe mi12_121 92 (m_ap [(.iconst 1, 1)] ([(.goto 4, 3)])) := m_Fe_of nd2521 58 2 rfl
theorem SF12_lasting_12b {xs : Nat → Int32} {L : Nat} (x0 : Nat) (x1 : Int32) (x3 : Int32) (hp : m_H) (s : Int32 × Int32) {r : m_O × m_H} {K : ((Int32 × Int32) ⊕ ((Int32 × Int32) ⊕ Int32)) → Prop} (k0 : ∀ x, K (.inr (.inr x)) → r = (.inl (some (.int x)), hp)) (k1 : ∀ s, K (.inr (.inl s)) → m_Rn xs L 1 2521 4 [(0, .ref x0), (1, .int x1), (2, .int s.1), (3, .int s.2)] [] hp r) (k2 : ∀ s, K (.inl s) → m_Rn xs L 1 2521 12 [(0, .ref x0), (1, .int x1), (2, .int s.1), (3, .int x3), (4, .int s.2)] [] hp r) {t : (Int32 × Int32) ⊕ ((Int32 × Int32) ⊕ Int32)} (h : F12_lasting_12b x0 x1 x3 hp s = some t) (hK : K t) : m_Rn xs L 1 2521 12 [(0, .ref x0), (1, .int x1), (2, .int s.1), (3, .int x3), (4, .int s.2)] [] hp r := by
  unfold F12_lasting_12b at h
  refine g_in eF12_lasting_12 mx2521 ?_
  refine g_ch [(0, .ref x0), (1, .int x1), (2, .int s.1), (3, .int x3), (4, .int s.2)] [.int 3, .int s.2] (pc' := 15) rfl rfl rfl ?_
  rcases m_ifd h with ⟨c1, h⟩ | ⟨c1, h⟩
  · refine g_if (t := 104) rfl (m_geT c1) ?_
    refine g_in eF12_lasting_104 mx2521 ?_
    refine g_ch [(3, .int (x3 + 1)), (0, .ref x0), (1, .int x1), (2, .int s.1), (4, .int s.2)] [] (pc' := 107) rfl rfl rfl ?_
    refine g_goto (t := 4) rfl ?_
    cases h
    exact r_lv (k1 (s.1, (x3 + 1)) hK) rfl ⟨rfl, rfl, rfl, rfl, trivial⟩
  · refine g_ifn (t := 104) rfl (m_geF c1) ?_
    refine g_in eF12_lasting_18 mx2521 ?_
    refine g_ch [(0, .ref x0), (1, .int x1), (2, .int s.1), (3, .int x3), (4, .int s.2)] [.int (3 * x3), .int (4281 + (15 * s.2))] (pc' := 30) rfl rfl rfl ?_
    refine g_ch [(5, .int ((4281 + (15 * s.2)) + (3 * x3))), (0, .ref x0), (1, .int x1), (2, .int s.1), (3, .int x3), (4, .int s.2)] [.int s.1] (pc' := 34) rfl rfl rfl ?_
    rcases m_ifd h with ⟨c2, h⟩ | ⟨c2, h⟩
    · refine g_ifc (t := 96) rfl (m_eqT c2) ?_
      refine g_in eF12_lasting_96 mx2521 ?_
      refine g_ch [(5, .int ((4281 + (15 * s.2)) + (3 * x3))), (0, .ref x0), (1, .int x1), (2, .int s.1), (3, .int x3), (4, .int s.2)] [.int 0] (pc' := 97) rfl rfl rfl ?_
      refine g_end ?_
      refine g_in eF12_lasting_97 mx2521 ?_
      refine g_ch [(4, .int (s.2 + 1)), (2, .int 0), (5, .int ((4281 + (15 * s.2)) + (3 * x3))), (0, .ref x0), (1, .int x1), (3, .int x3)] [] (pc' := 101) rfl rfl rfl ?_
      refine g_goto (t := 12) rfl ?_
      cases h
      exact r_lv (k2 (0, (s.2 + 1)) hK) rfl ⟨rfl, rfl, rfl, rfl, rfl, trivial⟩
    · refine g_ifcn (t := 96) rfl (m_eqF c2) ?_
      refine g_in eF12_lasting_37 mx2521 ?_
      refine g_ch [(5, .int ((4281 + (15 * s.2)) + (3 * x3))), (0, .ref x0), (1, .int x1), (2, .int s.1), (3, .int x3), (4, .int s.2)] [.int 0, .int x3, .int x1, .ref x0] (pc' := 41) rfl rfl rfl ?_
      obtain ⟨v4, e3, h⟩ := m_bd h
      refine g_call (v := some (.int v4)) (h := hp) (st' := [.int v4]) (D1 := 0) (as := [.ref x0, .int x1, .int x3, .int 0]) (Or.inr (Or.inl rfl)) q12_m398 (m_cv (as := [.int 0, .int x3, .int x1]) (rest := []) (Or.inl rfl) q12_m398 jv2520 (OF12_setHas e3) rfl rfl rfl rfl) (by decide) (SF12_setHas e3) rfl ?_
      refine g_ch [(5, .int ((4281 + (15 * s.2)) + (3 * x3))), (0, .ref x0), (1, .int x1), (2, .int s.1), (3, .int x3), (4, .int s.2)] [.ref x0, .int v4] (pc' := 45) rfl rfl rfl ?_
      obtain ⟨v5, e6, h⟩ := m_bd h
      refine g_gr q12_f14 e6 ?_
      refine g_ch [(5, .int ((4281 + (15 * s.2)) + (3 * x3))), (0, .ref x0), (1, .int x1), (2, .int s.1), (3, .int x3), (4, .int s.2)] [.int ((4281 + (15 * s.2)) + (3 * x3)), .ref v5, .int v4] (pc' := 50) rfl rfl rfl ?_
      obtain ⟨v7, e8, h⟩ := m_bd h
      refine g_ia e8 ?_
      rcases m_ifd h with ⟨c9, h⟩ | ⟨c9, h⟩
      · refine g_if (t := 96) rfl (m_gtT c9) ?_
        refine g_in eF12_lasting_96 mx2521 ?_
        refine g_ch [(5, .int ((4281 + (15 * s.2)) + (3 * x3))), (0, .ref x0), (1, .int x1), (2, .int s.1), (3, .int x3), (4, .int s.2)] [.int 0] (pc' := 97) rfl rfl rfl ?_
        refine g_end ?_
        refine g_in eF12_lasting_97 mx2521 ?_
        refine g_ch [(4, .int (s.2 + 1)), (2, .int 0), (5, .int ((4281 + (15 * s.2)) + (3 * x3))), (0, .ref x0), (1, .int x1), (3, .int x3)] [] (pc' := 101) rfl rfl rfl ?_
        refine g_goto (t := 12) rfl ?_
        cases h
        exact r_lv (k2 (0, (s.2 + 1)) hK) rfl ⟨rfl, rfl, rfl, rfl, rfl, trivial⟩
      · refine g_ifn (t := 96) rfl (m_gtF c9) ?_
        refine g_in eF12_lasting_54 mx2521 ?_
        refine g_ch [(5, .int ((4281 + (15 * s.2)) + (3 * x3))), (0, .ref x0), (1, .int x1), (2, .int s.1), (3, .int x3), (4, .int s.2)] [.int 2, .int x3, .int x1, .ref x0] (pc' := 58) rfl rfl rfl ?_
        obtain ⟨v11, e10, h⟩ := m_bd h
        refine g_call (v := some (.int v11)) (h := hp) (st' := [.int v11]) (D1 := 0) (as := [.ref x0, .int x1, .int x3, .int 2]) (Or.inr (Or.inl rfl)) q12_m398 (m_cv (as := [.int 2, .int x3, .int x1]) (rest := []) (Or.inl rfl) q12_m398 jv2520 (OF12_setHas e10) rfl rfl rfl rfl) (by decide) (SF12_setHas e10) rfl ?_
        refine g_ch [(5, .int ((4281 + (15 * s.2)) + (3 * x3))), (0, .ref x0), (1, .int x1), (2, .int s.1), (3, .int x3), (4, .int s.2)] [.ref x0, .int v11] (pc' := 62) rfl rfl rfl ?_
        obtain ⟨v12, e13, h⟩ := m_bd h
        refine g_gr q12_f14 e13 ?_
        refine g_ch [(5, .int ((4281 + (15 * s.2)) + (3 * x3))), (0, .ref x0), (1, .int x1), (2, .int s.1), (3, .int x3), (4, .int s.2)] [.int (((4281 + (15 * s.2)) + (3 * x3)) + 1), .ref v12, .int v11] (pc' := 69) rfl rfl rfl ?_
        obtain ⟨v14, e15, h⟩ := m_bd h
        refine g_ia e15 ?_
        rcases m_ifd h with ⟨c16, h⟩ | ⟨c16, h⟩
        · refine g_if (t := 96) rfl (m_ltT c16) ?_
          refine g_in eF12_lasting_96 mx2521 ?_
          refine g_ch [(5, .int ((4281 + (15 * s.2)) + (3 * x3))), (0, .ref x0), (1, .int x1), (2, .int s.1), (3, .int x3), (4, .int s.2)] [.int 0] (pc' := 97) rfl rfl rfl ?_
          refine g_end ?_
          refine g_in eF12_lasting_97 mx2521 ?_
          refine g_ch [(4, .int (s.2 + 1)), (2, .int 0), (5, .int ((4281 + (15 * s.2)) + (3 * x3))), (0, .ref x0), (1, .int x1), (3, .int x3)] [] (pc' := 101) rfl rfl rfl ?_
          refine g_goto (t := 12) rfl ?_
          cases h
          exact r_lv (k2 (0, (s.2 + 1)) hK) rfl ⟨rfl, rfl, rfl, rfl, rfl, trivial⟩
        · refine g_ifn (t := 96) rfl (m_ltF c16) ?_
          refine g_in eF12_lasting_73 mx2521 ?_
          refine g_ch [(5, .int ((4281 + (15 * s.2)) + (3 * x3))), (0, .ref x0), (1, .int x1), (2, .int s.1), (3, .int x3), (4, .int s.2)] [.int 3, .int x3, .int x1, .ref x0] (pc' := 77) rfl rfl rfl ?_
          obtain ⟨v18, e17, h⟩ := m_bd h
          refine g_call (v := some (.int v18)) (h := hp) (st' := [.int v18]) (D1 := 0) (as := [.ref x0, .int x1, .int x3, .int 3]) (Or.inr (Or.inl rfl)) q12_m398 (m_cv (as := [.int 3, .int x3, .int x1]) (rest := []) (Or.inl rfl) q12_m398 jv2520 (OF12_setHas e17) rfl rfl rfl rfl) (by decide) (SF12_setHas e17) rfl ?_
          refine g_ch [(5, .int ((4281 + (15 * s.2)) + (3 * x3))), (0, .ref x0), (1, .int x1), (2, .int s.1), (3, .int x3), (4, .int s.2)] [.ref x0, .int v18] (pc' := 81) rfl rfl rfl ?_
          obtain ⟨v19, e20, h⟩ := m_bd h
          refine g_gr q12_f14 e20 ?_
          refine g_ch [(5, .int ((4281 + (15 * s.2)) + (3 * x3))), (0, .ref x0), (1, .int x1), (2, .int s.1), (3, .int x3), (4, .int s.2)] [.int (((4281 + (15 * s.2)) + (3 * x3)) + 2), .ref v19, .int v18] (pc' := 88) rfl rfl rfl ?_
          obtain ⟨v21, e22, h⟩ := m_bd h
          refine g_ia e22 ?_
          rcases m_ifd h with ⟨c23, h⟩ | ⟨c23, h⟩
          · refine g_if (t := 96) rfl (m_ltT c23) ?_
            refine g_in eF12_lasting_96 mx2521 ?_
            refine g_ch [(5, .int ((4281 + (15 * s.2)) + (3 * x3))), (0, .ref x0), (1, .int x1), (2, .int s.1), (3, .int x3), (4, .int s.2)] [.int 0] (pc' := 97) rfl rfl rfl ?_
            refine g_end ?_
            refine g_in eF12_lasting_97 mx2521 ?_
            refine g_ch [(4, .int (s.2 + 1)), (2, .int 0), (5, .int ((4281 + (15 * s.2)) + (3 * x3))), (0, .ref x0), (1, .int x1), (3, .int x3)] [] (pc' := 101) rfl rfl rfl ?_
            refine g_goto (t := 12) rfl ?_
            cases h
            exact r_lv (k2 (0, (s.2 + 1)) hK) rfl ⟨rfl, rfl, rfl, rfl, rfl, trivial⟩
          · refine g_ifn (t := 96) rfl (m_ltF c23) ?_
            refine g_in eF12_lasting_92 mx2521 ?_
            refine g_ch [(5, .int ((4281 + (15 * s.2)) + (3 * x3))), (0, .ref x0), (1, .int x1), (2, .int s.1), (3, .int x3), (4, .int s.2)] [.int 1] (pc' := 93) rfl rfl rfl ?_
            refine g_goto (t := 97) rfl ?_
            refine g_in eF12_lasting_97 mx2521 ?_
            refine g_ch [(4, .int (s.2 + 1)), (2, .int 1), (5, .int ((4281 + (15 * s.2)) + (3 * x3))), (0, .ref x0), (1, .int x1), (3, .int x3)] [] (pc' := 101) rfl rfl rfl ?_
            refine g_goto (t := 12) rfl ?_
            cases h
            exact r_lv (k2 (1, (s.2 + 1)) hK) rfl ⟨rfl, rfl, rfl, rfl, rfl, trivial⟩
theorem SF12_lasting_12 {xs : Nat → Int32} {L : Nat} (x0 : Nat) (x1 : Int32) (x2 : Int32) (x3 : Int32) (x4 : Int32) (hp : m_H) {r : m_O × m_H} {K : (Int32 × Int32) ⊕ Int32 → Prop} (k0 : ∀ x, K (.inr x) → r = (.inl (some (.int x)), hp)) (k1 : ∀ s, K (.inl s) → m_Rn xs L 1 2521 4 [(0, .ref x0), (1, .int x1), (2, .int s.1), (3, .int s.2)] [] hp r) {t : (Int32 × Int32) ⊕ Int32} (h : F12_lasting_12 x0 x1 x2 x3 x4 hp = some t) (hK : K t) : m_Rn xs L 1 2521 12 [(0, .ref x0), (1, .int x1), (2, .int x2), (3, .int x3), (4, .int x4)] [] hp r :=
  m_wh_ok (P := fun s => m_Rn xs L 1 2521 12 [(0, .ref x0), (1, .int x1), (2, .int s.1), (3, .int x3), (4, .int s.2)] [] hp r) (Q := K) (fun s t hb hK => SF12_lasting_12b x0 x1 x3 hp s (K := m_KK (fun s => m_Rn xs L 1 2521 12 [(0, .ref x0), (1, .int x1), (2, .int s.1), (3, .int x3), (4, .int s.2)] [] hp r) K) k0 k1 (fun _ q => q) hb hK) m_N _ _ h hK
theorem SF12_lasting_4b {xs : Nat → Int32} {L : Nat} (x0 : Nat) (x1 : Int32) (hp : m_H) (s : Int32 × Int32) {r : m_O × m_H} {K : ((Int32 × Int32) ⊕ Int32) → Prop} (k0 : ∀ x, K (.inr x) → r = (.inl (some (.int x)), hp)) (k1 : ∀ s, K (.inl s) → m_Rn xs L 1 2521 4 [(0, .ref x0), (1, .int x1), (2, .int s.1), (3, .int s.2)] [] hp r) {t : (Int32 × Int32) ⊕ Int32} (h : F12_lasting_4b x0 x1 hp s = some t) (hK : K t) : m_Rn xs L 1 2521 4 [(0, .ref x0), (1, .int x1), (2, .int s.1), (3, .int s.2)] [] hp r := by
  unfold F12_lasting_4b at h
  refine g_in eF12_lasting_4 mx2521 ?_
  refine g_ch [(0, .ref x0), (1, .int x1), (2, .int s.1), (3, .int s.2)] [.int 5, .int s.2] (pc' := 6) rfl rfl rfl ?_
  rcases m_ifd h with ⟨c1, h⟩ | ⟨c1, h⟩
  · refine g_if (t := 110) rfl (m_geT c1) ?_
    refine g_in eF12_lasting_110 mx2521 ?_
    refine g_ch [(0, .ref x0), (1, .int x1), (2, .int s.1), (3, .int s.2)] [.int s.1] (pc' := 111) rfl rfl rfl ?_
    obtain ⟨e2, h⟩ := m_gdd h
    cases h
    rw [k0 _ hK]
    exact g_iret rfl e2
  · refine g_ifn (t := 110) rfl (m_geF c1) ?_
    refine g_in eF12_lasting_9 mx2521 ?_
    refine g_ch [(4, .int 0), (0, .ref x0), (1, .int x1), (2, .int s.1), (3, .int s.2)] [] (pc' := 12) rfl rfl rfl ?_
    refine g_end ?_
    exact r_lv (SF12_lasting_12 x0 x1 s.1 s.2 0 hp (K := K) k0 k1 h hK) rfl ⟨rfl, rfl, rfl, rfl, rfl, trivial⟩
theorem SF12_lasting_4 {xs : Nat → Int32} {L : Nat} (x0 : Nat) (x1 : Int32) (x2 : Int32) (x3 : Int32) (hp : m_H) {r : m_O × m_H} {K : Int32 → Prop} (k0 : ∀ x, K x → r = (.inl (some (.int x)), hp)) {t : Int32} (h : F12_lasting_4 x0 x1 x2 x3 hp = some t) (hK : K t) : m_Rn xs L 1 2521 4 [(0, .ref x0), (1, .int x1), (2, .int x2), (3, .int x3)] [] hp r :=
  m_wh_ok (P := fun s => m_Rn xs L 1 2521 4 [(0, .ref x0), (1, .int x1), (2, .int s.1), (3, .int s.2)] [] hp r) (Q := K) (fun s t hb hK => SF12_lasting_4b x0 x1 hp s (K := m_KK (fun s => m_Rn xs L 1 2521 4 [(0, .ref x0), (1, .int x1), (2, .int s.1), (3, .int s.2)] [] hp r) K) k0 (fun _ q => q) hb hK) m_N _ _ h hK
theorem SF12_lasting_0 {xs : Nat → Int32} {L : Nat} (x0 : Nat) (x1 : Int32) (hp : m_H) {r : m_O × m_H} {K : Int32 → Prop} (k0 : ∀ x, K x → r = (.inl (some (.int x)), hp)) {t : Int32} (h : F12_lasting_0 x0 x1 hp = some t) (hK : K t) : m_Rn xs L 1 2521 0 [(0, .ref x0), (1, .int x1)] [] hp r := by
  unfold F12_lasting_0 at h
  refine g_in eF12_lasting_0 mx2521 ?_
  refine g_ch [(3, .int 0), (2, .int 1), (0, .ref x0), (1, .int x1)] [] (pc' := 4) rfl rfl rfl ?_
  refine g_end ?_
  exact r_lv (SF12_lasting_4 x0 x1 1 0 hp (K := K) k0 h hK) rfl ⟨rfl, rfl, rfl, rfl, trivial⟩
theorem OF12_lasting {x0 : Nat} {x1 : Int32} {hp : m_H} {x : Int32} (h : F12_lasting x0 x1 hp = some x) : m_isO hp 9 x0 = true := (m_gdd h).1
theorem SF12_lasting {xs : Nat → Int32} {L : Nat} {x0 : Nat} {x1 : Int32} {hp : m_H} {x : Int32} (h : F12_lasting x0 x1 hp = some x) : m_Rn xs L 1 2521 0 (lv_args 0 [.ref x0, .int x1]) [] hp (.inl (some (.int x)), hp) :=
  r_lv (SF12_lasting_0 x0 x1 hp (K := fun y => y = x) (fun y e => by rw [e]) (m_gdd h).2 rfl) rfl ⟨rfl, rfl, trivial⟩
-- F12_costOf: LendHouseModel.costOf(I)I
theorem eF12_costOf_0 : m_Fe mi12_122 0 (m_ap [(.iconst 0, 1), (.istore_n 2, 1), (.iconst 0, 1), (.istore_n 3, 1)] ([])) := m_Fe_of nd2522 0 4 rfl
theorem eF12_costOf_4 : m_Fe mi12_122 4 (m_ap [(.iload_n 3, 1), (.iconst 5, 1)] ([(.if_icmp .ge 19, 3)])) := m_Fe_of nd2522 4 3 rfl
theorem eF12_costOf_25 : m_Fe mi12_122 25 (m_ap [(.iload_n 2, 1)] ([(.ireturn, 1)])) := m_Fe_of nd2522 17 2 rfl
theorem eF12_costOf_9 : m_Fe mi12_122 9 (m_ap [(.iload_n 2, 1), (.aload_n 0, 1), (.iload_n 1, 1), (.iload_n 3, 1), (.iconst 0, 1)] ((.invokevirtual 398, 3) :: (m_ap [(.iadd, 1), (.istore_n 2, 1), (.iinc 3 1, 3)] ([(.goto (-18), 3)])))) := m_Fe_of nd2522 7 10 rfl
theorem SF12_costOf_4b {xs : Nat → Int32} {L : Nat} (x0 : Nat) (x1 : Int32) (hp : m_H) (s : Int32 × Int32) {r : m_O × m_H} {K : ((Int32 × Int32) ⊕ Int32) → Prop} (k0 : ∀ x, K (.inr x) → r = (.inl (some (.int x)), hp)) (k1 : ∀ s, K (.inl s) → m_Rn xs L 1 2522 4 [(0, .ref x0), (1, .int x1), (2, .int s.1), (3, .int s.2)] [] hp r) {t : (Int32 × Int32) ⊕ Int32} (h : F12_costOf_4b x0 x1 hp s = some t) (hK : K t) : m_Rn xs L 1 2522 4 [(0, .ref x0), (1, .int x1), (2, .int s.1), (3, .int s.2)] [] hp r := by
  unfold F12_costOf_4b at h
  refine g_in eF12_costOf_4 mx2522 ?_
  refine g_ch [(0, .ref x0), (1, .int x1), (2, .int s.1), (3, .int s.2)] [.int 5, .int s.2] (pc' := 6) rfl rfl rfl ?_
  rcases m_ifd h with ⟨c1, h⟩ | ⟨c1, h⟩
  · refine g_if (t := 25) rfl (m_geT c1) ?_
    refine g_in eF12_costOf_25 mx2522 ?_
    refine g_ch [(0, .ref x0), (1, .int x1), (2, .int s.1), (3, .int s.2)] [.int s.1] (pc' := 26) rfl rfl rfl ?_
    cases h
    rw [k0 _ hK]
    exact g_iret rfl rfl
  · refine g_ifn (t := 25) rfl (m_geF c1) ?_
    refine g_in eF12_costOf_9 mx2522 ?_
    refine g_ch [(0, .ref x0), (1, .int x1), (2, .int s.1), (3, .int s.2)] [.int 0, .int s.2, .int x1, .ref x0, .int s.1] (pc' := 14) rfl rfl rfl ?_
    obtain ⟨v3, e2, h⟩ := m_bd h
    refine g_call (v := some (.int v3)) (h := hp) (st' := [.int v3, .int s.1]) (D1 := 0) (as := [.ref x0, .int x1, .int s.2, .int 0]) (Or.inr (Or.inl rfl)) q12_m398 (m_cv (as := [.int 0, .int s.2, .int x1]) (rest := [.int s.1]) (Or.inl rfl) q12_m398 jv2520 (OF12_setHas e2) rfl rfl rfl rfl) (by decide) (SF12_setHas e2) rfl ?_
    refine g_ch [(3, .int (s.2 + 1)), (2, .int (s.1 + v3)), (0, .ref x0), (1, .int x1)] [] (pc' := 22) rfl rfl rfl ?_
    refine g_goto (t := 4) rfl ?_
    cases h
    exact r_lv (k1 ((s.1 + v3), (s.2 + 1)) hK) rfl ⟨rfl, rfl, rfl, rfl, trivial⟩
theorem SF12_costOf_4 {xs : Nat → Int32} {L : Nat} (x0 : Nat) (x1 : Int32) (x2 : Int32) (x3 : Int32) (hp : m_H) {r : m_O × m_H} {K : Int32 → Prop} (k0 : ∀ x, K x → r = (.inl (some (.int x)), hp)) {t : Int32} (h : F12_costOf_4 x0 x1 x2 x3 hp = some t) (hK : K t) : m_Rn xs L 1 2522 4 [(0, .ref x0), (1, .int x1), (2, .int x2), (3, .int x3)] [] hp r :=
  m_wh_ok (P := fun s => m_Rn xs L 1 2522 4 [(0, .ref x0), (1, .int x1), (2, .int s.1), (3, .int s.2)] [] hp r) (Q := K) (fun s t hb hK => SF12_costOf_4b x0 x1 hp s (K := m_KK (fun s => m_Rn xs L 1 2522 4 [(0, .ref x0), (1, .int x1), (2, .int s.1), (3, .int s.2)] [] hp r) K) k0 (fun _ q => q) hb hK) m_N _ _ h hK
theorem SF12_costOf_0 {xs : Nat → Int32} {L : Nat} (x0 : Nat) (x1 : Int32) (hp : m_H) {r : m_O × m_H} {K : Int32 → Prop} (k0 : ∀ x, K x → r = (.inl (some (.int x)), hp)) {t : Int32} (h : F12_costOf_0 x0 x1 hp = some t) (hK : K t) : m_Rn xs L 1 2522 0 [(0, .ref x0), (1, .int x1)] [] hp r := by
  unfold F12_costOf_0 at h
  refine g_in eF12_costOf_0 mx2522 ?_
  refine g_ch [(3, .int 0), (2, .int 0), (0, .ref x0), (1, .int x1)] [] (pc' := 4) rfl rfl rfl ?_
  refine g_end ?_
  exact r_lv (SF12_costOf_4 x0 x1 0 0 hp (K := K) k0 h hK) rfl ⟨rfl, rfl, rfl, rfl, trivial⟩
theorem OF12_costOf {x0 : Nat} {x1 : Int32} {hp : m_H} {x : Int32} (h : F12_costOf x0 x1 hp = some x) : m_isO hp 9 x0 = true := (m_gdd h).1
theorem SF12_costOf {xs : Nat → Int32} {L : Nat} {x0 : Nat} {x1 : Int32} {hp : m_H} {x : Int32} (h : F12_costOf x0 x1 hp = some x) : m_Rn xs L 1 2522 0 (lv_args 0 [.ref x0, .int x1]) [] hp (.inl (some (.int x)), hp) :=
  r_lv (SF12_costOf_0 x0 x1 hp (K := fun y => y = x) (fun y e => by rw [e]) (m_gdd h).2 rfl) rfl ⟨rfl, rfl, trivial⟩
-- F12_lasts: LendHouseModel.lasts()I
theorem eF12_lasts_0 : m_Fe mi12_123 0 (m_ap [(.aload_n 0, 1), (.iconst 0, 1)] ((.putfield 3, 3) :: (m_ap [(.iconst (-1), 1), (.istore_n 1, 1), (.iconst 0, 1), (.istore_n 2, 1)] ([])))) := m_Fe_of nd2523 0 7 rfl
theorem eF12_lasts_9 : m_Fe mi12_123 9 (m_ap [(.iload_n 2, 1), (.iconst 1, 1), (.aload_n 0, 1)] ((.getfield 14, 3) :: (m_ap [(.sipush 4248, 3)] ((.iaload, 1) :: (m_ap [(.ishl, 1)] ([(.if_icmp .ge 64, 3)])))))) := m_Fe_of nd2523 7 8 rfl
theorem eF12_lasts_84 : m_Fe mi12_123 84 (m_ap [(.iload_n 1, 1)] ([(.ireturn, 1)])) := m_Fe_of nd2523 46 2 rfl
theorem eF12_lasts_23 : m_Fe mi12_123 23 (m_ap [(.aload_n 0, 1), (.iload_n 2, 1)] ((.invokevirtual 401, 3) :: ([(.ifCond .ne 6, 3)]))) := m_Fe_of nd2523 15 4 rfl
theorem eF12_lasts_34 : m_Fe mi12_123 34 (m_ap [(.aload_n 0, 1), (.iload_n 2, 1)] ((.invokevirtual 404, 3) :: (m_ap [(.istore_n 3, 1), (.iload_n 1, 1)] ([(.ifCond .lt 35, 3)])))) := m_Fe_of nd2523 20 6 rfl
theorem eF12_lasts_76 : m_Fe mi12_123 76 (m_ap [(.iload_n 2, 1), (.istore_n 1, 1)] ([])) := m_Fe_of nd2523 42 2 rfl
theorem eF12_lasts_78 : m_Fe mi12_123 78 (m_ap [(.iinc 2 1, 3)] ([(.goto (-72), 3)])) := m_Fe_of nd2523 44 2 rfl
theorem eF12_lasts_44 : m_Fe mi12_123 44 (m_ap [(.iload_n 3, 1), (.aload_n 0, 1), (.iload_n 1, 1)] ((.invokevirtual 404, 3) :: ([(.if_icmp .gt 28, 3)]))) := m_Fe_of nd2523 26 5 rfl
theorem eF12_lasts_53 : m_Fe mi12_123 53 (m_ap [(.iload_n 3, 1), (.aload_n 0, 1), (.iload_n 1, 1)] ((.invokevirtual 404, 3) :: ([(.if_icmp .ne 17, 3)]))) := m_Fe_of nd2523 31 5 rfl
theorem eF12_lasts_62 : m_Fe mi12_123 62 (m_ap [(.iload_n 2, 1)] ((.invokestatic 407, 3) :: (m_ap [(.iload_n 1, 1)] ((.invokestatic 407, 3) :: ([(.if_icmp .lt 6, 3)]))))) := m_Fe_of nd2523 36 5 rfl
theorem eF12_lasts_73 : m_Fe mi12_123 73 ([(.goto 5, 3)]) := m_Fe_of nd2523 41 1 rfl
theorem eF12_lasts_31 : m_Fe mi12_123 31 ([(.goto 47, 3)]) := m_Fe_of nd2523 19 1 rfl
theorem SF12_lasts_9b {xs : Nat → Int32} {L : Nat} (x0 : Nat) (hp : m_H) (s : Int32 × Int32) {r : m_O × m_H} {K : ((Int32 × Int32) ⊕ (Int32 × m_H)) → Prop} (k0 : ∀ x, K (.inr x) → r = (.inl (some (.int x.1)), x.2)) (k1 : ∀ s, K (.inl s) → m_Rn xs L 2 2523 9 [(0, .ref x0), (1, .int s.1), (2, .int s.2)] [] hp r) {t : (Int32 × Int32) ⊕ (Int32 × m_H)} (h : F12_lasts_9b x0 hp s = some t) (hK : K t) : m_Rn xs L 2 2523 9 [(0, .ref x0), (1, .int s.1), (2, .int s.2)] [] hp r := by
  unfold F12_lasts_9b at h
  refine g_in eF12_lasts_9 mx2523 ?_
  refine g_ch [(0, .ref x0), (1, .int s.1), (2, .int s.2)] [.ref x0, .int 1, .int s.2] (pc' := 12) rfl rfl rfl ?_
  obtain ⟨v1, e2, h⟩ := m_bd h
  refine g_gr q12_f14 e2 ?_
  refine g_ch [(0, .ref x0), (1, .int s.1), (2, .int s.2)] [.int 4248, .ref v1, .int 1, .int s.2] (pc' := 18) rfl rfl rfl ?_
  obtain ⟨v3, e4, h⟩ := m_bd h
  refine g_ia e4 ?_
  refine g_ch [(0, .ref x0), (1, .int s.1), (2, .int s.2)] [.int (1 <<< (v3 &&& 31)), .int s.2] (pc' := 20) rfl rfl rfl ?_
  rcases m_ifd h with ⟨c5, h⟩ | ⟨c5, h⟩
  · refine g_if (t := 84) rfl (m_geT c5) ?_
    refine g_in eF12_lasts_84 mx2523 ?_
    refine g_ch [(0, .ref x0), (1, .int s.1), (2, .int s.2)] [.int s.1] (pc' := 85) rfl rfl rfl ?_
    cases h
    rw [k0 _ hK]
    exact g_iret rfl rfl
  · refine g_ifn (t := 84) rfl (m_geF c5) ?_
    refine g_in eF12_lasts_23 mx2523 ?_
    refine g_ch [(0, .ref x0), (1, .int s.1), (2, .int s.2)] [.int s.2, .ref x0] (pc' := 25) rfl rfl rfl ?_
    obtain ⟨v7, e6, h⟩ := m_bd h
    refine g_call (v := some (.int v7)) (h := hp) (st' := [.int v7]) (D1 := 1) (as := [.ref x0, .int s.2]) (Or.inr (Or.inl rfl)) q12_m401 (m_cv (as := [.int s.2]) (rest := []) (Or.inl rfl) q12_m401 jv2521 (OF12_lasting e6) rfl rfl rfl rfl) (by decide) (SF12_lasting e6) rfl ?_
    rcases m_ifd h with ⟨c8, h⟩ | ⟨c8, h⟩
    · refine g_ifcn (t := 34) rfl (m_neF c8) ?_
      refine g_in eF12_lasts_31 mx2523 ?_
      refine g_goto (t := 78) rfl ?_
      refine g_in eF12_lasts_78 mx2523 ?_
      refine g_ch [(2, .int (s.2 + 1)), (0, .ref x0), (1, .int s.1)] [] (pc' := 81) rfl rfl rfl ?_
      refine g_goto (t := 9) rfl ?_
      cases h
      exact r_lv (k1 (s.1, (s.2 + 1)) hK) rfl ⟨rfl, rfl, rfl, trivial⟩
    · refine g_ifc (t := 34) rfl (m_neT c8) ?_
      refine g_in eF12_lasts_34 mx2523 ?_
      refine g_ch [(0, .ref x0), (1, .int s.1), (2, .int s.2)] [.int s.2, .ref x0] (pc' := 36) rfl rfl rfl ?_
      obtain ⟨v10, e9, h⟩ := m_bd h
      refine g_call (v := some (.int v10)) (h := hp) (st' := [.int v10]) (D1 := 1) (as := [.ref x0, .int s.2]) (Or.inr (Or.inl rfl)) q12_m404 (m_cv (as := [.int s.2]) (rest := []) (Or.inl rfl) q12_m404 jv2522 (OF12_costOf e9) rfl rfl rfl rfl) (by decide) (SF12_costOf e9) rfl ?_
      refine g_ch [(3, .int v10), (0, .ref x0), (1, .int s.1), (2, .int s.2)] [.int s.1] (pc' := 41) rfl rfl rfl ?_
      rcases m_ifd h with ⟨c11, h⟩ | ⟨c11, h⟩
      · refine g_ifc (t := 76) rfl (m_ltT c11) ?_
        refine g_in eF12_lasts_76 mx2523 ?_
        refine g_ch [(1, .int s.2), (3, .int v10), (0, .ref x0), (2, .int s.2)] [] (pc' := 78) rfl rfl rfl ?_
        refine g_end ?_
        refine g_in eF12_lasts_78 mx2523 ?_
        refine g_ch [(2, .int (s.2 + 1)), (1, .int s.2), (3, .int v10), (0, .ref x0)] [] (pc' := 81) rfl rfl rfl ?_
        refine g_goto (t := 9) rfl ?_
        cases h
        exact r_lv (k1 (s.2, (s.2 + 1)) hK) rfl ⟨rfl, rfl, rfl, trivial⟩
      · refine g_ifcn (t := 76) rfl (m_ltF c11) ?_
        refine g_in eF12_lasts_44 mx2523 ?_
        refine g_ch [(3, .int v10), (0, .ref x0), (1, .int s.1), (2, .int s.2)] [.int s.1, .ref x0, .int v10] (pc' := 47) rfl rfl rfl ?_
        obtain ⟨v13, e12, h⟩ := m_bd h
        refine g_call (v := some (.int v13)) (h := hp) (st' := [.int v13, .int v10]) (D1 := 1) (as := [.ref x0, .int s.1]) (Or.inr (Or.inl rfl)) q12_m404 (m_cv (as := [.int s.1]) (rest := [.int v10]) (Or.inl rfl) q12_m404 jv2522 (OF12_costOf e12) rfl rfl rfl rfl) (by decide) (SF12_costOf e12) rfl ?_
        rcases m_ifd h with ⟨c14, h⟩ | ⟨c14, h⟩
        · refine g_if (t := 78) rfl (m_gtT c14) ?_
          refine g_in eF12_lasts_78 mx2523 ?_
          refine g_ch [(2, .int (s.2 + 1)), (3, .int v10), (0, .ref x0), (1, .int s.1)] [] (pc' := 81) rfl rfl rfl ?_
          refine g_goto (t := 9) rfl ?_
          cases h
          exact r_lv (k1 (s.1, (s.2 + 1)) hK) rfl ⟨rfl, rfl, rfl, trivial⟩
        · refine g_ifn (t := 78) rfl (m_gtF c14) ?_
          refine g_in eF12_lasts_53 mx2523 ?_
          refine g_ch [(3, .int v10), (0, .ref x0), (1, .int s.1), (2, .int s.2)] [.int s.1, .ref x0, .int v10] (pc' := 56) rfl rfl rfl ?_
          obtain ⟨v16, e15, h⟩ := m_bd h
          refine g_call (v := some (.int v16)) (h := hp) (st' := [.int v16, .int v10]) (D1 := 1) (as := [.ref x0, .int s.1]) (Or.inr (Or.inl rfl)) q12_m404 (m_cv (as := [.int s.1]) (rest := [.int v10]) (Or.inl rfl) q12_m404 jv2522 (OF12_costOf e15) rfl rfl rfl rfl) (by decide) (SF12_costOf e15) rfl ?_
          rcases m_ifd h with ⟨c17, h⟩ | ⟨c17, h⟩
          · refine g_ifn (t := 76) rfl (m_neF c17) ?_
            refine g_in eF12_lasts_62 mx2523 ?_
            refine g_ch [(3, .int v10), (0, .ref x0), (1, .int s.1), (2, .int s.2)] [.int s.2] (pc' := 63) rfl rfl rfl ?_
            obtain ⟨v19, e18, h⟩ := m_bd h
            refine g_call (v := some (.int v19)) (h := hp) (st' := [.int v19]) (D1 := 0) (as := [.int s.2]) (Or.inl rfl) q12_m407 (m_cs (as := [.int s.2]) (rest := []) q12_m407 jv2800 rfl rfl rfl rfl rfl) (by decide) (SF14_bitCount e18) rfl ?_
            refine g_ch [(3, .int v10), (0, .ref x0), (1, .int s.1), (2, .int s.2)] [.int s.1, .int v19] (pc' := 67) rfl rfl rfl ?_
            obtain ⟨v21, e20, h⟩ := m_bd h
            refine g_call (v := some (.int v21)) (h := hp) (st' := [.int v21, .int v19]) (D1 := 0) (as := [.int s.1]) (Or.inl rfl) q12_m407 (m_cs (as := [.int s.1]) (rest := [.int v19]) q12_m407 jv2800 rfl rfl rfl rfl rfl) (by decide) (SF14_bitCount e20) rfl ?_
            rcases m_ifd h with ⟨c22, h⟩ | ⟨c22, h⟩
            · refine g_if (t := 76) rfl (m_ltT c22) ?_
              refine g_in eF12_lasts_76 mx2523 ?_
              refine g_ch [(1, .int s.2), (3, .int v10), (0, .ref x0), (2, .int s.2)] [] (pc' := 78) rfl rfl rfl ?_
              refine g_end ?_
              refine g_in eF12_lasts_78 mx2523 ?_
              refine g_ch [(2, .int (s.2 + 1)), (1, .int s.2), (3, .int v10), (0, .ref x0)] [] (pc' := 81) rfl rfl rfl ?_
              refine g_goto (t := 9) rfl ?_
              cases h
              exact r_lv (k1 (s.2, (s.2 + 1)) hK) rfl ⟨rfl, rfl, rfl, trivial⟩
            · refine g_ifn (t := 76) rfl (m_ltF c22) ?_
              refine g_in eF12_lasts_73 mx2523 ?_
              refine g_goto (t := 78) rfl ?_
              refine g_in eF12_lasts_78 mx2523 ?_
              refine g_ch [(2, .int (s.2 + 1)), (3, .int v10), (0, .ref x0), (1, .int s.1)] [] (pc' := 81) rfl rfl rfl ?_
              refine g_goto (t := 9) rfl ?_
              cases h
              exact r_lv (k1 (s.1, (s.2 + 1)) hK) rfl ⟨rfl, rfl, rfl, trivial⟩
          · refine g_if (t := 76) rfl (m_neT c17) ?_
            refine g_in eF12_lasts_76 mx2523 ?_
            refine g_ch [(1, .int s.2), (3, .int v10), (0, .ref x0), (2, .int s.2)] [] (pc' := 78) rfl rfl rfl ?_
            refine g_end ?_
            refine g_in eF12_lasts_78 mx2523 ?_
            refine g_ch [(2, .int (s.2 + 1)), (1, .int s.2), (3, .int v10), (0, .ref x0)] [] (pc' := 81) rfl rfl rfl ?_
            refine g_goto (t := 9) rfl ?_
            cases h
            exact r_lv (k1 (s.2, (s.2 + 1)) hK) rfl ⟨rfl, rfl, rfl, trivial⟩
theorem SF12_lasts_9 {xs : Nat → Int32} {L : Nat} (x0 : Nat) (x1 : Int32) (x2 : Int32) (hp : m_H) {r : m_O × m_H} {K : Int32 × m_H → Prop} (k0 : ∀ x, K x → r = (.inl (some (.int x.1)), x.2)) {t : Int32 × m_H} (h : F12_lasts_9 x0 x1 x2 hp = some t) (hK : K t) : m_Rn xs L 2 2523 9 [(0, .ref x0), (1, .int x1), (2, .int x2)] [] hp r :=
  m_wh_ok (P := fun s => m_Rn xs L 2 2523 9 [(0, .ref x0), (1, .int s.1), (2, .int s.2)] [] hp r) (Q := K) (fun s t hb hK => SF12_lasts_9b x0 hp s (K := m_KK (fun s => m_Rn xs L 2 2523 9 [(0, .ref x0), (1, .int s.1), (2, .int s.2)] [] hp r) K) k0 (fun _ q => q) hb hK) m_N _ _ h hK
theorem SF12_lasts_0 {xs : Nat → Int32} {L : Nat} (x0 : Nat) (hp : m_H) {r : m_O × m_H} {K : (Int32 × m_H) → Prop} (k0 : ∀ x, K x → r = (.inl (some (.int x.1)), x.2)) {t : Int32 × m_H} (h : F12_lasts_0 x0 hp = some t) (hK : K t) : m_Rn xs L 2 2523 0 [(0, .ref x0)] [] hp r := by
  unfold F12_lasts_0 at h
  refine g_in eF12_lasts_0 mx2523 ?_
  refine g_ch [(0, .ref x0)] [.int 0, .ref x0] (pc' := 2) rfl rfl rfl ?_
  obtain ⟨h1, e2, h⟩ := m_bd h
  refine g_pf q12_f3 e2 ?_
  refine g_ch [(2, .int 0), (1, .int (-1)), (0, .ref x0)] [] (pc' := 9) rfl rfl rfl ?_
  refine g_end ?_
  exact r_lv (SF12_lasts_9 x0 (-1) 0 h1 (K := K) k0 h hK) rfl ⟨rfl, rfl, rfl, trivial⟩
theorem OF12_lasts {x0 : Nat} {hp : m_H} {x : Int32 × m_H} (h : F12_lasts x0 hp = some x) : m_isO hp 9 x0 = true := (m_gdd h).1
theorem SF12_lasts {xs : Nat → Int32} {L : Nat} {x0 : Nat} {hp : m_H} {x : Int32 × m_H} (h : F12_lasts x0 hp = some x) : m_Rn xs L 2 2523 0 (lv_args 0 [.ref x0]) [] hp (.inl (some (.int x.1)), x.2) :=
  r_lv (SF12_lasts_0 x0 hp (K := fun y => y = x) (fun y e => by rw [e]) (m_gdd h).2 rfl) rfl ⟨rfl, trivial⟩
-- F12_cash: LendHouseModel.cash(IIIII)I
theorem eF12_cash_0 : m_Fe mi12_124 0 (m_ap [(.aload_n 0, 1), (.iconst 0, 1)] ((.putfield 3, 3) :: (m_ap [(.aload_n 0, 1), (.iload_n 1, 1)] ([(.ifCond .lt 21, 3)])))) := m_Fe_of nd2524 0 6 rfl
theorem eF12_cash_10 : m_Fe mi12_124 10 (m_ap [(.iload_n 2, 1)] ([(.ifCond .lt 17, 3)])) := m_Fe_of nd2524 6 2 rfl
theorem eF12_cash_14 : m_Fe mi12_124 14 (m_ap [(.iload_n 3, 1)] ([(.ifCond .lt 13, 3)])) := m_Fe_of nd2524 8 2 rfl
theorem eF12_cash_18 : m_Fe mi12_124 18 (m_ap [(.iload 4, 2)] ([(.ifCond .lt 8, 3)])) := m_Fe_of nd2524 10 2 rfl
theorem eF12_cash_23 : m_Fe mi12_124 23 (m_ap [(.iload 5, 2)] ([(.ifCond .ge 7, 3)])) := m_Fe_of nd2524 12 2 rfl
theorem eF12_cash_32 : m_Fe mi12_124 32 (m_ap [(.iconst 0, 1)] ([])) := m_Fe_of nd2524 16 1 rfl
theorem eF12_cash_28 : m_Fe mi12_124 28 (m_ap [(.iconst 1, 1)] ([(.goto 4, 3)])) := m_Fe_of nd2524 14 2 rfl
theorem eF12_cash_33 : m_Fe mi12_124 33 (m_ap [(.iconst 1, 1)] ((.invokevirtual 82, 3) :: ([(.ifCond .eq 5, 3)]))) := m_Fe_of nd2524 17 3 rfl
theorem eF12_cash_42 : m_Fe mi12_124 42 (m_ap [(.aload_n 0, 1)] ((.getfield 64, 3) :: (m_ap [(.iconst 1, 1), (.iload_n 1, 1), (.i2l, 1)] ((.lastore, 1) :: (m_ap [(.aload_n 0, 1)] ((.getfield 64, 3) :: (m_ap [(.iconst 2, 1), (.iload_n 2, 1), (.i2l, 1)] ((.lastore, 1) :: (m_ap [(.aload_n 0, 1)] ((.getfield 64, 3) :: (m_ap [(.iconst 3, 1), (.iload_n 3, 1), (.i2l, 1)] ((.lastore, 1) :: (m_ap [(.aload_n 0, 1)] ((.getfield 64, 3) :: (m_ap [(.iconst 4, 1), (.iload 4, 2), (.i2l, 1)] ((.lastore, 1) :: (m_ap [(.aload_n 0, 1)] ((.getfield 64, 3) :: (m_ap [(.iconst 5, 1), (.iload 5, 2), (.i2l, 1)] ((.lastore, 1) :: (m_ap [(.iconst 0, 1), (.istore 6, 2)] ([])))))))))))))))))))))) := m_Fe_of nd2524 22 32 rfl
theorem eF12_cash_40 : m_Fe mi12_124 40 (m_ap [(.iconst 0, 1)] ([(.ireturn, 1)])) := m_Fe_of nd2524 20 2 rfl
theorem eF12_cash_87 : m_Fe mi12_124 87 (m_ap [(.iload 6, 2), (.aload_n 0, 1)] ((.getfield 14, 3) :: (m_ap [(.sipush 807, 3)] ((.iaload, 1) :: ([(.if_icmp .ge 81, 3)]))))) := m_Fe_of nd2524 54 6 rfl
theorem eF12_cash_178 : m_Fe mi12_124 178 (m_ap [(.iconst (-1), 1)] ([(.ireturn, 1)])) := m_Fe_of nd2524 103 2 rfl
theorem eF12_cash_100 : m_Fe mi12_124 100 (m_ap [(.aload_n 0, 1), (.iload 6, 2), (.bipush 6, 2)] ((.invokevirtual 115, 3) :: ([(.ifCond .ge 6, 3)]))) := m_Fe_of nd2524 60 5 rfl
theorem eF12_cash_114 : m_Fe mi12_124 114 (m_ap [(.aload_n 0, 1), (.iload 6, 2), (.iconst 1, 1)] ((.invokevirtual 115, 3) :: (m_ap [(.i2l, 1), (.aload_n 0, 1), (.iload 6, 2), (.bipush 19, 2)] ((.invokevirtual 115, 3) :: (m_ap [(.i2l, 1), (.lmul, 1), (.lstore 7, 2), (.lload 7, 2), (.aload_n 0, 1)] ((.getfield 64, 3) :: (m_ap [(.aload_n 0, 1), (.iload 6, 2), (.iconst 2, 1)] ((.invokevirtual 115, 3) :: ((.laload, 1) :: (m_ap [(.lcmp, 1)] ([(.ifCond .le 6, 3)]))))))))))) := m_Fe_of nd2524 66 22 rfl
theorem eF12_cash_155 : m_Fe mi12_124 155 (m_ap [(.aload_n 0, 1)] ((.getfield 64, 3) :: (m_ap [(.aload_n 0, 1), (.iload 6, 2), (.iconst 2, 1)] ((.invokevirtual 115, 3) :: (m_ap [(.dup2, 1)] ((.laload, 1) :: (m_ap [(.lload 7, 2), (.lsub, 1)] ([(.lastore, 1)])))))))) := m_Fe_of nd2524 90 11 rfl
theorem eF12_cash_172 : m_Fe mi12_124 172 (m_ap [(.iinc 6 1, 3)] ([(.goto (-88), 3)])) := m_Fe_of nd2524 101 2 rfl
theorem eF12_cash_152 : m_Fe mi12_124 152 (m_ap [(.iload 6, 2)] ([(.ireturn, 1)])) := m_Fe_of nd2524 88 2 rfl
theorem eF12_cash_111 : m_Fe mi12_124 111 ([(.goto 61, 3)]) := m_Fe_of nd2524 65 1 rfl
theorem SF12_cash_87b {xs : Nat → Int32} {L : Nat} (x0 : Nat) (s : Int32 × m_H) {r : m_O × m_H} {K : ((Int32 × m_H) ⊕ (Int32 × m_H)) → Prop} (k0 : ∀ x, K (.inr x) → r = (.inl (some (.int x.1)), x.2)) (k1 : ∀ s, K (.inl s) → m_Rn xs L 2 2524 87 [(0, .ref x0), (6, .int s.1)] [] s.2 r) {t : (Int32 × m_H) ⊕ (Int32 × m_H)} (h : F12_cash_87b x0 s = some t) (hK : K t) : m_Rn xs L 2 2524 87 [(0, .ref x0), (6, .int s.1)] [] s.2 r := by
  unfold F12_cash_87b at h
  refine g_in eF12_cash_87 mx2524 ?_
  refine g_ch [(0, .ref x0), (6, .int s.1)] [.ref x0, .int s.1] (pc' := 90) rfl rfl rfl ?_
  obtain ⟨v1, e2, h⟩ := m_bd h
  refine g_gr q12_f14 e2 ?_
  refine g_ch [(0, .ref x0), (6, .int s.1)] [.int 807, .ref v1, .int s.1] (pc' := 96) rfl rfl rfl ?_
  obtain ⟨v3, e4, h⟩ := m_bd h
  refine g_ia e4 ?_
  rcases m_ifd h with ⟨c5, h⟩ | ⟨c5, h⟩
  · refine g_if (t := 178) rfl (m_geT c5) ?_
    refine g_in eF12_cash_178 mx2524 ?_
    refine g_ch [(0, .ref x0), (6, .int s.1)] [.int (-1)] (pc' := 179) rfl rfl rfl ?_
    cases h
    rw [k0 _ hK]
    exact g_iret rfl rfl
  · refine g_ifn (t := 178) rfl (m_geF c5) ?_
    refine g_in eF12_cash_100 mx2524 ?_
    refine g_ch [(0, .ref x0), (6, .int s.1)] [.int 6, .int s.1, .ref x0] (pc' := 105) rfl rfl rfl ?_
    obtain ⟨v7, e6, h⟩ := m_bd h
    refine g_call (v := some (.int v7)) (h := s.2) (st' := [.int v7]) (D1 := 1) (as := [.ref x0, .int s.1, .int 6]) (Or.inr (Or.inl rfl)) q12_m115 (m_cv (as := [.int 6, .int s.1]) (rest := []) (Or.inl rfl) q12_m115 jv2426 (OF12_of e6) rfl rfl rfl rfl) (by decide) (SF12_of e6) rfl ?_
    rcases m_ifd h with ⟨c8, h⟩ | ⟨c8, h⟩
    · refine g_ifc (t := 114) rfl (m_geT c8) ?_
      refine g_in eF12_cash_114 mx2524 ?_
      refine g_ch [(0, .ref x0), (6, .int s.1)] [.int 1, .int s.1, .ref x0] (pc' := 118) rfl rfl rfl ?_
      obtain ⟨v10, e9, h⟩ := m_bd h
      refine g_call (v := some (.int v10)) (h := s.2) (st' := [.int v10]) (D1 := 1) (as := [.ref x0, .int s.1, .int 1]) (Or.inr (Or.inl rfl)) q12_m115 (m_cv (as := [.int 1, .int s.1]) (rest := []) (Or.inl rfl) q12_m115 jv2426 (OF12_of e9) rfl rfl rfl rfl) (by decide) (SF12_of e9) rfl ?_
      refine g_ch [(0, .ref x0), (6, .int s.1)] [.int 19, .int s.1, .ref x0, .long (m_i2l v10)] (pc' := 127) rfl rfl rfl ?_
      obtain ⟨v12, e11, h⟩ := m_bd h
      refine g_call (v := some (.int v12)) (h := s.2) (st' := [.int v12, .long (m_i2l v10)]) (D1 := 1) (as := [.ref x0, .int s.1, .int 19]) (Or.inr (Or.inl rfl)) q12_m115 (m_cv (as := [.int 19, .int s.1]) (rest := [.long (m_i2l v10)]) (Or.inl rfl) q12_m115 jv2426 (OF12_of e11) rfl rfl rfl rfl) (by decide) (SF12_of e11) rfl ?_
      refine g_ch [(7, .long ((m_i2l v10) * (m_i2l v12))), (0, .ref x0), (6, .int s.1)] [.ref x0, .long ((m_i2l v10) * (m_i2l v12))] (pc' := 137) rfl rfl rfl ?_
      obtain ⟨v13, e14, h⟩ := m_bd h
      refine g_gr q12_f64 e14 ?_
      refine g_ch [(7, .long ((m_i2l v10) * (m_i2l v12))), (0, .ref x0), (6, .int s.1)] [.int 2, .int s.1, .ref x0, .ref v13, .long ((m_i2l v10) * (m_i2l v12))] (pc' := 144) rfl rfl rfl ?_
      obtain ⟨v16, e15, h⟩ := m_bd h
      refine g_call (v := some (.int v16)) (h := s.2) (st' := [.int v16, .ref v13, .long ((m_i2l v10) * (m_i2l v12))]) (D1 := 1) (as := [.ref x0, .int s.1, .int 2]) (Or.inr (Or.inl rfl)) q12_m115 (m_cv (as := [.int 2, .int s.1]) (rest := [.ref v13, .long ((m_i2l v10) * (m_i2l v12))]) (Or.inl rfl) q12_m115 jv2426 (OF12_of e15) rfl rfl rfl rfl) (by decide) (SF12_of e15) rfl ?_
      obtain ⟨v17, e18, h⟩ := m_bd h
      refine g_la e18 ?_
      refine g_ch [(7, .long ((m_i2l v10) * (m_i2l v12))), (0, .ref x0), (6, .int s.1)] [.int (lg_cmp ((m_i2l v10) * (m_i2l v12)) v17)] (pc' := 149) rfl rfl rfl ?_
      rcases m_ifd h with ⟨c19, h⟩ | ⟨c19, h⟩
      · refine g_ifc (t := 155) rfl (m_leT c19) ?_
        refine g_in eF12_cash_155 mx2524 ?_
        refine g_ch [(7, .long ((m_i2l v10) * (m_i2l v12))), (0, .ref x0), (6, .int s.1)] [.ref x0] (pc' := 156) rfl rfl rfl ?_
        obtain ⟨v20, e21, h⟩ := m_bd h
        refine g_gr q12_f64 e21 ?_
        refine g_ch [(7, .long ((m_i2l v10) * (m_i2l v12))), (0, .ref x0), (6, .int s.1)] [.int 2, .int s.1, .ref x0, .ref v20] (pc' := 163) rfl rfl rfl ?_
        obtain ⟨v23, e22, h⟩ := m_bd h
        refine g_call (v := some (.int v23)) (h := s.2) (st' := [.int v23, .ref v20]) (D1 := 1) (as := [.ref x0, .int s.1, .int 2]) (Or.inr (Or.inl rfl)) q12_m115 (m_cv (as := [.int 2, .int s.1]) (rest := [.ref v20]) (Or.inl rfl) q12_m115 jv2426 (OF12_of e22) rfl rfl rfl rfl) (by decide) (SF12_of e22) rfl ?_
        refine g_ch [(7, .long ((m_i2l v10) * (m_i2l v12))), (0, .ref x0), (6, .int s.1)] [.int v23, .ref v20, .int v23, .ref v20] (pc' := 167) rfl rfl rfl ?_
        obtain ⟨v24, e25, h⟩ := m_bd h
        refine g_la e25 ?_
        refine g_ch [(7, .long ((m_i2l v10) * (m_i2l v12))), (0, .ref x0), (6, .int s.1)] [.long (v24 - ((m_i2l v10) * (m_i2l v12))), .int v23, .ref v20] (pc' := 171) rfl rfl rfl ?_
        obtain ⟨h26, e27, h⟩ := m_bd h
        refine g_ls e27 ?_
        refine g_end ?_
        refine g_in eF12_cash_172 mx2524 ?_
        refine g_ch [(6, .int (s.1 + 1)), (7, .long ((m_i2l v10) * (m_i2l v12))), (0, .ref x0)] [] (pc' := 175) rfl rfl rfl ?_
        refine g_goto (t := 87) rfl ?_
        cases h
        exact r_lv (k1 ((s.1 + 1), h26) hK) rfl ⟨rfl, rfl, trivial⟩
      · refine g_ifcn (t := 155) rfl (m_leF c19) ?_
        refine g_in eF12_cash_152 mx2524 ?_
        refine g_ch [(7, .long ((m_i2l v10) * (m_i2l v12))), (0, .ref x0), (6, .int s.1)] [.int s.1] (pc' := 154) rfl rfl rfl ?_
        cases h
        rw [k0 _ hK]
        exact g_iret rfl rfl
    · refine g_ifcn (t := 114) rfl (m_geF c8) ?_
      refine g_in eF12_cash_111 mx2524 ?_
      refine g_goto (t := 172) rfl ?_
      refine g_in eF12_cash_172 mx2524 ?_
      refine g_ch [(6, .int (s.1 + 1)), (0, .ref x0)] [] (pc' := 175) rfl rfl rfl ?_
      refine g_goto (t := 87) rfl ?_
      cases h
      exact r_lv (k1 ((s.1 + 1), s.2) hK) rfl ⟨rfl, rfl, trivial⟩
theorem SF12_cash_87 {xs : Nat → Int32} {L : Nat} (x0 : Nat) (x6 : Int32) (hp : m_H) {r : m_O × m_H} {K : Int32 × m_H → Prop} (k0 : ∀ x, K x → r = (.inl (some (.int x.1)), x.2)) {t : Int32 × m_H} (h : F12_cash_87 x0 x6 hp = some t) (hK : K t) : m_Rn xs L 2 2524 87 [(0, .ref x0), (6, .int x6)] [] hp r :=
  m_wh_ok (P := fun s => m_Rn xs L 2 2524 87 [(0, .ref x0), (6, .int s.1)] [] s.2 r) (Q := K) (fun s t hb hK => SF12_cash_87b x0 s (K := m_KK (fun s => m_Rn xs L 2 2524 87 [(0, .ref x0), (6, .int s.1)] [] s.2 r) K) k0 (fun _ q => q) hb hK) m_N _ _ h hK
theorem SF12_cash_33 {xs : Nat → Int32} {L : Nat} (x0 : Nat) (x1 : Int32) (x2 : Int32) (x3 : Int32) (x4 : Int32) (x5 : Int32) (s0 : Int32) (s1 : Nat) (hp : m_H) {r : m_O × m_H} {K : (Int32 × m_H) → Prop} (k0 : ∀ x, K x → r = (.inl (some (.int x.1)), x.2)) {t : Int32 × m_H} (h : F12_cash_33 x0 x1 x2 x3 x4 x5 s0 s1 hp = some t) (hK : K t) : m_Rn xs L 2 2524 33 [(0, .ref x0), (1, .int x1), (2, .int x2), (3, .int x3), (4, .int x4), (5, .int x5)] [.int s0, .ref s1] hp r := by
  unfold F12_cash_33 at h
  refine g_in eF12_cash_33 mx2524 ?_
  refine g_ch [(0, .ref x0), (1, .int x1), (2, .int x2), (3, .int x3), (4, .int x4), (5, .int x5)] [.int 1, .int s0, .ref s1] (pc' := 34) rfl rfl rfl ?_
  obtain ⟨z2, e1, h⟩ := m_bd h
  refine g_call (v := some (.int z2.1)) (h := z2.2) (st' := [.int z2.1]) (D1 := 0) (as := [.ref s1, .int s0, .int 1]) (Or.inr (Or.inl rfl)) q12_m82 (m_cv (as := [.int 1, .int s0]) (rest := []) (Or.inl rfl) q12_m82 jv2401 (OF12_throwsIf e1) rfl rfl rfl rfl) (by decide) (SF12_throwsIf e1) rfl ?_
  rcases m_ifd h with ⟨c3, h⟩ | ⟨c3, h⟩
  · refine g_ifc (t := 42) rfl (m_eqT c3) ?_
    refine g_in eF12_cash_42 mx2524 ?_
    refine g_ch [(0, .ref x0), (1, .int x1), (2, .int x2), (3, .int x3), (4, .int x4), (5, .int x5)] [.ref x0] (pc' := 43) rfl rfl rfl ?_
    obtain ⟨v4, e5, h⟩ := m_bd h
    refine g_gr q12_f64 e5 ?_
    refine g_ch [(0, .ref x0), (1, .int x1), (2, .int x2), (3, .int x3), (4, .int x4), (5, .int x5)] [.long (m_i2l x1), .int 1, .ref v4] (pc' := 49) rfl rfl rfl ?_
    obtain ⟨h6, e7, h⟩ := m_bd h
    refine g_ls e7 ?_
    refine g_ch [(0, .ref x0), (1, .int x1), (2, .int x2), (3, .int x3), (4, .int x4), (5, .int x5)] [.ref x0] (pc' := 51) rfl rfl rfl ?_
    obtain ⟨v8, e9, h⟩ := m_bd h
    refine g_gr q12_f64 e9 ?_
    refine g_ch [(0, .ref x0), (1, .int x1), (2, .int x2), (3, .int x3), (4, .int x4), (5, .int x5)] [.long (m_i2l x2), .int 2, .ref v8] (pc' := 57) rfl rfl rfl ?_
    obtain ⟨h10, e11, h⟩ := m_bd h
    refine g_ls e11 ?_
    refine g_ch [(0, .ref x0), (1, .int x1), (2, .int x2), (3, .int x3), (4, .int x4), (5, .int x5)] [.ref x0] (pc' := 59) rfl rfl rfl ?_
    obtain ⟨v12, e13, h⟩ := m_bd h
    refine g_gr q12_f64 e13 ?_
    refine g_ch [(0, .ref x0), (1, .int x1), (2, .int x2), (3, .int x3), (4, .int x4), (5, .int x5)] [.long (m_i2l x3), .int 3, .ref v12] (pc' := 65) rfl rfl rfl ?_
    obtain ⟨h14, e15, h⟩ := m_bd h
    refine g_ls e15 ?_
    refine g_ch [(0, .ref x0), (1, .int x1), (2, .int x2), (3, .int x3), (4, .int x4), (5, .int x5)] [.ref x0] (pc' := 67) rfl rfl rfl ?_
    obtain ⟨v16, e17, h⟩ := m_bd h
    refine g_gr q12_f64 e17 ?_
    refine g_ch [(0, .ref x0), (1, .int x1), (2, .int x2), (3, .int x3), (4, .int x4), (5, .int x5)] [.long (m_i2l x4), .int 4, .ref v16] (pc' := 74) rfl rfl rfl ?_
    obtain ⟨h18, e19, h⟩ := m_bd h
    refine g_ls e19 ?_
    refine g_ch [(0, .ref x0), (1, .int x1), (2, .int x2), (3, .int x3), (4, .int x4), (5, .int x5)] [.ref x0] (pc' := 76) rfl rfl rfl ?_
    obtain ⟨v20, e21, h⟩ := m_bd h
    refine g_gr q12_f64 e21 ?_
    refine g_ch [(0, .ref x0), (1, .int x1), (2, .int x2), (3, .int x3), (4, .int x4), (5, .int x5)] [.long (m_i2l x5), .int 5, .ref v20] (pc' := 83) rfl rfl rfl ?_
    obtain ⟨h22, e23, h⟩ := m_bd h
    refine g_ls e23 ?_
    refine g_ch [(6, .int 0), (0, .ref x0), (1, .int x1), (2, .int x2), (3, .int x3), (4, .int x4), (5, .int x5)] [] (pc' := 87) rfl rfl rfl ?_
    refine g_end ?_
    exact r_lv (SF12_cash_87 x0 0 h22 (K := K) k0 h hK) rfl ⟨rfl, rfl, trivial⟩
  · refine g_ifcn (t := 42) rfl (m_eqF c3) ?_
    refine g_in eF12_cash_40 mx2524 ?_
    refine g_ch [(0, .ref x0), (1, .int x1), (2, .int x2), (3, .int x3), (4, .int x4), (5, .int x5)] [.int 0] (pc' := 41) rfl rfl rfl ?_
    cases h
    rw [k0 _ hK]
    exact g_iret rfl rfl
theorem SF12_cash_28 {xs : Nat → Int32} {L : Nat} (x0 : Nat) (x1 : Int32) (x2 : Int32) (x3 : Int32) (x4 : Int32) (x5 : Int32) (s0 : Nat) (hp : m_H) {r : m_O × m_H} {K : (Int32 × m_H) → Prop} (k0 : ∀ x, K x → r = (.inl (some (.int x.1)), x.2)) {t : Int32 × m_H} (h : F12_cash_28 x0 x1 x2 x3 x4 x5 s0 hp = some t) (hK : K t) : m_Rn xs L 2 2524 28 [(0, .ref x0), (1, .int x1), (2, .int x2), (3, .int x3), (4, .int x4), (5, .int x5)] [.ref s0] hp r := by
  unfold F12_cash_28 at h
  refine g_in eF12_cash_28 mx2524 ?_
  refine g_ch [(0, .ref x0), (1, .int x1), (2, .int x2), (3, .int x3), (4, .int x4), (5, .int x5)] [.int 1, .ref s0] (pc' := 29) rfl rfl rfl ?_
  refine g_goto (t := 33) rfl ?_
  exact r_lv (SF12_cash_33 x0 x1 x2 x3 x4 x5 1 s0 hp (K := K) k0 h hK) rfl ⟨rfl, rfl, rfl, rfl, rfl, rfl, trivial⟩
theorem SF12_cash_0 {xs : Nat → Int32} {L : Nat} (x0 : Nat) (x1 : Int32) (x2 : Int32) (x3 : Int32) (x4 : Int32) (x5 : Int32) (hp : m_H) {r : m_O × m_H} {K : (Int32 × m_H) → Prop} (k0 : ∀ x, K x → r = (.inl (some (.int x.1)), x.2)) {t : Int32 × m_H} (h : F12_cash_0 x0 x1 x2 x3 x4 x5 hp = some t) (hK : K t) : m_Rn xs L 2 2524 0 [(0, .ref x0), (1, .int x1), (2, .int x2), (3, .int x3), (4, .int x4), (5, .int x5)] [] hp r := by
  unfold F12_cash_0 at h
  refine g_in eF12_cash_0 mx2524 ?_
  refine g_ch [(0, .ref x0), (1, .int x1), (2, .int x2), (3, .int x3), (4, .int x4), (5, .int x5)] [.int 0, .ref x0] (pc' := 2) rfl rfl rfl ?_
  obtain ⟨h1, e2, h⟩ := m_bd h
  refine g_pf q12_f3 e2 ?_
  refine g_ch [(0, .ref x0), (1, .int x1), (2, .int x2), (3, .int x3), (4, .int x4), (5, .int x5)] [.int x1, .ref x0] (pc' := 7) rfl rfl rfl ?_
  rcases m_ifd h with ⟨c3, h⟩ | ⟨c3, h⟩
  · refine g_ifc (t := 28) rfl (m_ltT c3) ?_
    exact r_lv (SF12_cash_28 x0 x1 x2 x3 x4 x5 x0 h1 (K := K) k0 h hK) rfl ⟨rfl, rfl, rfl, rfl, rfl, rfl, trivial⟩
  · refine g_ifcn (t := 28) rfl (m_ltF c3) ?_
    refine g_in eF12_cash_10 mx2524 ?_
    refine g_ch [(0, .ref x0), (1, .int x1), (2, .int x2), (3, .int x3), (4, .int x4), (5, .int x5)] [.int x2, .ref x0] (pc' := 11) rfl rfl rfl ?_
    rcases m_ifd h with ⟨c4, h⟩ | ⟨c4, h⟩
    · refine g_ifc (t := 28) rfl (m_ltT c4) ?_
      exact r_lv (SF12_cash_28 x0 x1 x2 x3 x4 x5 x0 h1 (K := K) k0 h hK) rfl ⟨rfl, rfl, rfl, rfl, rfl, rfl, trivial⟩
    · refine g_ifcn (t := 28) rfl (m_ltF c4) ?_
      refine g_in eF12_cash_14 mx2524 ?_
      refine g_ch [(0, .ref x0), (1, .int x1), (2, .int x2), (3, .int x3), (4, .int x4), (5, .int x5)] [.int x3, .ref x0] (pc' := 15) rfl rfl rfl ?_
      rcases m_ifd h with ⟨c5, h⟩ | ⟨c5, h⟩
      · refine g_ifc (t := 28) rfl (m_ltT c5) ?_
        exact r_lv (SF12_cash_28 x0 x1 x2 x3 x4 x5 x0 h1 (K := K) k0 h hK) rfl ⟨rfl, rfl, rfl, rfl, rfl, rfl, trivial⟩
      · refine g_ifcn (t := 28) rfl (m_ltF c5) ?_
        refine g_in eF12_cash_18 mx2524 ?_
        refine g_ch [(0, .ref x0), (1, .int x1), (2, .int x2), (3, .int x3), (4, .int x4), (5, .int x5)] [.int x4, .ref x0] (pc' := 20) rfl rfl rfl ?_
        rcases m_ifd h with ⟨c6, h⟩ | ⟨c6, h⟩
        · refine g_ifc (t := 28) rfl (m_ltT c6) ?_
          exact r_lv (SF12_cash_28 x0 x1 x2 x3 x4 x5 x0 h1 (K := K) k0 h hK) rfl ⟨rfl, rfl, rfl, rfl, rfl, rfl, trivial⟩
        · refine g_ifcn (t := 28) rfl (m_ltF c6) ?_
          refine g_in eF12_cash_23 mx2524 ?_
          refine g_ch [(0, .ref x0), (1, .int x1), (2, .int x2), (3, .int x3), (4, .int x4), (5, .int x5)] [.int x5, .ref x0] (pc' := 25) rfl rfl rfl ?_
          rcases m_ifd h with ⟨c7, h⟩ | ⟨c7, h⟩
          · refine g_ifc (t := 32) rfl (m_geT c7) ?_
            refine g_in eF12_cash_32 mx2524 ?_
            refine g_ch [(0, .ref x0), (1, .int x1), (2, .int x2), (3, .int x3), (4, .int x4), (5, .int x5)] [.int 0, .ref x0] (pc' := 33) rfl rfl rfl ?_
            refine g_end ?_
            exact r_lv (SF12_cash_33 x0 x1 x2 x3 x4 x5 0 x0 h1 (K := K) k0 h hK) rfl ⟨rfl, rfl, rfl, rfl, rfl, rfl, trivial⟩
          · refine g_ifcn (t := 32) rfl (m_geF c7) ?_
            exact r_lv (SF12_cash_28 x0 x1 x2 x3 x4 x5 x0 h1 (K := K) k0 h hK) rfl ⟨rfl, rfl, rfl, rfl, rfl, rfl, trivial⟩
theorem OF12_cash {x0 : Nat} {x1 : Int32} {x2 : Int32} {x3 : Int32} {x4 : Int32} {x5 : Int32} {hp : m_H} {x : Int32 × m_H} (h : F12_cash x0 x1 x2 x3 x4 x5 hp = some x) : m_isO hp 9 x0 = true := (m_gdd h).1
theorem SF12_cash {xs : Nat → Int32} {L : Nat} {x0 : Nat} {x1 : Int32} {x2 : Int32} {x3 : Int32} {x4 : Int32} {x5 : Int32} {hp : m_H} {x : Int32 × m_H} (h : F12_cash x0 x1 x2 x3 x4 x5 hp = some x) : m_Rn xs L 2 2524 0 (lv_args 0 [.ref x0, .int x1, .int x2, .int x3, .int x4, .int x5]) [] hp (.inl (some (.int x.1)), x.2) :=
  r_lv (SF12_cash_0 x0 x1 x2 x3 x4 x5 hp (K := fun y => y = x) (fun y e => by rw [e]) (m_gdd h).2 rfl) rfl ⟨rfl, rfl, rfl, rfl, rfl, rfl, trivial⟩
-- F12_rowAt: LendHouseModel.rowAt(I)I
theorem eF12_rowAt_0 : m_Fe mi12_125 0 (m_ap [(.bipush 6, 2), (.aload_n 0, 1)] ((.getfield 14, 3) :: (m_ap [(.sipush 3486, 3)] ((.iaload, 1) :: ((.invokestatic 304, 3) :: (m_ap [(.istore_n 2, 1), (.iload_n 1, 1), (.iconst 0, 1), (.iload_n 2, 1), (.iconst 1, 1), (.isub, 1)] ((.invokestatic 74, 3) :: ([(.ifCond .eq 21, 3)])))))))) := m_Fe_of nd2525 0 14 rfl
theorem eF12_rowAt_43 : m_Fe mi12_125 43 (m_ap [(.iconst (-1), 1)] ([])) := m_Fe_of nd2525 24 1 rfl
theorem eF12_rowAt_44 : m_Fe mi12_125 44 ([(.ireturn, 1)]) := m_Fe_of nd2525 25 1 rfl
theorem eF12_rowAt_25 : m_Fe mi12_125 25 (m_ap [(.aload_n 0, 1)] ((.getfield 14, 3) :: (m_ap [(.sipush 3486, 3)] ((.iaload, 1) :: (m_ap [(.iload_n 2, 1), (.isub, 1), (.iload_n 1, 1), (.iadd, 1)] ((.invokestatic 371, 3) :: ([(.goto 4, 3)]))))))) := m_Fe_of nd2525 14 10 rfl
theorem SF12_rowAt_0 {xs : Nat → Int32} {L : Nat} (x0 : Nat) (x1 : Int32) (hp : m_H) {r : m_O × m_H} {K : Int32 → Prop} (k0 : ∀ x, K x → r = (.inl (some (.int x)), hp)) {t : Int32} (h : F12_rowAt_0 x0 x1 hp = some t) (hK : K t) : m_Rn xs L 7 2525 0 [(0, .ref x0), (1, .int x1)] [] hp r := by
  unfold F12_rowAt_0 at h
  refine g_in eF12_rowAt_0 mx2525 ?_
  refine g_ch [(0, .ref x0), (1, .int x1)] [.ref x0, .int 6] (pc' := 3) rfl rfl rfl ?_
  obtain ⟨v1, e2, h⟩ := m_bd h
  refine g_gr q12_f14 e2 ?_
  refine g_ch [(0, .ref x0), (1, .int x1)] [.int 3486, .ref v1, .int 6] (pc' := 9) rfl rfl rfl ?_
  obtain ⟨v3, e4, h⟩ := m_bd h
  refine g_ia e4 ?_
  refine g_nat (Or.inl rfl) q12_m304 rfl (z := ([.int (m_min 6 v3)], hp)) rfl (by decide) ?_
  refine g_ch [(2, .int (m_min 6 v3)), (0, .ref x0), (1, .int x1)] [.int ((m_min 6 v3) - 1), .int 0, .int x1] (pc' := 19) rfl rfl rfl ?_
  obtain ⟨v6, e5, h⟩ := m_bd h
  refine g_call (v := some (.int v6)) (h := hp) (st' := [.int v6]) (D1 := 0) (as := [.int x1, .int 0, .int ((m_min 6 v3) - 1)]) (Or.inl rfl) q12_m74 (m_cs (as := [.int ((m_min 6 v3) - 1), .int 0, .int x1]) (rest := []) q12_m74 jv2402 rfl rfl rfl rfl rfl) (by decide) (SF12_in e5) rfl ?_
  rcases m_ifd h with ⟨c7, h⟩ | ⟨c7, h⟩
  · refine g_ifc (t := 43) rfl (m_eqT c7) ?_
    refine g_in eF12_rowAt_43 mx2525 ?_
    refine g_ch [(2, .int (m_min 6 v3)), (0, .ref x0), (1, .int x1)] [.int (-1)] (pc' := 44) rfl rfl rfl ?_
    refine g_end ?_
    refine g_in eF12_rowAt_44 mx2525 ?_
    cases h
    rw [k0 _ hK]
    exact g_iret rfl rfl
  · refine g_ifcn (t := 43) rfl (m_eqF c7) ?_
    refine g_in eF12_rowAt_25 mx2525 ?_
    refine g_ch [(2, .int (m_min 6 v3)), (0, .ref x0), (1, .int x1)] [.ref x0] (pc' := 26) rfl rfl rfl ?_
    obtain ⟨v8, e9, h⟩ := m_bd h
    refine g_gr q12_f14 e9 ?_
    refine g_ch [(2, .int (m_min 6 v3)), (0, .ref x0), (1, .int x1)] [.int 3486, .ref v8] (pc' := 32) rfl rfl rfl ?_
    obtain ⟨v10, e11, h⟩ := m_bd h
    refine g_ia e11 ?_
    refine g_ch [(2, .int (m_min 6 v3)), (0, .ref x0), (1, .int x1)] [.int ((v10 - (m_min 6 v3)) + x1)] (pc' := 37) rfl rfl rfl ?_
    obtain ⟨v13, e12, h⟩ := m_bd h
    refine g_call (v := some (.int v13)) (h := hp) (st' := [.int v13]) (D1 := 0) (as := [.int ((v10 - (m_min 6 v3)) + x1)]) (Or.inl rfl) q12_m371 (m_cs (as := [.int ((v10 - (m_min 6 v3)) + x1)]) (rest := []) q12_m371 jv2497 rfl rfl rfl rfl rfl) (by decide) (SF12_returnAt e12) rfl ?_
    refine g_goto (t := 44) rfl ?_
    refine g_in eF12_rowAt_44 mx2525 ?_
    cases h
    rw [k0 _ hK]
    exact g_iret rfl rfl
theorem OF12_rowAt {x0 : Nat} {x1 : Int32} {hp : m_H} {x : Int32} (h : F12_rowAt x0 x1 hp = some x) : m_isO hp 9 x0 = true := (m_gdd h).1
theorem SF12_rowAt {xs : Nat → Int32} {L : Nat} {x0 : Nat} {x1 : Int32} {hp : m_H} {x : Int32} (h : F12_rowAt x0 x1 hp = some x) : m_Rn xs L 7 2525 0 (lv_args 0 [.ref x0, .int x1]) [] hp (.inl (some (.int x)), hp) :=
  r_lv (SF12_rowAt_0 x0 x1 hp (K := fun y => y = x) (fun y e => by rw [e]) (m_gdd h).2 rfl) rfl ⟨rfl, rfl, trivial⟩
-- F12_tear: LendHouseModel.tear(II)I
theorem eF12_tear_0 : m_Fe mi12_126 0 (m_ap [(.aload_n 0, 1), (.iconst 0, 1)] ((.putfield 3, 3) :: (m_ap [(.aload_n 0, 1), (.aload_n 0, 1), (.iload_n 1, 1)] ((.invokevirtual 412, 3) :: ([(.ifCond .ge 7, 3)]))))) := m_Fe_of nd2526 0 8 rfl
theorem eF12_tear_18 : m_Fe mi12_126 18 (m_ap [(.iconst 0, 1)] ([])) := m_Fe_of nd2526 10 1 rfl
theorem eF12_tear_14 : m_Fe mi12_126 14 (m_ap [(.iconst 1, 1)] ([(.goto 4, 3)])) := m_Fe_of nd2526 8 2 rfl
theorem eF12_tear_19 : m_Fe mi12_126 19 (m_ap [(.iconst 1, 1)] ((.invokevirtual 82, 3) :: ([(.ifCond .eq 5, 3)]))) := m_Fe_of nd2526 11 3 rfl
theorem eF12_tear_28 : m_Fe mi12_126 28 (m_ap [(.aload_n 0, 1)] ((.getfield 14, 3) :: (m_ap [(.aload_n 0, 1), (.iload_n 1, 1)] ((.invokevirtual 412, 3) :: (m_ap [(.iconst 3, 1), (.iadd, 1), (.dup2, 1)] ((.iaload, 1) :: (m_ap [(.iload_n 2, 1), (.ixor, 1)] ((.iastore, 1) :: (m_ap [(.aload_n 0, 1)] ((.getfield 14, 3) :: (m_ap [(.aload_n 0, 1), (.iload_n 1, 1)] ((.invokevirtual 412, 3) :: (m_ap [(.iconst 3, 1), (.iadd, 1)] ((.iaload, 1) :: ([(.ireturn, 1)]))))))))))))))) := m_Fe_of nd2526 16 21 rfl
theorem eF12_tear_26 : m_Fe mi12_126 26 (m_ap [(.iconst 0, 1)] ([(.ireturn, 1)])) := m_Fe_of nd2526 14 2 rfl
theorem SF12_tear_19 {xs : Nat → Int32} {L : Nat} (x0 : Nat) (x1 : Int32) (x2 : Int32) (s0 : Int32) (s1 : Nat) (hp : m_H) {r : m_O × m_H} {K : (Int32 × m_H) → Prop} (k0 : ∀ x, K x → r = (.inl (some (.int x.1)), x.2)) {t : Int32 × m_H} (h : F12_tear_19 x0 x1 x2 s0 s1 hp = some t) (hK : K t) : m_Rn xs L 8 2526 19 [(0, .ref x0), (1, .int x1), (2, .int x2)] [.int s0, .ref s1] hp r := by
  unfold F12_tear_19 at h
  refine g_in eF12_tear_19 mx2526 ?_
  refine g_ch [(0, .ref x0), (1, .int x1), (2, .int x2)] [.int 1, .int s0, .ref s1] (pc' := 20) rfl rfl rfl ?_
  obtain ⟨z2, e1, h⟩ := m_bd h
  refine g_call (v := some (.int z2.1)) (h := z2.2) (st' := [.int z2.1]) (D1 := 0) (as := [.ref s1, .int s0, .int 1]) (Or.inr (Or.inl rfl)) q12_m82 (m_cv (as := [.int 1, .int s0]) (rest := []) (Or.inl rfl) q12_m82 jv2401 (OF12_throwsIf e1) rfl rfl rfl rfl) (by decide) (SF12_throwsIf e1) rfl ?_
  rcases m_ifd h with ⟨c3, h⟩ | ⟨c3, h⟩
  · refine g_ifc (t := 28) rfl (m_eqT c3) ?_
    refine g_in eF12_tear_28 mx2526 ?_
    refine g_ch [(0, .ref x0), (1, .int x1), (2, .int x2)] [.ref x0] (pc' := 29) rfl rfl rfl ?_
    obtain ⟨v4, e5, h⟩ := m_bd h
    refine g_gr q12_f14 e5 ?_
    refine g_ch [(0, .ref x0), (1, .int x1), (2, .int x2)] [.int x1, .ref x0, .ref v4] (pc' := 34) rfl rfl rfl ?_
    obtain ⟨v7, e6, h⟩ := m_bd h
    refine g_call (v := some (.int v7)) (h := z2.2) (st' := [.int v7, .ref v4]) (D1 := 7) (as := [.ref x0, .int x1]) (Or.inr (Or.inl rfl)) q12_m412 (m_cv (as := [.int x1]) (rest := [.ref v4]) (Or.inl rfl) q12_m412 jv2525 (OF12_rowAt e6) rfl rfl rfl rfl) (by decide) (SF12_rowAt e6) rfl ?_
    refine g_ch [(0, .ref x0), (1, .int x1), (2, .int x2)] [.int (v7 + 3), .ref v4, .int (v7 + 3), .ref v4] (pc' := 40) rfl rfl rfl ?_
    obtain ⟨v8, e9, h⟩ := m_bd h
    refine g_ia e9 ?_
    refine g_ch [(0, .ref x0), (1, .int x1), (2, .int x2)] [.int (v8 ^^^ x2), .int (v7 + 3), .ref v4] (pc' := 43) rfl rfl rfl ?_
    obtain ⟨h10, e11, h⟩ := m_bd h
    refine g_is e11 ?_
    refine g_ch [(0, .ref x0), (1, .int x1), (2, .int x2)] [.ref x0] (pc' := 45) rfl rfl rfl ?_
    obtain ⟨v12, e13, h⟩ := m_bd h
    refine g_gr q12_f14 e13 ?_
    refine g_ch [(0, .ref x0), (1, .int x1), (2, .int x2)] [.int x1, .ref x0, .ref v12] (pc' := 50) rfl rfl rfl ?_
    obtain ⟨v15, e14, h⟩ := m_bd h
    refine g_call (v := some (.int v15)) (h := h10) (st' := [.int v15, .ref v12]) (D1 := 7) (as := [.ref x0, .int x1]) (Or.inr (Or.inl rfl)) q12_m412 (m_cv (as := [.int x1]) (rest := [.ref v12]) (Or.inl rfl) q12_m412 jv2525 (OF12_rowAt e14) rfl rfl rfl rfl) (by decide) (SF12_rowAt e14) rfl ?_
    refine g_ch [(0, .ref x0), (1, .int x1), (2, .int x2)] [.int (v15 + 3), .ref v12] (pc' := 55) rfl rfl rfl ?_
    obtain ⟨v16, e17, h⟩ := m_bd h
    refine g_ia e17 ?_
    cases h
    rw [k0 _ hK]
    exact g_iret rfl rfl
  · refine g_ifcn (t := 28) rfl (m_eqF c3) ?_
    refine g_in eF12_tear_26 mx2526 ?_
    refine g_ch [(0, .ref x0), (1, .int x1), (2, .int x2)] [.int 0] (pc' := 27) rfl rfl rfl ?_
    cases h
    rw [k0 _ hK]
    exact g_iret rfl rfl
theorem SF12_tear_0 {xs : Nat → Int32} {L : Nat} (x0 : Nat) (x1 : Int32) (x2 : Int32) (hp : m_H) {r : m_O × m_H} {K : (Int32 × m_H) → Prop} (k0 : ∀ x, K x → r = (.inl (some (.int x.1)), x.2)) {t : Int32 × m_H} (h : F12_tear_0 x0 x1 x2 hp = some t) (hK : K t) : m_Rn xs L 8 2526 0 [(0, .ref x0), (1, .int x1), (2, .int x2)] [] hp r := by
  unfold F12_tear_0 at h
  refine g_in eF12_tear_0 mx2526 ?_
  refine g_ch [(0, .ref x0), (1, .int x1), (2, .int x2)] [.int 0, .ref x0] (pc' := 2) rfl rfl rfl ?_
  obtain ⟨h1, e2, h⟩ := m_bd h
  refine g_pf q12_f3 e2 ?_
  refine g_ch [(0, .ref x0), (1, .int x1), (2, .int x2)] [.int x1, .ref x0, .ref x0] (pc' := 8) rfl rfl rfl ?_
  obtain ⟨v4, e3, h⟩ := m_bd h
  refine g_call (v := some (.int v4)) (h := h1) (st' := [.int v4, .ref x0]) (D1 := 7) (as := [.ref x0, .int x1]) (Or.inr (Or.inl rfl)) q12_m412 (m_cv (as := [.int x1]) (rest := [.ref x0]) (Or.inl rfl) q12_m412 jv2525 (OF12_rowAt e3) rfl rfl rfl rfl) (by decide) (SF12_rowAt e3) rfl ?_
  rcases m_ifd h with ⟨c5, h⟩ | ⟨c5, h⟩
  · refine g_ifc (t := 18) rfl (m_geT c5) ?_
    refine g_in eF12_tear_18 mx2526 ?_
    refine g_ch [(0, .ref x0), (1, .int x1), (2, .int x2)] [.int 0, .ref x0] (pc' := 19) rfl rfl rfl ?_
    refine g_end ?_
    exact r_lv (SF12_tear_19 x0 x1 x2 0 x0 h1 (K := K) k0 h hK) rfl ⟨rfl, rfl, rfl, trivial⟩
  · refine g_ifcn (t := 18) rfl (m_geF c5) ?_
    refine g_in eF12_tear_14 mx2526 ?_
    refine g_ch [(0, .ref x0), (1, .int x1), (2, .int x2)] [.int 1, .ref x0] (pc' := 15) rfl rfl rfl ?_
    refine g_goto (t := 19) rfl ?_
    exact r_lv (SF12_tear_19 x0 x1 x2 1 x0 h1 (K := K) k0 h hK) rfl ⟨rfl, rfl, rfl, trivial⟩
theorem OF12_tear {x0 : Nat} {x1 : Int32} {x2 : Int32} {hp : m_H} {x : Int32 × m_H} (h : F12_tear x0 x1 x2 hp = some x) : m_isO hp 9 x0 = true := (m_gdd h).1
theorem SF12_tear {xs : Nat → Int32} {L : Nat} {x0 : Nat} {x1 : Int32} {x2 : Int32} {hp : m_H} {x : Int32 × m_H} (h : F12_tear x0 x1 x2 hp = some x) : m_Rn xs L 8 2526 0 (lv_args 0 [.ref x0, .int x1, .int x2]) [] hp (.inl (some (.int x.1)), x.2) :=
  r_lv (SF12_tear_0 x0 x1 x2 hp (K := fun y => y = x) (fun y e => by rw [e]) (m_gdd h).2 rfl) rfl ⟨rfl, rfl, rfl, trivial⟩
-- F12_check: LendHouseModel.check()I
theorem eF12_check_0 : m_Fe mi12_127 0 (m_ap [(.aload_n 0, 1), (.iconst 0, 1)] ((.putfield 3, 3) :: (m_ap [(.iconst 0, 1), (.istore_n 1, 1)] ([])))) := m_Fe_of nd2527 0 5 rfl
theorem eF12_check_7 : m_Fe mi12_127 7 (m_ap [(.iload_n 1, 1), (.bipush 6, 2), (.aload_n 0, 1)] ((.getfield 14, 3) :: (m_ap [(.sipush 3486, 3)] ((.iaload, 1) :: ((.invokestatic 304, 3) :: ([(.if_icmp .ge 38, 3)])))))) := m_Fe_of nd2527 5 8 rfl
theorem eF12_check_59 : m_Fe mi12_127 59 (m_ap [(.iconst (-1), 1)] ([(.ireturn, 1)])) := m_Fe_of nd2527 34 2 rfl
theorem eF12_check_24 : m_Fe mi12_127 24 (m_ap [(.aload_n 0, 1)] ((.getfield 14, 3) :: (m_ap [(.aload_n 0, 1), (.iload_n 1, 1)] ((.invokevirtual 412, 3) :: (m_ap [(.iconst 3, 1), (.iadd, 1)] ((.iaload, 1) :: (m_ap [(.aload_n 0, 1)] ((.getfield 14, 3) :: (m_ap [(.aload_n 0, 1), (.iload_n 1, 1)] ((.invokevirtual 412, 3) :: (m_ap [(.iconst 4, 1), (.iadd, 1)] ((.iaload, 1) :: ([(.if_icmp .eq 5, 3)]))))))))))))) := m_Fe_of nd2527 13 17 rfl
theorem eF12_check_53 : m_Fe mi12_127 53 (m_ap [(.iinc 1 1, 3)] ([(.goto (-49), 3)])) := m_Fe_of nd2527 32 2 rfl
theorem eF12_check_51 : m_Fe mi12_127 51 (m_ap [(.iload_n 1, 1)] ([(.ireturn, 1)])) := m_Fe_of nd2527 30 2 rfl
theorem SF12_check_7b {xs : Nat → Int32} {L : Nat} (x0 : Nat) (hp : m_H) (s : Int32) {r : m_O × m_H} {K : (Int32 ⊕ (Int32 × m_H)) → Prop} (k0 : ∀ x, K (.inr x) → r = (.inl (some (.int x.1)), x.2)) (k1 : ∀ s, K (.inl s) → m_Rn xs L 8 2527 7 [(0, .ref x0), (1, .int s)] [] hp r) {t : Int32 ⊕ (Int32 × m_H)} (h : F12_check_7b x0 hp s = some t) (hK : K t) : m_Rn xs L 8 2527 7 [(0, .ref x0), (1, .int s)] [] hp r := by
  unfold F12_check_7b at h
  refine g_in eF12_check_7 mx2527 ?_
  refine g_ch [(0, .ref x0), (1, .int s)] [.ref x0, .int 6, .int s] (pc' := 11) rfl rfl rfl ?_
  obtain ⟨v1, e2, h⟩ := m_bd h
  refine g_gr q12_f14 e2 ?_
  refine g_ch [(0, .ref x0), (1, .int s)] [.int 3486, .ref v1, .int 6, .int s] (pc' := 17) rfl rfl rfl ?_
  obtain ⟨v3, e4, h⟩ := m_bd h
  refine g_ia e4 ?_
  refine g_nat (Or.inl rfl) q12_m304 rfl (z := ([.int (m_min 6 v3), .int s], hp)) rfl (by decide) ?_
  rcases m_ifd h with ⟨c5, h⟩ | ⟨c5, h⟩
  · refine g_if (t := 59) rfl (m_geT c5) ?_
    refine g_in eF12_check_59 mx2527 ?_
    refine g_ch [(0, .ref x0), (1, .int s)] [.int (-1)] (pc' := 60) rfl rfl rfl ?_
    cases h
    rw [k0 _ hK]
    exact g_iret rfl rfl
  · refine g_ifn (t := 59) rfl (m_geF c5) ?_
    refine g_in eF12_check_24 mx2527 ?_
    refine g_ch [(0, .ref x0), (1, .int s)] [.ref x0] (pc' := 25) rfl rfl rfl ?_
    obtain ⟨v6, e7, h⟩ := m_bd h
    refine g_gr q12_f14 e7 ?_
    refine g_ch [(0, .ref x0), (1, .int s)] [.int s, .ref x0, .ref v6] (pc' := 30) rfl rfl rfl ?_
    obtain ⟨v9, e8, h⟩ := m_bd h
    refine g_call (v := some (.int v9)) (h := hp) (st' := [.int v9, .ref v6]) (D1 := 7) (as := [.ref x0, .int s]) (Or.inr (Or.inl rfl)) q12_m412 (m_cv (as := [.int s]) (rest := [.ref v6]) (Or.inl rfl) q12_m412 jv2525 (OF12_rowAt e8) rfl rfl rfl rfl) (by decide) (SF12_rowAt e8) rfl ?_
    refine g_ch [(0, .ref x0), (1, .int s)] [.int (v9 + 3), .ref v6] (pc' := 35) rfl rfl rfl ?_
    obtain ⟨v10, e11, h⟩ := m_bd h
    refine g_ia e11 ?_
    refine g_ch [(0, .ref x0), (1, .int s)] [.ref x0, .int v10] (pc' := 37) rfl rfl rfl ?_
    obtain ⟨v12, e13, h⟩ := m_bd h
    refine g_gr q12_f14 e13 ?_
    refine g_ch [(0, .ref x0), (1, .int s)] [.int s, .ref x0, .ref v12, .int v10] (pc' := 42) rfl rfl rfl ?_
    obtain ⟨v15, e14, h⟩ := m_bd h
    refine g_call (v := some (.int v15)) (h := hp) (st' := [.int v15, .ref v12, .int v10]) (D1 := 7) (as := [.ref x0, .int s]) (Or.inr (Or.inl rfl)) q12_m412 (m_cv (as := [.int s]) (rest := [.ref v12, .int v10]) (Or.inl rfl) q12_m412 jv2525 (OF12_rowAt e14) rfl rfl rfl rfl) (by decide) (SF12_rowAt e14) rfl ?_
    refine g_ch [(0, .ref x0), (1, .int s)] [.int (v15 + 4), .ref v12, .int v10] (pc' := 47) rfl rfl rfl ?_
    obtain ⟨v16, e17, h⟩ := m_bd h
    refine g_ia e17 ?_
    rcases m_ifd h with ⟨c18, h⟩ | ⟨c18, h⟩
    · refine g_if (t := 53) rfl (m_eqT c18) ?_
      refine g_in eF12_check_53 mx2527 ?_
      refine g_ch [(1, .int (s + 1)), (0, .ref x0)] [] (pc' := 56) rfl rfl rfl ?_
      refine g_goto (t := 7) rfl ?_
      cases h
      exact r_lv (k1 (s + 1) hK) rfl ⟨rfl, rfl, trivial⟩
    · refine g_ifn (t := 53) rfl (m_eqF c18) ?_
      refine g_in eF12_check_51 mx2527 ?_
      refine g_ch [(0, .ref x0), (1, .int s)] [.int s] (pc' := 52) rfl rfl rfl ?_
      cases h
      rw [k0 _ hK]
      exact g_iret rfl rfl
theorem SF12_check_7 {xs : Nat → Int32} {L : Nat} (x0 : Nat) (x1 : Int32) (hp : m_H) {r : m_O × m_H} {K : Int32 × m_H → Prop} (k0 : ∀ x, K x → r = (.inl (some (.int x.1)), x.2)) {t : Int32 × m_H} (h : F12_check_7 x0 x1 hp = some t) (hK : K t) : m_Rn xs L 8 2527 7 [(0, .ref x0), (1, .int x1)] [] hp r :=
  m_wh_ok (P := fun s => m_Rn xs L 8 2527 7 [(0, .ref x0), (1, .int s)] [] hp r) (Q := K) (fun s t hb hK => SF12_check_7b x0 hp s (K := m_KK (fun s => m_Rn xs L 8 2527 7 [(0, .ref x0), (1, .int s)] [] hp r) K) k0 (fun _ q => q) hb hK) m_N _ _ h hK
theorem SF12_check_0 {xs : Nat → Int32} {L : Nat} (x0 : Nat) (hp : m_H) {r : m_O × m_H} {K : (Int32 × m_H) → Prop} (k0 : ∀ x, K x → r = (.inl (some (.int x.1)), x.2)) {t : Int32 × m_H} (h : F12_check_0 x0 hp = some t) (hK : K t) : m_Rn xs L 8 2527 0 [(0, .ref x0)] [] hp r := by
  unfold F12_check_0 at h
  refine g_in eF12_check_0 mx2527 ?_
  refine g_ch [(0, .ref x0)] [.int 0, .ref x0] (pc' := 2) rfl rfl rfl ?_
  obtain ⟨h1, e2, h⟩ := m_bd h
  refine g_pf q12_f3 e2 ?_
  refine g_ch [(1, .int 0), (0, .ref x0)] [] (pc' := 7) rfl rfl rfl ?_
  refine g_end ?_
  exact r_lv (SF12_check_7 x0 0 h1 (K := K) k0 h hK) rfl ⟨rfl, rfl, trivial⟩
theorem OF12_check {x0 : Nat} {hp : m_H} {x : Int32 × m_H} (h : F12_check x0 hp = some x) : m_isO hp 9 x0 = true := (m_gdd h).1
theorem SF12_check {xs : Nat → Int32} {L : Nat} {x0 : Nat} {hp : m_H} {x : Int32 × m_H} (h : F12_check x0 hp = some x) : m_Rn xs L 8 2527 0 (lv_args 0 [.ref x0]) [] hp (.inl (some (.int x.1)), x.2) :=
  r_lv (SF12_check_0 x0 hp (K := fun y => y = x) (fun y e => by rw [e]) (m_gdd h).2 rfl) rfl ⟨rfl, trivial⟩
-- F12_count: LendHouseModel.count(I)I
theorem eF12_count_0 : m_Fe mi12_128 0 (m_ap [(.aload_n 0, 1), (.iconst 0, 1)] ((.putfield 3, 3) :: (m_ap [(.iconst 0, 1), (.istore_n 2, 1), (.iload_n 1, 1), (.bipush 12, 2), (.bipush 20, 2)] ((.invokestatic 74, 3) :: ([(.ifCond .eq 40, 3)]))))) := m_Fe_of nd2528 0 10 rfl
theorem eF12_count_55 : m_Fe mi12_128 55 (m_ap [(.iload_n 1, 1)] ([(.tableswitch 245 0 11 #[64, 69, 78, 85, 94, 103, 141, 150, 190, 222, 231, 238], 64)])) := m_Fe_of nd2528 33 2 rfl
theorem eF12_count_301 : m_Fe mi12_128 301 (m_ap [(.iconst (-1), 1)] ([(.ireturn, 1)])) := m_Fe_of nd2528 143 2 rfl
theorem eF12_count_120 : m_Fe mi12_128 120 (m_ap [(.aload_n 0, 1)] ((.invokevirtual 86, 3) :: ([(.ireturn, 1)]))) := m_Fe_of nd2528 35 3 rfl
theorem eF12_count_125 : m_Fe mi12_128 125 (m_ap [(.aload_n 0, 1)] ((.getfield 14, 3) :: (m_ap [(.sipush 807, 3)] ((.iaload, 1) :: ([(.ireturn, 1)]))))) := m_Fe_of nd2528 38 5 rfl
theorem eF12_count_134 : m_Fe mi12_128 134 (m_ap [(.aload_n 0, 1)] ((.getfield 14, 3) :: (m_ap [(.iconst 1, 1)] ((.iaload, 1) :: ([(.ireturn, 1)]))))) := m_Fe_of nd2528 43 5 rfl
theorem eF12_count_141 : m_Fe mi12_128 141 (m_ap [(.aload_n 0, 1)] ((.getfield 14, 3) :: (m_ap [(.sipush 28326, 3)] ((.iaload, 1) :: ([(.ireturn, 1)]))))) := m_Fe_of nd2528 48 5 rfl
theorem eF12_count_150 : m_Fe mi12_128 150 (m_ap [(.aload_n 0, 1), (.aload_n 0, 1)] ((.invokevirtual 268, 3) :: ((.invokevirtual 271, 3) :: ([(.ireturn, 1)])))) := m_Fe_of nd2528 53 5 rfl
theorem eF12_count_159 : m_Fe mi12_128 159 (m_ap [(.iconst 0, 1), (.istore_n 3, 1)] ([])) := m_Fe_of nd2528 58 2 rfl
theorem eF12_count_197 : m_Fe mi12_128 197 (m_ap [(.aload_n 0, 1)] ((.getfield 14, 3) :: (m_ap [(.sipush 3209, 3)] ((.iaload, 1) :: ([(.ireturn, 1)]))))) := m_Fe_of nd2528 80 5 rfl
theorem eF12_count_206 : m_Fe mi12_128 206 (m_ap [(.iconst 0, 1), (.istore_n 3, 1)] ([])) := m_Fe_of nd2528 85 2 rfl
theorem eF12_count_246 : m_Fe mi12_128 246 (m_ap [(.iconst 0, 1), (.istore_n 3, 1)] ([])) := m_Fe_of nd2528 109 2 rfl
theorem eF12_count_278 : m_Fe mi12_128 278 (m_ap [(.aload_n 0, 1)] ((.getfield 14, 3) :: (m_ap [(.sipush 4168, 3)] ((.iaload, 1) :: ([(.ireturn, 1)]))))) := m_Fe_of nd2528 128 5 rfl
theorem eF12_count_287 : m_Fe mi12_128 287 (m_ap [(.aload_n 0, 1)] ((.getfield 14, 3) :: (m_ap [(.iconst 4, 1)] ((.iaload, 1) :: ([(.ireturn, 1)]))))) := m_Fe_of nd2528 133 5 rfl
theorem eF12_count_294 : m_Fe mi12_128 294 (m_ap [(.aload_n 0, 1)] ((.getfield 14, 3) :: (m_ap [(.iconst 3, 1)] ((.iaload, 1) :: ([(.ireturn, 1)]))))) := m_Fe_of nd2528 138 5 rfl
theorem eF12_count_18 : m_Fe mi12_128 18 (m_ap [(.iconst 0, 1), (.istore_n 3, 1)] ([])) := m_Fe_of nd2528 10 2 rfl
theorem eF12_count_161 : m_Fe mi12_128 161 (m_ap [(.iload_n 3, 1), (.aload_n 0, 1)] ((.getfield 14, 3) :: (m_ap [(.sipush 2908, 3)] ((.iaload, 1) :: ([(.if_icmp .ge 25, 3)]))))) := m_Fe_of nd2528 60 6 rfl
theorem eF12_count_195 : m_Fe mi12_128 195 (m_ap [(.iload_n 2, 1)] ([(.ireturn, 1)])) := m_Fe_of nd2528 78 2 rfl
theorem eF12_count_173 : m_Fe mi12_128 173 (m_ap [(.iload_n 2, 1), (.aload_n 0, 1), (.iload_n 3, 1)] ((.invokevirtual 298, 3) :: ([(.ifCond .le 7, 3)]))) := m_Fe_of nd2528 66 5 rfl
theorem eF12_count_186 : m_Fe mi12_128 186 (m_ap [(.iconst 0, 1)] ([])) := m_Fe_of nd2528 73 1 rfl
theorem eF12_count_187 : m_Fe mi12_128 187 (m_ap [(.iadd, 1), (.istore_n 2, 1), (.iinc 3 1, 3)] ([(.goto (-31), 3)])) := m_Fe_of nd2528 74 4 rfl
theorem eF12_count_182 : m_Fe mi12_128 182 (m_ap [(.iconst 1, 1)] ([(.goto 4, 3)])) := m_Fe_of nd2528 71 2 rfl
theorem eF12_count_208 : m_Fe mi12_128 208 (m_ap [(.iload_n 3, 1), (.aload_n 0, 1)] ((.getfield 14, 3) :: (m_ap [(.sipush 3209, 3)] ((.iaload, 1) :: ([(.if_icmp .ge 27, 3)]))))) := m_Fe_of nd2528 87 6 rfl
theorem eF12_count_244 : m_Fe mi12_128 244 (m_ap [(.iload_n 2, 1)] ([(.ireturn, 1)])) := m_Fe_of nd2528 107 2 rfl
theorem eF12_count_220 : m_Fe mi12_128 220 (m_ap [(.iload_n 2, 1), (.aload_n 0, 1), (.iload_n 3, 1), (.iconst 2, 1)] ((.invokevirtual 326, 3) :: (m_ap [(.iconst 4, 1)] ([(.if_icmp .ne 7, 3)])))) := m_Fe_of nd2528 93 7 rfl
theorem eF12_count_235 : m_Fe mi12_128 235 (m_ap [(.iconst 0, 1)] ([])) := m_Fe_of nd2528 102 1 rfl
theorem eF12_count_236 : m_Fe mi12_128 236 (m_ap [(.iadd, 1), (.istore_n 2, 1), (.iinc 3 1, 3)] ([(.goto (-33), 3)])) := m_Fe_of nd2528 103 4 rfl
theorem eF12_count_231 : m_Fe mi12_128 231 (m_ap [(.iconst 1, 1)] ([(.goto 4, 3)])) := m_Fe_of nd2528 100 2 rfl
theorem eF12_count_248 : m_Fe mi12_128 248 (m_ap [(.iload_n 3, 1), (.aload_n 0, 1)] ((.getfield 14, 3) :: (m_ap [(.sipush 807, 3)] ((.iaload, 1) :: ([(.if_icmp .ge 19, 3)]))))) := m_Fe_of nd2528 111 6 rfl
theorem eF12_count_276 : m_Fe mi12_128 276 (m_ap [(.iload_n 2, 1)] ([(.ireturn, 1)])) := m_Fe_of nd2528 126 2 rfl
theorem eF12_count_260 : m_Fe mi12_128 260 (m_ap [(.iload_n 2, 1), (.aload_n 0, 1), (.iload_n 3, 1), (.bipush 9, 2)] ((.invokevirtual 115, 3) :: (m_ap [(.iadd, 1), (.istore_n 2, 1), (.iinc 3 1, 3)] ([(.goto (-25), 3)])))) := m_Fe_of nd2528 117 9 rfl
theorem eF12_count_20 : m_Fe mi12_128 20 (m_ap [(.iload_n 3, 1), (.aload_n 0, 1)] ((.getfield 14, 3) :: (m_ap [(.sipush 807, 3)] ((.iaload, 1) :: ([(.if_icmp .ge 24, 3)]))))) := m_Fe_of nd2528 12 6 rfl
theorem eF12_count_53 : m_Fe mi12_128 53 (m_ap [(.iload_n 2, 1)] ([(.ireturn, 1)])) := m_Fe_of nd2528 31 2 rfl
theorem eF12_count_32 : m_Fe mi12_128 32 (m_ap [(.iload_n 2, 1), (.aload_n 0, 1), (.iload_n 3, 1), (.bipush 10, 2), (.iload_n 1, 1), (.iadd, 1), (.bipush 12, 2), (.isub, 1)] ((.invokevirtual 115, 3) :: (m_ap [(.iadd, 1), (.istore_n 2, 1), (.iinc 3 1, 3)] ([(.goto (-30), 3)])))) := m_Fe_of nd2528 18 13 rfl
theorem SF12_count_161b {xs : Nat → Int32} {L : Nat} (x0 : Nat) (hp : m_H) (s : Int32 × Int32) {r : m_O × m_H} {K : ((Int32 × Int32) ⊕ (Int32 × m_H)) → Prop} (k0 : ∀ x, K (.inr x) → r = (.inl (some (.int x.1)), x.2)) (k1 : ∀ s, K (.inl s) → m_Rn xs L 2 2528 161 [(0, .ref x0), (2, .int s.1), (3, .int s.2)] [] hp r) {t : (Int32 × Int32) ⊕ (Int32 × m_H)} (h : F12_count_161b x0 hp s = some t) (hK : K t) : m_Rn xs L 2 2528 161 [(0, .ref x0), (2, .int s.1), (3, .int s.2)] [] hp r := by
  unfold F12_count_161b at h
  refine g_in eF12_count_161 mx2528 ?_
  refine g_ch [(0, .ref x0), (2, .int s.1), (3, .int s.2)] [.ref x0, .int s.2] (pc' := 163) rfl rfl rfl ?_
  obtain ⟨v1, e2, h⟩ := m_bd h
  refine g_gr q12_f14 e2 ?_
  refine g_ch [(0, .ref x0), (2, .int s.1), (3, .int s.2)] [.int 2908, .ref v1, .int s.2] (pc' := 169) rfl rfl rfl ?_
  obtain ⟨v3, e4, h⟩ := m_bd h
  refine g_ia e4 ?_
  rcases m_ifd h with ⟨c5, h⟩ | ⟨c5, h⟩
  · refine g_if (t := 195) rfl (m_geT c5) ?_
    refine g_in eF12_count_195 mx2528 ?_
    refine g_ch [(0, .ref x0), (2, .int s.1), (3, .int s.2)] [.int s.1] (pc' := 196) rfl rfl rfl ?_
    cases h
    rw [k0 _ hK]
    exact g_iret rfl rfl
  · refine g_ifn (t := 195) rfl (m_geF c5) ?_
    refine g_in eF12_count_173 mx2528 ?_
    refine g_ch [(0, .ref x0), (2, .int s.1), (3, .int s.2)] [.int s.2, .ref x0, .int s.1] (pc' := 176) rfl rfl rfl ?_
    obtain ⟨v7, e6, h⟩ := m_bd h
    refine g_call (v := some (.int v7)) (h := hp) (st' := [.int v7, .int s.1]) (D1 := 1) (as := [.ref x0, .int s.2]) (Or.inr (Or.inl rfl)) q12_m298 (m_cv (as := [.int s.2]) (rest := [.int s.1]) (Or.inl rfl) q12_m298 jv2468 (OF12_lacks e6) rfl rfl rfl rfl) (by decide) (SF12_lacks e6) rfl ?_
    rcases m_ifd h with ⟨c8, h⟩ | ⟨c8, h⟩
    · refine g_ifc (t := 186) rfl (m_leT c8) ?_
      refine g_in eF12_count_186 mx2528 ?_
      refine g_ch [(0, .ref x0), (2, .int s.1), (3, .int s.2)] [.int 0, .int s.1] (pc' := 187) rfl rfl rfl ?_
      refine g_end ?_
      refine g_in eF12_count_187 mx2528 ?_
      refine g_ch [(3, .int (s.2 + 1)), (2, .int (s.1 + 0)), (0, .ref x0)] [] (pc' := 192) rfl rfl rfl ?_
      refine g_goto (t := 161) rfl ?_
      cases h
      exact r_lv (k1 ((s.1 + 0), (s.2 + 1)) hK) rfl ⟨rfl, rfl, rfl, trivial⟩
    · refine g_ifcn (t := 186) rfl (m_leF c8) ?_
      refine g_in eF12_count_182 mx2528 ?_
      refine g_ch [(0, .ref x0), (2, .int s.1), (3, .int s.2)] [.int 1, .int s.1] (pc' := 183) rfl rfl rfl ?_
      refine g_goto (t := 187) rfl ?_
      refine g_in eF12_count_187 mx2528 ?_
      refine g_ch [(3, .int (s.2 + 1)), (2, .int (s.1 + 1)), (0, .ref x0)] [] (pc' := 192) rfl rfl rfl ?_
      refine g_goto (t := 161) rfl ?_
      cases h
      exact r_lv (k1 ((s.1 + 1), (s.2 + 1)) hK) rfl ⟨rfl, rfl, rfl, trivial⟩
theorem SF12_count_161 {xs : Nat → Int32} {L : Nat} (x0 : Nat) (x2 : Int32) (x3 : Int32) (hp : m_H) {r : m_O × m_H} {K : Int32 × m_H → Prop} (k0 : ∀ x, K x → r = (.inl (some (.int x.1)), x.2)) {t : Int32 × m_H} (h : F12_count_161 x0 x2 x3 hp = some t) (hK : K t) : m_Rn xs L 2 2528 161 [(0, .ref x0), (2, .int x2), (3, .int x3)] [] hp r :=
  m_wh_ok (P := fun s => m_Rn xs L 2 2528 161 [(0, .ref x0), (2, .int s.1), (3, .int s.2)] [] hp r) (Q := K) (fun s t hb hK => SF12_count_161b x0 hp s (K := m_KK (fun s => m_Rn xs L 2 2528 161 [(0, .ref x0), (2, .int s.1), (3, .int s.2)] [] hp r) K) k0 (fun _ q => q) hb hK) m_N _ _ h hK
theorem SF12_count_208b {xs : Nat → Int32} {L : Nat} (x0 : Nat) (hp : m_H) (s : Int32 × Int32) {r : m_O × m_H} {K : ((Int32 × Int32) ⊕ (Int32 × m_H)) → Prop} (k0 : ∀ x, K (.inr x) → r = (.inl (some (.int x.1)), x.2)) (k1 : ∀ s, K (.inl s) → m_Rn xs L 2 2528 208 [(0, .ref x0), (2, .int s.1), (3, .int s.2)] [] hp r) {t : (Int32 × Int32) ⊕ (Int32 × m_H)} (h : F12_count_208b x0 hp s = some t) (hK : K t) : m_Rn xs L 2 2528 208 [(0, .ref x0), (2, .int s.1), (3, .int s.2)] [] hp r := by
  unfold F12_count_208b at h
  refine g_in eF12_count_208 mx2528 ?_
  refine g_ch [(0, .ref x0), (2, .int s.1), (3, .int s.2)] [.ref x0, .int s.2] (pc' := 210) rfl rfl rfl ?_
  obtain ⟨v1, e2, h⟩ := m_bd h
  refine g_gr q12_f14 e2 ?_
  refine g_ch [(0, .ref x0), (2, .int s.1), (3, .int s.2)] [.int 3209, .ref v1, .int s.2] (pc' := 216) rfl rfl rfl ?_
  obtain ⟨v3, e4, h⟩ := m_bd h
  refine g_ia e4 ?_
  rcases m_ifd h with ⟨c5, h⟩ | ⟨c5, h⟩
  · refine g_if (t := 244) rfl (m_geT c5) ?_
    refine g_in eF12_count_244 mx2528 ?_
    refine g_ch [(0, .ref x0), (2, .int s.1), (3, .int s.2)] [.int s.1] (pc' := 245) rfl rfl rfl ?_
    cases h
    rw [k0 _ hK]
    exact g_iret rfl rfl
  · refine g_ifn (t := 244) rfl (m_geF c5) ?_
    refine g_in eF12_count_220 mx2528 ?_
    refine g_ch [(0, .ref x0), (2, .int s.1), (3, .int s.2)] [.int 2, .int s.2, .ref x0, .int s.1] (pc' := 224) rfl rfl rfl ?_
    obtain ⟨v7, e6, h⟩ := m_bd h
    refine g_call (v := some (.int v7)) (h := hp) (st' := [.int v7, .int s.1]) (D1 := 1) (as := [.ref x0, .int s.2, .int 2]) (Or.inr (Or.inl rfl)) q12_m326 (m_cv (as := [.int 2, .int s.2]) (rest := [.int s.1]) (Or.inl rfl) q12_m326 jv2477 (OF12_its e6) rfl rfl rfl rfl) (by decide) (SF12_its e6) rfl ?_
    refine g_ch [(0, .ref x0), (2, .int s.1), (3, .int s.2)] [.int 4, .int v7, .int s.1] (pc' := 228) rfl rfl rfl ?_
    rcases m_ifd h with ⟨c8, h⟩ | ⟨c8, h⟩
    · refine g_ifn (t := 235) rfl (m_neF c8) ?_
      refine g_in eF12_count_231 mx2528 ?_
      refine g_ch [(0, .ref x0), (2, .int s.1), (3, .int s.2)] [.int 1, .int s.1] (pc' := 232) rfl rfl rfl ?_
      refine g_goto (t := 236) rfl ?_
      refine g_in eF12_count_236 mx2528 ?_
      refine g_ch [(3, .int (s.2 + 1)), (2, .int (s.1 + 1)), (0, .ref x0)] [] (pc' := 241) rfl rfl rfl ?_
      refine g_goto (t := 208) rfl ?_
      cases h
      exact r_lv (k1 ((s.1 + 1), (s.2 + 1)) hK) rfl ⟨rfl, rfl, rfl, trivial⟩
    · refine g_if (t := 235) rfl (m_neT c8) ?_
      refine g_in eF12_count_235 mx2528 ?_
      refine g_ch [(0, .ref x0), (2, .int s.1), (3, .int s.2)] [.int 0, .int s.1] (pc' := 236) rfl rfl rfl ?_
      refine g_end ?_
      refine g_in eF12_count_236 mx2528 ?_
      refine g_ch [(3, .int (s.2 + 1)), (2, .int (s.1 + 0)), (0, .ref x0)] [] (pc' := 241) rfl rfl rfl ?_
      refine g_goto (t := 208) rfl ?_
      cases h
      exact r_lv (k1 ((s.1 + 0), (s.2 + 1)) hK) rfl ⟨rfl, rfl, rfl, trivial⟩
theorem SF12_count_208 {xs : Nat → Int32} {L : Nat} (x0 : Nat) (x2 : Int32) (x3 : Int32) (hp : m_H) {r : m_O × m_H} {K : Int32 × m_H → Prop} (k0 : ∀ x, K x → r = (.inl (some (.int x.1)), x.2)) {t : Int32 × m_H} (h : F12_count_208 x0 x2 x3 hp = some t) (hK : K t) : m_Rn xs L 2 2528 208 [(0, .ref x0), (2, .int x2), (3, .int x3)] [] hp r :=
  m_wh_ok (P := fun s => m_Rn xs L 2 2528 208 [(0, .ref x0), (2, .int s.1), (3, .int s.2)] [] hp r) (Q := K) (fun s t hb hK => SF12_count_208b x0 hp s (K := m_KK (fun s => m_Rn xs L 2 2528 208 [(0, .ref x0), (2, .int s.1), (3, .int s.2)] [] hp r) K) k0 (fun _ q => q) hb hK) m_N _ _ h hK
theorem SF12_count_248b {xs : Nat → Int32} {L : Nat} (x0 : Nat) (hp : m_H) (s : Int32 × Int32) {r : m_O × m_H} {K : ((Int32 × Int32) ⊕ (Int32 × m_H)) → Prop} (k0 : ∀ x, K (.inr x) → r = (.inl (some (.int x.1)), x.2)) (k1 : ∀ s, K (.inl s) → m_Rn xs L 2 2528 248 [(0, .ref x0), (2, .int s.1), (3, .int s.2)] [] hp r) {t : (Int32 × Int32) ⊕ (Int32 × m_H)} (h : F12_count_248b x0 hp s = some t) (hK : K t) : m_Rn xs L 2 2528 248 [(0, .ref x0), (2, .int s.1), (3, .int s.2)] [] hp r := by
  unfold F12_count_248b at h
  refine g_in eF12_count_248 mx2528 ?_
  refine g_ch [(0, .ref x0), (2, .int s.1), (3, .int s.2)] [.ref x0, .int s.2] (pc' := 250) rfl rfl rfl ?_
  obtain ⟨v1, e2, h⟩ := m_bd h
  refine g_gr q12_f14 e2 ?_
  refine g_ch [(0, .ref x0), (2, .int s.1), (3, .int s.2)] [.int 807, .ref v1, .int s.2] (pc' := 256) rfl rfl rfl ?_
  obtain ⟨v3, e4, h⟩ := m_bd h
  refine g_ia e4 ?_
  rcases m_ifd h with ⟨c5, h⟩ | ⟨c5, h⟩
  · refine g_if (t := 276) rfl (m_geT c5) ?_
    refine g_in eF12_count_276 mx2528 ?_
    refine g_ch [(0, .ref x0), (2, .int s.1), (3, .int s.2)] [.int s.1] (pc' := 277) rfl rfl rfl ?_
    cases h
    rw [k0 _ hK]
    exact g_iret rfl rfl
  · refine g_ifn (t := 276) rfl (m_geF c5) ?_
    refine g_in eF12_count_260 mx2528 ?_
    refine g_ch [(0, .ref x0), (2, .int s.1), (3, .int s.2)] [.int 9, .int s.2, .ref x0, .int s.1] (pc' := 265) rfl rfl rfl ?_
    obtain ⟨v7, e6, h⟩ := m_bd h
    refine g_call (v := some (.int v7)) (h := hp) (st' := [.int v7, .int s.1]) (D1 := 1) (as := [.ref x0, .int s.2, .int 9]) (Or.inr (Or.inl rfl)) q12_m115 (m_cv (as := [.int 9, .int s.2]) (rest := [.int s.1]) (Or.inl rfl) q12_m115 jv2426 (OF12_of e6) rfl rfl rfl rfl) (by decide) (SF12_of e6) rfl ?_
    refine g_ch [(3, .int (s.2 + 1)), (2, .int (s.1 + v7)), (0, .ref x0)] [] (pc' := 273) rfl rfl rfl ?_
    refine g_goto (t := 248) rfl ?_
    cases h
    exact r_lv (k1 ((s.1 + v7), (s.2 + 1)) hK) rfl ⟨rfl, rfl, rfl, trivial⟩
theorem SF12_count_248 {xs : Nat → Int32} {L : Nat} (x0 : Nat) (x2 : Int32) (x3 : Int32) (hp : m_H) {r : m_O × m_H} {K : Int32 × m_H → Prop} (k0 : ∀ x, K x → r = (.inl (some (.int x.1)), x.2)) {t : Int32 × m_H} (h : F12_count_248 x0 x2 x3 hp = some t) (hK : K t) : m_Rn xs L 2 2528 248 [(0, .ref x0), (2, .int x2), (3, .int x3)] [] hp r :=
  m_wh_ok (P := fun s => m_Rn xs L 2 2528 248 [(0, .ref x0), (2, .int s.1), (3, .int s.2)] [] hp r) (Q := K) (fun s t hb hK => SF12_count_248b x0 hp s (K := m_KK (fun s => m_Rn xs L 2 2528 248 [(0, .ref x0), (2, .int s.1), (3, .int s.2)] [] hp r) K) k0 (fun _ q => q) hb hK) m_N _ _ h hK
theorem SF12_count_20b {xs : Nat → Int32} {L : Nat} (x0 : Nat) (x1 : Int32) (hp : m_H) (s : Int32 × Int32) {r : m_O × m_H} {K : ((Int32 × Int32) ⊕ (Int32 × m_H)) → Prop} (k0 : ∀ x, K (.inr x) → r = (.inl (some (.int x.1)), x.2)) (k1 : ∀ s, K (.inl s) → m_Rn xs L 2 2528 20 [(0, .ref x0), (1, .int x1), (2, .int s.1), (3, .int s.2)] [] hp r) {t : (Int32 × Int32) ⊕ (Int32 × m_H)} (h : F12_count_20b x0 x1 hp s = some t) (hK : K t) : m_Rn xs L 2 2528 20 [(0, .ref x0), (1, .int x1), (2, .int s.1), (3, .int s.2)] [] hp r := by
  unfold F12_count_20b at h
  refine g_in eF12_count_20 mx2528 ?_
  refine g_ch [(0, .ref x0), (1, .int x1), (2, .int s.1), (3, .int s.2)] [.ref x0, .int s.2] (pc' := 22) rfl rfl rfl ?_
  obtain ⟨v1, e2, h⟩ := m_bd h
  refine g_gr q12_f14 e2 ?_
  refine g_ch [(0, .ref x0), (1, .int x1), (2, .int s.1), (3, .int s.2)] [.int 807, .ref v1, .int s.2] (pc' := 28) rfl rfl rfl ?_
  obtain ⟨v3, e4, h⟩ := m_bd h
  refine g_ia e4 ?_
  rcases m_ifd h with ⟨c5, h⟩ | ⟨c5, h⟩
  · refine g_if (t := 53) rfl (m_geT c5) ?_
    refine g_in eF12_count_53 mx2528 ?_
    refine g_ch [(0, .ref x0), (1, .int x1), (2, .int s.1), (3, .int s.2)] [.int s.1] (pc' := 54) rfl rfl rfl ?_
    cases h
    rw [k0 _ hK]
    exact g_iret rfl rfl
  · refine g_ifn (t := 53) rfl (m_geF c5) ?_
    refine g_in eF12_count_32 mx2528 ?_
    refine g_ch [(0, .ref x0), (1, .int x1), (2, .int s.1), (3, .int s.2)] [.int ((10 + x1) - 12), .int s.2, .ref x0, .int s.1] (pc' := 42) rfl rfl rfl ?_
    obtain ⟨v7, e6, h⟩ := m_bd h
    refine g_call (v := some (.int v7)) (h := hp) (st' := [.int v7, .int s.1]) (D1 := 1) (as := [.ref x0, .int s.2, .int ((10 + x1) - 12)]) (Or.inr (Or.inl rfl)) q12_m115 (m_cv (as := [.int ((10 + x1) - 12), .int s.2]) (rest := [.int s.1]) (Or.inl rfl) q12_m115 jv2426 (OF12_of e6) rfl rfl rfl rfl) (by decide) (SF12_of e6) rfl ?_
    refine g_ch [(3, .int (s.2 + 1)), (2, .int (s.1 + v7)), (0, .ref x0), (1, .int x1)] [] (pc' := 50) rfl rfl rfl ?_
    refine g_goto (t := 20) rfl ?_
    cases h
    exact r_lv (k1 ((s.1 + v7), (s.2 + 1)) hK) rfl ⟨rfl, rfl, rfl, rfl, trivial⟩
theorem SF12_count_20 {xs : Nat → Int32} {L : Nat} (x0 : Nat) (x1 : Int32) (x2 : Int32) (x3 : Int32) (hp : m_H) {r : m_O × m_H} {K : Int32 × m_H → Prop} (k0 : ∀ x, K x → r = (.inl (some (.int x.1)), x.2)) {t : Int32 × m_H} (h : F12_count_20 x0 x1 x2 x3 hp = some t) (hK : K t) : m_Rn xs L 2 2528 20 [(0, .ref x0), (1, .int x1), (2, .int x2), (3, .int x3)] [] hp r :=
  m_wh_ok (P := fun s => m_Rn xs L 2 2528 20 [(0, .ref x0), (1, .int x1), (2, .int s.1), (3, .int s.2)] [] hp r) (Q := K) (fun s t hb hK => SF12_count_20b x0 x1 hp s (K := m_KK (fun s => m_Rn xs L 2 2528 20 [(0, .ref x0), (1, .int x1), (2, .int s.1), (3, .int s.2)] [] hp r) K) k0 (fun _ q => q) hb hK) m_N _ _ h hK
theorem SF12_count_0 {xs : Nat → Int32} {L : Nat} (x0 : Nat) (x1 : Int32) (hp : m_H) {r : m_O × m_H} {K : (Int32 × m_H) → Prop} (k0 : ∀ x, K x → r = (.inl (some (.int x.1)), x.2)) {t : Int32 × m_H} (h : F12_count_0 x0 x1 hp = some t) (hK : K t) : m_Rn xs L 2 2528 0 [(0, .ref x0), (1, .int x1)] [] hp r := by
  unfold F12_count_0 at h
  refine g_in eF12_count_0 mx2528 ?_
  refine g_ch [(0, .ref x0), (1, .int x1)] [.int 0, .ref x0] (pc' := 2) rfl rfl rfl ?_
  obtain ⟨h1, e2, h⟩ := m_bd h
  refine g_pf q12_f3 e2 ?_
  refine g_ch [(2, .int 0), (0, .ref x0), (1, .int x1)] [.int 20, .int 12, .int x1] (pc' := 12) rfl rfl rfl ?_
  obtain ⟨v4, e3, h⟩ := m_bd h
  refine g_call (v := some (.int v4)) (h := h1) (st' := [.int v4]) (D1 := 0) (as := [.int x1, .int 12, .int 20]) (Or.inl rfl) q12_m74 (m_cs (as := [.int 20, .int 12, .int x1]) (rest := []) q12_m74 jv2402 rfl rfl rfl rfl rfl) (by decide) (SF12_in e3) rfl ?_
  rcases m_ifd h with ⟨c5, h⟩ | ⟨c5, h⟩
  · refine g_ifc (t := 55) rfl (m_eqT c5) ?_
    refine g_in eF12_count_55 mx2528 ?_
    refine g_ch [(2, .int 0), (0, .ref x0), (1, .int x1)] [.int x1] (pc' := 56) rfl rfl rfl ?_
    rcases m_swd h with ⟨e7, h⟩ | ⟨w6, e7, h⟩
    · refine g_swd e7 (t := 301) rfl ?_
      refine g_in eF12_count_301 mx2528 ?_
      refine g_ch [(2, .int 0), (0, .ref x0), (1, .int x1)] [.int (-1)] (pc' := 302) rfl rfl rfl ?_
      cases h
      rw [k0 _ hK]
      exact g_iret rfl rfl
    · rcases m_ifd h with ⟨c8, hc8⟩ | ⟨c8, h⟩
      · subst c8
        have h := hc8
        refine g_sw (o := 64) (t := 120) e7 rfl rfl ?_
        refine g_in eF12_count_120 mx2528 ?_
        refine g_ch [(2, .int 0), (0, .ref x0), (1, .int x1)] [.ref x0] (pc' := 121) rfl rfl rfl ?_
        obtain ⟨v10, e9, h⟩ := m_bd h
        refine g_call (v := some (.int v10)) (h := h1) (st' := [.int v10]) (D1 := 0) (as := [.ref x0]) (Or.inr (Or.inl rfl)) q12_m86 (m_cv (as := []) (rest := []) (Or.inl rfl) q12_m86 jv2404 (OF12_week e9) rfl rfl rfl rfl) (by decide) (SF12_week e9) rfl ?_
        cases h
        rw [k0 _ hK]
        exact g_iret rfl rfl
      rcases m_ifd h with ⟨c11, hc11⟩ | ⟨c11, h⟩
      · subst c11
        have h := hc11
        refine g_sw (o := 69) (t := 125) e7 rfl rfl ?_
        refine g_in eF12_count_125 mx2528 ?_
        refine g_ch [(2, .int 0), (0, .ref x0), (1, .int x1)] [.ref x0] (pc' := 126) rfl rfl rfl ?_
        obtain ⟨v12, e13, h⟩ := m_bd h
        refine g_gr q12_f14 e13 ?_
        refine g_ch [(2, .int 0), (0, .ref x0), (1, .int x1)] [.int 807, .ref v12] (pc' := 132) rfl rfl rfl ?_
        obtain ⟨v14, e15, h⟩ := m_bd h
        refine g_ia e15 ?_
        cases h
        rw [k0 _ hK]
        exact g_iret rfl rfl
      rcases m_ifd h with ⟨c16, hc16⟩ | ⟨c16, h⟩
      · subst c16
        have h := hc16
        refine g_sw (o := 78) (t := 134) e7 rfl rfl ?_
        refine g_in eF12_count_134 mx2528 ?_
        refine g_ch [(2, .int 0), (0, .ref x0), (1, .int x1)] [.ref x0] (pc' := 135) rfl rfl rfl ?_
        obtain ⟨v17, e18, h⟩ := m_bd h
        refine g_gr q12_f14 e18 ?_
        refine g_ch [(2, .int 0), (0, .ref x0), (1, .int x1)] [.int 1, .ref v17] (pc' := 139) rfl rfl rfl ?_
        obtain ⟨v19, e20, h⟩ := m_bd h
        refine g_ia e20 ?_
        cases h
        rw [k0 _ hK]
        exact g_iret rfl rfl
      rcases m_ifd h with ⟨c21, hc21⟩ | ⟨c21, h⟩
      · subst c21
        have h := hc21
        refine g_sw (o := 85) (t := 141) e7 rfl rfl ?_
        refine g_in eF12_count_141 mx2528 ?_
        refine g_ch [(2, .int 0), (0, .ref x0), (1, .int x1)] [.ref x0] (pc' := 142) rfl rfl rfl ?_
        obtain ⟨v22, e23, h⟩ := m_bd h
        refine g_gr q12_f14 e23 ?_
        refine g_ch [(2, .int 0), (0, .ref x0), (1, .int x1)] [.int 28326, .ref v22] (pc' := 148) rfl rfl rfl ?_
        obtain ⟨v24, e25, h⟩ := m_bd h
        refine g_ia e25 ?_
        cases h
        rw [k0 _ hK]
        exact g_iret rfl rfl
      rcases m_ifd h with ⟨c26, hc26⟩ | ⟨c26, h⟩
      · subst c26
        have h := hc26
        refine g_sw (o := 94) (t := 150) e7 rfl rfl ?_
        refine g_in eF12_count_150 mx2528 ?_
        refine g_ch [(2, .int 0), (0, .ref x0), (1, .int x1)] [.ref x0, .ref x0] (pc' := 152) rfl rfl rfl ?_
        obtain ⟨v28, e27, h⟩ := m_bd h
        refine g_call (v := some (.int v28)) (h := h1) (st' := [.int v28, .ref x0]) (D1 := 1) (as := [.ref x0]) (Or.inr (Or.inl rfl)) q12_m268 (m_cv (as := []) (rest := [.ref x0]) (Or.inl rfl) q12_m268 jv2459 (OF12_text e27) rfl rfl rfl rfl) (by decide) (SF12_text e27) rfl ?_
        obtain ⟨v30, e29, h⟩ := m_bd h
        refine g_call (v := some (.int v30)) (h := h1) (st' := [.int v30]) (D1 := 1) (as := [.ref x0, .int v28]) (Or.inr (Or.inl rfl)) q12_m271 (m_cv (as := [.int v28]) (rest := []) (Or.inl rfl) q12_m271 jv2460 (OF12_linesOf e29) rfl rfl rfl rfl) (by decide) (SF12_linesOf e29) rfl ?_
        cases h
        rw [k0 _ hK]
        exact g_iret rfl rfl
      rcases m_ifd h with ⟨c31, hc31⟩ | ⟨c31, h⟩
      · subst c31
        have h := hc31
        refine g_sw (o := 103) (t := 159) e7 rfl rfl ?_
        refine g_in eF12_count_159 mx2528 ?_
        refine g_ch [(3, .int 0), (2, .int 0), (0, .ref x0), (1, .int x1)] [] (pc' := 161) rfl rfl rfl ?_
        refine g_end ?_
        exact r_lv (SF12_count_161 x0 0 0 h1 (K := K) k0 h hK) rfl ⟨rfl, rfl, rfl, trivial⟩
      rcases m_ifd h with ⟨c32, hc32⟩ | ⟨c32, h⟩
      · subst c32
        have h := hc32
        refine g_sw (o := 141) (t := 197) e7 rfl rfl ?_
        refine g_in eF12_count_197 mx2528 ?_
        refine g_ch [(2, .int 0), (0, .ref x0), (1, .int x1)] [.ref x0] (pc' := 198) rfl rfl rfl ?_
        obtain ⟨v33, e34, h⟩ := m_bd h
        refine g_gr q12_f14 e34 ?_
        refine g_ch [(2, .int 0), (0, .ref x0), (1, .int x1)] [.int 3209, .ref v33] (pc' := 204) rfl rfl rfl ?_
        obtain ⟨v35, e36, h⟩ := m_bd h
        refine g_ia e36 ?_
        cases h
        rw [k0 _ hK]
        exact g_iret rfl rfl
      rcases m_ifd h with ⟨c37, hc37⟩ | ⟨c37, h⟩
      · subst c37
        have h := hc37
        refine g_sw (o := 150) (t := 206) e7 rfl rfl ?_
        refine g_in eF12_count_206 mx2528 ?_
        refine g_ch [(3, .int 0), (2, .int 0), (0, .ref x0), (1, .int x1)] [] (pc' := 208) rfl rfl rfl ?_
        refine g_end ?_
        exact r_lv (SF12_count_208 x0 0 0 h1 (K := K) k0 h hK) rfl ⟨rfl, rfl, rfl, trivial⟩
      rcases m_ifd h with ⟨c38, hc38⟩ | ⟨c38, h⟩
      · subst c38
        have h := hc38
        refine g_sw (o := 190) (t := 246) e7 rfl rfl ?_
        refine g_in eF12_count_246 mx2528 ?_
        refine g_ch [(3, .int 0), (2, .int 0), (0, .ref x0), (1, .int x1)] [] (pc' := 248) rfl rfl rfl ?_
        refine g_end ?_
        exact r_lv (SF12_count_248 x0 0 0 h1 (K := K) k0 h hK) rfl ⟨rfl, rfl, rfl, trivial⟩
      rcases m_ifd h with ⟨c39, hc39⟩ | ⟨c39, h⟩
      · subst c39
        have h := hc39
        refine g_sw (o := 222) (t := 278) e7 rfl rfl ?_
        refine g_in eF12_count_278 mx2528 ?_
        refine g_ch [(2, .int 0), (0, .ref x0), (1, .int x1)] [.ref x0] (pc' := 279) rfl rfl rfl ?_
        obtain ⟨v40, e41, h⟩ := m_bd h
        refine g_gr q12_f14 e41 ?_
        refine g_ch [(2, .int 0), (0, .ref x0), (1, .int x1)] [.int 4168, .ref v40] (pc' := 285) rfl rfl rfl ?_
        obtain ⟨v42, e43, h⟩ := m_bd h
        refine g_ia e43 ?_
        cases h
        rw [k0 _ hK]
        exact g_iret rfl rfl
      rcases m_ifd h with ⟨c44, hc44⟩ | ⟨c44, h⟩
      · subst c44
        have h := hc44
        refine g_sw (o := 231) (t := 287) e7 rfl rfl ?_
        refine g_in eF12_count_287 mx2528 ?_
        refine g_ch [(2, .int 0), (0, .ref x0), (1, .int x1)] [.ref x0] (pc' := 288) rfl rfl rfl ?_
        obtain ⟨v45, e46, h⟩ := m_bd h
        refine g_gr q12_f14 e46 ?_
        refine g_ch [(2, .int 0), (0, .ref x0), (1, .int x1)] [.int 4, .ref v45] (pc' := 292) rfl rfl rfl ?_
        obtain ⟨v47, e48, h⟩ := m_bd h
        refine g_ia e48 ?_
        cases h
        rw [k0 _ hK]
        exact g_iret rfl rfl
      rcases m_ifd h with ⟨c49, hc49⟩ | ⟨c49, h⟩
      · subst c49
        have h := hc49
        refine g_sw (o := 238) (t := 294) e7 rfl rfl ?_
        refine g_in eF12_count_294 mx2528 ?_
        refine g_ch [(2, .int 0), (0, .ref x0), (1, .int x1)] [.ref x0] (pc' := 295) rfl rfl rfl ?_
        obtain ⟨v50, e51, h⟩ := m_bd h
        refine g_gr q12_f14 e51 ?_
        refine g_ch [(2, .int 0), (0, .ref x0), (1, .int x1)] [.int 3, .ref v50] (pc' := 299) rfl rfl rfl ?_
        obtain ⟨v52, e53, h⟩ := m_bd h
        refine g_ia e53 ?_
        cases h
        rw [k0 _ hK]
        exact g_iret rfl rfl
      cases h
  · refine g_ifcn (t := 55) rfl (m_eqF c5) ?_
    refine g_in eF12_count_18 mx2528 ?_
    refine g_ch [(3, .int 0), (2, .int 0), (0, .ref x0), (1, .int x1)] [] (pc' := 20) rfl rfl rfl ?_
    refine g_end ?_
    exact r_lv (SF12_count_20 x0 x1 0 0 h1 (K := K) k0 h hK) rfl ⟨rfl, rfl, rfl, rfl, trivial⟩
theorem OF12_count {x0 : Nat} {x1 : Int32} {hp : m_H} {x : Int32 × m_H} (h : F12_count x0 x1 hp = some x) : m_isO hp 9 x0 = true := (m_gdd h).1
theorem SF12_count {xs : Nat → Int32} {L : Nat} {x0 : Nat} {x1 : Int32} {hp : m_H} {x : Int32 × m_H} (h : F12_count x0 x1 hp = some x) : m_Rn xs L 2 2528 0 (lv_args 0 [.ref x0, .int x1]) [] hp (.inl (some (.int x.1)), x.2) :=
  r_lv (SF12_count_0 x0 x1 hp (K := fun y => y = x) (fun y e => by rw [e]) (m_gdd h).2 rfl) rfl ⟨rfl, rfl, trivial⟩
-- F13_sort: LendHouseLaw.sort(LLendHouse;IIIII)I
theorem eF13_sort_0 : m_Fe mi13_0 0 (m_ap [(.aload_n 0, 1), (.iload_n 1, 1), (.iload_n 2, 1), (.iload_n 3, 1), (.iload 4, 2), (.iload 5, 2)] ((.invokevirtual 7, 3) :: ([(.goto 11, 3)]))) := m_Fe_of nd2600 0 8 rfl
theorem eF13_sort_22 : m_Fe mi13_0 22 (m_ap [(.iconst 0, 1)] ([(.ireturn, 1)])) := m_Fe_of nd2600 14 2 rfl
theorem eF13_sort_14 : m_Fe mi13_0 14 (m_ap [(.astore 6, 2), (.iconst 1, 1)] ([(.ireturn, 1)])) := m_Fe_of nd2600 8 3 rfl
theorem eF13_sort_18 : m_Fe mi13_0 18 (m_ap [(.astore 6, 2), (.iconst 2, 1)] ([(.ireturn, 1)])) := m_Fe_of nd2600 11 3 rfl
theorem SF13_sort_0 {xs : Nat → Int32} {L : Nat} (x0 : Nat) (x1 : Int32) (x2 : Int32) (x3 : Int32) (x4 : Int32) (x5 : Int32) (hp : m_H) {r : m_O × m_H} {K : (Int32 × m_H) → Prop} (k0 : ∀ x, K x → r = (.inl (some (.int x.1)), x.2)) {t : Int32 × m_H} (h : F13_sort_0 x0 x1 x2 x3 x4 x5 hp = some t) (hK : K t) : m_Rn xs L 9 2600 0 [(0, .ref x0), (1, .int x1), (2, .int x2), (3, .int x3), (4, .int x4), (5, .int x5)] [] hp r := by
  unfold F13_sort_0 at h
  refine g_in eF13_sort_0 mx2600 ?_
  refine g_ch [(0, .ref x0), (1, .int x1), (2, .int x2), (3, .int x3), (4, .int x4), (5, .int x5)] [.int x5, .int x4, .int x3, .int x2, .int x1, .ref x0] (pc' := 8) rfl rfl rfl ?_
  obtain ⟨z2, e1, h⟩ := m_bd h
  rcases m_sxd h with ⟨u8, e3, h⟩ | ⟨E4, e3, h⟩
  · have q5 := (SF11_sort (xs := xs) (L := L) e1)
    unfold m_xV at q5
    rw [e3] at q5
    refine g_call (v := none) (h := z2.2) (st' := []) (D1 := 8) (as := [.ref x0, .int x1, .int x2, .int x3, .int x4, .int x5]) (Or.inr (Or.inl rfl)) q13_m7 (m_cv (as := [.int x5, .int x4, .int x3, .int x2, .int x1]) (rest := []) (Or.inl rfl) q13_m7 jv2205 (OF11_sort e1) rfl rfl rfl rfl) (by decide) q5 rfl ?_
    refine g_goto (t := 22) rfl ?_
    refine g_in eF13_sort_22 mx2600 ?_
    refine g_ch [(0, .ref x0), (1, .int x1), (2, .int x2), (3, .int x3), (4, .int x4), (5, .int x5)] [.int 0] (pc' := 23) rfl rfl rfl ?_
    cases h
    rw [k0 _ hK]
    exact g_iret rfl rfl
  · have q5 := (SF11_sort (xs := xs) (L := L) e1)
    unfold m_xV at q5
    rw [e3] at q5
    rcases m_ifd h with ⟨c6, hc6⟩ | ⟨c6, h⟩
    · subst c6
      have h := hc6
      refine g_callH (t := 14) (D1 := 8) (as := [.ref x0, .int x1, .int x2, .int x3, .int x4, .int x5]) (Or.inr (Or.inl rfl)) q13_m7 (m_cv (as := [.int x5, .int x4, .int x3, .int x2, .int x1]) (rest := []) (Or.inl rfl) q13_m7 jv2205 (OF11_sort e1) rfl rfl rfl rfl) (by decide) q5 rfl ?_
      refine g_in eF13_sort_14 mx2600 ?_
      refine g_ch [(6, .retAddr 0), (0, .ref x0), (1, .int x1), (2, .int x2), (3, .int x3), (4, .int x4), (5, .int x5)] [.int 1] (pc' := 17) rfl rfl rfl ?_
      cases h
      rw [k0 _ hK]
      exact g_iret rfl rfl
    rcases m_ifd h with ⟨c7, hc7⟩ | ⟨c7, h⟩
    · subst c7
      have h := hc7
      refine g_callH (t := 18) (D1 := 8) (as := [.ref x0, .int x1, .int x2, .int x3, .int x4, .int x5]) (Or.inr (Or.inl rfl)) q13_m7 (m_cv (as := [.int x5, .int x4, .int x3, .int x2, .int x1]) (rest := []) (Or.inl rfl) q13_m7 jv2205 (OF11_sort e1) rfl rfl rfl rfl) (by decide) q5 rfl ?_
      refine g_in eF13_sort_18 mx2600 ?_
      refine g_ch [(6, .retAddr 0), (0, .ref x0), (1, .int x1), (2, .int x2), (3, .int x3), (4, .int x4), (5, .int x5)] [.int 2] (pc' := 21) rfl rfl rfl ?_
      cases h
      rw [k0 _ hK]
      exact g_iret rfl rfl
    cases h
theorem SF13_sort {xs : Nat → Int32} {L : Nat} {x0 : Nat} {x1 : Int32} {x2 : Int32} {x3 : Int32} {x4 : Int32} {x5 : Int32} {hp : m_H} {x : Int32 × m_H} (h : F13_sort x0 x1 x2 x3 x4 x5 hp = some x) : m_Rn xs L 9 2600 0 (lv_args 0 [.ref x0, .int x1, .int x2, .int x3, .int x4, .int x5]) [] hp (.inl (some (.int x.1)), x.2) :=
  r_lv (SF13_sort_0 x0 x1 x2 x3 x4 x5 hp (K := fun y => y = x) (fun y e => by rw [e]) h rfl) rfl ⟨rfl, rfl, rfl, rfl, rfl, rfl, trivial⟩
-- F13_price: LendHouseLaw.price(LLendHouse;III[J)I
theorem eF13_price_0 : m_Fe mi13_1 0 (m_ap [(.aload 4, 2), (.iconst 0, 1), (.aload_n 0, 1), (.iload_n 1, 1), (.iload_n 2, 1), (.iload_n 3, 1)] ((.invokevirtual 17, 3) :: (m_ap [(.i2l, 1)] ((.lastore, 1) :: ([(.goto 11, 3)]))))) := m_Fe_of nd2601 0 10 rfl
theorem eF13_price_23 : m_Fe mi13_1 23 (m_ap [(.iconst 0, 1)] ([(.ireturn, 1)])) := m_Fe_of nd2601 16 2 rfl
theorem eF13_price_15 : m_Fe mi13_1 15 (m_ap [(.astore 5, 2), (.iconst 1, 1)] ([(.ireturn, 1)])) := m_Fe_of nd2601 10 3 rfl
theorem eF13_price_19 : m_Fe mi13_1 19 (m_ap [(.astore 5, 2), (.iconst 2, 1)] ([(.ireturn, 1)])) := m_Fe_of nd2601 13 3 rfl
theorem SF13_price_0 {xs : Nat → Int32} {L : Nat} (x0 : Nat) (x1 : Int32) (x2 : Int32) (x3 : Int32) (x4 : Nat) (hp : m_H) {r : m_O × m_H} {K : (Int32 × m_H) → Prop} (k0 : ∀ x, K x → r = (.inl (some (.int x.1)), x.2)) {t : Int32 × m_H} (h : F13_price_0 x0 x1 x2 x3 x4 hp = some t) (hK : K t) : m_Rn xs L 9 2601 0 [(0, .ref x0), (1, .int x1), (2, .int x2), (3, .int x3), (4, .ref x4)] [] hp r := by
  unfold F13_price_0 at h
  refine g_in eF13_price_0 mx2601 ?_
  refine g_ch [(0, .ref x0), (1, .int x1), (2, .int x2), (3, .int x3), (4, .ref x4)] [.int x3, .int x2, .int x1, .ref x0, .int 0, .ref x4] (pc' := 7) rfl rfl rfl ?_
  obtain ⟨z2, e1, h⟩ := m_bd h
  rcases m_sxd h with ⟨v3, e4, h⟩ | ⟨E5, e4, h⟩
  · have q6 := (SF11_price (xs := xs) (L := L) e1)
    unfold m_xI at q6
    rw [e4] at q6
    refine g_call (v := some (.int v3)) (h := z2.2) (st' := [.int v3, .int 0, .ref x4]) (D1 := 8) (as := [.ref x0, .int x1, .int x2, .int x3]) (Or.inr (Or.inl rfl)) q13_m17 (m_cv (as := [.int x3, .int x2, .int x1]) (rest := [.int 0, .ref x4]) (Or.inl rfl) q13_m17 jv2206 (OF11_price e1) rfl rfl rfl rfl) (by decide) q6 rfl ?_
    refine g_ch [(0, .ref x0), (1, .int x1), (2, .int x2), (3, .int x3), (4, .ref x4)] [.long (m_i2l v3), .int 0, .ref x4] (pc' := 11) rfl rfl rfl ?_
    obtain ⟨h7, e8, h⟩ := m_bd h
    refine g_ls e8 ?_
    refine g_goto (t := 23) rfl ?_
    refine g_in eF13_price_23 mx2601 ?_
    refine g_ch [(0, .ref x0), (1, .int x1), (2, .int x2), (3, .int x3), (4, .ref x4)] [.int 0] (pc' := 24) rfl rfl rfl ?_
    cases h
    rw [k0 _ hK]
    exact g_iret rfl rfl
  · have q6 := (SF11_price (xs := xs) (L := L) e1)
    unfold m_xI at q6
    rw [e4] at q6
    rcases m_ifd h with ⟨c9, hc9⟩ | ⟨c9, h⟩
    · subst c9
      have h := hc9
      refine g_callH (t := 15) (D1 := 8) (as := [.ref x0, .int x1, .int x2, .int x3]) (Or.inr (Or.inl rfl)) q13_m17 (m_cv (as := [.int x3, .int x2, .int x1]) (rest := [.int 0, .ref x4]) (Or.inl rfl) q13_m17 jv2206 (OF11_price e1) rfl rfl rfl rfl) (by decide) q6 rfl ?_
      refine g_in eF13_price_15 mx2601 ?_
      refine g_ch [(5, .retAddr 0), (0, .ref x0), (1, .int x1), (2, .int x2), (3, .int x3), (4, .ref x4)] [.int 1] (pc' := 18) rfl rfl rfl ?_
      cases h
      rw [k0 _ hK]
      exact g_iret rfl rfl
    rcases m_ifd h with ⟨c10, hc10⟩ | ⟨c10, h⟩
    · subst c10
      have h := hc10
      refine g_callH (t := 19) (D1 := 8) (as := [.ref x0, .int x1, .int x2, .int x3]) (Or.inr (Or.inl rfl)) q13_m17 (m_cv (as := [.int x3, .int x2, .int x1]) (rest := [.int 0, .ref x4]) (Or.inl rfl) q13_m17 jv2206 (OF11_price e1) rfl rfl rfl rfl) (by decide) q6 rfl ?_
      refine g_in eF13_price_19 mx2601 ?_
      refine g_ch [(5, .retAddr 0), (0, .ref x0), (1, .int x1), (2, .int x2), (3, .int x3), (4, .ref x4)] [.int 2] (pc' := 22) rfl rfl rfl ?_
      cases h
      rw [k0 _ hK]
      exact g_iret rfl rfl
    cases h
theorem SF13_price {xs : Nat → Int32} {L : Nat} {x0 : Nat} {x1 : Int32} {x2 : Int32} {x3 : Int32} {x4 : Nat} {hp : m_H} {x : Int32 × m_H} (h : F13_price x0 x1 x2 x3 x4 hp = some x) : m_Rn xs L 9 2601 0 (lv_args 0 [.ref x0, .int x1, .int x2, .int x3, .ref x4]) [] hp (.inl (some (.int x.1)), x.2) :=
  r_lv (SF13_price_0 x0 x1 x2 x3 x4 hp (K := fun y => y = x) (fun y e => by rw [e]) h rfl) rfl ⟨rfl, rfl, rfl, rfl, rfl, trivial⟩
-- F13_cost: LendHouseLaw.cost(LLendHouse;II[J)I
theorem eF13_cost_0 : m_Fe mi13_2 0 (m_ap [(.aload_n 3, 1), (.iconst 0, 1), (.aload_n 0, 1), (.iload_n 1, 1), (.iload_n 2, 1)] ((.invokevirtual 21, 3) :: (m_ap [(.i2l, 1)] ((.lastore, 1) :: ([(.goto 7, 3)]))))) := m_Fe_of nd2602 0 9 rfl
theorem eF13_cost_17 : m_Fe mi13_2 17 (m_ap [(.iconst 0, 1)] ([(.ireturn, 1)])) := m_Fe_of nd2602 12 2 rfl
theorem eF13_cost_13 : m_Fe mi13_2 13 (m_ap [(.astore 4, 2), (.iconst 1, 1)] ([(.ireturn, 1)])) := m_Fe_of nd2602 9 3 rfl
theorem SF13_cost_0 {xs : Nat → Int32} {L : Nat} (x0 : Nat) (x1 : Int32) (x2 : Int32) (x3 : Nat) (hp : m_H) {r : m_O × m_H} {K : (Int32 × m_H) → Prop} (k0 : ∀ x, K x → r = (.inl (some (.int x.1)), x.2)) {t : Int32 × m_H} (h : F13_cost_0 x0 x1 x2 x3 hp = some t) (hK : K t) : m_Rn xs L 9 2602 0 [(0, .ref x0), (1, .int x1), (2, .int x2), (3, .ref x3)] [] hp r := by
  unfold F13_cost_0 at h
  refine g_in eF13_cost_0 mx2602 ?_
  refine g_ch [(0, .ref x0), (1, .int x1), (2, .int x2), (3, .ref x3)] [.int x2, .int x1, .ref x0, .int 0, .ref x3] (pc' := 5) rfl rfl rfl ?_
  obtain ⟨z2, e1, h⟩ := m_bd h
  rcases m_sxd h with ⟨v3, e4, h⟩ | ⟨E5, e4, h⟩
  · have q6 := (SF11_cost (xs := xs) (L := L) e1)
    unfold m_xI at q6
    rw [e4] at q6
    refine g_call (v := some (.int v3)) (h := z2.2) (st' := [.int v3, .int 0, .ref x3]) (D1 := 8) (as := [.ref x0, .int x1, .int x2]) (Or.inr (Or.inl rfl)) q13_m21 (m_cv (as := [.int x2, .int x1]) (rest := [.int 0, .ref x3]) (Or.inl rfl) q13_m21 jv2207 (OF11_cost e1) rfl rfl rfl rfl) (by decide) q6 rfl ?_
    refine g_ch [(0, .ref x0), (1, .int x1), (2, .int x2), (3, .ref x3)] [.long (m_i2l v3), .int 0, .ref x3] (pc' := 9) rfl rfl rfl ?_
    obtain ⟨h7, e8, h⟩ := m_bd h
    refine g_ls e8 ?_
    refine g_goto (t := 17) rfl ?_
    refine g_in eF13_cost_17 mx2602 ?_
    refine g_ch [(0, .ref x0), (1, .int x1), (2, .int x2), (3, .ref x3)] [.int 0] (pc' := 18) rfl rfl rfl ?_
    cases h
    rw [k0 _ hK]
    exact g_iret rfl rfl
  · have q6 := (SF11_cost (xs := xs) (L := L) e1)
    unfold m_xI at q6
    rw [e4] at q6
    rcases m_ifd h with ⟨c9, hc9⟩ | ⟨c9, h⟩
    · subst c9
      have h := hc9
      refine g_callH (t := 13) (D1 := 8) (as := [.ref x0, .int x1, .int x2]) (Or.inr (Or.inl rfl)) q13_m21 (m_cv (as := [.int x2, .int x1]) (rest := [.int 0, .ref x3]) (Or.inl rfl) q13_m21 jv2207 (OF11_cost e1) rfl rfl rfl rfl) (by decide) q6 rfl ?_
      refine g_in eF13_cost_13 mx2602 ?_
      refine g_ch [(4, .retAddr 0), (0, .ref x0), (1, .int x1), (2, .int x2), (3, .ref x3)] [.int 1] (pc' := 16) rfl rfl rfl ?_
      cases h
      rw [k0 _ hK]
      exact g_iret rfl rfl
    cases h
theorem SF13_cost {xs : Nat → Int32} {L : Nat} {x0 : Nat} {x1 : Int32} {x2 : Int32} {x3 : Nat} {hp : m_H} {x : Int32 × m_H} (h : F13_cost x0 x1 x2 x3 hp = some x) : m_Rn xs L 9 2602 0 (lv_args 0 [.ref x0, .int x1, .int x2, .ref x3]) [] hp (.inl (some (.int x.1)), x.2) :=
  r_lv (SF13_cost_0 x0 x1 x2 x3 hp (K := fun y => y = x) (fun y e => by rw [e]) h rfl) rfl ⟨rfl, rfl, rfl, rfl, trivial⟩
-- F13_works: LendHouseLaw.works(LLendHouse;II[J)I
theorem eF13_works_0 : m_Fe mi13_3 0 (m_ap [(.aload_n 3, 1), (.iconst 0, 1), (.aload_n 0, 1), (.iload_n 1, 1), (.iload_n 2, 1)] ((.invokevirtual 25, 3) :: (m_ap [(.i2l, 1)] ((.lastore, 1) :: ([(.goto 7, 3)]))))) := m_Fe_of nd2603 0 9 rfl
theorem eF13_works_17 : m_Fe mi13_3 17 (m_ap [(.iconst 0, 1)] ([(.ireturn, 1)])) := m_Fe_of nd2603 12 2 rfl
theorem eF13_works_13 : m_Fe mi13_3 13 (m_ap [(.astore 4, 2), (.iconst 1, 1)] ([(.ireturn, 1)])) := m_Fe_of nd2603 9 3 rfl
theorem SF13_works_0 {xs : Nat → Int32} {L : Nat} (x0 : Nat) (x1 : Int32) (x2 : Int32) (x3 : Nat) (hp : m_H) {r : m_O × m_H} {K : (Int32 × m_H) → Prop} (k0 : ∀ x, K x → r = (.inl (some (.int x.1)), x.2)) {t : Int32 × m_H} (h : F13_works_0 x0 x1 x2 x3 hp = some t) (hK : K t) : m_Rn xs L 8 2603 0 [(0, .ref x0), (1, .int x1), (2, .int x2), (3, .ref x3)] [] hp r := by
  unfold F13_works_0 at h
  refine g_in eF13_works_0 mx2603 ?_
  refine g_ch [(0, .ref x0), (1, .int x1), (2, .int x2), (3, .ref x3)] [.int x2, .int x1, .ref x0, .int 0, .ref x3] (pc' := 5) rfl rfl rfl ?_
  obtain ⟨z2, e1, h⟩ := m_bd h
  rcases m_sxd h with ⟨v3, e4, h⟩ | ⟨E5, e4, h⟩
  · have q6 := (SF11_works (xs := xs) (L := L) e1)
    unfold m_xI at q6
    rw [e4] at q6
    refine g_call (v := some (.int v3)) (h := z2.2) (st' := [.int v3, .int 0, .ref x3]) (D1 := 7) (as := [.ref x0, .int x1, .int x2]) (Or.inr (Or.inl rfl)) q13_m25 (m_cv (as := [.int x2, .int x1]) (rest := [.int 0, .ref x3]) (Or.inl rfl) q13_m25 jv2208 (OF11_works e1) rfl rfl rfl rfl) (by decide) q6 rfl ?_
    refine g_ch [(0, .ref x0), (1, .int x1), (2, .int x2), (3, .ref x3)] [.long (m_i2l v3), .int 0, .ref x3] (pc' := 9) rfl rfl rfl ?_
    obtain ⟨h7, e8, h⟩ := m_bd h
    refine g_ls e8 ?_
    refine g_goto (t := 17) rfl ?_
    refine g_in eF13_works_17 mx2603 ?_
    refine g_ch [(0, .ref x0), (1, .int x1), (2, .int x2), (3, .ref x3)] [.int 0] (pc' := 18) rfl rfl rfl ?_
    cases h
    rw [k0 _ hK]
    exact g_iret rfl rfl
  · have q6 := (SF11_works (xs := xs) (L := L) e1)
    unfold m_xI at q6
    rw [e4] at q6
    rcases m_ifd h with ⟨c9, hc9⟩ | ⟨c9, h⟩
    · subst c9
      have h := hc9
      refine g_callH (t := 13) (D1 := 7) (as := [.ref x0, .int x1, .int x2]) (Or.inr (Or.inl rfl)) q13_m25 (m_cv (as := [.int x2, .int x1]) (rest := [.int 0, .ref x3]) (Or.inl rfl) q13_m25 jv2208 (OF11_works e1) rfl rfl rfl rfl) (by decide) q6 rfl ?_
      refine g_in eF13_works_13 mx2603 ?_
      refine g_ch [(4, .retAddr 0), (0, .ref x0), (1, .int x1), (2, .int x2), (3, .ref x3)] [.int 1] (pc' := 16) rfl rfl rfl ?_
      cases h
      rw [k0 _ hK]
      exact g_iret rfl rfl
    cases h
theorem SF13_works {xs : Nat → Int32} {L : Nat} {x0 : Nat} {x1 : Int32} {x2 : Int32} {x3 : Nat} {hp : m_H} {x : Int32 × m_H} (h : F13_works x0 x1 x2 x3 hp = some x) : m_Rn xs L 8 2603 0 (lv_args 0 [.ref x0, .int x1, .int x2, .ref x3]) [] hp (.inl (some (.int x.1)), x.2) :=
  r_lv (SF13_works_0 x0 x1 x2 x3 hp (K := fun y => y = x) (fun y e => by rw [e]) h rfl) rfl ⟨rfl, rfl, rfl, rfl, trivial⟩
-- F13_order: LendHouseLaw.order(LLendHouse;II[J)I
theorem eF13_order_0 : m_Fe mi13_4 0 (m_ap [(.aload_n 3, 1), (.iconst 0, 1), (.aload_n 0, 1), (.iload_n 1, 1), (.iload_n 2, 1)] ((.invokevirtual 28, 3) :: (m_ap [(.i2l, 1)] ((.lastore, 1) :: ([(.goto 19, 3)]))))) := m_Fe_of nd2604 0 9 rfl
theorem eF13_order_29 : m_Fe mi13_4 29 (m_ap [(.iconst 0, 1)] ([(.ireturn, 1)])) := m_Fe_of nd2604 21 2 rfl
theorem eF13_order_13 : m_Fe mi13_4 13 (m_ap [(.astore 4, 2), (.iconst 1, 1)] ([(.ireturn, 1)])) := m_Fe_of nd2604 9 3 rfl
theorem eF13_order_17 : m_Fe mi13_4 17 (m_ap [(.astore 4, 2), (.iconst 2, 1)] ([(.ireturn, 1)])) := m_Fe_of nd2604 12 3 rfl
theorem eF13_order_21 : m_Fe mi13_4 21 (m_ap [(.astore 4, 2), (.iconst 3, 1)] ([(.ireturn, 1)])) := m_Fe_of nd2604 15 3 rfl
theorem eF13_order_25 : m_Fe mi13_4 25 (m_ap [(.astore 4, 2), (.iconst 4, 1)] ([(.ireturn, 1)])) := m_Fe_of nd2604 18 3 rfl
theorem SF13_order_0 {xs : Nat → Int32} {L : Nat} (x0 : Nat) (x1 : Int32) (x2 : Int32) (x3 : Nat) (hp : m_H) {r : m_O × m_H} {K : (Int32 × m_H) → Prop} (k0 : ∀ x, K x → r = (.inl (some (.int x.1)), x.2)) {t : Int32 × m_H} (h : F13_order_0 x0 x1 x2 x3 hp = some t) (hK : K t) : m_Rn xs L 9 2604 0 [(0, .ref x0), (1, .int x1), (2, .int x2), (3, .ref x3)] [] hp r := by
  unfold F13_order_0 at h
  refine g_in eF13_order_0 mx2604 ?_
  refine g_ch [(0, .ref x0), (1, .int x1), (2, .int x2), (3, .ref x3)] [.int x2, .int x1, .ref x0, .int 0, .ref x3] (pc' := 5) rfl rfl rfl ?_
  obtain ⟨z2, e1, h⟩ := m_bd h
  rcases m_sxd h with ⟨v3, e4, h⟩ | ⟨E5, e4, h⟩
  · have q6 := (SF11_order (xs := xs) (L := L) e1)
    unfold m_xI at q6
    rw [e4] at q6
    refine g_call (v := some (.int v3)) (h := z2.2) (st' := [.int v3, .int 0, .ref x3]) (D1 := 8) (as := [.ref x0, .int x1, .int x2]) (Or.inr (Or.inl rfl)) q13_m28 (m_cv (as := [.int x2, .int x1]) (rest := [.int 0, .ref x3]) (Or.inl rfl) q13_m28 jv2209 (OF11_order e1) rfl rfl rfl rfl) (by decide) q6 rfl ?_
    refine g_ch [(0, .ref x0), (1, .int x1), (2, .int x2), (3, .ref x3)] [.long (m_i2l v3), .int 0, .ref x3] (pc' := 9) rfl rfl rfl ?_
    obtain ⟨h7, e8, h⟩ := m_bd h
    refine g_ls e8 ?_
    refine g_goto (t := 29) rfl ?_
    refine g_in eF13_order_29 mx2604 ?_
    refine g_ch [(0, .ref x0), (1, .int x1), (2, .int x2), (3, .ref x3)] [.int 0] (pc' := 30) rfl rfl rfl ?_
    cases h
    rw [k0 _ hK]
    exact g_iret rfl rfl
  · have q6 := (SF11_order (xs := xs) (L := L) e1)
    unfold m_xI at q6
    rw [e4] at q6
    rcases m_ifd h with ⟨c9, hc9⟩ | ⟨c9, h⟩
    · subst c9
      have h := hc9
      refine g_callH (t := 13) (D1 := 8) (as := [.ref x0, .int x1, .int x2]) (Or.inr (Or.inl rfl)) q13_m28 (m_cv (as := [.int x2, .int x1]) (rest := [.int 0, .ref x3]) (Or.inl rfl) q13_m28 jv2209 (OF11_order e1) rfl rfl rfl rfl) (by decide) q6 rfl ?_
      refine g_in eF13_order_13 mx2604 ?_
      refine g_ch [(4, .retAddr 0), (0, .ref x0), (1, .int x1), (2, .int x2), (3, .ref x3)] [.int 1] (pc' := 16) rfl rfl rfl ?_
      cases h
      rw [k0 _ hK]
      exact g_iret rfl rfl
    rcases m_ifd h with ⟨c10, hc10⟩ | ⟨c10, h⟩
    · subst c10
      have h := hc10
      refine g_callH (t := 17) (D1 := 8) (as := [.ref x0, .int x1, .int x2]) (Or.inr (Or.inl rfl)) q13_m28 (m_cv (as := [.int x2, .int x1]) (rest := [.int 0, .ref x3]) (Or.inl rfl) q13_m28 jv2209 (OF11_order e1) rfl rfl rfl rfl) (by decide) q6 rfl ?_
      refine g_in eF13_order_17 mx2604 ?_
      refine g_ch [(4, .retAddr 0), (0, .ref x0), (1, .int x1), (2, .int x2), (3, .ref x3)] [.int 2] (pc' := 20) rfl rfl rfl ?_
      cases h
      rw [k0 _ hK]
      exact g_iret rfl rfl
    rcases m_ifd h with ⟨c11, hc11⟩ | ⟨c11, h⟩
    · subst c11
      have h := hc11
      refine g_callH (t := 21) (D1 := 8) (as := [.ref x0, .int x1, .int x2]) (Or.inr (Or.inl rfl)) q13_m28 (m_cv (as := [.int x2, .int x1]) (rest := [.int 0, .ref x3]) (Or.inl rfl) q13_m28 jv2209 (OF11_order e1) rfl rfl rfl rfl) (by decide) q6 rfl ?_
      refine g_in eF13_order_21 mx2604 ?_
      refine g_ch [(4, .retAddr 0), (0, .ref x0), (1, .int x1), (2, .int x2), (3, .ref x3)] [.int 3] (pc' := 24) rfl rfl rfl ?_
      cases h
      rw [k0 _ hK]
      exact g_iret rfl rfl
    rcases m_ifd h with ⟨c12, hc12⟩ | ⟨c12, h⟩
    · subst c12
      have h := hc12
      refine g_callH (t := 25) (D1 := 8) (as := [.ref x0, .int x1, .int x2]) (Or.inr (Or.inl rfl)) q13_m28 (m_cv (as := [.int x2, .int x1]) (rest := [.int 0, .ref x3]) (Or.inl rfl) q13_m28 jv2209 (OF11_order e1) rfl rfl rfl rfl) (by decide) q6 rfl ?_
      refine g_in eF13_order_25 mx2604 ?_
      refine g_ch [(4, .retAddr 0), (0, .ref x0), (1, .int x1), (2, .int x2), (3, .ref x3)] [.int 4] (pc' := 28) rfl rfl rfl ?_
      cases h
      rw [k0 _ hK]
      exact g_iret rfl rfl
    cases h
theorem SF13_order {xs : Nat → Int32} {L : Nat} {x0 : Nat} {x1 : Int32} {x2 : Int32} {x3 : Nat} {hp : m_H} {x : Int32 × m_H} (h : F13_order x0 x1 x2 x3 hp = some x) : m_Rn xs L 9 2604 0 (lv_args 0 [.ref x0, .int x1, .int x2, .ref x3]) [] hp (.inl (some (.int x.1)), x.2) :=
  r_lv (SF13_order_0 x0 x1 x2 x3 hp (K := fun y => y = x) (fun y e => by rw [e]) h rfl) rfl ⟨rfl, rfl, rfl, rfl, trivial⟩
-- F13_lot: LendHouseLaw.lot(LLendHouse;II[J)I
theorem eF13_lot_0 : m_Fe mi13_5 0 (m_ap [(.aload_n 3, 1), (.iconst 0, 1), (.aload_n 0, 1), (.iload_n 1, 1), (.iload_n 2, 1)] ((.invokevirtual 35, 3) :: (m_ap [(.i2l, 1)] ((.lastore, 1) :: ([(.goto 11, 3)]))))) := m_Fe_of nd2605 0 9 rfl
theorem eF13_lot_21 : m_Fe mi13_5 21 (m_ap [(.iconst 0, 1)] ([(.ireturn, 1)])) := m_Fe_of nd2605 15 2 rfl
theorem eF13_lot_13 : m_Fe mi13_5 13 (m_ap [(.astore 4, 2), (.iconst 1, 1)] ([(.ireturn, 1)])) := m_Fe_of nd2605 9 3 rfl
theorem eF13_lot_17 : m_Fe mi13_5 17 (m_ap [(.astore 4, 2), (.iconst 2, 1)] ([(.ireturn, 1)])) := m_Fe_of nd2605 12 3 rfl
theorem SF13_lot_0 {xs : Nat → Int32} {L : Nat} (x0 : Nat) (x1 : Int32) (x2 : Int32) (x3 : Nat) (hp : m_H) {r : m_O × m_H} {K : (Int32 × m_H) → Prop} (k0 : ∀ x, K x → r = (.inl (some (.int x.1)), x.2)) {t : Int32 × m_H} (h : F13_lot_0 x0 x1 x2 x3 hp = some t) (hK : K t) : m_Rn xs L 9 2605 0 [(0, .ref x0), (1, .int x1), (2, .int x2), (3, .ref x3)] [] hp r := by
  unfold F13_lot_0 at h
  refine g_in eF13_lot_0 mx2605 ?_
  refine g_ch [(0, .ref x0), (1, .int x1), (2, .int x2), (3, .ref x3)] [.int x2, .int x1, .ref x0, .int 0, .ref x3] (pc' := 5) rfl rfl rfl ?_
  obtain ⟨z2, e1, h⟩ := m_bd h
  rcases m_sxd h with ⟨v3, e4, h⟩ | ⟨E5, e4, h⟩
  · have q6 := (SF11_lot (xs := xs) (L := L) e1)
    unfold m_xI at q6
    rw [e4] at q6
    refine g_call (v := some (.int v3)) (h := z2.2) (st' := [.int v3, .int 0, .ref x3]) (D1 := 8) (as := [.ref x0, .int x1, .int x2]) (Or.inr (Or.inl rfl)) q13_m35 (m_cv (as := [.int x2, .int x1]) (rest := [.int 0, .ref x3]) (Or.inl rfl) q13_m35 jv2210 (OF11_lot e1) rfl rfl rfl rfl) (by decide) q6 rfl ?_
    refine g_ch [(0, .ref x0), (1, .int x1), (2, .int x2), (3, .ref x3)] [.long (m_i2l v3), .int 0, .ref x3] (pc' := 9) rfl rfl rfl ?_
    obtain ⟨h7, e8, h⟩ := m_bd h
    refine g_ls e8 ?_
    refine g_goto (t := 21) rfl ?_
    refine g_in eF13_lot_21 mx2605 ?_
    refine g_ch [(0, .ref x0), (1, .int x1), (2, .int x2), (3, .ref x3)] [.int 0] (pc' := 22) rfl rfl rfl ?_
    cases h
    rw [k0 _ hK]
    exact g_iret rfl rfl
  · have q6 := (SF11_lot (xs := xs) (L := L) e1)
    unfold m_xI at q6
    rw [e4] at q6
    rcases m_ifd h with ⟨c9, hc9⟩ | ⟨c9, h⟩
    · subst c9
      have h := hc9
      refine g_callH (t := 13) (D1 := 8) (as := [.ref x0, .int x1, .int x2]) (Or.inr (Or.inl rfl)) q13_m35 (m_cv (as := [.int x2, .int x1]) (rest := [.int 0, .ref x3]) (Or.inl rfl) q13_m35 jv2210 (OF11_lot e1) rfl rfl rfl rfl) (by decide) q6 rfl ?_
      refine g_in eF13_lot_13 mx2605 ?_
      refine g_ch [(4, .retAddr 0), (0, .ref x0), (1, .int x1), (2, .int x2), (3, .ref x3)] [.int 1] (pc' := 16) rfl rfl rfl ?_
      cases h
      rw [k0 _ hK]
      exact g_iret rfl rfl
    rcases m_ifd h with ⟨c10, hc10⟩ | ⟨c10, h⟩
    · subst c10
      have h := hc10
      refine g_callH (t := 17) (D1 := 8) (as := [.ref x0, .int x1, .int x2]) (Or.inr (Or.inl rfl)) q13_m35 (m_cv (as := [.int x2, .int x1]) (rest := [.int 0, .ref x3]) (Or.inl rfl) q13_m35 jv2210 (OF11_lot e1) rfl rfl rfl rfl) (by decide) q6 rfl ?_
      refine g_in eF13_lot_17 mx2605 ?_
      refine g_ch [(4, .retAddr 0), (0, .ref x0), (1, .int x1), (2, .int x2), (3, .ref x3)] [.int 2] (pc' := 20) rfl rfl rfl ?_
      cases h
      rw [k0 _ hK]
      exact g_iret rfl rfl
    cases h
theorem SF13_lot {xs : Nat → Int32} {L : Nat} {x0 : Nat} {x1 : Int32} {x2 : Int32} {x3 : Nat} {hp : m_H} {x : Int32 × m_H} (h : F13_lot x0 x1 x2 x3 hp = some x) : m_Rn xs L 9 2605 0 (lv_args 0 [.ref x0, .int x1, .int x2, .ref x3]) [] hp (.inl (some (.int x.1)), x.2) :=
  r_lv (SF13_lot_0 x0 x1 x2 x3 hp (K := fun y => y = x) (fun y e => by rw [e]) h rfl) rfl ⟨rfl, rfl, rfl, rfl, trivial⟩
-- F13_act: LendHouseLaw.act(LLendHouse;I[J)I
theorem eF13_act_0 : m_Fe mi13_6 0 (m_ap [(.aload_n 2, 1), (.iconst 0, 1), (.aload_n 0, 1), (.iload_n 1, 1)] ((.invokevirtual 40, 3) :: (m_ap [(.i2l, 1)] ((.lastore, 1) :: ([(.goto 9, 3)]))))) := m_Fe_of nd2606 0 8 rfl
theorem eF13_act_18 : m_Fe mi13_6 18 (m_ap [(.iconst 0, 1)] ([(.ireturn, 1)])) := m_Fe_of nd2606 14 2 rfl
theorem eF13_act_12 : m_Fe mi13_6 12 (m_ap [(.astore_n 3, 1), (.iconst 1, 1)] ([(.ireturn, 1)])) := m_Fe_of nd2606 8 3 rfl
theorem eF13_act_15 : m_Fe mi13_6 15 (m_ap [(.astore_n 3, 1), (.iconst 2, 1)] ([(.ireturn, 1)])) := m_Fe_of nd2606 11 3 rfl
theorem SF13_act_0 {xs : Nat → Int32} {L : Nat} (x0 : Nat) (x1 : Int32) (x2 : Nat) (hp : m_H) {r : m_O × m_H} {K : (Int32 × m_H) → Prop} (k0 : ∀ x, K x → r = (.inl (some (.int x.1)), x.2)) {t : Int32 × m_H} (h : F13_act_0 x0 x1 x2 hp = some t) (hK : K t) : m_Rn xs L 404 2606 0 [(0, .ref x0), (1, .int x1), (2, .ref x2)] [] hp r := by
  unfold F13_act_0 at h
  refine g_in eF13_act_0 mx2606 ?_
  refine g_ch [(0, .ref x0), (1, .int x1), (2, .ref x2)] [.int x1, .ref x0, .int 0, .ref x2] (pc' := 4) rfl rfl rfl ?_
  obtain ⟨z2, e1, h⟩ := m_bd h
  rcases m_sxd h with ⟨v3, e4, h⟩ | ⟨E5, e4, h⟩
  · have q6 := (SF11_act (xs := xs) (L := L) e1)
    unfold m_xI at q6
    rw [e4] at q6
    refine g_call (v := some (.int v3)) (h := z2.2) (st' := [.int v3, .int 0, .ref x2]) (D1 := 403) (as := [.ref x0, .int x1]) (Or.inr (Or.inl rfl)) q13_m40 (m_cv (as := [.int x1]) (rest := [.int 0, .ref x2]) (Or.inl rfl) q13_m40 jv2203 (OF11_act e1) rfl rfl rfl rfl) (by decide) q6 rfl ?_
    refine g_ch [(0, .ref x0), (1, .int x1), (2, .ref x2)] [.long (m_i2l v3), .int 0, .ref x2] (pc' := 8) rfl rfl rfl ?_
    obtain ⟨h7, e8, h⟩ := m_bd h
    refine g_ls e8 ?_
    refine g_goto (t := 18) rfl ?_
    refine g_in eF13_act_18 mx2606 ?_
    refine g_ch [(0, .ref x0), (1, .int x1), (2, .ref x2)] [.int 0] (pc' := 19) rfl rfl rfl ?_
    cases h
    rw [k0 _ hK]
    exact g_iret rfl rfl
  · have q6 := (SF11_act (xs := xs) (L := L) e1)
    unfold m_xI at q6
    rw [e4] at q6
    rcases m_ifd h with ⟨c9, hc9⟩ | ⟨c9, h⟩
    · subst c9
      have h := hc9
      refine g_callH (t := 12) (D1 := 403) (as := [.ref x0, .int x1]) (Or.inr (Or.inl rfl)) q13_m40 (m_cv (as := [.int x1]) (rest := [.int 0, .ref x2]) (Or.inl rfl) q13_m40 jv2203 (OF11_act e1) rfl rfl rfl rfl) (by decide) q6 rfl ?_
      refine g_in eF13_act_12 mx2606 ?_
      refine g_ch [(3, .retAddr 0), (0, .ref x0), (1, .int x1), (2, .ref x2)] [.int 1] (pc' := 14) rfl rfl rfl ?_
      cases h
      rw [k0 _ hK]
      exact g_iret rfl rfl
    rcases m_ifd h with ⟨c10, hc10⟩ | ⟨c10, h⟩
    · subst c10
      have h := hc10
      refine g_callH (t := 15) (D1 := 403) (as := [.ref x0, .int x1]) (Or.inr (Or.inl rfl)) q13_m40 (m_cv (as := [.int x1]) (rest := [.int 0, .ref x2]) (Or.inl rfl) q13_m40 jv2203 (OF11_act e1) rfl rfl rfl rfl) (by decide) q6 rfl ?_
      refine g_in eF13_act_15 mx2606 ?_
      refine g_ch [(3, .retAddr 0), (0, .ref x0), (1, .int x1), (2, .ref x2)] [.int 2] (pc' := 17) rfl rfl rfl ?_
      cases h
      rw [k0 _ hK]
      exact g_iret rfl rfl
    cases h
theorem SF13_act {xs : Nat → Int32} {L : Nat} {x0 : Nat} {x1 : Int32} {x2 : Nat} {hp : m_H} {x : Int32 × m_H} (h : F13_act x0 x1 x2 hp = some x) : m_Rn xs L 404 2606 0 (lv_args 0 [.ref x0, .int x1, .ref x2]) [] hp (.inl (some (.int x.1)), x.2) :=
  r_lv (SF13_act_0 x0 x1 x2 hp (K := fun y => y = x) (fun y e => by rw [e]) h rfl) rfl ⟨rfl, rfl, rfl, trivial⟩
-- F13_ask: LendHouseLaw.ask(LLendHouse;IIII[J)I
theorem eF13_ask_0 : m_Fe mi13_7 0 (m_ap [(.aload 5, 2), (.iconst 0, 1), (.aload_n 0, 1), (.iload_n 1, 1), (.iload_n 2, 1), (.iload_n 3, 1), (.iload 4, 2)] ((.invokevirtual 44, 3) :: (m_ap [(.i2l, 1)] ((.lastore, 1) :: ([(.goto 15, 3)]))))) := m_Fe_of nd2607 0 11 rfl
theorem eF13_ask_29 : m_Fe mi13_7 29 (m_ap [(.iconst 0, 1)] ([(.ireturn, 1)])) := m_Fe_of nd2607 20 2 rfl
theorem eF13_ask_17 : m_Fe mi13_7 17 (m_ap [(.astore 6, 2), (.iconst 1, 1)] ([(.ireturn, 1)])) := m_Fe_of nd2607 11 3 rfl
theorem eF13_ask_21 : m_Fe mi13_7 21 (m_ap [(.astore 6, 2), (.iconst 2, 1)] ([(.ireturn, 1)])) := m_Fe_of nd2607 14 3 rfl
theorem eF13_ask_25 : m_Fe mi13_7 25 (m_ap [(.astore 6, 2), (.iconst 3, 1)] ([(.ireturn, 1)])) := m_Fe_of nd2607 17 3 rfl
theorem SF13_ask_0 {xs : Nat → Int32} {L : Nat} (x0 : Nat) (x1 : Int32) (x2 : Int32) (x3 : Int32) (x4 : Int32) (x5 : Nat) (hp : m_H) {r : m_O × m_H} {K : (Int32 × m_H) → Prop} (k0 : ∀ x, K x → r = (.inl (some (.int x.1)), x.2)) {t : Int32 × m_H} (h : F13_ask_0 x0 x1 x2 x3 x4 x5 hp = some t) (hK : K t) : m_Rn xs L 9 2607 0 [(0, .ref x0), (1, .int x1), (2, .int x2), (3, .int x3), (4, .int x4), (5, .ref x5)] [] hp r := by
  unfold F13_ask_0 at h
  refine g_in eF13_ask_0 mx2607 ?_
  refine g_ch [(0, .ref x0), (1, .int x1), (2, .int x2), (3, .int x3), (4, .int x4), (5, .ref x5)] [.int x4, .int x3, .int x2, .int x1, .ref x0, .int 0, .ref x5] (pc' := 9) rfl rfl rfl ?_
  obtain ⟨z2, e1, h⟩ := m_bd h
  rcases m_sxd h with ⟨v3, e4, h⟩ | ⟨E5, e4, h⟩
  · have q6 := (SF11_ask (xs := xs) (L := L) e1)
    unfold m_xI at q6
    rw [e4] at q6
    refine g_call (v := some (.int v3)) (h := z2.2) (st' := [.int v3, .int 0, .ref x5]) (D1 := 8) (as := [.ref x0, .int x1, .int x2, .int x3, .int x4]) (Or.inr (Or.inl rfl)) q13_m44 (m_cv (as := [.int x4, .int x3, .int x2, .int x1]) (rest := [.int 0, .ref x5]) (Or.inl rfl) q13_m44 jv2211 (OF11_ask e1) rfl rfl rfl rfl) (by decide) q6 rfl ?_
    refine g_ch [(0, .ref x0), (1, .int x1), (2, .int x2), (3, .int x3), (4, .int x4), (5, .ref x5)] [.long (m_i2l v3), .int 0, .ref x5] (pc' := 13) rfl rfl rfl ?_
    obtain ⟨h7, e8, h⟩ := m_bd h
    refine g_ls e8 ?_
    refine g_goto (t := 29) rfl ?_
    refine g_in eF13_ask_29 mx2607 ?_
    refine g_ch [(0, .ref x0), (1, .int x1), (2, .int x2), (3, .int x3), (4, .int x4), (5, .ref x5)] [.int 0] (pc' := 30) rfl rfl rfl ?_
    cases h
    rw [k0 _ hK]
    exact g_iret rfl rfl
  · have q6 := (SF11_ask (xs := xs) (L := L) e1)
    unfold m_xI at q6
    rw [e4] at q6
    rcases m_ifd h with ⟨c9, hc9⟩ | ⟨c9, h⟩
    · subst c9
      have h := hc9
      refine g_callH (t := 17) (D1 := 8) (as := [.ref x0, .int x1, .int x2, .int x3, .int x4]) (Or.inr (Or.inl rfl)) q13_m44 (m_cv (as := [.int x4, .int x3, .int x2, .int x1]) (rest := [.int 0, .ref x5]) (Or.inl rfl) q13_m44 jv2211 (OF11_ask e1) rfl rfl rfl rfl) (by decide) q6 rfl ?_
      refine g_in eF13_ask_17 mx2607 ?_
      refine g_ch [(6, .retAddr 0), (0, .ref x0), (1, .int x1), (2, .int x2), (3, .int x3), (4, .int x4), (5, .ref x5)] [.int 1] (pc' := 20) rfl rfl rfl ?_
      cases h
      rw [k0 _ hK]
      exact g_iret rfl rfl
    rcases m_ifd h with ⟨c10, hc10⟩ | ⟨c10, h⟩
    · subst c10
      have h := hc10
      refine g_callH (t := 21) (D1 := 8) (as := [.ref x0, .int x1, .int x2, .int x3, .int x4]) (Or.inr (Or.inl rfl)) q13_m44 (m_cv (as := [.int x4, .int x3, .int x2, .int x1]) (rest := [.int 0, .ref x5]) (Or.inl rfl) q13_m44 jv2211 (OF11_ask e1) rfl rfl rfl rfl) (by decide) q6 rfl ?_
      refine g_in eF13_ask_21 mx2607 ?_
      refine g_ch [(6, .retAddr 0), (0, .ref x0), (1, .int x1), (2, .int x2), (3, .int x3), (4, .int x4), (5, .ref x5)] [.int 2] (pc' := 24) rfl rfl rfl ?_
      cases h
      rw [k0 _ hK]
      exact g_iret rfl rfl
    rcases m_ifd h with ⟨c11, hc11⟩ | ⟨c11, h⟩
    · subst c11
      have h := hc11
      refine g_callH (t := 25) (D1 := 8) (as := [.ref x0, .int x1, .int x2, .int x3, .int x4]) (Or.inr (Or.inl rfl)) q13_m44 (m_cv (as := [.int x4, .int x3, .int x2, .int x1]) (rest := [.int 0, .ref x5]) (Or.inl rfl) q13_m44 jv2211 (OF11_ask e1) rfl rfl rfl rfl) (by decide) q6 rfl ?_
      refine g_in eF13_ask_25 mx2607 ?_
      refine g_ch [(6, .retAddr 0), (0, .ref x0), (1, .int x1), (2, .int x2), (3, .int x3), (4, .int x4), (5, .ref x5)] [.int 3] (pc' := 28) rfl rfl rfl ?_
      cases h
      rw [k0 _ hK]
      exact g_iret rfl rfl
    cases h
theorem SF13_ask {xs : Nat → Int32} {L : Nat} {x0 : Nat} {x1 : Int32} {x2 : Int32} {x3 : Int32} {x4 : Int32} {x5 : Nat} {hp : m_H} {x : Int32 × m_H} (h : F13_ask x0 x1 x2 x3 x4 x5 hp = some x) : m_Rn xs L 9 2607 0 (lv_args 0 [.ref x0, .int x1, .int x2, .int x3, .int x4, .ref x5]) [] hp (.inl (some (.int x.1)), x.2) :=
  r_lv (SF13_ask_0 x0 x1 x2 x3 x4 x5 hp (K := fun y => y = x) (fun y e => by rw [e]) h rfl) rfl ⟨rfl, rfl, rfl, rfl, rfl, rfl, trivial⟩
-- F13_weigh: LendHouseLaw.weigh(LLendHouse;II[J)I
theorem eF13_weigh_0 : m_Fe mi13_8 0 (m_ap [(.aload_n 3, 1), (.iconst 0, 1), (.aload_n 0, 1), (.iload_n 1, 1), (.iload_n 2, 1)] ((.invokevirtual 48, 3) :: (m_ap [(.i2l, 1)] ((.lastore, 1) :: ([(.goto 11, 3)]))))) := m_Fe_of nd2608 0 9 rfl
theorem eF13_weigh_21 : m_Fe mi13_8 21 (m_ap [(.iconst 0, 1)] ([(.ireturn, 1)])) := m_Fe_of nd2608 15 2 rfl
theorem eF13_weigh_13 : m_Fe mi13_8 13 (m_ap [(.astore 4, 2), (.iconst 1, 1)] ([(.ireturn, 1)])) := m_Fe_of nd2608 9 3 rfl
theorem eF13_weigh_17 : m_Fe mi13_8 17 (m_ap [(.astore 4, 2), (.iconst 2, 1)] ([(.ireturn, 1)])) := m_Fe_of nd2608 12 3 rfl
theorem SF13_weigh_0 {xs : Nat → Int32} {L : Nat} (x0 : Nat) (x1 : Int32) (x2 : Int32) (x3 : Nat) (hp : m_H) {r : m_O × m_H} {K : (Int32 × m_H) → Prop} (k0 : ∀ x, K x → r = (.inl (some (.int x.1)), x.2)) {t : Int32 × m_H} (h : F13_weigh_0 x0 x1 x2 x3 hp = some t) (hK : K t) : m_Rn xs L 11 2608 0 [(0, .ref x0), (1, .int x1), (2, .int x2), (3, .ref x3)] [] hp r := by
  unfold F13_weigh_0 at h
  refine g_in eF13_weigh_0 mx2608 ?_
  refine g_ch [(0, .ref x0), (1, .int x1), (2, .int x2), (3, .ref x3)] [.int x2, .int x1, .ref x0, .int 0, .ref x3] (pc' := 5) rfl rfl rfl ?_
  obtain ⟨z2, e1, h⟩ := m_bd h
  rcases m_sxd h with ⟨v3, e4, h⟩ | ⟨E5, e4, h⟩
  · have q6 := (SF11_weigh (xs := xs) (L := L) e1)
    unfold m_xI at q6
    rw [e4] at q6
    refine g_call (v := some (.int v3)) (h := z2.2) (st' := [.int v3, .int 0, .ref x3]) (D1 := 10) (as := [.ref x0, .int x1, .int x2]) (Or.inr (Or.inl rfl)) q13_m48 (m_cv (as := [.int x2, .int x1]) (rest := [.int 0, .ref x3]) (Or.inl rfl) q13_m48 jv2212 (OF11_weigh e1) rfl rfl rfl rfl) (by decide) q6 rfl ?_
    refine g_ch [(0, .ref x0), (1, .int x1), (2, .int x2), (3, .ref x3)] [.long (m_i2l v3), .int 0, .ref x3] (pc' := 9) rfl rfl rfl ?_
    obtain ⟨h7, e8, h⟩ := m_bd h
    refine g_ls e8 ?_
    refine g_goto (t := 21) rfl ?_
    refine g_in eF13_weigh_21 mx2608 ?_
    refine g_ch [(0, .ref x0), (1, .int x1), (2, .int x2), (3, .ref x3)] [.int 0] (pc' := 22) rfl rfl rfl ?_
    cases h
    rw [k0 _ hK]
    exact g_iret rfl rfl
  · have q6 := (SF11_weigh (xs := xs) (L := L) e1)
    unfold m_xI at q6
    rw [e4] at q6
    rcases m_ifd h with ⟨c9, hc9⟩ | ⟨c9, h⟩
    · subst c9
      have h := hc9
      refine g_callH (t := 13) (D1 := 10) (as := [.ref x0, .int x1, .int x2]) (Or.inr (Or.inl rfl)) q13_m48 (m_cv (as := [.int x2, .int x1]) (rest := [.int 0, .ref x3]) (Or.inl rfl) q13_m48 jv2212 (OF11_weigh e1) rfl rfl rfl rfl) (by decide) q6 rfl ?_
      refine g_in eF13_weigh_13 mx2608 ?_
      refine g_ch [(4, .retAddr 0), (0, .ref x0), (1, .int x1), (2, .int x2), (3, .ref x3)] [.int 1] (pc' := 16) rfl rfl rfl ?_
      cases h
      rw [k0 _ hK]
      exact g_iret rfl rfl
    rcases m_ifd h with ⟨c10, hc10⟩ | ⟨c10, h⟩
    · subst c10
      have h := hc10
      refine g_callH (t := 17) (D1 := 10) (as := [.ref x0, .int x1, .int x2]) (Or.inr (Or.inl rfl)) q13_m48 (m_cv (as := [.int x2, .int x1]) (rest := [.int 0, .ref x3]) (Or.inl rfl) q13_m48 jv2212 (OF11_weigh e1) rfl rfl rfl rfl) (by decide) q6 rfl ?_
      refine g_in eF13_weigh_17 mx2608 ?_
      refine g_ch [(4, .retAddr 0), (0, .ref x0), (1, .int x1), (2, .int x2), (3, .ref x3)] [.int 2] (pc' := 20) rfl rfl rfl ?_
      cases h
      rw [k0 _ hK]
      exact g_iret rfl rfl
    cases h
theorem SF13_weigh {xs : Nat → Int32} {L : Nat} {x0 : Nat} {x1 : Int32} {x2 : Int32} {x3 : Nat} {hp : m_H} {x : Int32 × m_H} (h : F13_weigh x0 x1 x2 x3 hp = some x) : m_Rn xs L 11 2608 0 (lv_args 0 [.ref x0, .int x1, .int x2, .ref x3]) [] hp (.inl (some (.int x.1)), x.2) :=
  r_lv (SF13_weigh_0 x0 x1 x2 x3 hp (K := fun y => y = x) (fun y e => by rw [e]) h rfl) rfl ⟨rfl, rfl, rfl, rfl, trivial⟩
-- F13_allot: LendHouseLaw.allot(LLendHouse;I[J)I
theorem eF13_allot_0 : m_Fe mi13_9 0 (m_ap [(.aload_n 2, 1), (.iconst 0, 1), (.aload_n 0, 1), (.iload_n 1, 1)] ((.invokevirtual 51, 3) :: (m_ap [(.i2l, 1)] ((.lastore, 1) :: ([(.goto 9, 3)]))))) := m_Fe_of nd2609 0 8 rfl
theorem eF13_allot_18 : m_Fe mi13_9 18 (m_ap [(.iconst 0, 1)] ([(.ireturn, 1)])) := m_Fe_of nd2609 14 2 rfl
theorem eF13_allot_12 : m_Fe mi13_9 12 (m_ap [(.astore_n 3, 1), (.iconst 1, 1)] ([(.ireturn, 1)])) := m_Fe_of nd2609 8 3 rfl
theorem eF13_allot_15 : m_Fe mi13_9 15 (m_ap [(.astore_n 3, 1), (.iconst 2, 1)] ([(.ireturn, 1)])) := m_Fe_of nd2609 11 3 rfl
theorem SF13_allot_0 {xs : Nat → Int32} {L : Nat} (x0 : Nat) (x1 : Int32) (x2 : Nat) (hp : m_H) {r : m_O × m_H} {K : (Int32 × m_H) → Prop} (k0 : ∀ x, K x → r = (.inl (some (.int x.1)), x.2)) {t : Int32 × m_H} (h : F13_allot_0 x0 x1 x2 hp = some t) (hK : K t) : m_Rn xs L 11 2609 0 [(0, .ref x0), (1, .int x1), (2, .ref x2)] [] hp r := by
  unfold F13_allot_0 at h
  refine g_in eF13_allot_0 mx2609 ?_
  refine g_ch [(0, .ref x0), (1, .int x1), (2, .ref x2)] [.int x1, .ref x0, .int 0, .ref x2] (pc' := 4) rfl rfl rfl ?_
  obtain ⟨z2, e1, h⟩ := m_bd h
  rcases m_sxd h with ⟨v3, e4, h⟩ | ⟨E5, e4, h⟩
  · have q6 := (SF11_allot (xs := xs) (L := L) e1)
    unfold m_xI at q6
    rw [e4] at q6
    refine g_call (v := some (.int v3)) (h := z2.2) (st' := [.int v3, .int 0, .ref x2]) (D1 := 10) (as := [.ref x0, .int x1]) (Or.inr (Or.inl rfl)) q13_m51 (m_cv (as := [.int x1]) (rest := [.int 0, .ref x2]) (Or.inl rfl) q13_m51 jv2214 (OF11_allot e1) rfl rfl rfl rfl) (by decide) q6 rfl ?_
    refine g_ch [(0, .ref x0), (1, .int x1), (2, .ref x2)] [.long (m_i2l v3), .int 0, .ref x2] (pc' := 8) rfl rfl rfl ?_
    obtain ⟨h7, e8, h⟩ := m_bd h
    refine g_ls e8 ?_
    refine g_goto (t := 18) rfl ?_
    refine g_in eF13_allot_18 mx2609 ?_
    refine g_ch [(0, .ref x0), (1, .int x1), (2, .ref x2)] [.int 0] (pc' := 19) rfl rfl rfl ?_
    cases h
    rw [k0 _ hK]
    exact g_iret rfl rfl
  · have q6 := (SF11_allot (xs := xs) (L := L) e1)
    unfold m_xI at q6
    rw [e4] at q6
    rcases m_ifd h with ⟨c9, hc9⟩ | ⟨c9, h⟩
    · subst c9
      have h := hc9
      refine g_callH (t := 12) (D1 := 10) (as := [.ref x0, .int x1]) (Or.inr (Or.inl rfl)) q13_m51 (m_cv (as := [.int x1]) (rest := [.int 0, .ref x2]) (Or.inl rfl) q13_m51 jv2214 (OF11_allot e1) rfl rfl rfl rfl) (by decide) q6 rfl ?_
      refine g_in eF13_allot_12 mx2609 ?_
      refine g_ch [(3, .retAddr 0), (0, .ref x0), (1, .int x1), (2, .ref x2)] [.int 1] (pc' := 14) rfl rfl rfl ?_
      cases h
      rw [k0 _ hK]
      exact g_iret rfl rfl
    rcases m_ifd h with ⟨c10, hc10⟩ | ⟨c10, h⟩
    · subst c10
      have h := hc10
      refine g_callH (t := 15) (D1 := 10) (as := [.ref x0, .int x1]) (Or.inr (Or.inl rfl)) q13_m51 (m_cv (as := [.int x1]) (rest := [.int 0, .ref x2]) (Or.inl rfl) q13_m51 jv2214 (OF11_allot e1) rfl rfl rfl rfl) (by decide) q6 rfl ?_
      refine g_in eF13_allot_15 mx2609 ?_
      refine g_ch [(3, .retAddr 0), (0, .ref x0), (1, .int x1), (2, .ref x2)] [.int 2] (pc' := 17) rfl rfl rfl ?_
      cases h
      rw [k0 _ hK]
      exact g_iret rfl rfl
    cases h
theorem SF13_allot {xs : Nat → Int32} {L : Nat} {x0 : Nat} {x1 : Int32} {x2 : Nat} {hp : m_H} {x : Int32 × m_H} (h : F13_allot x0 x1 x2 hp = some x) : m_Rn xs L 11 2609 0 (lv_args 0 [.ref x0, .int x1, .ref x2]) [] hp (.inl (some (.int x.1)), x.2) :=
  r_lv (SF13_allot_0 x0 x1 x2 hp (K := fun y => y = x) (fun y e => by rw [e]) h rfl) rfl ⟨rfl, rfl, rfl, trivial⟩
-- F13_label: LendHouseLaw.label(LLendHouse;II[J)I
theorem eF13_label_0 : m_Fe mi13_10 0 (m_ap [(.aload_n 3, 1), (.iconst 0, 1), (.aload_n 0, 1), (.iload_n 1, 1), (.iload_n 2, 1)] ((.invokevirtual 54, 3) :: ([(.ifCond .eq 7, 3)]))) := m_Fe_of nd2610 0 7 rfl
theorem eF13_label_15 : m_Fe mi13_10 15 (m_ap [(.lconst 0, 1)] ([])) := m_Fe_of nd2610 9 1 rfl
theorem eF13_label_16 : m_Fe mi13_10 16 ((.lastore, 1) :: ([(.goto 11, 3)])) := m_Fe_of nd2610 10 2 rfl
theorem eF13_label_28 : m_Fe mi13_10 28 (m_ap [(.iconst 0, 1)] ([(.ireturn, 1)])) := m_Fe_of nd2610 18 2 rfl
theorem eF13_label_11 : m_Fe mi13_10 11 (m_ap [(.lconst 1, 1)] ([(.goto 4, 3)])) := m_Fe_of nd2610 7 2 rfl
theorem eF13_label_20 : m_Fe mi13_10 20 (m_ap [(.astore 4, 2), (.iconst 1, 1)] ([(.ireturn, 1)])) := m_Fe_of nd2610 12 3 rfl
theorem eF13_label_24 : m_Fe mi13_10 24 (m_ap [(.astore 4, 2), (.iconst 2, 1)] ([(.ireturn, 1)])) := m_Fe_of nd2610 15 3 rfl
theorem SF13_label_0 {xs : Nat → Int32} {L : Nat} (x0 : Nat) (x1 : Int32) (x2 : Int32) (x3 : Nat) (hp : m_H) {r : m_O × m_H} {K : (Int32 × m_H) → Prop} (k0 : ∀ x, K x → r = (.inl (some (.int x.1)), x.2)) {t : Int32 × m_H} (h : F13_label_0 x0 x1 x2 x3 hp = some t) (hK : K t) : m_Rn xs L 9 2610 0 [(0, .ref x0), (1, .int x1), (2, .int x2), (3, .ref x3)] [] hp r := by
  unfold F13_label_0 at h
  refine g_in eF13_label_0 mx2610 ?_
  refine g_ch [(0, .ref x0), (1, .int x1), (2, .int x2), (3, .ref x3)] [.int x2, .int x1, .ref x0, .int 0, .ref x3] (pc' := 5) rfl rfl rfl ?_
  obtain ⟨z2, e1, h⟩ := m_bd h
  rcases m_sxd h with ⟨v3, e4, h⟩ | ⟨E5, e4, h⟩
  · have q6 := (SF11_label (xs := xs) (L := L) e1)
    unfold m_xI at q6
    rw [e4] at q6
    refine g_call (v := some (.int v3)) (h := z2.2) (st' := [.int v3, .int 0, .ref x3]) (D1 := 8) (as := [.ref x0, .int x1, .int x2]) (Or.inr (Or.inl rfl)) q13_m54 (m_cv (as := [.int x2, .int x1]) (rest := [.int 0, .ref x3]) (Or.inl rfl) q13_m54 jv2215 (OF11_label e1) rfl rfl rfl rfl) (by decide) q6 rfl ?_
    rcases m_ifd h with ⟨c7, h⟩ | ⟨c7, h⟩
    · refine g_ifc (t := 15) rfl (m_eqT c7) ?_
      refine g_in eF13_label_15 mx2610 ?_
      refine g_ch [(0, .ref x0), (1, .int x1), (2, .int x2), (3, .ref x3)] [.long 0, .int 0, .ref x3] (pc' := 16) rfl rfl rfl ?_
      refine g_end ?_
      refine g_in eF13_label_16 mx2610 ?_
      obtain ⟨h8, e9, h⟩ := m_bd h
      refine g_ls e9 ?_
      refine g_goto (t := 28) rfl ?_
      refine g_in eF13_label_28 mx2610 ?_
      refine g_ch [(0, .ref x0), (1, .int x1), (2, .int x2), (3, .ref x3)] [.int 0] (pc' := 29) rfl rfl rfl ?_
      cases h
      rw [k0 _ hK]
      exact g_iret rfl rfl
    · refine g_ifcn (t := 15) rfl (m_eqF c7) ?_
      refine g_in eF13_label_11 mx2610 ?_
      refine g_ch [(0, .ref x0), (1, .int x1), (2, .int x2), (3, .ref x3)] [.long 1, .int 0, .ref x3] (pc' := 12) rfl rfl rfl ?_
      refine g_goto (t := 16) rfl ?_
      refine g_in eF13_label_16 mx2610 ?_
      obtain ⟨h10, e11, h⟩ := m_bd h
      refine g_ls e11 ?_
      refine g_goto (t := 28) rfl ?_
      refine g_in eF13_label_28 mx2610 ?_
      refine g_ch [(0, .ref x0), (1, .int x1), (2, .int x2), (3, .ref x3)] [.int 0] (pc' := 29) rfl rfl rfl ?_
      cases h
      rw [k0 _ hK]
      exact g_iret rfl rfl
  · have q6 := (SF11_label (xs := xs) (L := L) e1)
    unfold m_xI at q6
    rw [e4] at q6
    rcases m_ifd h with ⟨c12, hc12⟩ | ⟨c12, h⟩
    · subst c12
      have h := hc12
      refine g_callH (t := 20) (D1 := 8) (as := [.ref x0, .int x1, .int x2]) (Or.inr (Or.inl rfl)) q13_m54 (m_cv (as := [.int x2, .int x1]) (rest := [.int 0, .ref x3]) (Or.inl rfl) q13_m54 jv2215 (OF11_label e1) rfl rfl rfl rfl) (by decide) q6 rfl ?_
      refine g_in eF13_label_20 mx2610 ?_
      refine g_ch [(4, .retAddr 0), (0, .ref x0), (1, .int x1), (2, .int x2), (3, .ref x3)] [.int 1] (pc' := 23) rfl rfl rfl ?_
      cases h
      rw [k0 _ hK]
      exact g_iret rfl rfl
    rcases m_ifd h with ⟨c13, hc13⟩ | ⟨c13, h⟩
    · subst c13
      have h := hc13
      refine g_callH (t := 24) (D1 := 8) (as := [.ref x0, .int x1, .int x2]) (Or.inr (Or.inl rfl)) q13_m54 (m_cv (as := [.int x2, .int x1]) (rest := [.int 0, .ref x3]) (Or.inl rfl) q13_m54 jv2215 (OF11_label e1) rfl rfl rfl rfl) (by decide) q6 rfl ?_
      refine g_in eF13_label_24 mx2610 ?_
      refine g_ch [(4, .retAddr 0), (0, .ref x0), (1, .int x1), (2, .int x2), (3, .ref x3)] [.int 2] (pc' := 27) rfl rfl rfl ?_
      cases h
      rw [k0 _ hK]
      exact g_iret rfl rfl
    cases h
theorem SF13_label {xs : Nat → Int32} {L : Nat} {x0 : Nat} {x1 : Int32} {x2 : Int32} {x3 : Nat} {hp : m_H} {x : Int32 × m_H} (h : F13_label x0 x1 x2 x3 hp = some x) : m_Rn xs L 9 2610 0 (lv_args 0 [.ref x0, .int x1, .int x2, .ref x3]) [] hp (.inl (some (.int x.1)), x.2) :=
  r_lv (SF13_label_0 x0 x1 x2 x3 hp (K := fun y => y = x) (fun y e => by rw [e]) h rfl) rfl ⟨rfl, rfl, rfl, rfl, trivial⟩
-- F13_ship: LendHouseLaw.ship(LLendHouse;II[J)I
theorem eF13_ship_0 : m_Fe mi13_11 0 (m_ap [(.aload_n 3, 1), (.iconst 0, 1), (.aload_n 0, 1), (.iload_n 1, 1), (.iload_n 2, 1)] ((.invokevirtual 58, 3) :: (m_ap [(.i2l, 1)] ((.lastore, 1) :: ([(.goto 11, 3)]))))) := m_Fe_of nd2611 0 9 rfl
theorem eF13_ship_21 : m_Fe mi13_11 21 (m_ap [(.iconst 0, 1)] ([(.ireturn, 1)])) := m_Fe_of nd2611 15 2 rfl
theorem eF13_ship_13 : m_Fe mi13_11 13 (m_ap [(.astore 4, 2), (.iconst 1, 1)] ([(.ireturn, 1)])) := m_Fe_of nd2611 9 3 rfl
theorem eF13_ship_17 : m_Fe mi13_11 17 (m_ap [(.astore 4, 2), (.iconst 2, 1)] ([(.ireturn, 1)])) := m_Fe_of nd2611 12 3 rfl
theorem SF13_ship_0 {xs : Nat → Int32} {L : Nat} (x0 : Nat) (x1 : Int32) (x2 : Int32) (x3 : Nat) (hp : m_H) {r : m_O × m_H} {K : (Int32 × m_H) → Prop} (k0 : ∀ x, K x → r = (.inl (some (.int x.1)), x.2)) {t : Int32 × m_H} (h : F13_ship_0 x0 x1 x2 x3 hp = some t) (hK : K t) : m_Rn xs L 8 2611 0 [(0, .ref x0), (1, .int x1), (2, .int x2), (3, .ref x3)] [] hp r := by
  unfold F13_ship_0 at h
  refine g_in eF13_ship_0 mx2611 ?_
  refine g_ch [(0, .ref x0), (1, .int x1), (2, .int x2), (3, .ref x3)] [.int x2, .int x1, .ref x0, .int 0, .ref x3] (pc' := 5) rfl rfl rfl ?_
  obtain ⟨z2, e1, h⟩ := m_bd h
  rcases m_sxd h with ⟨v3, e4, h⟩ | ⟨E5, e4, h⟩
  · have q6 := (SF11_ship (xs := xs) (L := L) e1)
    unfold m_xI at q6
    rw [e4] at q6
    refine g_call (v := some (.int v3)) (h := z2.2) (st' := [.int v3, .int 0, .ref x3]) (D1 := 7) (as := [.ref x0, .int x1, .int x2]) (Or.inr (Or.inl rfl)) q13_m58 (m_cv (as := [.int x2, .int x1]) (rest := [.int 0, .ref x3]) (Or.inl rfl) q13_m58 jv2218 (OF11_ship e1) rfl rfl rfl rfl) (by decide) q6 rfl ?_
    refine g_ch [(0, .ref x0), (1, .int x1), (2, .int x2), (3, .ref x3)] [.long (m_i2l v3), .int 0, .ref x3] (pc' := 9) rfl rfl rfl ?_
    obtain ⟨h7, e8, h⟩ := m_bd h
    refine g_ls e8 ?_
    refine g_goto (t := 21) rfl ?_
    refine g_in eF13_ship_21 mx2611 ?_
    refine g_ch [(0, .ref x0), (1, .int x1), (2, .int x2), (3, .ref x3)] [.int 0] (pc' := 22) rfl rfl rfl ?_
    cases h
    rw [k0 _ hK]
    exact g_iret rfl rfl
  · have q6 := (SF11_ship (xs := xs) (L := L) e1)
    unfold m_xI at q6
    rw [e4] at q6
    rcases m_ifd h with ⟨c9, hc9⟩ | ⟨c9, h⟩
    · subst c9
      have h := hc9
      refine g_callH (t := 13) (D1 := 7) (as := [.ref x0, .int x1, .int x2]) (Or.inr (Or.inl rfl)) q13_m58 (m_cv (as := [.int x2, .int x1]) (rest := [.int 0, .ref x3]) (Or.inl rfl) q13_m58 jv2218 (OF11_ship e1) rfl rfl rfl rfl) (by decide) q6 rfl ?_
      refine g_in eF13_ship_13 mx2611 ?_
      refine g_ch [(4, .retAddr 0), (0, .ref x0), (1, .int x1), (2, .int x2), (3, .ref x3)] [.int 1] (pc' := 16) rfl rfl rfl ?_
      cases h
      rw [k0 _ hK]
      exact g_iret rfl rfl
    rcases m_ifd h with ⟨c10, hc10⟩ | ⟨c10, h⟩
    · subst c10
      have h := hc10
      refine g_callH (t := 17) (D1 := 7) (as := [.ref x0, .int x1, .int x2]) (Or.inr (Or.inl rfl)) q13_m58 (m_cv (as := [.int x2, .int x1]) (rest := [.int 0, .ref x3]) (Or.inl rfl) q13_m58 jv2218 (OF11_ship e1) rfl rfl rfl rfl) (by decide) q6 rfl ?_
      refine g_in eF13_ship_17 mx2611 ?_
      refine g_ch [(4, .retAddr 0), (0, .ref x0), (1, .int x1), (2, .int x2), (3, .ref x3)] [.int 2] (pc' := 20) rfl rfl rfl ?_
      cases h
      rw [k0 _ hK]
      exact g_iret rfl rfl
    cases h
theorem SF13_ship {xs : Nat → Int32} {L : Nat} {x0 : Nat} {x1 : Int32} {x2 : Int32} {x3 : Nat} {hp : m_H} {x : Int32 × m_H} (h : F13_ship x0 x1 x2 x3 hp = some x) : m_Rn xs L 8 2611 0 (lv_args 0 [.ref x0, .int x1, .int x2, .ref x3]) [] hp (.inl (some (.int x.1)), x.2) :=
  r_lv (SF13_ship_0 x0 x1 x2 x3 hp (K := fun y => y = x) (fun y e => by rw [e]) h rfl) rfl ⟨rfl, rfl, rfl, rfl, trivial⟩
-- F13_way: LendHouseLaw.way(LLendHouse;II)I
theorem eF13_way_0 : m_Fe mi13_12 0 (m_ap [(.aload_n 0, 1), (.iload_n 1, 1), (.iload_n 2, 1)] ((.invokevirtual 61, 3) :: ([(.goto 9, 3)]))) := m_Fe_of nd2612 0 5 rfl
theorem eF13_way_15 : m_Fe mi13_12 15 (m_ap [(.iconst 0, 1)] ([(.ireturn, 1)])) := m_Fe_of nd2612 11 2 rfl
theorem eF13_way_9 : m_Fe mi13_12 9 (m_ap [(.astore_n 3, 1), (.iconst 1, 1)] ([(.ireturn, 1)])) := m_Fe_of nd2612 5 3 rfl
theorem eF13_way_12 : m_Fe mi13_12 12 (m_ap [(.astore_n 3, 1), (.iconst 2, 1)] ([(.ireturn, 1)])) := m_Fe_of nd2612 8 3 rfl
theorem SF13_way_0 {xs : Nat → Int32} {L : Nat} (x0 : Nat) (x1 : Int32) (x2 : Int32) (hp : m_H) {r : m_O × m_H} {K : (Int32 × m_H) → Prop} (k0 : ∀ x, K x → r = (.inl (some (.int x.1)), x.2)) {t : Int32 × m_H} (h : F13_way_0 x0 x1 x2 hp = some t) (hK : K t) : m_Rn xs L 9 2612 0 [(0, .ref x0), (1, .int x1), (2, .int x2)] [] hp r := by
  unfold F13_way_0 at h
  refine g_in eF13_way_0 mx2612 ?_
  refine g_ch [(0, .ref x0), (1, .int x1), (2, .int x2)] [.int x2, .int x1, .ref x0] (pc' := 3) rfl rfl rfl ?_
  obtain ⟨z2, e1, h⟩ := m_bd h
  rcases m_sxd h with ⟨u8, e3, h⟩ | ⟨E4, e3, h⟩
  · have q5 := (SF11_way (xs := xs) (L := L) e1)
    unfold m_xV at q5
    rw [e3] at q5
    refine g_call (v := none) (h := z2.2) (st' := []) (D1 := 8) (as := [.ref x0, .int x1, .int x2]) (Or.inr (Or.inl rfl)) q13_m61 (m_cv (as := [.int x2, .int x1]) (rest := []) (Or.inl rfl) q13_m61 jv2219 (OF11_way e1) rfl rfl rfl rfl) (by decide) q5 rfl ?_
    refine g_goto (t := 15) rfl ?_
    refine g_in eF13_way_15 mx2612 ?_
    refine g_ch [(0, .ref x0), (1, .int x1), (2, .int x2)] [.int 0] (pc' := 16) rfl rfl rfl ?_
    cases h
    rw [k0 _ hK]
    exact g_iret rfl rfl
  · have q5 := (SF11_way (xs := xs) (L := L) e1)
    unfold m_xV at q5
    rw [e3] at q5
    rcases m_ifd h with ⟨c6, hc6⟩ | ⟨c6, h⟩
    · subst c6
      have h := hc6
      refine g_callH (t := 9) (D1 := 8) (as := [.ref x0, .int x1, .int x2]) (Or.inr (Or.inl rfl)) q13_m61 (m_cv (as := [.int x2, .int x1]) (rest := []) (Or.inl rfl) q13_m61 jv2219 (OF11_way e1) rfl rfl rfl rfl) (by decide) q5 rfl ?_
      refine g_in eF13_way_9 mx2612 ?_
      refine g_ch [(3, .retAddr 0), (0, .ref x0), (1, .int x1), (2, .int x2)] [.int 1] (pc' := 11) rfl rfl rfl ?_
      cases h
      rw [k0 _ hK]
      exact g_iret rfl rfl
    rcases m_ifd h with ⟨c7, hc7⟩ | ⟨c7, h⟩
    · subst c7
      have h := hc7
      refine g_callH (t := 12) (D1 := 8) (as := [.ref x0, .int x1, .int x2]) (Or.inr (Or.inl rfl)) q13_m61 (m_cv (as := [.int x2, .int x1]) (rest := []) (Or.inl rfl) q13_m61 jv2219 (OF11_way e1) rfl rfl rfl rfl) (by decide) q5 rfl ?_
      refine g_in eF13_way_12 mx2612 ?_
      refine g_ch [(3, .retAddr 0), (0, .ref x0), (1, .int x1), (2, .int x2)] [.int 2] (pc' := 14) rfl rfl rfl ?_
      cases h
      rw [k0 _ hK]
      exact g_iret rfl rfl
    cases h
theorem SF13_way {xs : Nat → Int32} {L : Nat} {x0 : Nat} {x1 : Int32} {x2 : Int32} {hp : m_H} {x : Int32 × m_H} (h : F13_way x0 x1 x2 hp = some x) : m_Rn xs L 9 2612 0 (lv_args 0 [.ref x0, .int x1, .int x2]) [] hp (.inl (some (.int x.1)), x.2) :=
  r_lv (SF13_way_0 x0 x1 x2 hp (K := fun y => y = x) (fun y e => by rw [e]) h rfl) rfl ⟨rfl, rfl, rfl, trivial⟩
-- F13_risk: LendHouseLaw.risk(LLendHouse;III[J)I
theorem eF13_risk_0 : m_Fe mi13_13 0 (m_ap [(.aload 4, 2), (.iconst 0, 1), (.aload_n 0, 1), (.iload_n 1, 1), (.iload_n 2, 1), (.iload_n 3, 1)] ((.invokevirtual 65, 3) :: (m_ap [(.i2l, 1)] ((.lastore, 1) :: ([(.goto 11, 3)]))))) := m_Fe_of nd2613 0 10 rfl
theorem eF13_risk_23 : m_Fe mi13_13 23 (m_ap [(.iconst 0, 1)] ([(.ireturn, 1)])) := m_Fe_of nd2613 16 2 rfl
theorem eF13_risk_15 : m_Fe mi13_13 15 (m_ap [(.astore 5, 2), (.iconst 1, 1)] ([(.ireturn, 1)])) := m_Fe_of nd2613 10 3 rfl
theorem eF13_risk_19 : m_Fe mi13_13 19 (m_ap [(.astore 5, 2), (.iconst 2, 1)] ([(.ireturn, 1)])) := m_Fe_of nd2613 13 3 rfl
theorem SF13_risk_0 {xs : Nat → Int32} {L : Nat} (x0 : Nat) (x1 : Int32) (x2 : Int32) (x3 : Int32) (x4 : Nat) (hp : m_H) {r : m_O × m_H} {K : (Int32 × m_H) → Prop} (k0 : ∀ x, K x → r = (.inl (some (.int x.1)), x.2)) {t : Int32 × m_H} (h : F13_risk_0 x0 x1 x2 x3 x4 hp = some t) (hK : K t) : m_Rn xs L 9 2613 0 [(0, .ref x0), (1, .int x1), (2, .int x2), (3, .int x3), (4, .ref x4)] [] hp r := by
  unfold F13_risk_0 at h
  refine g_in eF13_risk_0 mx2613 ?_
  refine g_ch [(0, .ref x0), (1, .int x1), (2, .int x2), (3, .int x3), (4, .ref x4)] [.int x3, .int x2, .int x1, .ref x0, .int 0, .ref x4] (pc' := 7) rfl rfl rfl ?_
  obtain ⟨z2, e1, h⟩ := m_bd h
  rcases m_sxd h with ⟨v3, e4, h⟩ | ⟨E5, e4, h⟩
  · have q6 := (SF11_risk (xs := xs) (L := L) e1)
    unfold m_xI at q6
    rw [e4] at q6
    refine g_call (v := some (.int v3)) (h := z2.2) (st' := [.int v3, .int 0, .ref x4]) (D1 := 8) (as := [.ref x0, .int x1, .int x2, .int x3]) (Or.inr (Or.inl rfl)) q13_m65 (m_cv (as := [.int x3, .int x2, .int x1]) (rest := [.int 0, .ref x4]) (Or.inl rfl) q13_m65 jv2220 (OF11_risk e1) rfl rfl rfl rfl) (by decide) q6 rfl ?_
    refine g_ch [(0, .ref x0), (1, .int x1), (2, .int x2), (3, .int x3), (4, .ref x4)] [.long (m_i2l v3), .int 0, .ref x4] (pc' := 11) rfl rfl rfl ?_
    obtain ⟨h7, e8, h⟩ := m_bd h
    refine g_ls e8 ?_
    refine g_goto (t := 23) rfl ?_
    refine g_in eF13_risk_23 mx2613 ?_
    refine g_ch [(0, .ref x0), (1, .int x1), (2, .int x2), (3, .int x3), (4, .ref x4)] [.int 0] (pc' := 24) rfl rfl rfl ?_
    cases h
    rw [k0 _ hK]
    exact g_iret rfl rfl
  · have q6 := (SF11_risk (xs := xs) (L := L) e1)
    unfold m_xI at q6
    rw [e4] at q6
    rcases m_ifd h with ⟨c9, hc9⟩ | ⟨c9, h⟩
    · subst c9
      have h := hc9
      refine g_callH (t := 15) (D1 := 8) (as := [.ref x0, .int x1, .int x2, .int x3]) (Or.inr (Or.inl rfl)) q13_m65 (m_cv (as := [.int x3, .int x2, .int x1]) (rest := [.int 0, .ref x4]) (Or.inl rfl) q13_m65 jv2220 (OF11_risk e1) rfl rfl rfl rfl) (by decide) q6 rfl ?_
      refine g_in eF13_risk_15 mx2613 ?_
      refine g_ch [(5, .retAddr 0), (0, .ref x0), (1, .int x1), (2, .int x2), (3, .int x3), (4, .ref x4)] [.int 1] (pc' := 18) rfl rfl rfl ?_
      cases h
      rw [k0 _ hK]
      exact g_iret rfl rfl
    rcases m_ifd h with ⟨c10, hc10⟩ | ⟨c10, h⟩
    · subst c10
      have h := hc10
      refine g_callH (t := 19) (D1 := 8) (as := [.ref x0, .int x1, .int x2, .int x3]) (Or.inr (Or.inl rfl)) q13_m65 (m_cv (as := [.int x3, .int x2, .int x1]) (rest := [.int 0, .ref x4]) (Or.inl rfl) q13_m65 jv2220 (OF11_risk e1) rfl rfl rfl rfl) (by decide) q6 rfl ?_
      refine g_in eF13_risk_19 mx2613 ?_
      refine g_ch [(5, .retAddr 0), (0, .ref x0), (1, .int x1), (2, .int x2), (3, .int x3), (4, .ref x4)] [.int 2] (pc' := 22) rfl rfl rfl ?_
      cases h
      rw [k0 _ hK]
      exact g_iret rfl rfl
    cases h
theorem SF13_risk {xs : Nat → Int32} {L : Nat} {x0 : Nat} {x1 : Int32} {x2 : Int32} {x3 : Int32} {x4 : Nat} {hp : m_H} {x : Int32 × m_H} (h : F13_risk x0 x1 x2 x3 x4 hp = some x) : m_Rn xs L 9 2613 0 (lv_args 0 [.ref x0, .int x1, .int x2, .int x3, .ref x4]) [] hp (.inl (some (.int x.1)), x.2) :=
  r_lv (SF13_risk_0 x0 x1 x2 x3 x4 hp (K := fun y => y = x) (fun y e => by rw [e]) h rfl) rfl ⟨rfl, rfl, rfl, rfl, rfl, trivial⟩
-- F13_load: LendHouseLaw.load(LLendHouse;III[J)I
theorem eF13_load_0 : m_Fe mi13_14 0 (m_ap [(.aload 4, 2), (.iconst 0, 1), (.aload_n 0, 1), (.iload_n 1, 1), (.iload_n 2, 1), (.iload_n 3, 1)] ((.invokevirtual 68, 3) :: ([(.ifCond .eq 7, 3)]))) := m_Fe_of nd2614 0 8 rfl
theorem eF13_load_17 : m_Fe mi13_14 17 (m_ap [(.lconst 0, 1)] ([])) := m_Fe_of nd2614 10 1 rfl
theorem eF13_load_18 : m_Fe mi13_14 18 ((.lastore, 1) :: ([(.goto 11, 3)])) := m_Fe_of nd2614 11 2 rfl
theorem eF13_load_30 : m_Fe mi13_14 30 (m_ap [(.iconst 0, 1)] ([(.ireturn, 1)])) := m_Fe_of nd2614 19 2 rfl
theorem eF13_load_13 : m_Fe mi13_14 13 (m_ap [(.lconst 1, 1)] ([(.goto 4, 3)])) := m_Fe_of nd2614 8 2 rfl
theorem eF13_load_22 : m_Fe mi13_14 22 (m_ap [(.astore 5, 2), (.iconst 1, 1)] ([(.ireturn, 1)])) := m_Fe_of nd2614 13 3 rfl
theorem eF13_load_26 : m_Fe mi13_14 26 (m_ap [(.astore 5, 2), (.iconst 2, 1)] ([(.ireturn, 1)])) := m_Fe_of nd2614 16 3 rfl
theorem SF13_load_0 {xs : Nat → Int32} {L : Nat} (x0 : Nat) (x1 : Int32) (x2 : Int32) (x3 : Int32) (x4 : Nat) (hp : m_H) {r : m_O × m_H} {K : (Int32 × m_H) → Prop} (k0 : ∀ x, K x → r = (.inl (some (.int x.1)), x.2)) {t : Int32 × m_H} (h : F13_load_0 x0 x1 x2 x3 x4 hp = some t) (hK : K t) : m_Rn xs L 11 2614 0 [(0, .ref x0), (1, .int x1), (2, .int x2), (3, .int x3), (4, .ref x4)] [] hp r := by
  unfold F13_load_0 at h
  refine g_in eF13_load_0 mx2614 ?_
  refine g_ch [(0, .ref x0), (1, .int x1), (2, .int x2), (3, .int x3), (4, .ref x4)] [.int x3, .int x2, .int x1, .ref x0, .int 0, .ref x4] (pc' := 7) rfl rfl rfl ?_
  obtain ⟨z2, e1, h⟩ := m_bd h
  rcases m_sxd h with ⟨v3, e4, h⟩ | ⟨E5, e4, h⟩
  · have q6 := (SF11_load (xs := xs) (L := L) e1)
    unfold m_xI at q6
    rw [e4] at q6
    refine g_call (v := some (.int v3)) (h := z2.2) (st' := [.int v3, .int 0, .ref x4]) (D1 := 10) (as := [.ref x0, .int x1, .int x2, .int x3]) (Or.inr (Or.inl rfl)) q13_m68 (m_cv (as := [.int x3, .int x2, .int x1]) (rest := [.int 0, .ref x4]) (Or.inl rfl) q13_m68 jv2221 (OF11_load e1) rfl rfl rfl rfl) (by decide) q6 rfl ?_
    rcases m_ifd h with ⟨c7, h⟩ | ⟨c7, h⟩
    · refine g_ifc (t := 17) rfl (m_eqT c7) ?_
      refine g_in eF13_load_17 mx2614 ?_
      refine g_ch [(0, .ref x0), (1, .int x1), (2, .int x2), (3, .int x3), (4, .ref x4)] [.long 0, .int 0, .ref x4] (pc' := 18) rfl rfl rfl ?_
      refine g_end ?_
      refine g_in eF13_load_18 mx2614 ?_
      obtain ⟨h8, e9, h⟩ := m_bd h
      refine g_ls e9 ?_
      refine g_goto (t := 30) rfl ?_
      refine g_in eF13_load_30 mx2614 ?_
      refine g_ch [(0, .ref x0), (1, .int x1), (2, .int x2), (3, .int x3), (4, .ref x4)] [.int 0] (pc' := 31) rfl rfl rfl ?_
      cases h
      rw [k0 _ hK]
      exact g_iret rfl rfl
    · refine g_ifcn (t := 17) rfl (m_eqF c7) ?_
      refine g_in eF13_load_13 mx2614 ?_
      refine g_ch [(0, .ref x0), (1, .int x1), (2, .int x2), (3, .int x3), (4, .ref x4)] [.long 1, .int 0, .ref x4] (pc' := 14) rfl rfl rfl ?_
      refine g_goto (t := 18) rfl ?_
      refine g_in eF13_load_18 mx2614 ?_
      obtain ⟨h10, e11, h⟩ := m_bd h
      refine g_ls e11 ?_
      refine g_goto (t := 30) rfl ?_
      refine g_in eF13_load_30 mx2614 ?_
      refine g_ch [(0, .ref x0), (1, .int x1), (2, .int x2), (3, .int x3), (4, .ref x4)] [.int 0] (pc' := 31) rfl rfl rfl ?_
      cases h
      rw [k0 _ hK]
      exact g_iret rfl rfl
  · have q6 := (SF11_load (xs := xs) (L := L) e1)
    unfold m_xI at q6
    rw [e4] at q6
    rcases m_ifd h with ⟨c12, hc12⟩ | ⟨c12, h⟩
    · subst c12
      have h := hc12
      refine g_callH (t := 22) (D1 := 10) (as := [.ref x0, .int x1, .int x2, .int x3]) (Or.inr (Or.inl rfl)) q13_m68 (m_cv (as := [.int x3, .int x2, .int x1]) (rest := [.int 0, .ref x4]) (Or.inl rfl) q13_m68 jv2221 (OF11_load e1) rfl rfl rfl rfl) (by decide) q6 rfl ?_
      refine g_in eF13_load_22 mx2614 ?_
      refine g_ch [(5, .retAddr 0), (0, .ref x0), (1, .int x1), (2, .int x2), (3, .int x3), (4, .ref x4)] [.int 1] (pc' := 25) rfl rfl rfl ?_
      cases h
      rw [k0 _ hK]
      exact g_iret rfl rfl
    rcases m_ifd h with ⟨c13, hc13⟩ | ⟨c13, h⟩
    · subst c13
      have h := hc13
      refine g_callH (t := 26) (D1 := 10) (as := [.ref x0, .int x1, .int x2, .int x3]) (Or.inr (Or.inl rfl)) q13_m68 (m_cv (as := [.int x3, .int x2, .int x1]) (rest := [.int 0, .ref x4]) (Or.inl rfl) q13_m68 jv2221 (OF11_load e1) rfl rfl rfl rfl) (by decide) q6 rfl ?_
      refine g_in eF13_load_26 mx2614 ?_
      refine g_ch [(5, .retAddr 0), (0, .ref x0), (1, .int x1), (2, .int x2), (3, .int x3), (4, .ref x4)] [.int 2] (pc' := 29) rfl rfl rfl ?_
      cases h
      rw [k0 _ hK]
      exact g_iret rfl rfl
    cases h
theorem SF13_load {xs : Nat → Int32} {L : Nat} {x0 : Nat} {x1 : Int32} {x2 : Int32} {x3 : Int32} {x4 : Nat} {hp : m_H} {x : Int32 × m_H} (h : F13_load x0 x1 x2 x3 x4 hp = some x) : m_Rn xs L 11 2614 0 (lv_args 0 [.ref x0, .int x1, .int x2, .int x3, .ref x4]) [] hp (.inl (some (.int x.1)), x.2) :=
  r_lv (SF13_load_0 x0 x1 x2 x3 x4 hp (K := fun y => y = x) (fun y e => by rw [e]) h rfl) rfl ⟨rfl, rfl, rfl, rfl, rfl, trivial⟩
-- F13_sail: LendHouseLaw.sail(LLendHouse;II[J)I
theorem eF13_sail_0 : m_Fe mi13_15 0 (m_ap [(.aload_n 3, 1), (.iconst 0, 1), (.aload_n 0, 1), (.iload_n 1, 1), (.iload_n 2, 1)] ((.invokevirtual 72, 3) :: ([(.ifCond .eq 7, 3)]))) := m_Fe_of nd2615 0 7 rfl
theorem eF13_sail_15 : m_Fe mi13_15 15 (m_ap [(.lconst 0, 1)] ([])) := m_Fe_of nd2615 9 1 rfl
theorem eF13_sail_16 : m_Fe mi13_15 16 ((.lastore, 1) :: ([(.goto 11, 3)])) := m_Fe_of nd2615 10 2 rfl
theorem eF13_sail_28 : m_Fe mi13_15 28 (m_ap [(.iconst 0, 1)] ([(.ireturn, 1)])) := m_Fe_of nd2615 18 2 rfl
theorem eF13_sail_11 : m_Fe mi13_15 11 (m_ap [(.lconst 1, 1)] ([(.goto 4, 3)])) := m_Fe_of nd2615 7 2 rfl
theorem eF13_sail_20 : m_Fe mi13_15 20 (m_ap [(.astore 4, 2), (.iconst 1, 1)] ([(.ireturn, 1)])) := m_Fe_of nd2615 12 3 rfl
theorem eF13_sail_24 : m_Fe mi13_15 24 (m_ap [(.astore 4, 2), (.iconst 2, 1)] ([(.ireturn, 1)])) := m_Fe_of nd2615 15 3 rfl
theorem SF13_sail_0 {xs : Nat → Int32} {L : Nat} (x0 : Nat) (x1 : Int32) (x2 : Int32) (x3 : Nat) (hp : m_H) {r : m_O × m_H} {K : (Int32 × m_H) → Prop} (k0 : ∀ x, K x → r = (.inl (some (.int x.1)), x.2)) {t : Int32 × m_H} (h : F13_sail_0 x0 x1 x2 x3 hp = some t) (hK : K t) : m_Rn xs L 11 2615 0 [(0, .ref x0), (1, .int x1), (2, .int x2), (3, .ref x3)] [] hp r := by
  unfold F13_sail_0 at h
  refine g_in eF13_sail_0 mx2615 ?_
  refine g_ch [(0, .ref x0), (1, .int x1), (2, .int x2), (3, .ref x3)] [.int x2, .int x1, .ref x0, .int 0, .ref x3] (pc' := 5) rfl rfl rfl ?_
  obtain ⟨z2, e1, h⟩ := m_bd h
  rcases m_sxd h with ⟨v3, e4, h⟩ | ⟨E5, e4, h⟩
  · have q6 := (SF11_sail (xs := xs) (L := L) e1)
    unfold m_xI at q6
    rw [e4] at q6
    refine g_call (v := some (.int v3)) (h := z2.2) (st' := [.int v3, .int 0, .ref x3]) (D1 := 10) (as := [.ref x0, .int x1, .int x2]) (Or.inr (Or.inl rfl)) q13_m72 (m_cv (as := [.int x2, .int x1]) (rest := [.int 0, .ref x3]) (Or.inl rfl) q13_m72 jv2222 (OF11_sail e1) rfl rfl rfl rfl) (by decide) q6 rfl ?_
    rcases m_ifd h with ⟨c7, h⟩ | ⟨c7, h⟩
    · refine g_ifc (t := 15) rfl (m_eqT c7) ?_
      refine g_in eF13_sail_15 mx2615 ?_
      refine g_ch [(0, .ref x0), (1, .int x1), (2, .int x2), (3, .ref x3)] [.long 0, .int 0, .ref x3] (pc' := 16) rfl rfl rfl ?_
      refine g_end ?_
      refine g_in eF13_sail_16 mx2615 ?_
      obtain ⟨h8, e9, h⟩ := m_bd h
      refine g_ls e9 ?_
      refine g_goto (t := 28) rfl ?_
      refine g_in eF13_sail_28 mx2615 ?_
      refine g_ch [(0, .ref x0), (1, .int x1), (2, .int x2), (3, .ref x3)] [.int 0] (pc' := 29) rfl rfl rfl ?_
      cases h
      rw [k0 _ hK]
      exact g_iret rfl rfl
    · refine g_ifcn (t := 15) rfl (m_eqF c7) ?_
      refine g_in eF13_sail_11 mx2615 ?_
      refine g_ch [(0, .ref x0), (1, .int x1), (2, .int x2), (3, .ref x3)] [.long 1, .int 0, .ref x3] (pc' := 12) rfl rfl rfl ?_
      refine g_goto (t := 16) rfl ?_
      refine g_in eF13_sail_16 mx2615 ?_
      obtain ⟨h10, e11, h⟩ := m_bd h
      refine g_ls e11 ?_
      refine g_goto (t := 28) rfl ?_
      refine g_in eF13_sail_28 mx2615 ?_
      refine g_ch [(0, .ref x0), (1, .int x1), (2, .int x2), (3, .ref x3)] [.int 0] (pc' := 29) rfl rfl rfl ?_
      cases h
      rw [k0 _ hK]
      exact g_iret rfl rfl
  · have q6 := (SF11_sail (xs := xs) (L := L) e1)
    unfold m_xI at q6
    rw [e4] at q6
    rcases m_ifd h with ⟨c12, hc12⟩ | ⟨c12, h⟩
    · subst c12
      have h := hc12
      refine g_callH (t := 20) (D1 := 10) (as := [.ref x0, .int x1, .int x2]) (Or.inr (Or.inl rfl)) q13_m72 (m_cv (as := [.int x2, .int x1]) (rest := [.int 0, .ref x3]) (Or.inl rfl) q13_m72 jv2222 (OF11_sail e1) rfl rfl rfl rfl) (by decide) q6 rfl ?_
      refine g_in eF13_sail_20 mx2615 ?_
      refine g_ch [(4, .retAddr 0), (0, .ref x0), (1, .int x1), (2, .int x2), (3, .ref x3)] [.int 1] (pc' := 23) rfl rfl rfl ?_
      cases h
      rw [k0 _ hK]
      exact g_iret rfl rfl
    rcases m_ifd h with ⟨c13, hc13⟩ | ⟨c13, h⟩
    · subst c13
      have h := hc13
      refine g_callH (t := 24) (D1 := 10) (as := [.ref x0, .int x1, .int x2]) (Or.inr (Or.inl rfl)) q13_m72 (m_cv (as := [.int x2, .int x1]) (rest := [.int 0, .ref x3]) (Or.inl rfl) q13_m72 jv2222 (OF11_sail e1) rfl rfl rfl rfl) (by decide) q6 rfl ?_
      refine g_in eF13_sail_24 mx2615 ?_
      refine g_ch [(4, .retAddr 0), (0, .ref x0), (1, .int x1), (2, .int x2), (3, .ref x3)] [.int 2] (pc' := 27) rfl rfl rfl ?_
      cases h
      rw [k0 _ hK]
      exact g_iret rfl rfl
    cases h
theorem SF13_sail {xs : Nat → Int32} {L : Nat} {x0 : Nat} {x1 : Int32} {x2 : Int32} {x3 : Nat} {hp : m_H} {x : Int32 × m_H} (h : F13_sail x0 x1 x2 x3 hp = some x) : m_Rn xs L 11 2615 0 (lv_args 0 [.ref x0, .int x1, .int x2, .ref x3]) [] hp (.inl (some (.int x.1)), x.2) :=
  r_lv (SF13_sail_0 x0 x1 x2 x3 hp (K := fun y => y = x) (fun y e => by rw [e]) h rfl) rfl ⟨rfl, rfl, rfl, rfl, trivial⟩
-- F13_led: LendHouseLaw.led(LLendHouse;II[J)I
theorem eF13_led_0 : m_Fe mi13_16 0 (m_ap [(.aload_n 3, 1), (.iconst 0, 1), (.aload_n 0, 1), (.iload_n 1, 1), (.iload_n 2, 1)] ((.invokevirtual 75, 3) :: (m_ap [(.i2l, 1)] ((.lastore, 1) :: ([(.goto 11, 3)]))))) := m_Fe_of nd2616 0 9 rfl
theorem eF13_led_21 : m_Fe mi13_16 21 (m_ap [(.iconst 0, 1)] ([(.ireturn, 1)])) := m_Fe_of nd2616 15 2 rfl
theorem eF13_led_13 : m_Fe mi13_16 13 (m_ap [(.astore 4, 2), (.iconst 1, 1)] ([(.ireturn, 1)])) := m_Fe_of nd2616 9 3 rfl
theorem eF13_led_17 : m_Fe mi13_16 17 (m_ap [(.astore 4, 2), (.iconst 2, 1)] ([(.ireturn, 1)])) := m_Fe_of nd2616 12 3 rfl
theorem SF13_led_0 {xs : Nat → Int32} {L : Nat} (x0 : Nat) (x1 : Int32) (x2 : Int32) (x3 : Nat) (hp : m_H) {r : m_O × m_H} {K : (Int32 × m_H) → Prop} (k0 : ∀ x, K x → r = (.inl (some (.int x.1)), x.2)) {t : Int32 × m_H} (h : F13_led_0 x0 x1 x2 x3 hp = some t) (hK : K t) : m_Rn xs L 9 2616 0 [(0, .ref x0), (1, .int x1), (2, .int x2), (3, .ref x3)] [] hp r := by
  unfold F13_led_0 at h
  refine g_in eF13_led_0 mx2616 ?_
  refine g_ch [(0, .ref x0), (1, .int x1), (2, .int x2), (3, .ref x3)] [.int x2, .int x1, .ref x0, .int 0, .ref x3] (pc' := 5) rfl rfl rfl ?_
  obtain ⟨z2, e1, h⟩ := m_bd h
  rcases m_sxd h with ⟨v3, e4, h⟩ | ⟨E5, e4, h⟩
  · have q6 := (SF11_led (xs := xs) (L := L) e1)
    unfold m_xI at q6
    rw [e4] at q6
    refine g_call (v := some (.int v3)) (h := z2.2) (st' := [.int v3, .int 0, .ref x3]) (D1 := 8) (as := [.ref x0, .int x1, .int x2]) (Or.inr (Or.inl rfl)) q13_m75 (m_cv (as := [.int x2, .int x1]) (rest := [.int 0, .ref x3]) (Or.inl rfl) q13_m75 jv2223 (OF11_led e1) rfl rfl rfl rfl) (by decide) q6 rfl ?_
    refine g_ch [(0, .ref x0), (1, .int x1), (2, .int x2), (3, .ref x3)] [.long (m_i2l v3), .int 0, .ref x3] (pc' := 9) rfl rfl rfl ?_
    obtain ⟨h7, e8, h⟩ := m_bd h
    refine g_ls e8 ?_
    refine g_goto (t := 21) rfl ?_
    refine g_in eF13_led_21 mx2616 ?_
    refine g_ch [(0, .ref x0), (1, .int x1), (2, .int x2), (3, .ref x3)] [.int 0] (pc' := 22) rfl rfl rfl ?_
    cases h
    rw [k0 _ hK]
    exact g_iret rfl rfl
  · have q6 := (SF11_led (xs := xs) (L := L) e1)
    unfold m_xI at q6
    rw [e4] at q6
    rcases m_ifd h with ⟨c9, hc9⟩ | ⟨c9, h⟩
    · subst c9
      have h := hc9
      refine g_callH (t := 13) (D1 := 8) (as := [.ref x0, .int x1, .int x2]) (Or.inr (Or.inl rfl)) q13_m75 (m_cv (as := [.int x2, .int x1]) (rest := [.int 0, .ref x3]) (Or.inl rfl) q13_m75 jv2223 (OF11_led e1) rfl rfl rfl rfl) (by decide) q6 rfl ?_
      refine g_in eF13_led_13 mx2616 ?_
      refine g_ch [(4, .retAddr 0), (0, .ref x0), (1, .int x1), (2, .int x2), (3, .ref x3)] [.int 1] (pc' := 16) rfl rfl rfl ?_
      cases h
      rw [k0 _ hK]
      exact g_iret rfl rfl
    rcases m_ifd h with ⟨c10, hc10⟩ | ⟨c10, h⟩
    · subst c10
      have h := hc10
      refine g_callH (t := 17) (D1 := 8) (as := [.ref x0, .int x1, .int x2]) (Or.inr (Or.inl rfl)) q13_m75 (m_cv (as := [.int x2, .int x1]) (rest := [.int 0, .ref x3]) (Or.inl rfl) q13_m75 jv2223 (OF11_led e1) rfl rfl rfl rfl) (by decide) q6 rfl ?_
      refine g_in eF13_led_17 mx2616 ?_
      refine g_ch [(4, .retAddr 0), (0, .ref x0), (1, .int x1), (2, .int x2), (3, .ref x3)] [.int 2] (pc' := 20) rfl rfl rfl ?_
      cases h
      rw [k0 _ hK]
      exact g_iret rfl rfl
    cases h
theorem SF13_led {xs : Nat → Int32} {L : Nat} {x0 : Nat} {x1 : Int32} {x2 : Int32} {x3 : Nat} {hp : m_H} {x : Int32 × m_H} (h : F13_led x0 x1 x2 x3 hp = some x) : m_Rn xs L 9 2616 0 (lv_args 0 [.ref x0, .int x1, .int x2, .ref x3]) [] hp (.inl (some (.int x.1)), x.2) :=
  r_lv (SF13_led_0 x0 x1 x2 x3 hp (K := fun y => y = x) (fun y e => by rw [e]) h rfl) rfl ⟨rfl, rfl, rfl, rfl, trivial⟩
-- F13_need: LendHouseLaw.need(LLendHouse;III)I
theorem eF13_need_0 : m_Fe mi13_17 0 (m_ap [(.aload_n 0, 1), (.iload_n 1, 1), (.iload_n 2, 1), (.iload_n 3, 1)] ((.invokevirtual 78, 3) :: ([(.goto 11, 3)]))) := m_Fe_of nd2617 0 6 rfl
theorem eF13_need_18 : m_Fe mi13_17 18 (m_ap [(.iconst 0, 1)] ([(.ireturn, 1)])) := m_Fe_of nd2617 12 2 rfl
theorem eF13_need_10 : m_Fe mi13_17 10 (m_ap [(.astore 4, 2), (.iconst 1, 1)] ([(.ireturn, 1)])) := m_Fe_of nd2617 6 3 rfl
theorem eF13_need_14 : m_Fe mi13_17 14 (m_ap [(.astore 4, 2), (.iconst 2, 1)] ([(.ireturn, 1)])) := m_Fe_of nd2617 9 3 rfl
theorem SF13_need_0 {xs : Nat → Int32} {L : Nat} (x0 : Nat) (x1 : Int32) (x2 : Int32) (x3 : Int32) (hp : m_H) {r : m_O × m_H} {K : (Int32 × m_H) → Prop} (k0 : ∀ x, K x → r = (.inl (some (.int x.1)), x.2)) {t : Int32 × m_H} (h : F13_need_0 x0 x1 x2 x3 hp = some t) (hK : K t) : m_Rn xs L 9 2617 0 [(0, .ref x0), (1, .int x1), (2, .int x2), (3, .int x3)] [] hp r := by
  unfold F13_need_0 at h
  refine g_in eF13_need_0 mx2617 ?_
  refine g_ch [(0, .ref x0), (1, .int x1), (2, .int x2), (3, .int x3)] [.int x3, .int x2, .int x1, .ref x0] (pc' := 4) rfl rfl rfl ?_
  obtain ⟨z2, e1, h⟩ := m_bd h
  rcases m_sxd h with ⟨u8, e3, h⟩ | ⟨E4, e3, h⟩
  · have q5 := (SF11_need (xs := xs) (L := L) e1)
    unfold m_xV at q5
    rw [e3] at q5
    refine g_call (v := none) (h := z2.2) (st' := []) (D1 := 8) (as := [.ref x0, .int x1, .int x2, .int x3]) (Or.inr (Or.inl rfl)) q13_m78 (m_cv (as := [.int x3, .int x2, .int x1]) (rest := []) (Or.inl rfl) q13_m78 jv2224 (OF11_need e1) rfl rfl rfl rfl) (by decide) q5 rfl ?_
    refine g_goto (t := 18) rfl ?_
    refine g_in eF13_need_18 mx2617 ?_
    refine g_ch [(0, .ref x0), (1, .int x1), (2, .int x2), (3, .int x3)] [.int 0] (pc' := 19) rfl rfl rfl ?_
    cases h
    rw [k0 _ hK]
    exact g_iret rfl rfl
  · have q5 := (SF11_need (xs := xs) (L := L) e1)
    unfold m_xV at q5
    rw [e3] at q5
    rcases m_ifd h with ⟨c6, hc6⟩ | ⟨c6, h⟩
    · subst c6
      have h := hc6
      refine g_callH (t := 10) (D1 := 8) (as := [.ref x0, .int x1, .int x2, .int x3]) (Or.inr (Or.inl rfl)) q13_m78 (m_cv (as := [.int x3, .int x2, .int x1]) (rest := []) (Or.inl rfl) q13_m78 jv2224 (OF11_need e1) rfl rfl rfl rfl) (by decide) q5 rfl ?_
      refine g_in eF13_need_10 mx2617 ?_
      refine g_ch [(4, .retAddr 0), (0, .ref x0), (1, .int x1), (2, .int x2), (3, .int x3)] [.int 1] (pc' := 13) rfl rfl rfl ?_
      cases h
      rw [k0 _ hK]
      exact g_iret rfl rfl
    rcases m_ifd h with ⟨c7, hc7⟩ | ⟨c7, h⟩
    · subst c7
      have h := hc7
      refine g_callH (t := 14) (D1 := 8) (as := [.ref x0, .int x1, .int x2, .int x3]) (Or.inr (Or.inl rfl)) q13_m78 (m_cv (as := [.int x3, .int x2, .int x1]) (rest := []) (Or.inl rfl) q13_m78 jv2224 (OF11_need e1) rfl rfl rfl rfl) (by decide) q5 rfl ?_
      refine g_in eF13_need_14 mx2617 ?_
      refine g_ch [(4, .retAddr 0), (0, .ref x0), (1, .int x1), (2, .int x2), (3, .int x3)] [.int 2] (pc' := 17) rfl rfl rfl ?_
      cases h
      rw [k0 _ hK]
      exact g_iret rfl rfl
    cases h
theorem SF13_need {xs : Nat → Int32} {L : Nat} {x0 : Nat} {x1 : Int32} {x2 : Int32} {x3 : Int32} {hp : m_H} {x : Int32 × m_H} (h : F13_need x0 x1 x2 x3 hp = some x) : m_Rn xs L 9 2617 0 (lv_args 0 [.ref x0, .int x1, .int x2, .int x3]) [] hp (.inl (some (.int x.1)), x.2) :=
  r_lv (SF13_need_0 x0 x1 x2 x3 hp (K := fun y => y = x) (fun y e => by rw [e]) h rfl) rfl ⟨rfl, rfl, rfl, rfl, trivial⟩
-- F13_weeks: LendHouseLaw.weeks(LLendHouse;I[J)I
theorem eF13_weeks_0 : m_Fe mi13_18 0 (m_ap [(.aload_n 2, 1), (.iconst 0, 1), (.aload_n 0, 1), (.iload_n 1, 1)] ((.invokevirtual 82, 3) :: (m_ap [(.i2l, 1)] ((.lastore, 1) :: ([(.goto 6, 3)]))))) := m_Fe_of nd2618 0 8 rfl
theorem eF13_weeks_15 : m_Fe mi13_18 15 (m_ap [(.iconst 0, 1)] ([(.ireturn, 1)])) := m_Fe_of nd2618 11 2 rfl
theorem eF13_weeks_12 : m_Fe mi13_18 12 (m_ap [(.astore_n 3, 1), (.iconst 1, 1)] ([(.ireturn, 1)])) := m_Fe_of nd2618 8 3 rfl
theorem SF13_weeks_0 {xs : Nat → Int32} {L : Nat} (x0 : Nat) (x1 : Int32) (x2 : Nat) (hp : m_H) {r : m_O × m_H} {K : (Int32 × m_H) → Prop} (k0 : ∀ x, K x → r = (.inl (some (.int x.1)), x.2)) {t : Int32 × m_H} (h : F13_weeks_0 x0 x1 x2 hp = some t) (hK : K t) : m_Rn xs L 11 2618 0 [(0, .ref x0), (1, .int x1), (2, .ref x2)] [] hp r := by
  unfold F13_weeks_0 at h
  refine g_in eF13_weeks_0 mx2618 ?_
  refine g_ch [(0, .ref x0), (1, .int x1), (2, .ref x2)] [.int x1, .ref x0, .int 0, .ref x2] (pc' := 4) rfl rfl rfl ?_
  obtain ⟨z2, e1, h⟩ := m_bd h
  rcases m_sxd h with ⟨v3, e4, h⟩ | ⟨E5, e4, h⟩
  · have q6 := (SF11_weeks (xs := xs) (L := L) e1)
    unfold m_xI at q6
    rw [e4] at q6
    refine g_call (v := some (.int v3)) (h := z2.2) (st' := [.int v3, .int 0, .ref x2]) (D1 := 10) (as := [.ref x0, .int x1]) (Or.inr (Or.inl rfl)) q13_m82 (m_cv (as := [.int x1]) (rest := [.int 0, .ref x2]) (Or.inl rfl) q13_m82 jv2225 (OF11_weeks e1) rfl rfl rfl rfl) (by decide) q6 rfl ?_
    refine g_ch [(0, .ref x0), (1, .int x1), (2, .ref x2)] [.long (m_i2l v3), .int 0, .ref x2] (pc' := 8) rfl rfl rfl ?_
    obtain ⟨h7, e8, h⟩ := m_bd h
    refine g_ls e8 ?_
    refine g_goto (t := 15) rfl ?_
    refine g_in eF13_weeks_15 mx2618 ?_
    refine g_ch [(0, .ref x0), (1, .int x1), (2, .ref x2)] [.int 0] (pc' := 16) rfl rfl rfl ?_
    cases h
    rw [k0 _ hK]
    exact g_iret rfl rfl
  · have q6 := (SF11_weeks (xs := xs) (L := L) e1)
    unfold m_xI at q6
    rw [e4] at q6
    rcases m_ifd h with ⟨c9, hc9⟩ | ⟨c9, h⟩
    · subst c9
      have h := hc9
      refine g_callH (t := 12) (D1 := 10) (as := [.ref x0, .int x1]) (Or.inr (Or.inl rfl)) q13_m82 (m_cv (as := [.int x1]) (rest := [.int 0, .ref x2]) (Or.inl rfl) q13_m82 jv2225 (OF11_weeks e1) rfl rfl rfl rfl) (by decide) q6 rfl ?_
      refine g_in eF13_weeks_12 mx2618 ?_
      refine g_ch [(3, .retAddr 0), (0, .ref x0), (1, .int x1), (2, .ref x2)] [.int 1] (pc' := 14) rfl rfl rfl ?_
      cases h
      rw [k0 _ hK]
      exact g_iret rfl rfl
    cases h
theorem SF13_weeks {xs : Nat → Int32} {L : Nat} {x0 : Nat} {x1 : Int32} {x2 : Nat} {hp : m_H} {x : Int32 × m_H} (h : F13_weeks x0 x1 x2 hp = some x) : m_Rn xs L 11 2618 0 (lv_args 0 [.ref x0, .int x1, .ref x2]) [] hp (.inl (some (.int x.1)), x.2) :=
  r_lv (SF13_weeks_0 x0 x1 x2 hp (K := fun y => y = x) (fun y e => by rw [e]) h rfl) rfl ⟨rfl, rfl, rfl, trivial⟩
-- F13_give: LendHouseLaw.give(LLendHouse;IIIZ[J)I
theorem eF13_give_0 : m_Fe mi13_19 0 (m_ap [(.aload 5, 2), (.iconst 0, 1), (.aload_n 0, 1), (.iload_n 1, 1), (.iload_n 2, 1), (.iload_n 3, 1), (.iload 4, 2)] ((.invokevirtual 85, 3) :: (m_ap [(.i2l, 1)] ((.lastore, 1) :: ([(.goto 11, 3)]))))) := m_Fe_of nd2619 0 11 rfl
theorem eF13_give_25 : m_Fe mi13_19 25 (m_ap [(.iconst 0, 1)] ([(.ireturn, 1)])) := m_Fe_of nd2619 17 2 rfl
theorem eF13_give_17 : m_Fe mi13_19 17 (m_ap [(.astore 6, 2), (.iconst 1, 1)] ([(.ireturn, 1)])) := m_Fe_of nd2619 11 3 rfl
theorem eF13_give_21 : m_Fe mi13_19 21 (m_ap [(.astore 6, 2), (.iconst 2, 1)] ([(.ireturn, 1)])) := m_Fe_of nd2619 14 3 rfl
theorem SF13_give_0 {xs : Nat → Int32} {L : Nat} (x0 : Nat) (x1 : Int32) (x2 : Int32) (x3 : Int32) (x4 : Int32) (x5 : Nat) (hp : m_H) {r : m_O × m_H} {K : (Int32 × m_H) → Prop} (k0 : ∀ x, K x → r = (.inl (some (.int x.1)), x.2)) {t : Int32 × m_H} (h : F13_give_0 x0 x1 x2 x3 x4 x5 hp = some t) (hK : K t) : m_Rn xs L 11 2619 0 [(0, .ref x0), (1, .int x1), (2, .int x2), (3, .int x3), (4, .int x4), (5, .ref x5)] [] hp r := by
  unfold F13_give_0 at h
  refine g_in eF13_give_0 mx2619 ?_
  refine g_ch [(0, .ref x0), (1, .int x1), (2, .int x2), (3, .int x3), (4, .int x4), (5, .ref x5)] [.int x4, .int x3, .int x2, .int x1, .ref x0, .int 0, .ref x5] (pc' := 9) rfl rfl rfl ?_
  obtain ⟨z2, e1, h⟩ := m_bd h
  rcases m_sxd h with ⟨v3, e4, h⟩ | ⟨E5, e4, h⟩
  · have q6 := (SF11_give (xs := xs) (L := L) e1)
    unfold m_xI at q6
    rw [e4] at q6
    refine g_call (v := some (.int v3)) (h := z2.2) (st' := [.int v3, .int 0, .ref x5]) (D1 := 10) (as := [.ref x0, .int x1, .int x2, .int x3, .int x4]) (Or.inr (Or.inl rfl)) q13_m85 (m_cv (as := [.int x4, .int x3, .int x2, .int x1]) (rest := [.int 0, .ref x5]) (Or.inl rfl) q13_m85 jv2216 (OF11_give e1) rfl rfl rfl rfl) (by decide) q6 rfl ?_
    refine g_ch [(0, .ref x0), (1, .int x1), (2, .int x2), (3, .int x3), (4, .int x4), (5, .ref x5)] [.long (m_i2l v3), .int 0, .ref x5] (pc' := 13) rfl rfl rfl ?_
    obtain ⟨h7, e8, h⟩ := m_bd h
    refine g_ls e8 ?_
    refine g_goto (t := 25) rfl ?_
    refine g_in eF13_give_25 mx2619 ?_
    refine g_ch [(0, .ref x0), (1, .int x1), (2, .int x2), (3, .int x3), (4, .int x4), (5, .ref x5)] [.int 0] (pc' := 26) rfl rfl rfl ?_
    cases h
    rw [k0 _ hK]
    exact g_iret rfl rfl
  · have q6 := (SF11_give (xs := xs) (L := L) e1)
    unfold m_xI at q6
    rw [e4] at q6
    rcases m_ifd h with ⟨c9, hc9⟩ | ⟨c9, h⟩
    · subst c9
      have h := hc9
      refine g_callH (t := 17) (D1 := 10) (as := [.ref x0, .int x1, .int x2, .int x3, .int x4]) (Or.inr (Or.inl rfl)) q13_m85 (m_cv (as := [.int x4, .int x3, .int x2, .int x1]) (rest := [.int 0, .ref x5]) (Or.inl rfl) q13_m85 jv2216 (OF11_give e1) rfl rfl rfl rfl) (by decide) q6 rfl ?_
      refine g_in eF13_give_17 mx2619 ?_
      refine g_ch [(6, .retAddr 0), (0, .ref x0), (1, .int x1), (2, .int x2), (3, .int x3), (4, .int x4), (5, .ref x5)] [.int 1] (pc' := 20) rfl rfl rfl ?_
      cases h
      rw [k0 _ hK]
      exact g_iret rfl rfl
    rcases m_ifd h with ⟨c10, hc10⟩ | ⟨c10, h⟩
    · subst c10
      have h := hc10
      refine g_callH (t := 21) (D1 := 10) (as := [.ref x0, .int x1, .int x2, .int x3, .int x4]) (Or.inr (Or.inl rfl)) q13_m85 (m_cv (as := [.int x4, .int x3, .int x2, .int x1]) (rest := [.int 0, .ref x5]) (Or.inl rfl) q13_m85 jv2216 (OF11_give e1) rfl rfl rfl rfl) (by decide) q6 rfl ?_
      refine g_in eF13_give_21 mx2619 ?_
      refine g_ch [(6, .retAddr 0), (0, .ref x0), (1, .int x1), (2, .int x2), (3, .int x3), (4, .int x4), (5, .ref x5)] [.int 2] (pc' := 24) rfl rfl rfl ?_
      cases h
      rw [k0 _ hK]
      exact g_iret rfl rfl
    cases h
theorem SF13_give {xs : Nat → Int32} {L : Nat} {x0 : Nat} {x1 : Int32} {x2 : Int32} {x3 : Int32} {x4 : Int32} {x5 : Nat} {hp : m_H} {x : Int32 × m_H} (h : F13_give x0 x1 x2 x3 x4 x5 hp = some x) : m_Rn xs L 11 2619 0 (lv_args 0 [.ref x0, .int x1, .int x2, .int x3, .int x4, .ref x5]) [] hp (.inl (some (.int x.1)), x.2) :=
  r_lv (SF13_give_0 x0 x1 x2 x3 x4 x5 hp (K := fun y => y = x) (fun y e => by rw [e]) h rfl) rfl ⟨rfl, rfl, rfl, rfl, rfl, rfl, trivial⟩
-- F13_back: LendHouseLaw.back(LLendHouse;III[J)I
theorem eF13_back_0 : m_Fe mi13_20 0 (m_ap [(.aload 4, 2), (.iconst 0, 1), (.aload_n 0, 1), (.iload_n 1, 1), (.iload_n 2, 1), (.iload_n 3, 1)] ((.invokevirtual 89, 3) :: (m_ap [(.i2l, 1)] ((.lastore, 1) :: ([(.goto 19, 3)]))))) := m_Fe_of nd2620 0 10 rfl
theorem eF13_back_31 : m_Fe mi13_20 31 (m_ap [(.iconst 0, 1)] ([(.ireturn, 1)])) := m_Fe_of nd2620 22 2 rfl
theorem eF13_back_15 : m_Fe mi13_20 15 (m_ap [(.astore 5, 2), (.iconst 1, 1)] ([(.ireturn, 1)])) := m_Fe_of nd2620 10 3 rfl
theorem eF13_back_19 : m_Fe mi13_20 19 (m_ap [(.astore 5, 2), (.iconst 2, 1)] ([(.ireturn, 1)])) := m_Fe_of nd2620 13 3 rfl
theorem eF13_back_23 : m_Fe mi13_20 23 (m_ap [(.astore 5, 2), (.iconst 3, 1)] ([(.ireturn, 1)])) := m_Fe_of nd2620 16 3 rfl
theorem eF13_back_27 : m_Fe mi13_20 27 (m_ap [(.astore 5, 2), (.iconst 4, 1)] ([(.ireturn, 1)])) := m_Fe_of nd2620 19 3 rfl
theorem SF13_back_0 {xs : Nat → Int32} {L : Nat} (x0 : Nat) (x1 : Int32) (x2 : Int32) (x3 : Int32) (x4 : Nat) (hp : m_H) {r : m_O × m_H} {K : (Int32 × m_H) → Prop} (k0 : ∀ x, K x → r = (.inl (some (.int x.1)), x.2)) {t : Int32 × m_H} (h : F13_back_0 x0 x1 x2 x3 x4 hp = some t) (hK : K t) : m_Rn xs L 9 2620 0 [(0, .ref x0), (1, .int x1), (2, .int x2), (3, .int x3), (4, .ref x4)] [] hp r := by
  unfold F13_back_0 at h
  refine g_in eF13_back_0 mx2620 ?_
  refine g_ch [(0, .ref x0), (1, .int x1), (2, .int x2), (3, .int x3), (4, .ref x4)] [.int x3, .int x2, .int x1, .ref x0, .int 0, .ref x4] (pc' := 7) rfl rfl rfl ?_
  obtain ⟨z2, e1, h⟩ := m_bd h
  rcases m_sxd h with ⟨v3, e4, h⟩ | ⟨E5, e4, h⟩
  · have q6 := (SF11_back (xs := xs) (L := L) e1)
    unfold m_xI at q6
    rw [e4] at q6
    refine g_call (v := some (.int v3)) (h := z2.2) (st' := [.int v3, .int 0, .ref x4]) (D1 := 8) (as := [.ref x0, .int x1, .int x2, .int x3]) (Or.inr (Or.inl rfl)) q13_m89 (m_cv (as := [.int x3, .int x2, .int x1]) (rest := [.int 0, .ref x4]) (Or.inl rfl) q13_m89 jv2217 (OF11_back e1) rfl rfl rfl rfl) (by decide) q6 rfl ?_
    refine g_ch [(0, .ref x0), (1, .int x1), (2, .int x2), (3, .int x3), (4, .ref x4)] [.long (m_i2l v3), .int 0, .ref x4] (pc' := 11) rfl rfl rfl ?_
    obtain ⟨h7, e8, h⟩ := m_bd h
    refine g_ls e8 ?_
    refine g_goto (t := 31) rfl ?_
    refine g_in eF13_back_31 mx2620 ?_
    refine g_ch [(0, .ref x0), (1, .int x1), (2, .int x2), (3, .int x3), (4, .ref x4)] [.int 0] (pc' := 32) rfl rfl rfl ?_
    cases h
    rw [k0 _ hK]
    exact g_iret rfl rfl
  · have q6 := (SF11_back (xs := xs) (L := L) e1)
    unfold m_xI at q6
    rw [e4] at q6
    rcases m_ifd h with ⟨c9, hc9⟩ | ⟨c9, h⟩
    · subst c9
      have h := hc9
      refine g_callH (t := 15) (D1 := 8) (as := [.ref x0, .int x1, .int x2, .int x3]) (Or.inr (Or.inl rfl)) q13_m89 (m_cv (as := [.int x3, .int x2, .int x1]) (rest := [.int 0, .ref x4]) (Or.inl rfl) q13_m89 jv2217 (OF11_back e1) rfl rfl rfl rfl) (by decide) q6 rfl ?_
      refine g_in eF13_back_15 mx2620 ?_
      refine g_ch [(5, .retAddr 0), (0, .ref x0), (1, .int x1), (2, .int x2), (3, .int x3), (4, .ref x4)] [.int 1] (pc' := 18) rfl rfl rfl ?_
      cases h
      rw [k0 _ hK]
      exact g_iret rfl rfl
    rcases m_ifd h with ⟨c10, hc10⟩ | ⟨c10, h⟩
    · subst c10
      have h := hc10
      refine g_callH (t := 19) (D1 := 8) (as := [.ref x0, .int x1, .int x2, .int x3]) (Or.inr (Or.inl rfl)) q13_m89 (m_cv (as := [.int x3, .int x2, .int x1]) (rest := [.int 0, .ref x4]) (Or.inl rfl) q13_m89 jv2217 (OF11_back e1) rfl rfl rfl rfl) (by decide) q6 rfl ?_
      refine g_in eF13_back_19 mx2620 ?_
      refine g_ch [(5, .retAddr 0), (0, .ref x0), (1, .int x1), (2, .int x2), (3, .int x3), (4, .ref x4)] [.int 2] (pc' := 22) rfl rfl rfl ?_
      cases h
      rw [k0 _ hK]
      exact g_iret rfl rfl
    rcases m_ifd h with ⟨c11, hc11⟩ | ⟨c11, h⟩
    · subst c11
      have h := hc11
      refine g_callH (t := 23) (D1 := 8) (as := [.ref x0, .int x1, .int x2, .int x3]) (Or.inr (Or.inl rfl)) q13_m89 (m_cv (as := [.int x3, .int x2, .int x1]) (rest := [.int 0, .ref x4]) (Or.inl rfl) q13_m89 jv2217 (OF11_back e1) rfl rfl rfl rfl) (by decide) q6 rfl ?_
      refine g_in eF13_back_23 mx2620 ?_
      refine g_ch [(5, .retAddr 0), (0, .ref x0), (1, .int x1), (2, .int x2), (3, .int x3), (4, .ref x4)] [.int 3] (pc' := 26) rfl rfl rfl ?_
      cases h
      rw [k0 _ hK]
      exact g_iret rfl rfl
    rcases m_ifd h with ⟨c12, hc12⟩ | ⟨c12, h⟩
    · subst c12
      have h := hc12
      refine g_callH (t := 27) (D1 := 8) (as := [.ref x0, .int x1, .int x2, .int x3]) (Or.inr (Or.inl rfl)) q13_m89 (m_cv (as := [.int x3, .int x2, .int x1]) (rest := [.int 0, .ref x4]) (Or.inl rfl) q13_m89 jv2217 (OF11_back e1) rfl rfl rfl rfl) (by decide) q6 rfl ?_
      refine g_in eF13_back_27 mx2620 ?_
      refine g_ch [(5, .retAddr 0), (0, .ref x0), (1, .int x1), (2, .int x2), (3, .int x3), (4, .ref x4)] [.int 4] (pc' := 30) rfl rfl rfl ?_
      cases h
      rw [k0 _ hK]
      exact g_iret rfl rfl
    cases h
theorem SF13_back {xs : Nat → Int32} {L : Nat} {x0 : Nat} {x1 : Int32} {x2 : Int32} {x3 : Int32} {x4 : Nat} {hp : m_H} {x : Int32 × m_H} (h : F13_back x0 x1 x2 x3 x4 hp = some x) : m_Rn xs L 9 2620 0 (lv_args 0 [.ref x0, .int x1, .int x2, .int x3, .ref x4]) [] hp (.inl (some (.int x.1)), x.2) :=
  r_lv (SF13_back_0 x0 x1 x2 x3 x4 hp (K := fun y => y = x) (fun y e => by rw [e]) h rfl) rfl ⟨rfl, rfl, rfl, rfl, rfl, trivial⟩
-- F13_land: LendHouseLaw.land(LLendHouse;II[J)I
theorem eF13_land_0 : m_Fe mi13_21 0 (m_ap [(.aload_n 3, 1), (.iconst 0, 1), (.aload_n 0, 1), (.iload_n 1, 1), (.iload_n 2, 1)] ((.invokevirtual 92, 3) :: ((.lastore, 1) :: ([(.goto 15, 3)])))) := m_Fe_of nd2621 0 8 rfl
theorem eF13_land_24 : m_Fe mi13_21 24 (m_ap [(.iconst 0, 1)] ([(.ireturn, 1)])) := m_Fe_of nd2621 17 2 rfl
theorem eF13_land_12 : m_Fe mi13_21 12 (m_ap [(.astore 4, 2), (.iconst 1, 1)] ([(.ireturn, 1)])) := m_Fe_of nd2621 8 3 rfl
theorem eF13_land_16 : m_Fe mi13_21 16 (m_ap [(.astore 4, 2), (.iconst 2, 1)] ([(.ireturn, 1)])) := m_Fe_of nd2621 11 3 rfl
theorem eF13_land_20 : m_Fe mi13_21 20 (m_ap [(.astore 4, 2), (.iconst 3, 1)] ([(.ireturn, 1)])) := m_Fe_of nd2621 14 3 rfl
theorem SF13_land_0 {xs : Nat → Int32} {L : Nat} (x0 : Nat) (x1 : Int32) (x2 : Int32) (x3 : Nat) (hp : m_H) {r : m_O × m_H} {K : (Int32 × m_H) → Prop} (k0 : ∀ x, K x → r = (.inl (some (.int x.1)), x.2)) {t : Int32 × m_H} (h : F13_land_0 x0 x1 x2 x3 hp = some t) (hK : K t) : m_Rn xs L 9 2621 0 [(0, .ref x0), (1, .int x1), (2, .int x2), (3, .ref x3)] [] hp r := by
  unfold F13_land_0 at h
  refine g_in eF13_land_0 mx2621 ?_
  refine g_ch [(0, .ref x0), (1, .int x1), (2, .int x2), (3, .ref x3)] [.int x2, .int x1, .ref x0, .int 0, .ref x3] (pc' := 5) rfl rfl rfl ?_
  obtain ⟨z2, e1, h⟩ := m_bd h
  rcases m_sxd h with ⟨v3, e4, h⟩ | ⟨E5, e4, h⟩
  · have q6 := (SF11_land (xs := xs) (L := L) e1)
    unfold m_xJ at q6
    rw [e4] at q6
    refine g_call (v := some (.long v3)) (h := z2.2) (st' := [.long v3, .int 0, .ref x3]) (D1 := 8) (as := [.ref x0, .int x1, .int x2]) (Or.inr (Or.inl rfl)) q13_m92 (m_cv (as := [.int x2, .int x1]) (rest := [.int 0, .ref x3]) (Or.inl rfl) q13_m92 jv2226 (OF11_land e1) rfl rfl rfl rfl) (by decide) q6 rfl ?_
    obtain ⟨h7, e8, h⟩ := m_bd h
    refine g_ls e8 ?_
    refine g_goto (t := 24) rfl ?_
    refine g_in eF13_land_24 mx2621 ?_
    refine g_ch [(0, .ref x0), (1, .int x1), (2, .int x2), (3, .ref x3)] [.int 0] (pc' := 25) rfl rfl rfl ?_
    cases h
    rw [k0 _ hK]
    exact g_iret rfl rfl
  · have q6 := (SF11_land (xs := xs) (L := L) e1)
    unfold m_xJ at q6
    rw [e4] at q6
    rcases m_ifd h with ⟨c9, hc9⟩ | ⟨c9, h⟩
    · subst c9
      have h := hc9
      refine g_callH (t := 12) (D1 := 8) (as := [.ref x0, .int x1, .int x2]) (Or.inr (Or.inl rfl)) q13_m92 (m_cv (as := [.int x2, .int x1]) (rest := [.int 0, .ref x3]) (Or.inl rfl) q13_m92 jv2226 (OF11_land e1) rfl rfl rfl rfl) (by decide) q6 rfl ?_
      refine g_in eF13_land_12 mx2621 ?_
      refine g_ch [(4, .retAddr 0), (0, .ref x0), (1, .int x1), (2, .int x2), (3, .ref x3)] [.int 1] (pc' := 15) rfl rfl rfl ?_
      cases h
      rw [k0 _ hK]
      exact g_iret rfl rfl
    rcases m_ifd h with ⟨c10, hc10⟩ | ⟨c10, h⟩
    · subst c10
      have h := hc10
      refine g_callH (t := 16) (D1 := 8) (as := [.ref x0, .int x1, .int x2]) (Or.inr (Or.inl rfl)) q13_m92 (m_cv (as := [.int x2, .int x1]) (rest := [.int 0, .ref x3]) (Or.inl rfl) q13_m92 jv2226 (OF11_land e1) rfl rfl rfl rfl) (by decide) q6 rfl ?_
      refine g_in eF13_land_16 mx2621 ?_
      refine g_ch [(4, .retAddr 0), (0, .ref x0), (1, .int x1), (2, .int x2), (3, .ref x3)] [.int 2] (pc' := 19) rfl rfl rfl ?_
      cases h
      rw [k0 _ hK]
      exact g_iret rfl rfl
    rcases m_ifd h with ⟨c11, hc11⟩ | ⟨c11, h⟩
    · subst c11
      have h := hc11
      refine g_callH (t := 20) (D1 := 8) (as := [.ref x0, .int x1, .int x2]) (Or.inr (Or.inl rfl)) q13_m92 (m_cv (as := [.int x2, .int x1]) (rest := [.int 0, .ref x3]) (Or.inl rfl) q13_m92 jv2226 (OF11_land e1) rfl rfl rfl rfl) (by decide) q6 rfl ?_
      refine g_in eF13_land_20 mx2621 ?_
      refine g_ch [(4, .retAddr 0), (0, .ref x0), (1, .int x1), (2, .int x2), (3, .ref x3)] [.int 3] (pc' := 23) rfl rfl rfl ?_
      cases h
      rw [k0 _ hK]
      exact g_iret rfl rfl
    cases h
theorem SF13_land {xs : Nat → Int32} {L : Nat} {x0 : Nat} {x1 : Int32} {x2 : Int32} {x3 : Nat} {hp : m_H} {x : Int32 × m_H} (h : F13_land x0 x1 x2 x3 hp = some x) : m_Rn xs L 9 2621 0 (lv_args 0 [.ref x0, .int x1, .int x2, .ref x3]) [] hp (.inl (some (.int x.1)), x.2) :=
  r_lv (SF13_land_0 x0 x1 x2 x3 hp (K := fun y => y = x) (fun y e => by rw [e]) h rfl) rfl ⟨rfl, rfl, rfl, rfl, trivial⟩
