/-! ===== m_: the small machine does what the functions say, piece 7 (printed) ===== -/
-- F12_allot: LendHouseModel.allot(I)I
theorem eF12_allot_0 : m_Fe mi12_75 0 (m_ap [(.aload_n 0, 1), (.iconst 0, 1)] ((.putfield 3, 3) :: (m_ap [(.aload_n 0, 1), (.iload_n 1, 1)] ((.invokestatic 78, 3) :: (m_ap [(.iconst 1, 1)] ((.invokevirtual 82, 3) :: ([(.ifCond .ne 15, 3)]))))))) := m_Fe_of nd2475 0 9 rfl
theorem eF12_allot_29 : m_Fe mi12_75 29 (m_ap [(.iconst 0, 1)] ([(.ireturn, 1)])) := m_Fe_of nd2475 15 2 rfl
theorem eF12_allot_17 : m_Fe mi12_75 17 (m_ap [(.aload_n 0, 1), (.aload_n 0, 1)] ((.invokevirtual 118, 3) :: (m_ap [(.iconst 2, 1)] ((.invokevirtual 82, 3) :: ([(.ifCond .eq 5, 3)]))))) := m_Fe_of nd2475 9 6 rfl
theorem eF12_allot_31 : m_Fe mi12_75 31 (m_ap [(.iconst 0, 1), (.istore_n 2, 1)] ([])) := m_Fe_of nd2475 17 2 rfl
theorem eF12_allot_33 : m_Fe mi12_75 33 (m_ap [(.iload_n 2, 1), (.aload_n 0, 1)] ((.getfield 14, 3) :: (m_ap [(.sipush 2908, 3)] ((.iaload, 1) :: ([(.if_icmp .ge 43, 3)]))))) := m_Fe_of nd2475 19 6 rfl
theorem eF12_allot_85 : m_Fe mi12_75 85 (m_ap [(.iconst 0, 1), (.istore_n 2, 1), (.aload_n 0, 1), (.iload_n 1, 1)] ((.invokevirtual 307, 3) :: (m_ap [(.istore_n 3, 1)] ([])))) := m_Fe_of nd2475 49 6 rfl
theorem eF12_allot_45 : m_Fe mi12_75 45 (m_ap [(.aload_n 0, 1), (.iload_n 2, 1), (.aload_n 0, 1)] ((.getfield 14, 3) :: (m_ap [(.iload_n 2, 1)] ((.invokestatic 279, 3) :: (m_ap [(.iconst 2, 1), (.iadd, 1)] ((.iaload, 1) :: ((.invokevirtual 289, 3) :: (m_ap [(.aload_n 0, 1)] ((.getfield 42, 3) :: (m_ap [(.iload_n 2, 1), (.aload_n 0, 1), (.iconst 1, 1)] ((.invokevirtual 292, 3) :: ((.iastore, 1) :: (m_ap [(.aload_n 0, 1)] ((.getfield 45, 3) :: (m_ap [(.iload_n 2, 1), (.iconst 0, 1)] ((.bastore, 1) :: (m_ap [(.iinc 2 1, 3)] ([(.goto (-49), 3)])))))))))))))))))) := m_Fe_of nd2475 25 24 rfl
theorem eF12_allot_93 : m_Fe mi12_75 93 (m_ap [(.iload_n 3, 1)] ([(.ifCond .lt 179, 3)])) := m_Fe_of nd2475 55 2 rfl
theorem eF12_allot_273 : m_Fe mi12_75 273 (m_ap [(.iload_n 2, 1)] ([(.ireturn, 1)])) := m_Fe_of nd2475 155 2 rfl
theorem eF12_allot_97 : m_Fe mi12_75 97 (m_ap [(.aload_n 0, 1)] ((.getfield 14, 3) :: (m_ap [(.sipush 807, 3)] ((.iaload, 1) :: (m_ap [(.bipush 100, 2)] ([(.if_icmp .ge 166, 3)])))))) := m_Fe_of nd2475 57 6 rfl
theorem eF12_allot_110 : m_Fe mi12_75 110 (m_ap [(.aload_n 0, 1), (.iload_n 1, 1)] ((.invokevirtual 310, 3) :: ([(.ifCond .le 158, 3)]))) := m_Fe_of nd2475 63 4 rfl
theorem eF12_allot_118 : m_Fe mi12_75 118 (m_ap [(.aload_n 0, 1)] ((.getfield 45, 3) :: (m_ap [(.iload_n 3, 1), (.iconst 1, 1)] ((.bastore, 1) :: (m_ap [(.aload_n 0, 1), (.iload_n 1, 1)] ((.invokevirtual 310, 3) :: (m_ap [(.aload_n 0, 1), (.iload_n 3, 1)] ((.invokevirtual 298, 3) :: ((.invokestatic 304, 3) :: (m_ap [(.istore 4, 2), (.aload_n 0, 1), (.iload_n 3, 1), (.iload 4, 2)] ((.invokevirtual 289, 3) :: (m_ap [(.aload_n 0, 1), (.iconst 0, 1)] ((.invokevirtual 295, 3) :: ([(.ifCond .lt 112, 3)])))))))))))))) := m_Fe_of nd2475 67 21 rfl
theorem eF12_allot_155 : m_Fe mi12_75 155 (m_ap [(.iload_n 2, 1)] ([(.ifCond .ne 7, 3)])) := m_Fe_of nd2475 88 2 rfl
theorem eF12_allot_159 : m_Fe mi12_75 159 (m_ap [(.aload_n 0, 1)] ([(.invokevirtual 313, 3)])) := m_Fe_of nd2475 90 2 rfl
theorem eF12_allot_264 : m_Fe mi12_75 264 (m_ap [(.aload_n 0, 1), (.iload_n 1, 1)] ((.invokevirtual 307, 3) :: (m_ap [(.istore_n 3, 1)] ([(.goto (-177), 3)])))) := m_Fe_of nd2475 150 5 rfl
theorem eF12_allot_163 : m_Fe mi12_75 163 (m_ap [(.aload_n 0, 1), (.iload_n 1, 1), (.iload 4, 2)] ((.invokevirtual 316, 3) :: (m_ap [(.aload_n 0, 1), (.iload_n 1, 1), (.iload 4, 2), (.aload_n 0, 1)] ((.getfield 14, 3) :: (m_ap [(.iload_n 3, 1)] ((.invokestatic 279, 3) :: ((.iaload, 1) :: (m_ap [(.iconst 1, 1)] ((.invokevirtual 122, 3) :: (m_ap [(.istore 5, 2), (.aload_n 0, 1)] ((.getfield 14, 3) :: (m_ap [(.iload 5, 2), (.bipush 6, 2)] ((.invokestatic 112, 3) :: (m_ap [(.aload_n 0, 1)] ((.invokevirtual 86, 3) :: ((.iastore, 1) :: (m_ap [(.aload_n 0, 1)] ((.getfield 14, 3) :: (m_ap [(.iload 5, 2), (.bipush 19, 2)] ((.invokestatic 112, 3) :: (m_ap [(.aload_n 0, 1), (.iload_n 1, 1), (.aload_n 0, 1)] ((.invokevirtual 86, 3) :: ((.invokevirtual 98, 3) :: ((.iastore, 1) :: (m_ap [(.aload_n 0, 1)] ((.getfield 14, 3) :: (m_ap [(.iload 5, 2), (.bipush 20, 2)] ((.invokestatic 112, 3) :: (m_ap [(.aload_n 0, 1), (.iconst 2, 1)] ((.invokevirtual 292, 3) :: ((.iastore, 1) :: (m_ap [(.aload_n 0, 1)] ((.getfield 14, 3) :: (m_ap [(.iload_n 3, 1)] ((.invokestatic 279, 3) :: (m_ap [(.iconst 4, 1), (.iadd, 1), (.dup2, 1)] ((.iaload, 1) :: (m_ap [(.iload 4, 2), (.iadd, 1)] ((.iastore, 1) :: (m_ap [(.iload_n 2, 1), (.iload 4, 2), (.iadd, 1), (.istore_n 2, 1)] ([]))))))))))))))))))))))))))))))))))))))))) := m_Fe_of nd2475 92 58 rfl
theorem SF12_allot_264 {xs : Nat → Int32} {L : Nat} (x0 : Nat) (x1 : Int32) (x2 : Int32) (hp : m_H) {r : m_O × m_H} {K : ((Int32 × Int32 × m_H) ⊕ (Int32 × m_H)) → Prop} (k0 : ∀ x, K (.inr x) → r = (.inl (some (.int x.1)), x.2)) (k1 : ∀ s, K (.inl s) → m_Rn xs L 9 2475 93 [(0, .ref x0), (1, .int x1), (2, .int s.1), (3, .int s.2.1)] [] s.2.2 r) {t : (Int32 × Int32 × m_H) ⊕ (Int32 × m_H)} (h : F12_allot_264 x0 x1 x2 hp = some t) (hK : K t) : m_Rn xs L 9 2475 264 [(0, .ref x0), (1, .int x1), (2, .int x2)] [] hp r := by
  unfold F12_allot_264 at h
  refine g_in eF12_allot_264 mx2475 ?_
  refine g_ch [(0, .ref x0), (1, .int x1), (2, .int x2)] [.int x1, .ref x0] (pc' := 266) rfl rfl rfl ?_
  obtain ⟨v2, e1, h⟩ := m_bd h
  refine g_call (v := some (.int v2)) (h := hp) (st' := [.int v2]) (D1 := 2) (as := [.ref x0, .int x1]) (Or.inr (Or.inl rfl)) q12_m307 (m_cv (as := [.int x1]) (rest := []) (Or.inl rfl) q12_m307 jv2472 (OF12_nextFor e1) rfl rfl rfl rfl) (by decide) (SF12_nextFor e1) rfl ?_
  refine g_ch [(3, .int v2), (0, .ref x0), (1, .int x1), (2, .int x2)] [] (pc' := 270) rfl rfl rfl ?_
  refine g_goto (t := 93) rfl ?_
  cases h
  exact r_lv (k1 (x2, v2, hp) hK) rfl ⟨rfl, rfl, rfl, rfl, trivial⟩
theorem SF12_allot_163 {xs : Nat → Int32} {L : Nat} (x0 : Nat) (x1 : Int32) (x2 : Int32) (x3 : Int32) (x4 : Int32) (hp : m_H) {r : m_O × m_H} {K : ((Int32 × Int32 × m_H) ⊕ (Int32 × m_H)) → Prop} (k0 : ∀ x, K (.inr x) → r = (.inl (some (.int x.1)), x.2)) (k1 : ∀ s, K (.inl s) → m_Rn xs L 9 2475 93 [(0, .ref x0), (1, .int x1), (2, .int s.1), (3, .int s.2.1)] [] s.2.2 r) {t : (Int32 × Int32 × m_H) ⊕ (Int32 × m_H)} (h : F12_allot_163 x0 x1 x2 x3 x4 hp = some t) (hK : K t) : m_Rn xs L 9 2475 163 [(0, .ref x0), (1, .int x1), (2, .int x2), (3, .int x3), (4, .int x4)] [] hp r := by
  unfold F12_allot_163 at h
  refine g_in eF12_allot_163 mx2475 ?_
  refine g_ch [(0, .ref x0), (1, .int x1), (2, .int x2), (3, .int x3), (4, .int x4)] [.int x4, .int x1, .ref x0] (pc' := 167) rfl rfl rfl ?_
  obtain ⟨h2, e1, h⟩ := m_bd h
  refine g_call (v := none) (h := h2) (st' := []) (D1 := 7) (as := [.ref x0, .int x1, .int x4]) (Or.inr (Or.inl rfl)) q12_m316 (m_cv (as := [.int x4, .int x1]) (rest := []) (Or.inl rfl) q12_m316 jv2474 (OF12_empties e1) rfl rfl rfl rfl) (by decide) (SF12_empties e1) rfl ?_
  refine g_ch [(0, .ref x0), (1, .int x1), (2, .int x2), (3, .int x3), (4, .int x4)] [.ref x0, .int x4, .int x1, .ref x0] (pc' := 175) rfl rfl rfl ?_
  obtain ⟨v3, e4, h⟩ := m_bd h
  refine g_gr q12_f14 e4 ?_
  refine g_ch [(0, .ref x0), (1, .int x1), (2, .int x2), (3, .int x3), (4, .int x4)] [.int x3, .ref v3, .int x4, .int x1, .ref x0] (pc' := 179) rfl rfl rfl ?_
  obtain ⟨v6, e5, h⟩ := m_bd h
  refine g_call (v := some (.int v6)) (h := h2) (st' := [.int v6, .ref v3, .int x4, .int x1, .ref x0]) (D1 := 0) (as := [.int x3]) (Or.inl rfl) q12_m279 (m_cs (as := [.int x3]) (rest := [.ref v3, .int x4, .int x1, .ref x0]) q12_m279 jv2465 rfl rfl rfl rfl rfl) (by decide) (SF12_requestAt e5) rfl ?_
  obtain ⟨v7, e8, h⟩ := m_bd h
  refine g_ia e8 ?_
  refine g_ch [(0, .ref x0), (1, .int x1), (2, .int x2), (3, .int x3), (4, .int x4)] [.int 1, .int v7, .int x4, .int x1, .ref x0] (pc' := 184) rfl rfl rfl ?_
  obtain ⟨z10, e9, h⟩ := m_bd h
  refine g_call (v := some (.int z10.1)) (h := z10.2) (st' := [.int z10.1]) (D1 := 1) (as := [.ref x0, .int x1, .int x4, .int v7, .int 1]) (Or.inr (Or.inl rfl)) q12_m122 (m_cv (as := [.int 1, .int v7, .int x4, .int x1]) (rest := []) (Or.inl rfl) q12_m122 jv2428 (OF12_begins e9) rfl rfl rfl rfl) (by decide) (SF12_begins e9) rfl ?_
  refine g_ch [(5, .int z10.1), (0, .ref x0), (1, .int x1), (2, .int x2), (3, .int x3), (4, .int x4)] [.ref x0] (pc' := 190) rfl rfl rfl ?_
  obtain ⟨v11, e12, h⟩ := m_bd h
  refine g_gr q12_f14 e12 ?_
  refine g_ch [(5, .int z10.1), (0, .ref x0), (1, .int x1), (2, .int x2), (3, .int x3), (4, .int x4)] [.int 6, .int z10.1, .ref v11] (pc' := 197) rfl rfl rfl ?_
  obtain ⟨v14, e13, h⟩ := m_bd h
  refine g_call (v := some (.int v14)) (h := z10.2) (st' := [.int v14, .ref v11]) (D1 := 0) (as := [.int z10.1, .int 6]) (Or.inl rfl) q12_m112 (m_cs (as := [.int 6, .int z10.1]) (rest := [.ref v11]) q12_m112 jv2425 rfl rfl rfl rfl rfl) (by decide) (SF12_lotAt e13) rfl ?_
  refine g_ch [(5, .int z10.1), (0, .ref x0), (1, .int x1), (2, .int x2), (3, .int x3), (4, .int x4)] [.ref x0, .int v14, .ref v11] (pc' := 201) rfl rfl rfl ?_
  obtain ⟨v16, e15, h⟩ := m_bd h
  refine g_call (v := some (.int v16)) (h := z10.2) (st' := [.int v16, .int v14, .ref v11]) (D1 := 0) (as := [.ref x0]) (Or.inr (Or.inl rfl)) q12_m86 (m_cv (as := []) (rest := [.int v14, .ref v11]) (Or.inl rfl) q12_m86 jv2404 (OF12_week e15) rfl rfl rfl rfl) (by decide) (SF12_week e15) rfl ?_
  obtain ⟨h17, e18, h⟩ := m_bd h
  refine g_is e18 ?_
  refine g_ch [(5, .int z10.1), (0, .ref x0), (1, .int x1), (2, .int x2), (3, .int x3), (4, .int x4)] [.ref x0] (pc' := 206) rfl rfl rfl ?_
  obtain ⟨v19, e20, h⟩ := m_bd h
  refine g_gr q12_f14 e20 ?_
  refine g_ch [(5, .int z10.1), (0, .ref x0), (1, .int x1), (2, .int x2), (3, .int x3), (4, .int x4)] [.int 19, .int z10.1, .ref v19] (pc' := 213) rfl rfl rfl ?_
  obtain ⟨v22, e21, h⟩ := m_bd h
  refine g_call (v := some (.int v22)) (h := h17) (st' := [.int v22, .ref v19]) (D1 := 0) (as := [.int z10.1, .int 19]) (Or.inl rfl) q12_m112 (m_cs (as := [.int 19, .int z10.1]) (rest := [.ref v19]) q12_m112 jv2425 rfl rfl rfl rfl rfl) (by decide) (SF12_lotAt e21) rfl ?_
  refine g_ch [(5, .int z10.1), (0, .ref x0), (1, .int x1), (2, .int x2), (3, .int x3), (4, .int x4)] [.ref x0, .int x1, .ref x0, .int v22, .ref v19] (pc' := 219) rfl rfl rfl ?_
  obtain ⟨v24, e23, h⟩ := m_bd h
  refine g_call (v := some (.int v24)) (h := h17) (st' := [.int v24, .int x1, .ref x0, .int v22, .ref v19]) (D1 := 0) (as := [.ref x0]) (Or.inr (Or.inl rfl)) q12_m86 (m_cv (as := []) (rest := [.int x1, .ref x0, .int v22, .ref v19]) (Or.inl rfl) q12_m86 jv2404 (OF12_week e23) rfl rfl rfl rfl) (by decide) (SF12_week e23) rfl ?_
  obtain ⟨v26, e25, h⟩ := m_bd h
  refine g_call (v := some (.int v26)) (h := h17) (st' := [.int v26, .int v22, .ref v19]) (D1 := 1) (as := [.ref x0, .int x1, .int v24]) (Or.inr (Or.inl rfl)) q12_m98 (m_cv (as := [.int v24, .int x1]) (rest := [.int v22, .ref v19]) (Or.inl rfl) q12_m98 jv2419 (OF12_priceOf e25) rfl rfl rfl rfl) (by decide) (SF12_priceOf e25) rfl ?_
  obtain ⟨h27, e28, h⟩ := m_bd h
  refine g_is e28 ?_
  refine g_ch [(5, .int z10.1), (0, .ref x0), (1, .int x1), (2, .int x2), (3, .int x3), (4, .int x4)] [.ref x0] (pc' := 227) rfl rfl rfl ?_
  obtain ⟨v29, e30, h⟩ := m_bd h
  refine g_gr q12_f14 e30 ?_
  refine g_ch [(5, .int z10.1), (0, .ref x0), (1, .int x1), (2, .int x2), (3, .int x3), (4, .int x4)] [.int 20, .int z10.1, .ref v29] (pc' := 234) rfl rfl rfl ?_
  obtain ⟨v32, e31, h⟩ := m_bd h
  refine g_call (v := some (.int v32)) (h := h27) (st' := [.int v32, .ref v29]) (D1 := 0) (as := [.int z10.1, .int 20]) (Or.inl rfl) q12_m112 (m_cs (as := [.int 20, .int z10.1]) (rest := [.ref v29]) q12_m112 jv2425 rfl rfl rfl rfl rfl) (by decide) (SF12_lotAt e31) rfl ?_
  refine g_ch [(5, .int z10.1), (0, .ref x0), (1, .int x1), (2, .int x2), (3, .int x3), (4, .int x4)] [.int 2, .ref x0, .int v32, .ref v29] (pc' := 239) rfl rfl rfl ?_
  obtain ⟨z34, e33, h⟩ := m_bd h
  refine g_call (v := some (.int z34.1)) (h := z34.2) (st' := [.int z34.1, .int v32, .ref v29]) (D1 := 8) (as := [.ref x0, .int 2]) (Or.inr (Or.inl rfl)) q12_m292 (m_cv (as := [.int 2]) (rest := [.int v32, .ref v29]) (Or.inl rfl) q12_m292 jv2464 (OF12_allOf e33) rfl rfl rfl rfl) (by decide) (SF12_allOf e33) rfl ?_
  obtain ⟨h35, e36, h⟩ := m_bd h
  refine g_is e36 ?_
  refine g_ch [(5, .int z10.1), (0, .ref x0), (1, .int x1), (2, .int x2), (3, .int x3), (4, .int x4)] [.ref x0] (pc' := 244) rfl rfl rfl ?_
  obtain ⟨v37, e38, h⟩ := m_bd h
  refine g_gr q12_f14 e38 ?_
  refine g_ch [(5, .int z10.1), (0, .ref x0), (1, .int x1), (2, .int x2), (3, .int x3), (4, .int x4)] [.int x3, .ref v37] (pc' := 248) rfl rfl rfl ?_
  obtain ⟨v40, e39, h⟩ := m_bd h
  refine g_call (v := some (.int v40)) (h := h35) (st' := [.int v40, .ref v37]) (D1 := 0) (as := [.int x3]) (Or.inl rfl) q12_m279 (m_cs (as := [.int x3]) (rest := [.ref v37]) q12_m279 jv2465 rfl rfl rfl rfl rfl) (by decide) (SF12_requestAt e39) rfl ?_
  refine g_ch [(5, .int z10.1), (0, .ref x0), (1, .int x1), (2, .int x2), (3, .int x3), (4, .int x4)] [.int (v40 + 4), .ref v37, .int (v40 + 4), .ref v37] (pc' := 254) rfl rfl rfl ?_
  obtain ⟨v41, e42, h⟩ := m_bd h
  refine g_ia e42 ?_
  refine g_ch [(5, .int z10.1), (0, .ref x0), (1, .int x1), (2, .int x2), (3, .int x3), (4, .int x4)] [.int (v41 + x4), .int (v40 + 4), .ref v37] (pc' := 258) rfl rfl rfl ?_
  obtain ⟨h43, e44, h⟩ := m_bd h
  refine g_is e44 ?_
  refine g_ch [(2, .int (x2 + x4)), (5, .int z10.1), (0, .ref x0), (1, .int x1), (3, .int x3), (4, .int x4)] [] (pc' := 264) rfl rfl rfl ?_
  refine g_end ?_
  exact r_lv (SF12_allot_264 x0 x1 (x2 + x4) h43 (K := K) k0 k1 h hK) rfl ⟨rfl, rfl, rfl, trivial⟩
theorem SF12_allot_93b {xs : Nat → Int32} {L : Nat} (x0 : Nat) (x1 : Int32) (s : Int32 × Int32 × m_H) {r : m_O × m_H} {K : ((Int32 × Int32 × m_H) ⊕ (Int32 × m_H)) → Prop} (k0 : ∀ x, K (.inr x) → r = (.inl (some (.int x.1)), x.2)) (k1 : ∀ s, K (.inl s) → m_Rn xs L 9 2475 93 [(0, .ref x0), (1, .int x1), (2, .int s.1), (3, .int s.2.1)] [] s.2.2 r) {t : (Int32 × Int32 × m_H) ⊕ (Int32 × m_H)} (h : F12_allot_93b x0 x1 s = some t) (hK : K t) : m_Rn xs L 9 2475 93 [(0, .ref x0), (1, .int x1), (2, .int s.1), (3, .int s.2.1)] [] s.2.2 r := by
  unfold F12_allot_93b at h
  refine g_in eF12_allot_93 mx2475 ?_
  refine g_ch [(0, .ref x0), (1, .int x1), (2, .int s.1), (3, .int s.2.1)] [.int s.2.1] (pc' := 94) rfl rfl rfl ?_
  rcases m_ifd h with ⟨c1, h⟩ | ⟨c1, h⟩
  · refine g_ifc (t := 273) rfl (m_ltT c1) ?_
    refine g_in eF12_allot_273 mx2475 ?_
    refine g_ch [(0, .ref x0), (1, .int x1), (2, .int s.1), (3, .int s.2.1)] [.int s.1] (pc' := 274) rfl rfl rfl ?_
    cases h
    rw [k0 _ hK]
    exact g_iret rfl rfl
  · refine g_ifcn (t := 273) rfl (m_ltF c1) ?_
    refine g_in eF12_allot_97 mx2475 ?_
    refine g_ch [(0, .ref x0), (1, .int x1), (2, .int s.1), (3, .int s.2.1)] [.ref x0] (pc' := 98) rfl rfl rfl ?_
    obtain ⟨v2, e3, h⟩ := m_bd h
    refine g_gr q12_f14 e3 ?_
    refine g_ch [(0, .ref x0), (1, .int x1), (2, .int s.1), (3, .int s.2.1)] [.int 807, .ref v2] (pc' := 104) rfl rfl rfl ?_
    obtain ⟨v4, e5, h⟩ := m_bd h
    refine g_ia e5 ?_
    refine g_ch [(0, .ref x0), (1, .int x1), (2, .int s.1), (3, .int s.2.1)] [.int 100, .int v4] (pc' := 107) rfl rfl rfl ?_
    rcases m_ifd h with ⟨c6, h⟩ | ⟨c6, h⟩
    · refine g_if (t := 273) rfl (m_geT c6) ?_
      refine g_in eF12_allot_273 mx2475 ?_
      refine g_ch [(0, .ref x0), (1, .int x1), (2, .int s.1), (3, .int s.2.1)] [.int s.1] (pc' := 274) rfl rfl rfl ?_
      cases h
      rw [k0 _ hK]
      exact g_iret rfl rfl
    · refine g_ifn (t := 273) rfl (m_geF c6) ?_
      refine g_in eF12_allot_110 mx2475 ?_
      refine g_ch [(0, .ref x0), (1, .int x1), (2, .int s.1), (3, .int s.2.1)] [.int x1, .ref x0] (pc' := 112) rfl rfl rfl ?_
      obtain ⟨v8, e7, h⟩ := m_bd h
      refine g_call (v := some (.int v8)) (h := s.2.2) (st' := [.int v8]) (D1 := 3) (as := [.ref x0, .int x1]) (Or.inr (Or.inl rfl)) q12_m310 (m_cv (as := [.int x1]) (rest := []) (Or.inl rfl) q12_m310 jv2473 (OF12_stockOf e7) rfl rfl rfl rfl) (by decide) (SF12_stockOf e7) rfl ?_
      rcases m_ifd h with ⟨c9, h⟩ | ⟨c9, h⟩
      · refine g_ifc (t := 273) rfl (m_leT c9) ?_
        refine g_in eF12_allot_273 mx2475 ?_
        refine g_ch [(0, .ref x0), (1, .int x1), (2, .int s.1), (3, .int s.2.1)] [.int s.1] (pc' := 274) rfl rfl rfl ?_
        cases h
        rw [k0 _ hK]
        exact g_iret rfl rfl
      · refine g_ifcn (t := 273) rfl (m_leF c9) ?_
        refine g_in eF12_allot_118 mx2475 ?_
        refine g_ch [(0, .ref x0), (1, .int x1), (2, .int s.1), (3, .int s.2.1)] [.ref x0] (pc' := 119) rfl rfl rfl ?_
        obtain ⟨v10, e11, h⟩ := m_bd h
        refine g_gr q12_f45 e11 ?_
        refine g_ch [(0, .ref x0), (1, .int x1), (2, .int s.1), (3, .int s.2.1)] [.int 1, .int s.2.1, .ref v10] (pc' := 124) rfl rfl rfl ?_
        obtain ⟨h12, e13, h⟩ := m_bd h
        refine g_bs3 e13 ?_
        refine g_ch [(0, .ref x0), (1, .int x1), (2, .int s.1), (3, .int s.2.1)] [.int x1, .ref x0] (pc' := 127) rfl rfl rfl ?_
        obtain ⟨v15, e14, h⟩ := m_bd h
        refine g_call (v := some (.int v15)) (h := h12) (st' := [.int v15]) (D1 := 3) (as := [.ref x0, .int x1]) (Or.inr (Or.inl rfl)) q12_m310 (m_cv (as := [.int x1]) (rest := []) (Or.inl rfl) q12_m310 jv2473 (OF12_stockOf e14) rfl rfl rfl rfl) (by decide) (SF12_stockOf e14) rfl ?_
        refine g_ch [(0, .ref x0), (1, .int x1), (2, .int s.1), (3, .int s.2.1)] [.int s.2.1, .ref x0, .int v15] (pc' := 132) rfl rfl rfl ?_
        obtain ⟨v17, e16, h⟩ := m_bd h
        refine g_call (v := some (.int v17)) (h := h12) (st' := [.int v17, .int v15]) (D1 := 1) (as := [.ref x0, .int s.2.1]) (Or.inr (Or.inl rfl)) q12_m298 (m_cv (as := [.int s.2.1]) (rest := [.int v15]) (Or.inl rfl) q12_m298 jv2468 (OF12_lacks e16) rfl rfl rfl rfl) (by decide) (SF12_lacks e16) rfl ?_
        refine g_nat (Or.inl rfl) q12_m304 rfl (z := ([.int (m_min v15 v17)], h12)) rfl (by decide) ?_
        refine g_ch [(4, .int (m_min v15 v17)), (0, .ref x0), (1, .int x1), (2, .int s.1), (3, .int s.2.1)] [.int (m_min v15 v17), .int s.2.1, .ref x0] (pc' := 144) rfl rfl rfl ?_
        obtain ⟨h19, e18, h⟩ := m_bd h
        refine g_call (v := none) (h := h19) (st' := []) (D1 := 3) (as := [.ref x0, .int s.2.1, .int (m_min v15 v17)]) (Or.inr (Or.inl rfl)) q12_m289 (m_cv (as := [.int (m_min v15 v17), .int s.2.1]) (rest := []) (Or.inl rfl) q12_m289 jv2469 (OF12_looksAt e18) rfl rfl rfl rfl) (by decide) (SF12_looksAt e18) rfl ?_
        refine g_ch [(4, .int (m_min v15 v17)), (0, .ref x0), (1, .int x1), (2, .int s.1), (3, .int s.2.1)] [.int 0, .ref x0] (pc' := 149) rfl rfl rfl ?_
        obtain ⟨z21, e20, h⟩ := m_bd h
        refine g_call (v := some (.int z21.1)) (h := z21.2) (st' := [.int z21.1]) (D1 := 8) (as := [.ref x0, .int 0]) (Or.inr (Or.inl rfl)) q12_m295 (m_cv (as := [.int 0]) (rest := []) (Or.inl rfl) q12_m295 jv2463 (OF12_firstOf e20) rfl rfl rfl rfl) (by decide) (SF12_firstOf e20) rfl ?_
        rcases m_ifd h with ⟨c22, h⟩ | ⟨c22, h⟩
        · refine g_ifc (t := 264) rfl (m_ltT c22) ?_
          exact r_lv (SF12_allot_264 x0 x1 s.1 z21.2 (K := K) k0 k1 h hK) rfl ⟨rfl, rfl, rfl, trivial⟩
        · refine g_ifcn (t := 264) rfl (m_ltF c22) ?_
          refine g_in eF12_allot_155 mx2475 ?_
          refine g_ch [(4, .int (m_min v15 v17)), (0, .ref x0), (1, .int x1), (2, .int s.1), (3, .int s.2.1)] [.int s.1] (pc' := 156) rfl rfl rfl ?_
          rcases m_ifd h with ⟨c23, h⟩ | ⟨c23, h⟩
          · refine g_ifcn (t := 163) rfl (m_neF c23) ?_
            refine g_in eF12_allot_159 mx2475 ?_
            refine g_ch [(4, .int (m_min v15 v17)), (0, .ref x0), (1, .int x1), (2, .int s.1), (3, .int s.2.1)] [.ref x0] (pc' := 160) rfl rfl rfl ?_
            obtain ⟨h25, e24, h⟩ := m_bd h
            refine g_call (v := none) (h := h25) (st' := []) (D1 := 0) (as := [.ref x0]) (Or.inr (Or.inl rfl)) q12_m313 (m_cv (as := []) (rest := []) (Or.inl rfl) q12_m313 jv2406 (OF12_deed e24) rfl rfl rfl rfl) (by decide) (SF12_deed e24) rfl ?_
            refine g_end ?_
            exact r_lv (SF12_allot_163 x0 x1 s.1 s.2.1 (m_min v15 v17) h25 (K := K) k0 k1 h hK) rfl ⟨rfl, rfl, rfl, rfl, rfl, trivial⟩
          · refine g_ifc (t := 163) rfl (m_neT c23) ?_
            exact r_lv (SF12_allot_163 x0 x1 s.1 s.2.1 (m_min v15 v17) z21.2 (K := K) k0 k1 h hK) rfl ⟨rfl, rfl, rfl, rfl, rfl, trivial⟩
theorem SF12_allot_93 {xs : Nat → Int32} {L : Nat} (x0 : Nat) (x1 : Int32) (x2 : Int32) (x3 : Int32) (hp : m_H) {r : m_O × m_H} {K : Int32 × m_H → Prop} (k0 : ∀ x, K x → r = (.inl (some (.int x.1)), x.2)) {t : Int32 × m_H} (h : F12_allot_93 x0 x1 x2 x3 hp = some t) (hK : K t) : m_Rn xs L 9 2475 93 [(0, .ref x0), (1, .int x1), (2, .int x2), (3, .int x3)] [] hp r :=
  m_wh_ok (P := fun s => m_Rn xs L 9 2475 93 [(0, .ref x0), (1, .int x1), (2, .int s.1), (3, .int s.2.1)] [] s.2.2 r) (Q := K) (fun s t hb hK => SF12_allot_93b x0 x1 s (K := m_KK (fun s => m_Rn xs L 9 2475 93 [(0, .ref x0), (1, .int x1), (2, .int s.1), (3, .int s.2.1)] [] s.2.2 r) K) k0 (fun _ q => q) hb hK) m_N _ _ h hK
theorem SF12_allot_33b {xs : Nat → Int32} {L : Nat} (x0 : Nat) (x1 : Int32) (s : Int32 × m_H) {r : m_O × m_H} {K : ((Int32 × m_H) ⊕ (Int32 × m_H)) → Prop} (k0 : ∀ x, K (.inr x) → r = (.inl (some (.int x.1)), x.2)) (k1 : ∀ s, K (.inl s) → m_Rn xs L 9 2475 33 [(0, .ref x0), (1, .int x1), (2, .int s.1)] [] s.2 r) {t : (Int32 × m_H) ⊕ (Int32 × m_H)} (h : F12_allot_33b x0 x1 s = some t) (hK : K t) : m_Rn xs L 9 2475 33 [(0, .ref x0), (1, .int x1), (2, .int s.1)] [] s.2 r := by
  unfold F12_allot_33b at h
  refine g_in eF12_allot_33 mx2475 ?_
  refine g_ch [(0, .ref x0), (1, .int x1), (2, .int s.1)] [.ref x0, .int s.1] (pc' := 35) rfl rfl rfl ?_
  obtain ⟨v1, e2, h⟩ := m_bd h
  refine g_gr q12_f14 e2 ?_
  refine g_ch [(0, .ref x0), (1, .int x1), (2, .int s.1)] [.int 2908, .ref v1, .int s.1] (pc' := 41) rfl rfl rfl ?_
  obtain ⟨v3, e4, h⟩ := m_bd h
  refine g_ia e4 ?_
  rcases m_ifd h with ⟨c5, h⟩ | ⟨c5, h⟩
  · refine g_if (t := 85) rfl (m_geT c5) ?_
    refine g_in eF12_allot_85 mx2475 ?_
    refine g_ch [(2, .int 0), (0, .ref x0), (1, .int x1)] [.int x1, .ref x0] (pc' := 89) rfl rfl rfl ?_
    obtain ⟨v7, e6, h⟩ := m_bd h
    refine g_call (v := some (.int v7)) (h := s.2) (st' := [.int v7]) (D1 := 2) (as := [.ref x0, .int x1]) (Or.inr (Or.inl rfl)) q12_m307 (m_cv (as := [.int x1]) (rest := []) (Or.inl rfl) q12_m307 jv2472 (OF12_nextFor e6) rfl rfl rfl rfl) (by decide) (SF12_nextFor e6) rfl ?_
    refine g_ch [(3, .int v7), (2, .int 0), (0, .ref x0), (1, .int x1)] [] (pc' := 93) rfl rfl rfl ?_
    refine g_end ?_
    obtain ⟨t', h2, rfl⟩ := Option.map_eq_some_iff.mp h
    exact r_lv (SF12_allot_93 x0 x1 0 v7 s.2 (K := fun t => K (.inr t)) k0 h2 hK) rfl ⟨rfl, rfl, rfl, rfl, trivial⟩
  · refine g_ifn (t := 85) rfl (m_geF c5) ?_
    refine g_in eF12_allot_45 mx2475 ?_
    refine g_ch [(0, .ref x0), (1, .int x1), (2, .int s.1)] [.ref x0, .int s.1, .ref x0] (pc' := 48) rfl rfl rfl ?_
    obtain ⟨v8, e9, h⟩ := m_bd h
    refine g_gr q12_f14 e9 ?_
    refine g_ch [(0, .ref x0), (1, .int x1), (2, .int s.1)] [.int s.1, .ref v8, .int s.1, .ref x0] (pc' := 52) rfl rfl rfl ?_
    obtain ⟨v11, e10, h⟩ := m_bd h
    refine g_call (v := some (.int v11)) (h := s.2) (st' := [.int v11, .ref v8, .int s.1, .ref x0]) (D1 := 0) (as := [.int s.1]) (Or.inl rfl) q12_m279 (m_cs (as := [.int s.1]) (rest := [.ref v8, .int s.1, .ref x0]) q12_m279 jv2465 rfl rfl rfl rfl rfl) (by decide) (SF12_requestAt e10) rfl ?_
    refine g_ch [(0, .ref x0), (1, .int x1), (2, .int s.1)] [.int (v11 + 2), .ref v8, .int s.1, .ref x0] (pc' := 57) rfl rfl rfl ?_
    obtain ⟨v12, e13, h⟩ := m_bd h
    refine g_ia e13 ?_
    obtain ⟨h15, e14, h⟩ := m_bd h
    refine g_call (v := none) (h := h15) (st' := []) (D1 := 3) (as := [.ref x0, .int s.1, .int v12]) (Or.inr (Or.inl rfl)) q12_m289 (m_cv (as := [.int v12, .int s.1]) (rest := []) (Or.inl rfl) q12_m289 jv2469 (OF12_looksAt e14) rfl rfl rfl rfl) (by decide) (SF12_looksAt e14) rfl ?_
    refine g_ch [(0, .ref x0), (1, .int x1), (2, .int s.1)] [.ref x0] (pc' := 62) rfl rfl rfl ?_
    obtain ⟨v16, e17, h⟩ := m_bd h
    refine g_gr q12_f42 e17 ?_
    refine g_ch [(0, .ref x0), (1, .int x1), (2, .int s.1)] [.int 1, .ref x0, .int s.1, .ref v16] (pc' := 68) rfl rfl rfl ?_
    obtain ⟨z19, e18, h⟩ := m_bd h
    refine g_call (v := some (.int z19.1)) (h := z19.2) (st' := [.int z19.1, .int s.1, .ref v16]) (D1 := 8) (as := [.ref x0, .int 1]) (Or.inr (Or.inl rfl)) q12_m292 (m_cv (as := [.int 1]) (rest := [.int s.1, .ref v16]) (Or.inl rfl) q12_m292 jv2464 (OF12_allOf e18) rfl rfl rfl rfl) (by decide) (SF12_allOf e18) rfl ?_
    obtain ⟨h20, e21, h⟩ := m_bd h
    refine g_is e21 ?_
    refine g_ch [(0, .ref x0), (1, .int x1), (2, .int s.1)] [.ref x0] (pc' := 73) rfl rfl rfl ?_
    obtain ⟨v22, e23, h⟩ := m_bd h
    refine g_gr q12_f45 e23 ?_
    refine g_ch [(0, .ref x0), (1, .int x1), (2, .int s.1)] [.int 0, .int s.1, .ref v22] (pc' := 78) rfl rfl rfl ?_
    obtain ⟨h24, e25, h⟩ := m_bd h
    refine g_bs3 e25 ?_
    refine g_ch [(2, .int (s.1 + 1)), (0, .ref x0), (1, .int x1)] [] (pc' := 82) rfl rfl rfl ?_
    refine g_goto (t := 33) rfl ?_
    cases h
    exact r_lv (k1 ((s.1 + 1), h24) hK) rfl ⟨rfl, rfl, rfl, trivial⟩
theorem SF12_allot_33 {xs : Nat → Int32} {L : Nat} (x0 : Nat) (x1 : Int32) (x2 : Int32) (hp : m_H) {r : m_O × m_H} {K : Int32 × m_H → Prop} (k0 : ∀ x, K x → r = (.inl (some (.int x.1)), x.2)) {t : Int32 × m_H} (h : F12_allot_33 x0 x1 x2 hp = some t) (hK : K t) : m_Rn xs L 9 2475 33 [(0, .ref x0), (1, .int x1), (2, .int x2)] [] hp r :=
  m_wh_ok (P := fun s => m_Rn xs L 9 2475 33 [(0, .ref x0), (1, .int x1), (2, .int s.1)] [] s.2 r) (Q := K) (fun s t hb hK => SF12_allot_33b x0 x1 s (K := m_KK (fun s => m_Rn xs L 9 2475 33 [(0, .ref x0), (1, .int x1), (2, .int s.1)] [] s.2 r) K) k0 (fun _ q => q) hb hK) m_N _ _ h hK
theorem SF12_allot_0 {xs : Nat → Int32} {L : Nat} (x0 : Nat) (x1 : Int32) (hp : m_H) {r : m_O × m_H} {K : (Int32 × m_H) → Prop} (k0 : ∀ x, K x → r = (.inl (some (.int x.1)), x.2)) {t : Int32 × m_H} (h : F12_allot_0 x0 x1 hp = some t) (hK : K t) : m_Rn xs L 9 2475 0 [(0, .ref x0), (1, .int x1)] [] hp r := by
  unfold F12_allot_0 at h
  refine g_in eF12_allot_0 mx2475 ?_
  refine g_ch [(0, .ref x0), (1, .int x1)] [.int 0, .ref x0] (pc' := 2) rfl rfl rfl ?_
  obtain ⟨h1, e2, h⟩ := m_bd h
  refine g_pf q12_f3 e2 ?_
  refine g_ch [(0, .ref x0), (1, .int x1)] [.int x1, .ref x0] (pc' := 7) rfl rfl rfl ?_
  obtain ⟨v4, e3, h⟩ := m_bd h
  refine g_call (v := some (.int v4)) (h := h1) (st' := [.int v4, .ref x0]) (D1 := 1) (as := [.int x1]) (Or.inl rfl) q12_m78 (m_cs (as := [.int x1]) (rest := [.ref x0]) q12_m78 jv2410 rfl rfl rfl rfl rfl) (by decide) (SF12_noSort e3) rfl ?_
  refine g_ch [(0, .ref x0), (1, .int x1)] [.int 1, .int v4, .ref x0] (pc' := 11) rfl rfl rfl ?_
  obtain ⟨z6, e5, h⟩ := m_bd h
  refine g_call (v := some (.int z6.1)) (h := z6.2) (st' := [.int z6.1]) (D1 := 0) (as := [.ref x0, .int v4, .int 1]) (Or.inr (Or.inl rfl)) q12_m82 (m_cv (as := [.int 1, .int v4]) (rest := []) (Or.inl rfl) q12_m82 jv2401 (OF12_throwsIf e5) rfl rfl rfl rfl) (by decide) (SF12_throwsIf e5) rfl ?_
  rcases m_ifd h with ⟨c7, h⟩ | ⟨c7, h⟩
  · refine g_ifcn (t := 29) rfl (m_neF c7) ?_
    refine g_in eF12_allot_17 mx2475 ?_
    refine g_ch [(0, .ref x0), (1, .int x1)] [.ref x0, .ref x0] (pc' := 19) rfl rfl rfl ?_
    obtain ⟨v9, e8, h⟩ := m_bd h
    refine g_call (v := some (.int v9)) (h := z6.2) (st' := [.int v9, .ref x0]) (D1 := 0) (as := [.ref x0]) (Or.inr (Or.inl rfl)) q12_m118 (m_cv (as := []) (rest := [.ref x0]) (Or.inl rfl) q12_m118 jv2405 (OF12_isOver e8) rfl rfl rfl rfl) (by decide) (SF12_isOver e8) rfl ?_
    refine g_ch [(0, .ref x0), (1, .int x1)] [.int 2, .int v9, .ref x0] (pc' := 23) rfl rfl rfl ?_
    obtain ⟨z11, e10, h⟩ := m_bd h
    refine g_call (v := some (.int z11.1)) (h := z11.2) (st' := [.int z11.1]) (D1 := 0) (as := [.ref x0, .int v9, .int 2]) (Or.inr (Or.inl rfl)) q12_m82 (m_cv (as := [.int 2, .int v9]) (rest := []) (Or.inl rfl) q12_m82 jv2401 (OF12_throwsIf e10) rfl rfl rfl rfl) (by decide) (SF12_throwsIf e10) rfl ?_
    rcases m_ifd h with ⟨c12, h⟩ | ⟨c12, h⟩
    · refine g_ifc (t := 31) rfl (m_eqT c12) ?_
      refine g_in eF12_allot_31 mx2475 ?_
      refine g_ch [(2, .int 0), (0, .ref x0), (1, .int x1)] [] (pc' := 33) rfl rfl rfl ?_
      refine g_end ?_
      exact r_lv (SF12_allot_33 x0 x1 0 z11.2 (K := K) k0 h hK) rfl ⟨rfl, rfl, rfl, trivial⟩
    · refine g_ifcn (t := 31) rfl (m_eqF c12) ?_
      refine g_in eF12_allot_29 mx2475 ?_
      refine g_ch [(0, .ref x0), (1, .int x1)] [.int 0] (pc' := 30) rfl rfl rfl ?_
      cases h
      rw [k0 _ hK]
      exact g_iret rfl rfl
  · refine g_ifc (t := 29) rfl (m_neT c7) ?_
    refine g_in eF12_allot_29 mx2475 ?_
    refine g_ch [(0, .ref x0), (1, .int x1)] [.int 0] (pc' := 30) rfl rfl rfl ?_
    cases h
    rw [k0 _ hK]
    exact g_iret rfl rfl
theorem OF12_allot {x0 : Nat} {x1 : Int32} {hp : m_H} {x : Int32 × m_H} (h : F12_allot x0 x1 hp = some x) : m_isO hp 9 x0 = true := (m_gdd h).1
theorem SF12_allot {xs : Nat → Int32} {L : Nat} {x0 : Nat} {x1 : Int32} {hp : m_H} {x : Int32 × m_H} (h : F12_allot x0 x1 hp = some x) : m_Rn xs L 9 2475 0 (lv_args 0 [.ref x0, .int x1]) [] hp (.inl (some (.int x.1)), x.2) :=
  r_lv (SF12_allot_0 x0 x1 hp (K := fun y => y = x) (fun y e => by rw [e]) (m_gdd h).2 rfl) rfl ⟨rfl, rfl, trivial⟩
-- F12_shipAt: LendHouseModel.shipAt(II)I
theorem eF12_shipAt_0 : m_Fe mi12_76 0 (m_ap [(.sipush 3210, 3), (.bipush 23, 2), (.iload_n 0, 1), (.imul, 1), (.iadd, 1), (.iload_n 1, 1), (.iadd, 1)] ([(.ireturn, 1)])) := m_Fe_of nd2476 0 8 rfl
theorem SF12_shipAt_0 {xs : Nat → Int32} {L : Nat} (x0 : Int32) (x1 : Int32) (hp : m_H) {r : m_O × m_H} {K : Int32 → Prop} (k0 : ∀ x, K x → r = (.inl (some (.int x)), hp)) {t : Int32} (h : F12_shipAt_0 x0 x1 hp = some t) (hK : K t) : m_Rn xs L 0 2476 0 [(0, .int x0), (1, .int x1)] [] hp r := by
  unfold F12_shipAt_0 at h
  refine g_in eF12_shipAt_0 mx2476 ?_
  refine g_ch [(0, .int x0), (1, .int x1)] [.int ((3210 + (23 * x0)) + x1)] (pc' := 10) rfl rfl rfl ?_
  cases h
  rw [k0 _ hK]
  exact g_iret rfl rfl
theorem SF12_shipAt {xs : Nat → Int32} {L : Nat} {x0 : Int32} {x1 : Int32} {hp : m_H} {x : Int32} (h : F12_shipAt x0 x1 hp = some x) : m_Rn xs L 0 2476 0 (lv_args 0 [.int x0, .int x1]) [] hp (.inl (some (.int x)), hp) :=
  r_lv (SF12_shipAt_0 x0 x1 hp (K := fun y => y = x) (fun y e => by rw [e]) h rfl) rfl ⟨rfl, rfl, trivial⟩
-- F12_its: LendHouseModel.its(II)I
theorem eF12_its_0 : m_Fe mi12_77 0 (m_ap [(.aload_n 0, 1)] ((.getfield 14, 3) :: (m_ap [(.iload_n 1, 1), (.iload_n 2, 1)] ((.invokestatic 319, 3) :: ((.iaload, 1) :: ([(.ireturn, 1)])))))) := m_Fe_of nd2477 0 7 rfl
theorem SF12_its_0 {xs : Nat → Int32} {L : Nat} (x0 : Nat) (x1 : Int32) (x2 : Int32) (hp : m_H) {r : m_O × m_H} {K : Int32 → Prop} (k0 : ∀ x, K x → r = (.inl (some (.int x)), hp)) {t : Int32} (h : F12_its_0 x0 x1 x2 hp = some t) (hK : K t) : m_Rn xs L 1 2477 0 [(0, .ref x0), (1, .int x1), (2, .int x2)] [] hp r := by
  unfold F12_its_0 at h
  refine g_in eF12_its_0 mx2477 ?_
  refine g_ch [(0, .ref x0), (1, .int x1), (2, .int x2)] [.ref x0] (pc' := 1) rfl rfl rfl ?_
  obtain ⟨v1, e2, h⟩ := m_bd h
  refine g_gr q12_f14 e2 ?_
  refine g_ch [(0, .ref x0), (1, .int x1), (2, .int x2)] [.int x2, .int x1, .ref v1] (pc' := 6) rfl rfl rfl ?_
  obtain ⟨v4, e3, h⟩ := m_bd h
  refine g_call (v := some (.int v4)) (h := hp) (st' := [.int v4, .ref v1]) (D1 := 0) (as := [.int x1, .int x2]) (Or.inl rfl) q12_m319 (m_cs (as := [.int x2, .int x1]) (rest := [.ref v1]) q12_m319 jv2476 rfl rfl rfl rfl rfl) (by decide) (SF12_shipAt e3) rfl ?_
  obtain ⟨v5, e6, h⟩ := m_bd h
  refine g_ia e6 ?_
  cases h
  rw [k0 _ hK]
  exact g_iret rfl rfl
theorem OF12_its {x0 : Nat} {x1 : Int32} {x2 : Int32} {hp : m_H} {x : Int32} (h : F12_its x0 x1 x2 hp = some x) : m_isO hp 9 x0 = true := (m_gdd h).1
theorem SF12_its {xs : Nat → Int32} {L : Nat} {x0 : Nat} {x1 : Int32} {x2 : Int32} {hp : m_H} {x : Int32} (h : F12_its x0 x1 x2 hp = some x) : m_Rn xs L 1 2477 0 (lv_args 0 [.ref x0, .int x1, .int x2]) [] hp (.inl (some (.int x)), hp) :=
  r_lv (SF12_its_0 x0 x1 x2 hp (K := fun y => y = x) (fun y e => by rw [e]) (m_gdd h).2 rfl) rfl ⟨rfl, rfl, rfl, trivial⟩
-- F12_puts: LendHouseModel.puts(III)V
theorem eF12_puts_0 : m_Fe mi12_78 0 (m_ap [(.aload_n 0, 1)] ((.getfield 14, 3) :: (m_ap [(.iload_n 1, 1), (.iload_n 2, 1)] ((.invokestatic 319, 3) :: (m_ap [(.iload_n 3, 1)] ((.iastore, 1) :: ([(.return_, 1)]))))))) := m_Fe_of nd2478 0 8 rfl
theorem SF12_puts_0 {xs : Nat → Int32} {L : Nat} (x0 : Nat) (x1 : Int32) (x2 : Int32) (x3 : Int32) (hp : m_H) {r : m_O × m_H} {K : m_H → Prop} (k0 : ∀ x, K x → r = (.inl none, x)) {t : m_H} (h : F12_puts_0 x0 x1 x2 x3 hp = some t) (hK : K t) : m_Rn xs L 1 2478 0 [(0, .ref x0), (1, .int x1), (2, .int x2), (3, .int x3)] [] hp r := by
  unfold F12_puts_0 at h
  refine g_in eF12_puts_0 mx2478 ?_
  refine g_ch [(0, .ref x0), (1, .int x1), (2, .int x2), (3, .int x3)] [.ref x0] (pc' := 1) rfl rfl rfl ?_
  obtain ⟨v1, e2, h⟩ := m_bd h
  refine g_gr q12_f14 e2 ?_
  refine g_ch [(0, .ref x0), (1, .int x1), (2, .int x2), (3, .int x3)] [.int x2, .int x1, .ref v1] (pc' := 6) rfl rfl rfl ?_
  obtain ⟨v4, e3, h⟩ := m_bd h
  refine g_call (v := some (.int v4)) (h := hp) (st' := [.int v4, .ref v1]) (D1 := 0) (as := [.int x1, .int x2]) (Or.inl rfl) q12_m319 (m_cs (as := [.int x2, .int x1]) (rest := [.ref v1]) q12_m319 jv2476 rfl rfl rfl rfl rfl) (by decide) (SF12_shipAt e3) rfl ?_
  refine g_ch [(0, .ref x0), (1, .int x1), (2, .int x2), (3, .int x3)] [.int x3, .int v4, .ref v1] (pc' := 10) rfl rfl rfl ?_
  obtain ⟨h5, e6, h⟩ := m_bd h
  refine g_is e6 ?_
  cases h
  rw [k0 _ hK]
  exact g_vret rfl
theorem OF12_puts {x0 : Nat} {x1 : Int32} {x2 : Int32} {x3 : Int32} {hp : m_H} {x : m_H} (h : F12_puts x0 x1 x2 x3 hp = some x) : m_isO hp 9 x0 = true := (m_gdd h).1
theorem SF12_puts {xs : Nat → Int32} {L : Nat} {x0 : Nat} {x1 : Int32} {x2 : Int32} {x3 : Int32} {hp : m_H} {x : m_H} (h : F12_puts x0 x1 x2 x3 hp = some x) : m_Rn xs L 1 2478 0 (lv_args 0 [.ref x0, .int x1, .int x2, .int x3]) [] hp (.inl none, x) :=
  r_lv (SF12_puts_0 x0 x1 x2 x3 hp (K := fun y => y = x) (fun y e => by rw [e]) (m_gdd h).2 rfl) rfl ⟨rfl, rfl, rfl, rfl, trivial⟩
-- F12_noShip: LendHouseModel.noShip(I)Z
theorem eF12_noShip_0 : m_Fe mi12_79 0 (m_ap [(.iload_n 1, 1), (.iconst 0, 1), (.aload_n 0, 1)] ((.getfield 14, 3) :: (m_ap [(.sipush 3209, 3)] ((.iaload, 1) :: (m_ap [(.iconst 1, 1), (.isub, 1)] ((.invokestatic 74, 3) :: ([(.ifCond .ne 7, 3)]))))))) := m_Fe_of nd2479 0 10 rfl
theorem eF12_noShip_22 : m_Fe mi12_79 22 (m_ap [(.iconst 0, 1)] ([])) := m_Fe_of nd2479 12 1 rfl
theorem eF12_noShip_23 : m_Fe mi12_79 23 ([(.ireturn, 1)]) := m_Fe_of nd2479 13 1 rfl
theorem eF12_noShip_18 : m_Fe mi12_79 18 (m_ap [(.iconst 1, 1)] ([(.goto 4, 3)])) := m_Fe_of nd2479 10 2 rfl
theorem SF12_noShip_0 {xs : Nat → Int32} {L : Nat} (x0 : Nat) (x1 : Int32) (hp : m_H) {r : m_O × m_H} {K : Int32 → Prop} (k0 : ∀ x, K x → r = (.inl (some (.int x)), hp)) {t : Int32} (h : F12_noShip_0 x0 x1 hp = some t) (hK : K t) : m_Rn xs L 1 2479 0 [(0, .ref x0), (1, .int x1)] [] hp r := by
  unfold F12_noShip_0 at h
  refine g_in eF12_noShip_0 mx2479 ?_
  refine g_ch [(0, .ref x0), (1, .int x1)] [.ref x0, .int 0, .int x1] (pc' := 3) rfl rfl rfl ?_
  obtain ⟨v1, e2, h⟩ := m_bd h
  refine g_gr q12_f14 e2 ?_
  refine g_ch [(0, .ref x0), (1, .int x1)] [.int 3209, .ref v1, .int 0, .int x1] (pc' := 9) rfl rfl rfl ?_
  obtain ⟨v3, e4, h⟩ := m_bd h
  refine g_ia e4 ?_
  refine g_ch [(0, .ref x0), (1, .int x1)] [.int (v3 - 1), .int 0, .int x1] (pc' := 12) rfl rfl rfl ?_
  obtain ⟨v6, e5, h⟩ := m_bd h
  refine g_call (v := some (.int v6)) (h := hp) (st' := [.int v6]) (D1 := 0) (as := [.int x1, .int 0, .int (v3 - 1)]) (Or.inl rfl) q12_m74 (m_cs (as := [.int (v3 - 1), .int 0, .int x1]) (rest := []) q12_m74 jv2402 rfl rfl rfl rfl rfl) (by decide) (SF12_in e5) rfl ?_
  rcases m_ifd h with ⟨c7, h⟩ | ⟨c7, h⟩
  · refine g_ifcn (t := 22) rfl (m_neF c7) ?_
    refine g_in eF12_noShip_18 mx2479 ?_
    refine g_ch [(0, .ref x0), (1, .int x1)] [.int 1] (pc' := 19) rfl rfl rfl ?_
    refine g_goto (t := 23) rfl ?_
    refine g_in eF12_noShip_23 mx2479 ?_
    cases h
    rw [k0 _ hK]
    exact g_iret rfl (by decide +kernel)
  · refine g_ifc (t := 22) rfl (m_neT c7) ?_
    refine g_in eF12_noShip_22 mx2479 ?_
    refine g_ch [(0, .ref x0), (1, .int x1)] [.int 0] (pc' := 23) rfl rfl rfl ?_
    refine g_end ?_
    refine g_in eF12_noShip_23 mx2479 ?_
    cases h
    rw [k0 _ hK]
    exact g_iret rfl (by decide +kernel)
theorem OF12_noShip {x0 : Nat} {x1 : Int32} {hp : m_H} {x : Int32} (h : F12_noShip x0 x1 hp = some x) : m_isO hp 9 x0 = true := (m_gdd h).1
theorem SF12_noShip {xs : Nat → Int32} {L : Nat} {x0 : Nat} {x1 : Int32} {hp : m_H} {x : Int32} (h : F12_noShip x0 x1 hp = some x) : m_Rn xs L 1 2479 0 (lv_args 0 [.ref x0, .int x1]) [] hp (.inl (some (.int x)), hp) :=
  r_lv (SF12_noShip_0 x0 x1 hp (K := fun y => y = x) (fun y e => by rw [e]) (m_gdd h).2 rfl) rfl ⟨rfl, rfl, trivial⟩
-- F12_ship: LendHouseModel.ship(II)I
theorem eF12_ship_0 : m_Fe mi12_80 0 (m_ap [(.aload_n 0, 1), (.iconst 0, 1)] ((.putfield 3, 3) :: (m_ap [(.aload_n 0, 1), (.iload_n 1, 1), (.iconst 1, 1), (.sipush 5000, 3)] ((.invokestatic 74, 3) :: ([(.ifCond .eq 13, 3)]))))) := m_Fe_of nd2480 0 9 rfl
theorem eF12_ship_17 : m_Fe mi12_80 17 (m_ap [(.iload_n 2, 1), (.iconst 0, 1), (.bipush 99, 2)] ((.invokestatic 74, 3) :: ([(.ifCond .ne 7, 3)]))) := m_Fe_of nd2480 9 5 rfl
theorem eF12_ship_31 : m_Fe mi12_80 31 (m_ap [(.iconst 0, 1)] ([])) := m_Fe_of nd2480 16 1 rfl
theorem eF12_ship_27 : m_Fe mi12_80 27 (m_ap [(.iconst 1, 1)] ([(.goto 4, 3)])) := m_Fe_of nd2480 14 2 rfl
theorem eF12_ship_32 : m_Fe mi12_80 32 (m_ap [(.iconst 1, 1)] ((.invokevirtual 82, 3) :: ([(.ifCond .ne 29, 3)]))) := m_Fe_of nd2480 17 3 rfl
theorem eF12_ship_65 : m_Fe mi12_80 65 (m_ap [(.iconst 0, 1)] ([(.ireturn, 1)])) := m_Fe_of nd2480 33 2 rfl
theorem eF12_ship_39 : m_Fe mi12_80 39 (m_ap [(.aload_n 0, 1), (.aload_n 0, 1)] ((.getfield 14, 3) :: (m_ap [(.sipush 3209, 3)] ((.iaload, 1) :: (m_ap [(.bipush 12, 2)] ([(.if_icmp .ne 7, 3)])))))) := m_Fe_of nd2480 20 7 rfl
theorem eF12_ship_57 : m_Fe mi12_80 57 (m_ap [(.iconst 0, 1)] ([])) := m_Fe_of nd2480 29 1 rfl
theorem eF12_ship_53 : m_Fe mi12_80 53 (m_ap [(.iconst 1, 1)] ([(.goto 4, 3)])) := m_Fe_of nd2480 27 2 rfl
theorem eF12_ship_58 : m_Fe mi12_80 58 (m_ap [(.iconst 2, 1)] ((.invokevirtual 82, 3) :: ([(.ifCond .eq 5, 3)]))) := m_Fe_of nd2480 30 3 rfl
theorem eF12_ship_67 : m_Fe mi12_80 67 (m_ap [(.aload_n 0, 1)] ((.getfield 14, 3) :: (m_ap [(.sipush 3209, 3)] ((.iaload, 1) :: (m_ap [(.istore_n 3, 1), (.aload_n 0, 1)] ((.getfield 14, 3) :: (m_ap [(.sipush 3209, 3), (.dup2, 1)] ((.iaload, 1) :: (m_ap [(.iconst 1, 1), (.iadd, 1)] ((.iastore, 1) :: (m_ap [(.aload_n 0, 1), (.iload_n 3, 1), (.iconst 0, 1), (.iload_n 1, 1)] ((.invokevirtual 322, 3) :: (m_ap [(.aload_n 0, 1), (.iload_n 3, 1), (.iconst 1, 1), (.iload_n 2, 1)] ((.invokevirtual 322, 3) :: (m_ap [(.aload_n 0, 1), (.iload_n 3, 1), (.iconst 5, 1), (.iconst (-1), 1)] ((.invokevirtual 322, 3) :: (m_ap [(.iload_n 3, 1)] ([(.ireturn, 1)])))))))))))))))))) := m_Fe_of nd2480 35 30 rfl
theorem SF12_ship_58 {xs : Nat → Int32} {L : Nat} (x0 : Nat) (x1 : Int32) (x2 : Int32) (s0 : Int32) (s1 : Nat) (hp : m_H) {r : m_O × m_H} {K : (Int32 × m_H) → Prop} (k0 : ∀ x, K x → r = (.inl (some (.int x.1)), x.2)) {t : Int32 × m_H} (h : F12_ship_58 x0 x1 x2 s0 s1 hp = some t) (hK : K t) : m_Rn xs L 2 2480 58 [(0, .ref x0), (1, .int x1), (2, .int x2)] [.int s0, .ref s1] hp r := by
  unfold F12_ship_58 at h
  refine g_in eF12_ship_58 mx2480 ?_
  refine g_ch [(0, .ref x0), (1, .int x1), (2, .int x2)] [.int 2, .int s0, .ref s1] (pc' := 59) rfl rfl rfl ?_
  obtain ⟨z2, e1, h⟩ := m_bd h
  refine g_call (v := some (.int z2.1)) (h := z2.2) (st' := [.int z2.1]) (D1 := 0) (as := [.ref s1, .int s0, .int 2]) (Or.inr (Or.inl rfl)) q12_m82 (m_cv (as := [.int 2, .int s0]) (rest := []) (Or.inl rfl) q12_m82 jv2401 (OF12_throwsIf e1) rfl rfl rfl rfl) (by decide) (SF12_throwsIf e1) rfl ?_
  rcases m_ifd h with ⟨c3, h⟩ | ⟨c3, h⟩
  · refine g_ifc (t := 67) rfl (m_eqT c3) ?_
    refine g_in eF12_ship_67 mx2480 ?_
    refine g_ch [(0, .ref x0), (1, .int x1), (2, .int x2)] [.ref x0] (pc' := 68) rfl rfl rfl ?_
    obtain ⟨v4, e5, h⟩ := m_bd h
    refine g_gr q12_f14 e5 ?_
    refine g_ch [(0, .ref x0), (1, .int x1), (2, .int x2)] [.int 3209, .ref v4] (pc' := 74) rfl rfl rfl ?_
    obtain ⟨v6, e7, h⟩ := m_bd h
    refine g_ia e7 ?_
    refine g_ch [(3, .int v6), (0, .ref x0), (1, .int x1), (2, .int x2)] [.ref x0] (pc' := 77) rfl rfl rfl ?_
    obtain ⟨v8, e9, h⟩ := m_bd h
    refine g_gr q12_f14 e9 ?_
    refine g_ch [(3, .int v6), (0, .ref x0), (1, .int x1), (2, .int x2)] [.int 3209, .ref v8, .int 3209, .ref v8] (pc' := 84) rfl rfl rfl ?_
    obtain ⟨v10, e11, h⟩ := m_bd h
    refine g_ia e11 ?_
    refine g_ch [(3, .int v6), (0, .ref x0), (1, .int x1), (2, .int x2)] [.int (v10 + 1), .int 3209, .ref v8] (pc' := 87) rfl rfl rfl ?_
    obtain ⟨h12, e13, h⟩ := m_bd h
    refine g_is e13 ?_
    refine g_ch [(3, .int v6), (0, .ref x0), (1, .int x1), (2, .int x2)] [.int x1, .int 0, .int v6, .ref x0] (pc' := 92) rfl rfl rfl ?_
    obtain ⟨h15, e14, h⟩ := m_bd h
    refine g_call (v := none) (h := h15) (st' := []) (D1 := 1) (as := [.ref x0, .int v6, .int 0, .int x1]) (Or.inr (Or.inl rfl)) q12_m322 (m_cv (as := [.int x1, .int 0, .int v6]) (rest := []) (Or.inl rfl) q12_m322 jv2478 (OF12_puts e14) rfl rfl rfl rfl) (by decide) (SF12_puts e14) rfl ?_
    refine g_ch [(3, .int v6), (0, .ref x0), (1, .int x1), (2, .int x2)] [.int x2, .int 1, .int v6, .ref x0] (pc' := 99) rfl rfl rfl ?_
    obtain ⟨h17, e16, h⟩ := m_bd h
    refine g_call (v := none) (h := h17) (st' := []) (D1 := 1) (as := [.ref x0, .int v6, .int 1, .int x2]) (Or.inr (Or.inl rfl)) q12_m322 (m_cv (as := [.int x2, .int 1, .int v6]) (rest := []) (Or.inl rfl) q12_m322 jv2478 (OF12_puts e16) rfl rfl rfl rfl) (by decide) (SF12_puts e16) rfl ?_
    refine g_ch [(3, .int v6), (0, .ref x0), (1, .int x1), (2, .int x2)] [.int (-1), .int 5, .int v6, .ref x0] (pc' := 106) rfl rfl rfl ?_
    obtain ⟨h19, e18, h⟩ := m_bd h
    refine g_call (v := none) (h := h19) (st' := []) (D1 := 1) (as := [.ref x0, .int v6, .int 5, .int (-1)]) (Or.inr (Or.inl rfl)) q12_m322 (m_cv (as := [.int (-1), .int 5, .int v6]) (rest := []) (Or.inl rfl) q12_m322 jv2478 (OF12_puts e18) rfl rfl rfl rfl) (by decide) (SF12_puts e18) rfl ?_
    refine g_ch [(3, .int v6), (0, .ref x0), (1, .int x1), (2, .int x2)] [.int v6] (pc' := 110) rfl rfl rfl ?_
    cases h
    rw [k0 _ hK]
    exact g_iret rfl rfl
  · refine g_ifcn (t := 67) rfl (m_eqF c3) ?_
    refine g_in eF12_ship_65 mx2480 ?_
    refine g_ch [(0, .ref x0), (1, .int x1), (2, .int x2)] [.int 0] (pc' := 66) rfl rfl rfl ?_
    cases h
    rw [k0 _ hK]
    exact g_iret rfl rfl
theorem SF12_ship_32 {xs : Nat → Int32} {L : Nat} (x0 : Nat) (x1 : Int32) (x2 : Int32) (s0 : Int32) (s1 : Nat) (hp : m_H) {r : m_O × m_H} {K : (Int32 × m_H) → Prop} (k0 : ∀ x, K x → r = (.inl (some (.int x.1)), x.2)) {t : Int32 × m_H} (h : F12_ship_32 x0 x1 x2 s0 s1 hp = some t) (hK : K t) : m_Rn xs L 2 2480 32 [(0, .ref x0), (1, .int x1), (2, .int x2)] [.int s0, .ref s1] hp r := by
  unfold F12_ship_32 at h
  refine g_in eF12_ship_32 mx2480 ?_
  refine g_ch [(0, .ref x0), (1, .int x1), (2, .int x2)] [.int 1, .int s0, .ref s1] (pc' := 33) rfl rfl rfl ?_
  obtain ⟨z2, e1, h⟩ := m_bd h
  refine g_call (v := some (.int z2.1)) (h := z2.2) (st' := [.int z2.1]) (D1 := 0) (as := [.ref s1, .int s0, .int 1]) (Or.inr (Or.inl rfl)) q12_m82 (m_cv (as := [.int 1, .int s0]) (rest := []) (Or.inl rfl) q12_m82 jv2401 (OF12_throwsIf e1) rfl rfl rfl rfl) (by decide) (SF12_throwsIf e1) rfl ?_
  rcases m_ifd h with ⟨c3, h⟩ | ⟨c3, h⟩
  · refine g_ifcn (t := 65) rfl (m_neF c3) ?_
    refine g_in eF12_ship_39 mx2480 ?_
    refine g_ch [(0, .ref x0), (1, .int x1), (2, .int x2)] [.ref x0, .ref x0] (pc' := 41) rfl rfl rfl ?_
    obtain ⟨v4, e5, h⟩ := m_bd h
    refine g_gr q12_f14 e5 ?_
    refine g_ch [(0, .ref x0), (1, .int x1), (2, .int x2)] [.int 3209, .ref v4, .ref x0] (pc' := 47) rfl rfl rfl ?_
    obtain ⟨v6, e7, h⟩ := m_bd h
    refine g_ia e7 ?_
    refine g_ch [(0, .ref x0), (1, .int x1), (2, .int x2)] [.int 12, .int v6, .ref x0] (pc' := 50) rfl rfl rfl ?_
    rcases m_ifd h with ⟨c8, h⟩ | ⟨c8, h⟩
    · refine g_ifn (t := 57) rfl (m_neF c8) ?_
      refine g_in eF12_ship_53 mx2480 ?_
      refine g_ch [(0, .ref x0), (1, .int x1), (2, .int x2)] [.int 1, .ref x0] (pc' := 54) rfl rfl rfl ?_
      refine g_goto (t := 58) rfl ?_
      exact r_lv (SF12_ship_58 x0 x1 x2 1 x0 z2.2 (K := K) k0 h hK) rfl ⟨rfl, rfl, rfl, trivial⟩
    · refine g_if (t := 57) rfl (m_neT c8) ?_
      refine g_in eF12_ship_57 mx2480 ?_
      refine g_ch [(0, .ref x0), (1, .int x1), (2, .int x2)] [.int 0, .ref x0] (pc' := 58) rfl rfl rfl ?_
      refine g_end ?_
      exact r_lv (SF12_ship_58 x0 x1 x2 0 x0 z2.2 (K := K) k0 h hK) rfl ⟨rfl, rfl, rfl, trivial⟩
  · refine g_ifc (t := 65) rfl (m_neT c3) ?_
    refine g_in eF12_ship_65 mx2480 ?_
    refine g_ch [(0, .ref x0), (1, .int x1), (2, .int x2)] [.int 0] (pc' := 66) rfl rfl rfl ?_
    cases h
    rw [k0 _ hK]
    exact g_iret rfl rfl
theorem SF12_ship_27 {xs : Nat → Int32} {L : Nat} (x0 : Nat) (x1 : Int32) (x2 : Int32) (s0 : Nat) (hp : m_H) {r : m_O × m_H} {K : (Int32 × m_H) → Prop} (k0 : ∀ x, K x → r = (.inl (some (.int x.1)), x.2)) {t : Int32 × m_H} (h : F12_ship_27 x0 x1 x2 s0 hp = some t) (hK : K t) : m_Rn xs L 2 2480 27 [(0, .ref x0), (1, .int x1), (2, .int x2)] [.ref s0] hp r := by
  unfold F12_ship_27 at h
  refine g_in eF12_ship_27 mx2480 ?_
  refine g_ch [(0, .ref x0), (1, .int x1), (2, .int x2)] [.int 1, .ref s0] (pc' := 28) rfl rfl rfl ?_
  refine g_goto (t := 32) rfl ?_
  exact r_lv (SF12_ship_32 x0 x1 x2 1 s0 hp (K := K) k0 h hK) rfl ⟨rfl, rfl, rfl, trivial⟩
theorem SF12_ship_0 {xs : Nat → Int32} {L : Nat} (x0 : Nat) (x1 : Int32) (x2 : Int32) (hp : m_H) {r : m_O × m_H} {K : (Int32 × m_H) → Prop} (k0 : ∀ x, K x → r = (.inl (some (.int x.1)), x.2)) {t : Int32 × m_H} (h : F12_ship_0 x0 x1 x2 hp = some t) (hK : K t) : m_Rn xs L 2 2480 0 [(0, .ref x0), (1, .int x1), (2, .int x2)] [] hp r := by
  unfold F12_ship_0 at h
  refine g_in eF12_ship_0 mx2480 ?_
  refine g_ch [(0, .ref x0), (1, .int x1), (2, .int x2)] [.int 0, .ref x0] (pc' := 2) rfl rfl rfl ?_
  obtain ⟨h1, e2, h⟩ := m_bd h
  refine g_pf q12_f3 e2 ?_
  refine g_ch [(0, .ref x0), (1, .int x1), (2, .int x2)] [.int 5000, .int 1, .int x1, .ref x0] (pc' := 11) rfl rfl rfl ?_
  obtain ⟨v4, e3, h⟩ := m_bd h
  refine g_call (v := some (.int v4)) (h := h1) (st' := [.int v4, .ref x0]) (D1 := 0) (as := [.int x1, .int 1, .int 5000]) (Or.inl rfl) q12_m74 (m_cs (as := [.int 5000, .int 1, .int x1]) (rest := [.ref x0]) q12_m74 jv2402 rfl rfl rfl rfl rfl) (by decide) (SF12_in e3) rfl ?_
  rcases m_ifd h with ⟨c5, h⟩ | ⟨c5, h⟩
  · refine g_ifc (t := 27) rfl (m_eqT c5) ?_
    exact r_lv (SF12_ship_27 x0 x1 x2 x0 h1 (K := K) k0 h hK) rfl ⟨rfl, rfl, rfl, trivial⟩
  · refine g_ifcn (t := 27) rfl (m_eqF c5) ?_
    refine g_in eF12_ship_17 mx2480 ?_
    refine g_ch [(0, .ref x0), (1, .int x1), (2, .int x2)] [.int 99, .int 0, .int x2, .ref x0] (pc' := 21) rfl rfl rfl ?_
    obtain ⟨v7, e6, h⟩ := m_bd h
    refine g_call (v := some (.int v7)) (h := h1) (st' := [.int v7, .ref x0]) (D1 := 0) (as := [.int x2, .int 0, .int 99]) (Or.inl rfl) q12_m74 (m_cs (as := [.int 99, .int 0, .int x2]) (rest := [.ref x0]) q12_m74 jv2402 rfl rfl rfl rfl rfl) (by decide) (SF12_in e6) rfl ?_
    rcases m_ifd h with ⟨c8, h⟩ | ⟨c8, h⟩
    · refine g_ifcn (t := 31) rfl (m_neF c8) ?_
      exact r_lv (SF12_ship_27 x0 x1 x2 x0 h1 (K := K) k0 h hK) rfl ⟨rfl, rfl, rfl, trivial⟩
    · refine g_ifc (t := 31) rfl (m_neT c8) ?_
      refine g_in eF12_ship_31 mx2480 ?_
      refine g_ch [(0, .ref x0), (1, .int x1), (2, .int x2)] [.int 0, .ref x0] (pc' := 32) rfl rfl rfl ?_
      refine g_end ?_
      exact r_lv (SF12_ship_32 x0 x1 x2 0 x0 h1 (K := K) k0 h hK) rfl ⟨rfl, rfl, rfl, trivial⟩
theorem OF12_ship {x0 : Nat} {x1 : Int32} {x2 : Int32} {hp : m_H} {x : Int32 × m_H} (h : F12_ship x0 x1 x2 hp = some x) : m_isO hp 9 x0 = true := (m_gdd h).1
theorem SF12_ship {xs : Nat → Int32} {L : Nat} {x0 : Nat} {x1 : Int32} {x2 : Int32} {hp : m_H} {x : Int32 × m_H} (h : F12_ship x0 x1 x2 hp = some x) : m_Rn xs L 2 2480 0 (lv_args 0 [.ref x0, .int x1, .int x2]) [] hp (.inl (some (.int x.1)), x.2) :=
  r_lv (SF12_ship_0 x0 x1 x2 hp (K := fun y => y = x) (fun y e => by rw [e]) (m_gdd h).2 rfl) rfl ⟨rfl, rfl, rfl, trivial⟩
-- F12_tonsIn: LendHouseModel.tonsIn(I)I
theorem eF12_tonsIn_0 : m_Fe mi12_81 0 (m_ap [(.iconst 0, 1), (.istore_n 2, 1), (.iconst 0, 1), (.istore_n 3, 1)] ([])) := m_Fe_of nd2481 0 4 rfl
theorem eF12_tonsIn_4 : m_Fe mi12_81 4 (m_ap [(.iload_n 3, 1), (.aload_n 0, 1), (.iload_n 1, 1), (.bipush 6, 2)] ((.invokevirtual 326, 3) :: ([(.if_icmp .ge 47, 3)]))) := m_Fe_of nd2481 4 6 rfl
theorem eF12_tonsIn_59 : m_Fe mi12_81 59 (m_ap [(.iload_n 2, 1)] ([(.ireturn, 1)])) := m_Fe_of nd2481 40 2 rfl
theorem eF12_tonsIn_15 : m_Fe mi12_81 15 (m_ap [(.iload_n 2, 1), (.aload_n 0, 1), (.iload_n 1, 1), (.bipush 7, 2), (.iconst 2, 1), (.iload_n 3, 1), (.imul, 1), (.iadd, 1)] (m_ap [(.iconst 1, 1), (.iadd, 1)] ((.invokevirtual 326, 3) :: (m_ap [(.aload_n 0, 1), (.aload_n 0, 1), (.aload_n 0, 1), (.iload_n 1, 1), (.bipush 7, 2), (.iconst 2, 1), (.iload_n 3, 1), (.imul, 1)] (m_ap [(.iadd, 1)] ((.invokevirtual 326, 3) :: (m_ap [(.iconst 0, 1)] ((.invokevirtual 115, 3) :: (m_ap [(.iconst 0, 1)] ((.invokevirtual 256, 3) :: (m_ap [(.imul, 1), (.iadd, 1), (.istore_n 2, 1), (.iinc 3 1, 3)] ([(.goto (-52), 3)])))))))))))) := m_Fe_of nd2481 10 30 rfl
theorem SF12_tonsIn_4b {xs : Nat → Int32} {L : Nat} (x0 : Nat) (x1 : Int32) (hp : m_H) (s : Int32 × Int32) {r : m_O × m_H} {K : ((Int32 × Int32) ⊕ Int32) → Prop} (k0 : ∀ x, K (.inr x) → r = (.inl (some (.int x)), hp)) (k1 : ∀ s, K (.inl s) → m_Rn xs L 2 2481 4 [(0, .ref x0), (1, .int x1), (2, .int s.1), (3, .int s.2)] [] hp r) {t : (Int32 × Int32) ⊕ Int32} (h : F12_tonsIn_4b x0 x1 hp s = some t) (hK : K t) : m_Rn xs L 2 2481 4 [(0, .ref x0), (1, .int x1), (2, .int s.1), (3, .int s.2)] [] hp r := by
  unfold F12_tonsIn_4b at h
  refine g_in eF12_tonsIn_4 mx2481 ?_
  refine g_ch [(0, .ref x0), (1, .int x1), (2, .int s.1), (3, .int s.2)] [.int 6, .int x1, .ref x0, .int s.2] (pc' := 9) rfl rfl rfl ?_
  obtain ⟨v2, e1, h⟩ := m_bd h
  refine g_call (v := some (.int v2)) (h := hp) (st' := [.int v2, .int s.2]) (D1 := 1) (as := [.ref x0, .int x1, .int 6]) (Or.inr (Or.inl rfl)) q12_m326 (m_cv (as := [.int 6, .int x1]) (rest := [.int s.2]) (Or.inl rfl) q12_m326 jv2477 (OF12_its e1) rfl rfl rfl rfl) (by decide) (SF12_its e1) rfl ?_
  rcases m_ifd h with ⟨c3, h⟩ | ⟨c3, h⟩
  · refine g_if (t := 59) rfl (m_geT c3) ?_
    refine g_in eF12_tonsIn_59 mx2481 ?_
    refine g_ch [(0, .ref x0), (1, .int x1), (2, .int s.1), (3, .int s.2)] [.int s.1] (pc' := 60) rfl rfl rfl ?_
    cases h
    rw [k0 _ hK]
    exact g_iret rfl rfl
  · refine g_ifn (t := 59) rfl (m_geF c3) ?_
    refine g_in eF12_tonsIn_15 mx2481 ?_
    refine g_ch [(0, .ref x0), (1, .int x1), (2, .int s.1), (3, .int s.2)] [.int (7 + (2 * s.2)), .int x1, .ref x0, .int s.1] (pc' := 24) rfl rfl rfl ?_
    refine g_ch [(0, .ref x0), (1, .int x1), (2, .int s.1), (3, .int s.2)] [.int ((7 + (2 * s.2)) + 1), .int x1, .ref x0, .int s.1] (pc' := 26) rfl rfl rfl ?_
    obtain ⟨v5, e4, h⟩ := m_bd h
    refine g_call (v := some (.int v5)) (h := hp) (st' := [.int v5, .int s.1]) (D1 := 1) (as := [.ref x0, .int x1, .int ((7 + (2 * s.2)) + 1)]) (Or.inr (Or.inl rfl)) q12_m326 (m_cv (as := [.int ((7 + (2 * s.2)) + 1), .int x1]) (rest := [.int s.1]) (Or.inl rfl) q12_m326 jv2477 (OF12_its e4) rfl rfl rfl rfl) (by decide) (SF12_its e4) rfl ?_
    refine g_ch [(0, .ref x0), (1, .int x1), (2, .int s.1), (3, .int s.2)] [.int (2 * s.2), .int 7, .int x1, .ref x0, .ref x0, .ref x0, .int v5, .int s.1] (pc' := 38) rfl rfl rfl ?_
    refine g_ch [(0, .ref x0), (1, .int x1), (2, .int s.1), (3, .int s.2)] [.int (7 + (2 * s.2)), .int x1, .ref x0, .ref x0, .ref x0, .int v5, .int s.1] (pc' := 39) rfl rfl rfl ?_
    obtain ⟨v7, e6, h⟩ := m_bd h
    refine g_call (v := some (.int v7)) (h := hp) (st' := [.int v7, .ref x0, .ref x0, .int v5, .int s.1]) (D1 := 1) (as := [.ref x0, .int x1, .int (7 + (2 * s.2))]) (Or.inr (Or.inl rfl)) q12_m326 (m_cv (as := [.int (7 + (2 * s.2)), .int x1]) (rest := [.ref x0, .ref x0, .int v5, .int s.1]) (Or.inl rfl) q12_m326 jv2477 (OF12_its e6) rfl rfl rfl rfl) (by decide) (SF12_its e6) rfl ?_
    refine g_ch [(0, .ref x0), (1, .int x1), (2, .int s.1), (3, .int s.2)] [.int 0, .int v7, .ref x0, .ref x0, .int v5, .int s.1] (pc' := 43) rfl rfl rfl ?_
    obtain ⟨v9, e8, h⟩ := m_bd h
    refine g_call (v := some (.int v9)) (h := hp) (st' := [.int v9, .ref x0, .int v5, .int s.1]) (D1 := 1) (as := [.ref x0, .int v7, .int 0]) (Or.inr (Or.inl rfl)) q12_m115 (m_cv (as := [.int 0, .int v7]) (rest := [.ref x0, .int v5, .int s.1]) (Or.inl rfl) q12_m115 jv2426 (OF12_of e8) rfl rfl rfl rfl) (by decide) (SF12_of e8) rfl ?_
    refine g_ch [(0, .ref x0), (1, .int x1), (2, .int s.1), (3, .int s.2)] [.int 0, .int v9, .ref x0, .int v5, .int s.1] (pc' := 47) rfl rfl rfl ?_
    obtain ⟨v11, e10, h⟩ := m_bd h
    refine g_call (v := some (.int v11)) (h := hp) (st' := [.int v11, .int v5, .int s.1]) (D1 := 0) (as := [.ref x0, .int v9, .int 0]) (Or.inr (Or.inl rfl)) q12_m256 (m_cv (as := [.int 0, .int v9]) (rest := [.int v5, .int s.1]) (Or.inl rfl) q12_m256 jv2412 (OF12_sortOf e10) rfl rfl rfl rfl) (by decide) (SF12_sortOf e10) rfl ?_
    refine g_ch [(3, .int (s.2 + 1)), (2, .int (s.1 + (v5 * v11))), (0, .ref x0), (1, .int x1)] [] (pc' := 56) rfl rfl rfl ?_
    refine g_goto (t := 4) rfl ?_
    cases h
    exact r_lv (k1 ((s.1 + (v5 * v11)), (s.2 + 1)) hK) rfl ⟨rfl, rfl, rfl, rfl, trivial⟩
theorem SF12_tonsIn_4 {xs : Nat → Int32} {L : Nat} (x0 : Nat) (x1 : Int32) (x2 : Int32) (x3 : Int32) (hp : m_H) {r : m_O × m_H} {K : Int32 → Prop} (k0 : ∀ x, K x → r = (.inl (some (.int x)), hp)) {t : Int32} (h : F12_tonsIn_4 x0 x1 x2 x3 hp = some t) (hK : K t) : m_Rn xs L 2 2481 4 [(0, .ref x0), (1, .int x1), (2, .int x2), (3, .int x3)] [] hp r :=
  m_wh_ok (P := fun s => m_Rn xs L 2 2481 4 [(0, .ref x0), (1, .int x1), (2, .int s.1), (3, .int s.2)] [] hp r) (Q := K) (fun s t hb hK => SF12_tonsIn_4b x0 x1 hp s (K := m_KK (fun s => m_Rn xs L 2 2481 4 [(0, .ref x0), (1, .int x1), (2, .int s.1), (3, .int s.2)] [] hp r) K) k0 (fun _ q => q) hb hK) m_N _ _ h hK
theorem SF12_tonsIn_0 {xs : Nat → Int32} {L : Nat} (x0 : Nat) (x1 : Int32) (hp : m_H) {r : m_O × m_H} {K : Int32 → Prop} (k0 : ∀ x, K x → r = (.inl (some (.int x)), hp)) {t : Int32} (h : F12_tonsIn_0 x0 x1 hp = some t) (hK : K t) : m_Rn xs L 2 2481 0 [(0, .ref x0), (1, .int x1)] [] hp r := by
  unfold F12_tonsIn_0 at h
  refine g_in eF12_tonsIn_0 mx2481 ?_
  refine g_ch [(3, .int 0), (2, .int 0), (0, .ref x0), (1, .int x1)] [] (pc' := 4) rfl rfl rfl ?_
  refine g_end ?_
  exact r_lv (SF12_tonsIn_4 x0 x1 0 0 hp (K := K) k0 h hK) rfl ⟨rfl, rfl, rfl, rfl, trivial⟩
theorem OF12_tonsIn {x0 : Nat} {x1 : Int32} {hp : m_H} {x : Int32} (h : F12_tonsIn x0 x1 hp = some x) : m_isO hp 9 x0 = true := (m_gdd h).1
theorem SF12_tonsIn {xs : Nat → Int32} {L : Nat} {x0 : Nat} {x1 : Int32} {hp : m_H} {x : Int32} (h : F12_tonsIn x0 x1 hp = some x) : m_Rn xs L 2 2481 0 (lv_args 0 [.ref x0, .int x1]) [] hp (.inl (some (.int x)), hp) :=
  r_lv (SF12_tonsIn_0 x0 x1 hp (K := fun y => y = x) (fun y e => by rw [e]) (m_gdd h).2 rfl) rfl ⟨rfl, rfl, trivial⟩
-- F12_cargoOf: LendHouseModel.cargoOf(II)I
theorem eF12_cargoOf_0 : m_Fe mi12_82 0 (m_ap [(.iconst 0, 1), (.istore_n 3, 1)] ([])) := m_Fe_of nd2482 0 2 rfl
theorem eF12_cargoOf_2 : m_Fe mi12_82 2 (m_ap [(.iload_n 3, 1), (.aload_n 0, 1), (.iload_n 1, 1), (.bipush 6, 2)] ((.invokevirtual 326, 3) :: ([(.if_icmp .ge 24, 3)]))) := m_Fe_of nd2482 2 6 rfl
theorem eF12_cargoOf_34 : m_Fe mi12_82 34 (m_ap [(.iload_n 3, 1)] ([(.ireturn, 1)])) := m_Fe_of nd2482 20 2 rfl
theorem eF12_cargoOf_13 : m_Fe mi12_82 13 (m_ap [(.aload_n 0, 1), (.iload_n 1, 1), (.bipush 7, 2), (.iconst 2, 1), (.iload_n 3, 1), (.imul, 1), (.iadd, 1)] ((.invokevirtual 326, 3) :: (m_ap [(.iload_n 2, 1)] ([(.if_icmp .eq 9, 3)])))) := m_Fe_of nd2482 8 10 rfl
theorem eF12_cargoOf_28 : m_Fe mi12_82 28 (m_ap [(.iinc 3 1, 3)] ([(.goto (-29), 3)])) := m_Fe_of nd2482 18 2 rfl
theorem SF12_cargoOf_2b {xs : Nat → Int32} {L : Nat} (x0 : Nat) (x1 : Int32) (x2 : Int32) (hp : m_H) (s : Int32) {r : m_O × m_H} {K : (Int32 ⊕ Int32) → Prop} (k0 : ∀ x, K (.inr x) → r = (.inl (some (.int x)), hp)) (k1 : ∀ s, K (.inl s) → m_Rn xs L 2 2482 2 [(0, .ref x0), (1, .int x1), (2, .int x2), (3, .int s)] [] hp r) {t : Int32 ⊕ Int32} (h : F12_cargoOf_2b x0 x1 x2 hp s = some t) (hK : K t) : m_Rn xs L 2 2482 2 [(0, .ref x0), (1, .int x1), (2, .int x2), (3, .int s)] [] hp r := by
  unfold F12_cargoOf_2b at h
  refine g_in eF12_cargoOf_2 mx2482 ?_
  refine g_ch [(0, .ref x0), (1, .int x1), (2, .int x2), (3, .int s)] [.int 6, .int x1, .ref x0, .int s] (pc' := 7) rfl rfl rfl ?_
  obtain ⟨v2, e1, h⟩ := m_bd h
  refine g_call (v := some (.int v2)) (h := hp) (st' := [.int v2, .int s]) (D1 := 1) (as := [.ref x0, .int x1, .int 6]) (Or.inr (Or.inl rfl)) q12_m326 (m_cv (as := [.int 6, .int x1]) (rest := [.int s]) (Or.inl rfl) q12_m326 jv2477 (OF12_its e1) rfl rfl rfl rfl) (by decide) (SF12_its e1) rfl ?_
  rcases m_ifd h with ⟨c3, h⟩ | ⟨c3, h⟩
  · refine g_if (t := 34) rfl (m_geT c3) ?_
    refine g_in eF12_cargoOf_34 mx2482 ?_
    refine g_ch [(0, .ref x0), (1, .int x1), (2, .int x2), (3, .int s)] [.int s] (pc' := 35) rfl rfl rfl ?_
    cases h
    rw [k0 _ hK]
    exact g_iret rfl rfl
  · refine g_ifn (t := 34) rfl (m_geF c3) ?_
    refine g_in eF12_cargoOf_13 mx2482 ?_
    refine g_ch [(0, .ref x0), (1, .int x1), (2, .int x2), (3, .int s)] [.int (7 + (2 * s)), .int x1, .ref x0] (pc' := 21) rfl rfl rfl ?_
    obtain ⟨v5, e4, h⟩ := m_bd h
    refine g_call (v := some (.int v5)) (h := hp) (st' := [.int v5]) (D1 := 1) (as := [.ref x0, .int x1, .int (7 + (2 * s))]) (Or.inr (Or.inl rfl)) q12_m326 (m_cv (as := [.int (7 + (2 * s)), .int x1]) (rest := []) (Or.inl rfl) q12_m326 jv2477 (OF12_its e4) rfl rfl rfl rfl) (by decide) (SF12_its e4) rfl ?_
    refine g_ch [(0, .ref x0), (1, .int x1), (2, .int x2), (3, .int s)] [.int x2, .int v5] (pc' := 25) rfl rfl rfl ?_
    rcases m_ifd h with ⟨c6, h⟩ | ⟨c6, h⟩
    · refine g_if (t := 34) rfl (m_eqT c6) ?_
      refine g_in eF12_cargoOf_34 mx2482 ?_
      refine g_ch [(0, .ref x0), (1, .int x1), (2, .int x2), (3, .int s)] [.int s] (pc' := 35) rfl rfl rfl ?_
      cases h
      rw [k0 _ hK]
      exact g_iret rfl rfl
    · refine g_ifn (t := 34) rfl (m_eqF c6) ?_
      refine g_in eF12_cargoOf_28 mx2482 ?_
      refine g_ch [(3, .int (s + 1)), (0, .ref x0), (1, .int x1), (2, .int x2)] [] (pc' := 31) rfl rfl rfl ?_
      refine g_goto (t := 2) rfl ?_
      cases h
      exact r_lv (k1 (s + 1) hK) rfl ⟨rfl, rfl, rfl, rfl, trivial⟩
theorem SF12_cargoOf_2 {xs : Nat → Int32} {L : Nat} (x0 : Nat) (x1 : Int32) (x2 : Int32) (x3 : Int32) (hp : m_H) {r : m_O × m_H} {K : Int32 → Prop} (k0 : ∀ x, K x → r = (.inl (some (.int x)), hp)) {t : Int32} (h : F12_cargoOf_2 x0 x1 x2 x3 hp = some t) (hK : K t) : m_Rn xs L 2 2482 2 [(0, .ref x0), (1, .int x1), (2, .int x2), (3, .int x3)] [] hp r :=
  m_wh_ok (P := fun s => m_Rn xs L 2 2482 2 [(0, .ref x0), (1, .int x1), (2, .int x2), (3, .int s)] [] hp r) (Q := K) (fun s t hb hK => SF12_cargoOf_2b x0 x1 x2 hp s (K := m_KK (fun s => m_Rn xs L 2 2482 2 [(0, .ref x0), (1, .int x1), (2, .int x2), (3, .int s)] [] hp r) K) k0 (fun _ q => q) hb hK) m_N _ _ h hK
theorem SF12_cargoOf_0 {xs : Nat → Int32} {L : Nat} (x0 : Nat) (x1 : Int32) (x2 : Int32) (hp : m_H) {r : m_O × m_H} {K : Int32 → Prop} (k0 : ∀ x, K x → r = (.inl (some (.int x)), hp)) {t : Int32} (h : F12_cargoOf_0 x0 x1 x2 hp = some t) (hK : K t) : m_Rn xs L 2 2482 0 [(0, .ref x0), (1, .int x1), (2, .int x2)] [] hp r := by
  unfold F12_cargoOf_0 at h
  refine g_in eF12_cargoOf_0 mx2482 ?_
  refine g_ch [(3, .int 0), (0, .ref x0), (1, .int x1), (2, .int x2)] [] (pc' := 2) rfl rfl rfl ?_
  refine g_end ?_
  exact r_lv (SF12_cargoOf_2 x0 x1 x2 0 hp (K := K) k0 h hK) rfl ⟨rfl, rfl, rfl, rfl, trivial⟩
theorem OF12_cargoOf {x0 : Nat} {x1 : Int32} {x2 : Int32} {hp : m_H} {x : Int32} (h : F12_cargoOf x0 x1 x2 hp = some x) : m_isO hp 9 x0 = true := (m_gdd h).1
theorem SF12_cargoOf {xs : Nat → Int32} {L : Nat} {x0 : Nat} {x1 : Int32} {x2 : Int32} {hp : m_H} {x : Int32} (h : F12_cargoOf x0 x1 x2 hp = some x) : m_Rn xs L 2 2482 0 (lv_args 0 [.ref x0, .int x1, .int x2]) [] hp (.inl (some (.int x)), hp) :=
  r_lv (SF12_cargoOf_0 x0 x1 x2 hp (K := fun y => y = x) (fun y e => by rw [e]) (m_gdd h).2 rfl) rfl ⟨rfl, rfl, rfl, trivial⟩
-- F12_load: LendHouseModel.load(III)Z
theorem eF12_load_0 : m_Fe mi12_83 0 (m_ap [(.aload_n 0, 1), (.iconst 0, 1)] ((.putfield 3, 3) :: (m_ap [(.aload_n 0, 1), (.aload_n 0, 1), (.iload_n 1, 1)] ((.invokevirtual 329, 3) :: ([(.ifCond .ne 11, 3)]))))) := m_Fe_of nd2483 0 8 rfl
theorem eF12_load_14 : m_Fe mi12_83 14 (m_ap [(.aload_n 0, 1), (.iload_n 2, 1)] ((.invokevirtual 125, 3) :: ([(.ifCond .eq 7, 3)]))) := m_Fe_of nd2483 8 4 rfl
theorem eF12_load_26 : m_Fe mi12_83 26 (m_ap [(.iconst 0, 1)] ([])) := m_Fe_of nd2483 14 1 rfl
theorem eF12_load_22 : m_Fe mi12_83 22 (m_ap [(.iconst 1, 1)] ([(.goto 4, 3)])) := m_Fe_of nd2483 12 2 rfl
theorem eF12_load_27 : m_Fe mi12_83 27 (m_ap [(.iconst 1, 1)] ((.invokevirtual 82, 3) :: ([(.ifCond .ne 20, 3)]))) := m_Fe_of nd2483 15 3 rfl
theorem eF12_load_51 : m_Fe mi12_83 51 (m_ap [(.iconst 0, 1)] ([(.ireturn, 1)])) := m_Fe_of nd2483 27 2 rfl
theorem eF12_load_34 : m_Fe mi12_83 34 (m_ap [(.aload_n 0, 1), (.aload_n 0, 1)] ((.invokevirtual 118, 3) :: (m_ap [(.iconst 2, 1)] ((.invokevirtual 82, 3) :: ([(.ifCond .ne 8, 3)]))))) := m_Fe_of nd2483 18 6 rfl
theorem eF12_load_46 : m_Fe mi12_83 46 (m_ap [(.iload_n 3, 1), (.iconst 1, 1)] ([(.if_icmp .ge 5, 3)])) := m_Fe_of nd2483 24 3 rfl
theorem eF12_load_53 : m_Fe mi12_83 53 (m_ap [(.aload_n 0, 1), (.iload_n 1, 1), (.iconst 2, 1)] ((.invokevirtual 326, 3) :: ([(.ifCond .ne 7, 3)]))) := m_Fe_of nd2483 29 5 rfl
theorem eF12_load_66 : m_Fe mi12_83 66 (m_ap [(.iconst 0, 1)] ([])) := m_Fe_of nd2483 36 1 rfl
theorem eF12_load_62 : m_Fe mi12_83 62 (m_ap [(.iconst 1, 1)] ([(.goto 4, 3)])) := m_Fe_of nd2483 34 2 rfl
theorem eF12_load_67 : m_Fe mi12_83 67 (m_ap [(.istore 4, 2), (.iload 4, 2)] ([(.ifCond .ne 13, 3)])) := m_Fe_of nd2483 37 3 rfl
theorem eF12_load_74 : m_Fe mi12_83 74 (m_ap [(.aload_n 0, 1), (.iload_n 1, 1), (.iconst 2, 1)] ((.invokevirtual 326, 3) :: (m_ap [(.iconst 2, 1)] ([(.if_icmp .ne 31, 3)])))) := m_Fe_of nd2483 40 6 rfl
theorem eF12_load_112 : m_Fe mi12_83 112 (m_ap [(.iconst 0, 1)] ([(.ireturn, 1)])) := m_Fe_of nd2483 61 2 rfl
theorem eF12_load_84 : m_Fe mi12_83 84 (m_ap [(.aload_n 0, 1), (.iload_n 2, 1)] ((.invokevirtual 128, 3) :: ([(.ifCond .ne 23, 3)]))) := m_Fe_of nd2483 46 4 rfl
theorem eF12_load_92 : m_Fe mi12_83 92 (m_ap [(.iload 4, 2), (.aload_n 0, 1), (.iload_n 2, 1), (.iconst 3, 1)] ((.invokevirtual 115, 3) :: (m_ap [(.iconst 1, 1)] ([(.if_icmp .ne 7, 3)])))) := m_Fe_of nd2483 50 7 rfl
theorem eF12_load_108 : m_Fe mi12_83 108 (m_ap [(.iconst 0, 1)] ([])) := m_Fe_of nd2483 59 1 rfl
theorem eF12_load_104 : m_Fe mi12_83 104 (m_ap [(.iconst 1, 1)] ([(.goto 4, 3)])) := m_Fe_of nd2483 57 2 rfl
theorem eF12_load_109 : m_Fe mi12_83 109 ([(.if_icmp .ne 5, 3)]) := m_Fe_of nd2483 60 1 rfl
theorem eF12_load_114 : m_Fe mi12_83 114 (m_ap [(.iload 4, 2)] ([(.ifCond .eq 7, 3)])) := m_Fe_of nd2483 63 2 rfl
theorem eF12_load_123 : m_Fe mi12_83 123 (m_ap [(.iconst 3, 1)] ([])) := m_Fe_of nd2483 67 1 rfl
theorem eF12_load_119 : m_Fe mi12_83 119 (m_ap [(.iconst 1, 1)] ([(.goto 4, 3)])) := m_Fe_of nd2483 65 2 rfl
theorem eF12_load_124 : m_Fe mi12_83 124 (m_ap [(.istore 5, 2), (.aload_n 0, 1), (.iload_n 2, 1), (.bipush 10, 2), (.iload 5, 2), (.iadd, 1)] ((.invokevirtual 115, 3) :: (m_ap [(.iload_n 3, 1)] ([(.if_icmp .lt 23, 3)])))) := m_Fe_of nd2483 68 9 rfl
theorem eF12_load_160 : m_Fe mi12_83 160 (m_ap [(.iconst 0, 1)] ([(.ireturn, 1)])) := m_Fe_of nd2483 88 2 rfl
theorem eF12_load_140 : m_Fe mi12_83 140 (m_ap [(.iload 4, 2)] ([(.ifCond .ne 20, 3)])) := m_Fe_of nd2483 77 2 rfl
theorem eF12_load_145 : m_Fe mi12_83 145 (m_ap [(.aload_n 0, 1), (.iload_n 2, 1), (.iconst 2, 1)] ((.invokevirtual 115, 3) :: (m_ap [(.aload_n 0, 1), (.iload_n 1, 1), (.iconst 3, 1)] ((.invokevirtual 326, 3) :: ([(.if_icmp .eq 5, 3)]))))) := m_Fe_of nd2483 79 9 rfl
theorem eF12_load_162 : m_Fe mi12_83 162 (m_ap [(.iload 4, 2)] ([(.ifCond .eq 36, 3)])) := m_Fe_of nd2483 90 2 rfl
theorem eF12_load_167 : m_Fe mi12_83 167 (m_ap [(.aload_n 0, 1), (.iload_n 1, 1), (.bipush 6, 2)] ((.invokevirtual 326, 3) :: ([(.ifCond .le 26, 3)]))) := m_Fe_of nd2483 92 5 rfl
theorem eF12_load_177 : m_Fe mi12_83 177 (m_ap [(.aload_n 0, 1), (.aload_n 0, 1), (.iload_n 1, 1), (.bipush 7, 2)] ((.invokevirtual 326, 3) :: (m_ap [(.iconst 2, 1)] ((.invokevirtual 115, 3) :: (m_ap [(.aload_n 0, 1), (.iload_n 2, 1), (.iconst 2, 1)] ((.invokevirtual 115, 3) :: ([(.if_icmp .eq 5, 3)]))))))) := m_Fe_of nd2483 97 12 rfl
theorem eF12_load_198 : m_Fe mi12_83 198 (m_ap [(.iconst 0, 1)] ([(.ireturn, 1)])) := m_Fe_of nd2483 109 2 rfl
theorem eF12_load_200 : m_Fe mi12_83 200 (m_ap [(.aload_n 0, 1), (.iload_n 1, 1), (.iload_n 2, 1)] ((.invokevirtual 332, 3) :: (m_ap [(.istore 6, 2), (.iload 6, 2), (.bipush 8, 2)] ([(.if_icmp .eq 31, 3)])))) := m_Fe_of nd2483 111 8 rfl
theorem eF12_load_243 : m_Fe mi12_83 243 (m_ap [(.iconst 0, 1)] ([(.ireturn, 1)])) := m_Fe_of nd2483 137 2 rfl
theorem eF12_load_215 : m_Fe mi12_83 215 (m_ap [(.aload_n 0, 1), (.iload_n 1, 1)] ((.invokevirtual 335, 3) :: (m_ap [(.iload_n 3, 1), (.aload_n 0, 1), (.aload_n 0, 1), (.iload_n 2, 1), (.iconst 0, 1)] ((.invokevirtual 115, 3) :: (m_ap [(.iconst 0, 1)] ((.invokevirtual 256, 3) :: (m_ap [(.imul, 1), (.iadd, 1), (.aload_n 0, 1), (.iload_n 1, 1), (.iconst 0, 1)] ((.invokevirtual 326, 3) :: ([(.if_icmp .le 5, 3)]))))))))) := m_Fe_of nd2483 119 18 rfl
theorem eF12_load_245 : m_Fe mi12_83 245 (m_ap [(.aload_n 0, 1)] ((.invokevirtual 313, 3) :: (m_ap [(.iload 6, 2), (.aload_n 0, 1), (.iload_n 1, 1), (.bipush 6, 2)] ((.invokevirtual 326, 3) :: ([(.if_icmp .ne 42, 3)]))))) := m_Fe_of nd2483 139 8 rfl
theorem eF12_load_261 : m_Fe mi12_83 261 (m_ap [(.aload_n 0, 1), (.iload_n 1, 1), (.bipush 7, 2), (.iconst 2, 1), (.iload 6, 2), (.imul, 1), (.iadd, 1), (.iload_n 2, 1)] ((.invokevirtual 322, 3) :: (m_ap [(.aload_n 0, 1), (.iload_n 1, 1), (.bipush 7, 2), (.iconst 2, 1), (.iload 6, 2), (.imul, 1), (.iadd, 1), (.iconst 1, 1)] (m_ap [(.iadd, 1), (.iconst 0, 1)] ((.invokevirtual 322, 3) :: (m_ap [(.aload_n 0, 1), (.iload_n 1, 1), (.bipush 6, 2), (.iload 6, 2), (.iconst 1, 1), (.iadd, 1)] ([(.invokevirtual 322, 3)]))))))) := m_Fe_of nd2483 147 27 rfl
theorem eF12_load_300 : m_Fe mi12_83 300 (m_ap [(.aload_n 0, 1), (.iload_n 1, 1), (.bipush 7, 2), (.iconst 2, 1), (.iload 6, 2), (.imul, 1), (.iadd, 1), (.iconst 1, 1)] (m_ap [(.iadd, 1), (.aload_n 0, 1), (.iload_n 1, 1), (.bipush 7, 2), (.iconst 2, 1), (.iload 6, 2), (.imul, 1), (.iadd, 1)] (m_ap [(.iconst 1, 1), (.iadd, 1)] ((.invokevirtual 326, 3) :: (m_ap [(.iload_n 3, 1), (.iadd, 1)] ((.invokevirtual 322, 3) :: (m_ap [(.aload_n 0, 1), (.iload_n 2, 1), (.iload 5, 2), (.iconst 2, 1), (.iload_n 3, 1)] ((.invokevirtual 338, 3) :: (m_ap [(.iconst 1, 1)] ([(.ireturn, 1)])))))))))) := m_Fe_of nd2483 174 30 rfl
theorem SF12_load_300 {xs : Nat → Int32} {L : Nat} (x0 : Nat) (x1 : Int32) (x2 : Int32) (x3 : Int32) (x5 : Int32) (x6 : Int32) (hp : m_H) {r : m_O × m_H} {K : (Int32 × m_H) → Prop} (k0 : ∀ x, K x → r = (.inl (some (.int x.1)), x.2)) {t : Int32 × m_H} (h : F12_load_300 x0 x1 x2 x3 x5 x6 hp = some t) (hK : K t) : m_Rn xs L 3 2483 300 [(0, .ref x0), (1, .int x1), (2, .int x2), (3, .int x3), (5, .int x5), (6, .int x6)] [] hp r := by
  unfold F12_load_300 at h
  refine g_in eF12_load_300 mx2483 ?_
  refine g_ch [(0, .ref x0), (1, .int x1), (2, .int x2), (3, .int x3), (5, .int x5), (6, .int x6)] [.int 1, .int (7 + (2 * x6)), .int x1, .ref x0] (pc' := 310) rfl rfl rfl ?_
  refine g_ch [(0, .ref x0), (1, .int x1), (2, .int x2), (3, .int x3), (5, .int x5), (6, .int x6)] [.int (7 + (2 * x6)), .int x1, .ref x0, .int ((7 + (2 * x6)) + 1), .int x1, .ref x0] (pc' := 320) rfl rfl rfl ?_
  refine g_ch [(0, .ref x0), (1, .int x1), (2, .int x2), (3, .int x3), (5, .int x5), (6, .int x6)] [.int ((7 + (2 * x6)) + 1), .int x1, .ref x0, .int ((7 + (2 * x6)) + 1), .int x1, .ref x0] (pc' := 322) rfl rfl rfl ?_
  obtain ⟨v2, e1, h⟩ := m_bd h
  refine g_call (v := some (.int v2)) (h := hp) (st' := [.int v2, .int ((7 + (2 * x6)) + 1), .int x1, .ref x0]) (D1 := 1) (as := [.ref x0, .int x1, .int ((7 + (2 * x6)) + 1)]) (Or.inr (Or.inl rfl)) q12_m326 (m_cv (as := [.int ((7 + (2 * x6)) + 1), .int x1]) (rest := [.int ((7 + (2 * x6)) + 1), .int x1, .ref x0]) (Or.inl rfl) q12_m326 jv2477 (OF12_its e1) rfl rfl rfl rfl) (by decide) (SF12_its e1) rfl ?_
  refine g_ch [(0, .ref x0), (1, .int x1), (2, .int x2), (3, .int x3), (5, .int x5), (6, .int x6)] [.int (v2 + x3), .int ((7 + (2 * x6)) + 1), .int x1, .ref x0] (pc' := 327) rfl rfl rfl ?_
  obtain ⟨h4, e3, h⟩ := m_bd h
  refine g_call (v := none) (h := h4) (st' := []) (D1 := 1) (as := [.ref x0, .int x1, .int ((7 + (2 * x6)) + 1), .int (v2 + x3)]) (Or.inr (Or.inl rfl)) q12_m322 (m_cv (as := [.int (v2 + x3), .int ((7 + (2 * x6)) + 1), .int x1]) (rest := []) (Or.inl rfl) q12_m322 jv2478 (OF12_puts e3) rfl rfl rfl rfl) (by decide) (SF12_puts e3) rfl ?_
  refine g_ch [(0, .ref x0), (1, .int x1), (2, .int x2), (3, .int x3), (5, .int x5), (6, .int x6)] [.int x3, .int 2, .int x5, .int x2, .ref x0] (pc' := 336) rfl rfl rfl ?_
  obtain ⟨h6, e5, h⟩ := m_bd h
  refine g_call (v := none) (h := h6) (st' := []) (D1 := 1) (as := [.ref x0, .int x2, .int x5, .int 2, .int x3]) (Or.inr (Or.inl rfl)) q12_m338 (m_cv (as := [.int x3, .int 2, .int x5, .int x2]) (rest := []) (Or.inl rfl) q12_m338 jv2429 (OF12_moves e5) rfl rfl rfl rfl) (by decide) (SF12_moves e5) rfl ?_
  refine g_ch [(0, .ref x0), (1, .int x1), (2, .int x2), (3, .int x3), (5, .int x5), (6, .int x6)] [.int 1] (pc' := 340) rfl rfl rfl ?_
  cases h
  rw [k0 _ hK]
  exact g_iret rfl (by decide +kernel)
theorem SF12_load_200 {xs : Nat → Int32} {L : Nat} (x0 : Nat) (x1 : Int32) (x2 : Int32) (x3 : Int32) (x5 : Int32) (hp : m_H) {r : m_O × m_H} {K : (Int32 × m_H) → Prop} (k0 : ∀ x, K x → r = (.inl (some (.int x.1)), x.2)) {t : Int32 × m_H} (h : F12_load_200 x0 x1 x2 x3 x5 hp = some t) (hK : K t) : m_Rn xs L 3 2483 200 [(0, .ref x0), (1, .int x1), (2, .int x2), (3, .int x3), (5, .int x5)] [] hp r := by
  unfold F12_load_200 at h
  refine g_in eF12_load_200 mx2483 ?_
  refine g_ch [(0, .ref x0), (1, .int x1), (2, .int x2), (3, .int x3), (5, .int x5)] [.int x2, .int x1, .ref x0] (pc' := 203) rfl rfl rfl ?_
  obtain ⟨v2, e1, h⟩ := m_bd h
  refine g_call (v := some (.int v2)) (h := hp) (st' := [.int v2]) (D1 := 2) (as := [.ref x0, .int x1, .int x2]) (Or.inr (Or.inl rfl)) q12_m332 (m_cv (as := [.int x2, .int x1]) (rest := []) (Or.inl rfl) q12_m332 jv2482 (OF12_cargoOf e1) rfl rfl rfl rfl) (by decide) (SF12_cargoOf e1) rfl ?_
  refine g_ch [(6, .int v2), (0, .ref x0), (1, .int x1), (2, .int x2), (3, .int x3), (5, .int x5)] [.int 8, .int v2] (pc' := 212) rfl rfl rfl ?_
  rcases m_ifd h with ⟨c3, h⟩ | ⟨c3, h⟩
  · refine g_if (t := 243) rfl (m_eqT c3) ?_
    refine g_in eF12_load_243 mx2483 ?_
    refine g_ch [(6, .int v2), (0, .ref x0), (1, .int x1), (2, .int x2), (3, .int x3), (5, .int x5)] [.int 0] (pc' := 244) rfl rfl rfl ?_
    cases h
    rw [k0 _ hK]
    exact g_iret rfl (by decide +kernel)
  · refine g_ifn (t := 243) rfl (m_eqF c3) ?_
    refine g_in eF12_load_215 mx2483 ?_
    refine g_ch [(6, .int v2), (0, .ref x0), (1, .int x1), (2, .int x2), (3, .int x3), (5, .int x5)] [.int x1, .ref x0] (pc' := 217) rfl rfl rfl ?_
    obtain ⟨v5, e4, h⟩ := m_bd h
    refine g_call (v := some (.int v5)) (h := hp) (st' := [.int v5]) (D1 := 2) (as := [.ref x0, .int x1]) (Or.inr (Or.inl rfl)) q12_m335 (m_cv (as := [.int x1]) (rest := []) (Or.inl rfl) q12_m335 jv2481 (OF12_tonsIn e4) rfl rfl rfl rfl) (by decide) (SF12_tonsIn e4) rfl ?_
    refine g_ch [(6, .int v2), (0, .ref x0), (1, .int x1), (2, .int x2), (3, .int x3), (5, .int x5)] [.int 0, .int x2, .ref x0, .ref x0, .int x3, .int v5] (pc' := 225) rfl rfl rfl ?_
    obtain ⟨v7, e6, h⟩ := m_bd h
    refine g_call (v := some (.int v7)) (h := hp) (st' := [.int v7, .ref x0, .int x3, .int v5]) (D1 := 1) (as := [.ref x0, .int x2, .int 0]) (Or.inr (Or.inl rfl)) q12_m115 (m_cv (as := [.int 0, .int x2]) (rest := [.ref x0, .int x3, .int v5]) (Or.inl rfl) q12_m115 jv2426 (OF12_of e6) rfl rfl rfl rfl) (by decide) (SF12_of e6) rfl ?_
    refine g_ch [(6, .int v2), (0, .ref x0), (1, .int x1), (2, .int x2), (3, .int x3), (5, .int x5)] [.int 0, .int v7, .ref x0, .int x3, .int v5] (pc' := 229) rfl rfl rfl ?_
    obtain ⟨v9, e8, h⟩ := m_bd h
    refine g_call (v := some (.int v9)) (h := hp) (st' := [.int v9, .int x3, .int v5]) (D1 := 0) (as := [.ref x0, .int v7, .int 0]) (Or.inr (Or.inl rfl)) q12_m256 (m_cv (as := [.int 0, .int v7]) (rest := [.int x3, .int v5]) (Or.inl rfl) q12_m256 jv2412 (OF12_sortOf e8) rfl rfl rfl rfl) (by decide) (SF12_sortOf e8) rfl ?_
    refine g_ch [(6, .int v2), (0, .ref x0), (1, .int x1), (2, .int x2), (3, .int x3), (5, .int x5)] [.int 0, .int x1, .ref x0, .int (v5 + (x3 * v9))] (pc' := 237) rfl rfl rfl ?_
    obtain ⟨v11, e10, h⟩ := m_bd h
    refine g_call (v := some (.int v11)) (h := hp) (st' := [.int v11, .int (v5 + (x3 * v9))]) (D1 := 1) (as := [.ref x0, .int x1, .int 0]) (Or.inr (Or.inl rfl)) q12_m326 (m_cv (as := [.int 0, .int x1]) (rest := [.int (v5 + (x3 * v9))]) (Or.inl rfl) q12_m326 jv2477 (OF12_its e10) rfl rfl rfl rfl) (by decide) (SF12_its e10) rfl ?_
    rcases m_ifd h with ⟨c12, h⟩ | ⟨c12, h⟩
    · refine g_if (t := 245) rfl (m_leT c12) ?_
      refine g_in eF12_load_245 mx2483 ?_
      refine g_ch [(6, .int v2), (0, .ref x0), (1, .int x1), (2, .int x2), (3, .int x3), (5, .int x5)] [.ref x0] (pc' := 246) rfl rfl rfl ?_
      obtain ⟨h14, e13, h⟩ := m_bd h
      refine g_call (v := none) (h := h14) (st' := []) (D1 := 0) (as := [.ref x0]) (Or.inr (Or.inl rfl)) q12_m313 (m_cv (as := []) (rest := []) (Or.inl rfl) q12_m313 jv2406 (OF12_deed e13) rfl rfl rfl rfl) (by decide) (SF12_deed e13) rfl ?_
      refine g_ch [(6, .int v2), (0, .ref x0), (1, .int x1), (2, .int x2), (3, .int x3), (5, .int x5)] [.int 6, .int x1, .ref x0, .int v2] (pc' := 255) rfl rfl rfl ?_
      obtain ⟨v16, e15, h⟩ := m_bd h
      refine g_call (v := some (.int v16)) (h := h14) (st' := [.int v16, .int v2]) (D1 := 1) (as := [.ref x0, .int x1, .int 6]) (Or.inr (Or.inl rfl)) q12_m326 (m_cv (as := [.int 6, .int x1]) (rest := [.int v2]) (Or.inl rfl) q12_m326 jv2477 (OF12_its e15) rfl rfl rfl rfl) (by decide) (SF12_its e15) rfl ?_
      rcases m_ifd h with ⟨c17, h⟩ | ⟨c17, h⟩
      · refine g_ifn (t := 300) rfl (m_neF c17) ?_
        refine g_in eF12_load_261 mx2483 ?_
        refine g_ch [(6, .int v2), (0, .ref x0), (1, .int x1), (2, .int x2), (3, .int x3), (5, .int x5)] [.int x2, .int (7 + (2 * v2)), .int x1, .ref x0] (pc' := 271) rfl rfl rfl ?_
        obtain ⟨h19, e18, h⟩ := m_bd h
        refine g_call (v := none) (h := h19) (st' := []) (D1 := 1) (as := [.ref x0, .int x1, .int (7 + (2 * v2)), .int x2]) (Or.inr (Or.inl rfl)) q12_m322 (m_cv (as := [.int x2, .int (7 + (2 * v2)), .int x1]) (rest := []) (Or.inl rfl) q12_m322 jv2478 (OF12_puts e18) rfl rfl rfl rfl) (by decide) (SF12_puts e18) rfl ?_
        refine g_ch [(6, .int v2), (0, .ref x0), (1, .int x1), (2, .int x2), (3, .int x3), (5, .int x5)] [.int 1, .int (7 + (2 * v2)), .int x1, .ref x0] (pc' := 284) rfl rfl rfl ?_
        refine g_ch [(6, .int v2), (0, .ref x0), (1, .int x1), (2, .int x2), (3, .int x3), (5, .int x5)] [.int 0, .int ((7 + (2 * v2)) + 1), .int x1, .ref x0] (pc' := 286) rfl rfl rfl ?_
        obtain ⟨h21, e20, h⟩ := m_bd h
        refine g_call (v := none) (h := h21) (st' := []) (D1 := 1) (as := [.ref x0, .int x1, .int ((7 + (2 * v2)) + 1), .int 0]) (Or.inr (Or.inl rfl)) q12_m322 (m_cv (as := [.int 0, .int ((7 + (2 * v2)) + 1), .int x1]) (rest := []) (Or.inl rfl) q12_m322 jv2478 (OF12_puts e20) rfl rfl rfl rfl) (by decide) (SF12_puts e20) rfl ?_
        refine g_ch [(6, .int v2), (0, .ref x0), (1, .int x1), (2, .int x2), (3, .int x3), (5, .int x5)] [.int (v2 + 1), .int 6, .int x1, .ref x0] (pc' := 297) rfl rfl rfl ?_
        obtain ⟨h23, e22, h⟩ := m_bd h
        refine g_call (v := none) (h := h23) (st' := []) (D1 := 1) (as := [.ref x0, .int x1, .int 6, .int (v2 + 1)]) (Or.inr (Or.inl rfl)) q12_m322 (m_cv (as := [.int (v2 + 1), .int 6, .int x1]) (rest := []) (Or.inl rfl) q12_m322 jv2478 (OF12_puts e22) rfl rfl rfl rfl) (by decide) (SF12_puts e22) rfl ?_
        refine g_end ?_
        exact r_lv (SF12_load_300 x0 x1 x2 x3 x5 v2 h23 (K := K) k0 h hK) rfl ⟨rfl, rfl, rfl, rfl, rfl, rfl, trivial⟩
      · refine g_if (t := 300) rfl (m_neT c17) ?_
        exact r_lv (SF12_load_300 x0 x1 x2 x3 x5 v2 h14 (K := K) k0 h hK) rfl ⟨rfl, rfl, rfl, rfl, rfl, rfl, trivial⟩
    · refine g_ifn (t := 245) rfl (m_leF c12) ?_
      refine g_in eF12_load_243 mx2483 ?_
      refine g_ch [(6, .int v2), (0, .ref x0), (1, .int x1), (2, .int x2), (3, .int x3), (5, .int x5)] [.int 0] (pc' := 244) rfl rfl rfl ?_
      cases h
      rw [k0 _ hK]
      exact g_iret rfl (by decide +kernel)
theorem SF12_load_162 {xs : Nat → Int32} {L : Nat} (x0 : Nat) (x1 : Int32) (x2 : Int32) (x3 : Int32) (x4 : Int32) (x5 : Int32) (hp : m_H) {r : m_O × m_H} {K : (Int32 × m_H) → Prop} (k0 : ∀ x, K x → r = (.inl (some (.int x.1)), x.2)) {t : Int32 × m_H} (h : F12_load_162 x0 x1 x2 x3 x4 x5 hp = some t) (hK : K t) : m_Rn xs L 3 2483 162 [(0, .ref x0), (1, .int x1), (2, .int x2), (3, .int x3), (4, .int x4), (5, .int x5)] [] hp r := by
  unfold F12_load_162 at h
  refine g_in eF12_load_162 mx2483 ?_
  refine g_ch [(0, .ref x0), (1, .int x1), (2, .int x2), (3, .int x3), (4, .int x4), (5, .int x5)] [.int x4] (pc' := 164) rfl rfl rfl ?_
  rcases m_ifd h with ⟨c1, h⟩ | ⟨c1, h⟩
  · refine g_ifc (t := 200) rfl (m_eqT c1) ?_
    exact r_lv (SF12_load_200 x0 x1 x2 x3 x5 hp (K := K) k0 h hK) rfl ⟨rfl, rfl, rfl, rfl, rfl, trivial⟩
  · refine g_ifcn (t := 200) rfl (m_eqF c1) ?_
    refine g_in eF12_load_167 mx2483 ?_
    refine g_ch [(0, .ref x0), (1, .int x1), (2, .int x2), (3, .int x3), (4, .int x4), (5, .int x5)] [.int 6, .int x1, .ref x0] (pc' := 171) rfl rfl rfl ?_
    obtain ⟨v3, e2, h⟩ := m_bd h
    refine g_call (v := some (.int v3)) (h := hp) (st' := [.int v3]) (D1 := 1) (as := [.ref x0, .int x1, .int 6]) (Or.inr (Or.inl rfl)) q12_m326 (m_cv (as := [.int 6, .int x1]) (rest := []) (Or.inl rfl) q12_m326 jv2477 (OF12_its e2) rfl rfl rfl rfl) (by decide) (SF12_its e2) rfl ?_
    rcases m_ifd h with ⟨c4, h⟩ | ⟨c4, h⟩
    · refine g_ifc (t := 200) rfl (m_leT c4) ?_
      exact r_lv (SF12_load_200 x0 x1 x2 x3 x5 hp (K := K) k0 h hK) rfl ⟨rfl, rfl, rfl, rfl, rfl, trivial⟩
    · refine g_ifcn (t := 200) rfl (m_leF c4) ?_
      refine g_in eF12_load_177 mx2483 ?_
      refine g_ch [(0, .ref x0), (1, .int x1), (2, .int x2), (3, .int x3), (4, .int x4), (5, .int x5)] [.int 7, .int x1, .ref x0, .ref x0] (pc' := 182) rfl rfl rfl ?_
      obtain ⟨v6, e5, h⟩ := m_bd h
      refine g_call (v := some (.int v6)) (h := hp) (st' := [.int v6, .ref x0]) (D1 := 1) (as := [.ref x0, .int x1, .int 7]) (Or.inr (Or.inl rfl)) q12_m326 (m_cv (as := [.int 7, .int x1]) (rest := [.ref x0]) (Or.inl rfl) q12_m326 jv2477 (OF12_its e5) rfl rfl rfl rfl) (by decide) (SF12_its e5) rfl ?_
      refine g_ch [(0, .ref x0), (1, .int x1), (2, .int x2), (3, .int x3), (4, .int x4), (5, .int x5)] [.int 2, .int v6, .ref x0] (pc' := 186) rfl rfl rfl ?_
      obtain ⟨v8, e7, h⟩ := m_bd h
      refine g_call (v := some (.int v8)) (h := hp) (st' := [.int v8]) (D1 := 1) (as := [.ref x0, .int v6, .int 2]) (Or.inr (Or.inl rfl)) q12_m115 (m_cv (as := [.int 2, .int v6]) (rest := []) (Or.inl rfl) q12_m115 jv2426 (OF12_of e7) rfl rfl rfl rfl) (by decide) (SF12_of e7) rfl ?_
      refine g_ch [(0, .ref x0), (1, .int x1), (2, .int x2), (3, .int x3), (4, .int x4), (5, .int x5)] [.int 2, .int x2, .ref x0, .int v8] (pc' := 192) rfl rfl rfl ?_
      obtain ⟨v10, e9, h⟩ := m_bd h
      refine g_call (v := some (.int v10)) (h := hp) (st' := [.int v10, .int v8]) (D1 := 1) (as := [.ref x0, .int x2, .int 2]) (Or.inr (Or.inl rfl)) q12_m115 (m_cv (as := [.int 2, .int x2]) (rest := [.int v8]) (Or.inl rfl) q12_m115 jv2426 (OF12_of e9) rfl rfl rfl rfl) (by decide) (SF12_of e9) rfl ?_
      rcases m_ifd h with ⟨c11, h⟩ | ⟨c11, h⟩
      · refine g_if (t := 200) rfl (m_eqT c11) ?_
        exact r_lv (SF12_load_200 x0 x1 x2 x3 x5 hp (K := K) k0 h hK) rfl ⟨rfl, rfl, rfl, rfl, rfl, trivial⟩
      · refine g_ifn (t := 200) rfl (m_eqF c11) ?_
        refine g_in eF12_load_198 mx2483 ?_
        refine g_ch [(0, .ref x0), (1, .int x1), (2, .int x2), (3, .int x3), (4, .int x4), (5, .int x5)] [.int 0] (pc' := 199) rfl rfl rfl ?_
        cases h
        rw [k0 _ hK]
        exact g_iret rfl (by decide +kernel)
theorem SF12_load_124 {xs : Nat → Int32} {L : Nat} (x0 : Nat) (x1 : Int32) (x2 : Int32) (x3 : Int32) (x4 : Int32) (s0 : Int32) (hp : m_H) {r : m_O × m_H} {K : (Int32 × m_H) → Prop} (k0 : ∀ x, K x → r = (.inl (some (.int x.1)), x.2)) {t : Int32 × m_H} (h : F12_load_124 x0 x1 x2 x3 x4 s0 hp = some t) (hK : K t) : m_Rn xs L 3 2483 124 [(0, .ref x0), (1, .int x1), (2, .int x2), (3, .int x3), (4, .int x4)] [.int s0] hp r := by
  unfold F12_load_124 at h
  refine g_in eF12_load_124 mx2483 ?_
  refine g_ch [(5, .int s0), (0, .ref x0), (1, .int x1), (2, .int x2), (3, .int x3), (4, .int x4)] [.int (10 + s0), .int x2, .ref x0] (pc' := 133) rfl rfl rfl ?_
  obtain ⟨v2, e1, h⟩ := m_bd h
  refine g_call (v := some (.int v2)) (h := hp) (st' := [.int v2]) (D1 := 1) (as := [.ref x0, .int x2, .int (10 + s0)]) (Or.inr (Or.inl rfl)) q12_m115 (m_cv (as := [.int (10 + s0), .int x2]) (rest := []) (Or.inl rfl) q12_m115 jv2426 (OF12_of e1) rfl rfl rfl rfl) (by decide) (SF12_of e1) rfl ?_
  refine g_ch [(5, .int s0), (0, .ref x0), (1, .int x1), (2, .int x2), (3, .int x3), (4, .int x4)] [.int x3, .int v2] (pc' := 137) rfl rfl rfl ?_
  rcases m_ifd h with ⟨c3, h⟩ | ⟨c3, h⟩
  · refine g_if (t := 160) rfl (m_ltT c3) ?_
    refine g_in eF12_load_160 mx2483 ?_
    refine g_ch [(5, .int s0), (0, .ref x0), (1, .int x1), (2, .int x2), (3, .int x3), (4, .int x4)] [.int 0] (pc' := 161) rfl rfl rfl ?_
    cases h
    rw [k0 _ hK]
    exact g_iret rfl (by decide +kernel)
  · refine g_ifn (t := 160) rfl (m_ltF c3) ?_
    refine g_in eF12_load_140 mx2483 ?_
    refine g_ch [(5, .int s0), (0, .ref x0), (1, .int x1), (2, .int x2), (3, .int x3), (4, .int x4)] [.int x4] (pc' := 142) rfl rfl rfl ?_
    rcases m_ifd h with ⟨c4, h⟩ | ⟨c4, h⟩
    · refine g_ifcn (t := 162) rfl (m_neF c4) ?_
      refine g_in eF12_load_145 mx2483 ?_
      refine g_ch [(5, .int s0), (0, .ref x0), (1, .int x1), (2, .int x2), (3, .int x3), (4, .int x4)] [.int 2, .int x2, .ref x0] (pc' := 148) rfl rfl rfl ?_
      obtain ⟨v6, e5, h⟩ := m_bd h
      refine g_call (v := some (.int v6)) (h := hp) (st' := [.int v6]) (D1 := 1) (as := [.ref x0, .int x2, .int 2]) (Or.inr (Or.inl rfl)) q12_m115 (m_cv (as := [.int 2, .int x2]) (rest := []) (Or.inl rfl) q12_m115 jv2426 (OF12_of e5) rfl rfl rfl rfl) (by decide) (SF12_of e5) rfl ?_
      refine g_ch [(5, .int s0), (0, .ref x0), (1, .int x1), (2, .int x2), (3, .int x3), (4, .int x4)] [.int 3, .int x1, .ref x0, .int v6] (pc' := 154) rfl rfl rfl ?_
      obtain ⟨v8, e7, h⟩ := m_bd h
      refine g_call (v := some (.int v8)) (h := hp) (st' := [.int v8, .int v6]) (D1 := 1) (as := [.ref x0, .int x1, .int 3]) (Or.inr (Or.inl rfl)) q12_m326 (m_cv (as := [.int 3, .int x1]) (rest := [.int v6]) (Or.inl rfl) q12_m326 jv2477 (OF12_its e7) rfl rfl rfl rfl) (by decide) (SF12_its e7) rfl ?_
      rcases m_ifd h with ⟨c9, h⟩ | ⟨c9, h⟩
      · refine g_if (t := 162) rfl (m_eqT c9) ?_
        exact r_lv (SF12_load_162 x0 x1 x2 x3 x4 s0 hp (K := K) k0 h hK) rfl ⟨rfl, rfl, rfl, rfl, rfl, rfl, trivial⟩
      · refine g_ifn (t := 162) rfl (m_eqF c9) ?_
        refine g_in eF12_load_160 mx2483 ?_
        refine g_ch [(5, .int s0), (0, .ref x0), (1, .int x1), (2, .int x2), (3, .int x3), (4, .int x4)] [.int 0] (pc' := 161) rfl rfl rfl ?_
        cases h
        rw [k0 _ hK]
        exact g_iret rfl (by decide +kernel)
    · refine g_ifc (t := 162) rfl (m_neT c4) ?_
      exact r_lv (SF12_load_162 x0 x1 x2 x3 x4 s0 hp (K := K) k0 h hK) rfl ⟨rfl, rfl, rfl, rfl, rfl, rfl, trivial⟩
theorem SF12_load_109 {xs : Nat → Int32} {L : Nat} (x0 : Nat) (x1 : Int32) (x2 : Int32) (x3 : Int32) (x4 : Int32) (s0 : Int32) (s1 : Int32) (hp : m_H) {r : m_O × m_H} {K : (Int32 × m_H) → Prop} (k0 : ∀ x, K x → r = (.inl (some (.int x.1)), x.2)) {t : Int32 × m_H} (h : F12_load_109 x0 x1 x2 x3 x4 s0 s1 hp = some t) (hK : K t) : m_Rn xs L 3 2483 109 [(0, .ref x0), (1, .int x1), (2, .int x2), (3, .int x3), (4, .int x4)] [.int s0, .int s1] hp r := by
  unfold F12_load_109 at h
  refine g_in eF12_load_109 mx2483 ?_
  rcases m_ifd h with ⟨c1, h⟩ | ⟨c1, h⟩
  · refine g_ifn (t := 114) rfl (m_neF c1) ?_
    refine g_in eF12_load_112 mx2483 ?_
    refine g_ch [(0, .ref x0), (1, .int x1), (2, .int x2), (3, .int x3), (4, .int x4)] [.int 0] (pc' := 113) rfl rfl rfl ?_
    cases h
    rw [k0 _ hK]
    exact g_iret rfl (by decide +kernel)
  · refine g_if (t := 114) rfl (m_neT c1) ?_
    refine g_in eF12_load_114 mx2483 ?_
    refine g_ch [(0, .ref x0), (1, .int x1), (2, .int x2), (3, .int x3), (4, .int x4)] [.int x4] (pc' := 116) rfl rfl rfl ?_
    rcases m_ifd h with ⟨c2, h⟩ | ⟨c2, h⟩
    · refine g_ifc (t := 123) rfl (m_eqT c2) ?_
      refine g_in eF12_load_123 mx2483 ?_
      refine g_ch [(0, .ref x0), (1, .int x1), (2, .int x2), (3, .int x3), (4, .int x4)] [.int 3] (pc' := 124) rfl rfl rfl ?_
      refine g_end ?_
      exact r_lv (SF12_load_124 x0 x1 x2 x3 x4 3 hp (K := K) k0 h hK) rfl ⟨rfl, rfl, rfl, rfl, rfl, trivial⟩
    · refine g_ifcn (t := 123) rfl (m_eqF c2) ?_
      refine g_in eF12_load_119 mx2483 ?_
      refine g_ch [(0, .ref x0), (1, .int x1), (2, .int x2), (3, .int x3), (4, .int x4)] [.int 1] (pc' := 120) rfl rfl rfl ?_
      refine g_goto (t := 124) rfl ?_
      exact r_lv (SF12_load_124 x0 x1 x2 x3 x4 1 hp (K := K) k0 h hK) rfl ⟨rfl, rfl, rfl, rfl, rfl, trivial⟩
theorem SF12_load_84 {xs : Nat → Int32} {L : Nat} (x0 : Nat) (x1 : Int32) (x2 : Int32) (x3 : Int32) (x4 : Int32) (hp : m_H) {r : m_O × m_H} {K : (Int32 × m_H) → Prop} (k0 : ∀ x, K x → r = (.inl (some (.int x.1)), x.2)) {t : Int32 × m_H} (h : F12_load_84 x0 x1 x2 x3 x4 hp = some t) (hK : K t) : m_Rn xs L 3 2483 84 [(0, .ref x0), (1, .int x1), (2, .int x2), (3, .int x3), (4, .int x4)] [] hp r := by
  unfold F12_load_84 at h
  refine g_in eF12_load_84 mx2483 ?_
  refine g_ch [(0, .ref x0), (1, .int x1), (2, .int x2), (3, .int x3), (4, .int x4)] [.int x2, .ref x0] (pc' := 86) rfl rfl rfl ?_
  obtain ⟨v2, e1, h⟩ := m_bd h
  refine g_call (v := some (.int v2)) (h := hp) (st' := [.int v2]) (D1 := 2) (as := [.ref x0, .int x2]) (Or.inr (Or.inl rfl)) q12_m128 (m_cv (as := [.int x2]) (rest := []) (Or.inl rfl) q12_m128 jv2430 (OF12_isStock e1) rfl rfl rfl rfl) (by decide) (SF12_isStock e1) rfl ?_
  rcases m_ifd h with ⟨c3, h⟩ | ⟨c3, h⟩
  · refine g_ifcn (t := 112) rfl (m_neF c3) ?_
    refine g_in eF12_load_92 mx2483 ?_
    refine g_ch [(0, .ref x0), (1, .int x1), (2, .int x2), (3, .int x3), (4, .int x4)] [.int 3, .int x2, .ref x0, .int x4] (pc' := 97) rfl rfl rfl ?_
    obtain ⟨v5, e4, h⟩ := m_bd h
    refine g_call (v := some (.int v5)) (h := hp) (st' := [.int v5, .int x4]) (D1 := 1) (as := [.ref x0, .int x2, .int 3]) (Or.inr (Or.inl rfl)) q12_m115 (m_cv (as := [.int 3, .int x2]) (rest := [.int x4]) (Or.inl rfl) q12_m115 jv2426 (OF12_of e4) rfl rfl rfl rfl) (by decide) (SF12_of e4) rfl ?_
    refine g_ch [(0, .ref x0), (1, .int x1), (2, .int x2), (3, .int x3), (4, .int x4)] [.int 1, .int v5, .int x4] (pc' := 101) rfl rfl rfl ?_
    rcases m_ifd h with ⟨c6, h⟩ | ⟨c6, h⟩
    · refine g_ifn (t := 108) rfl (m_neF c6) ?_
      refine g_in eF12_load_104 mx2483 ?_
      refine g_ch [(0, .ref x0), (1, .int x1), (2, .int x2), (3, .int x3), (4, .int x4)] [.int 1, .int x4] (pc' := 105) rfl rfl rfl ?_
      refine g_goto (t := 109) rfl ?_
      exact r_lv (SF12_load_109 x0 x1 x2 x3 x4 1 x4 hp (K := K) k0 h hK) rfl ⟨rfl, rfl, rfl, rfl, rfl, trivial⟩
    · refine g_if (t := 108) rfl (m_neT c6) ?_
      refine g_in eF12_load_108 mx2483 ?_
      refine g_ch [(0, .ref x0), (1, .int x1), (2, .int x2), (3, .int x3), (4, .int x4)] [.int 0, .int x4] (pc' := 109) rfl rfl rfl ?_
      refine g_end ?_
      exact r_lv (SF12_load_109 x0 x1 x2 x3 x4 0 x4 hp (K := K) k0 h hK) rfl ⟨rfl, rfl, rfl, rfl, rfl, trivial⟩
  · refine g_ifc (t := 112) rfl (m_neT c3) ?_
    refine g_in eF12_load_112 mx2483 ?_
    refine g_ch [(0, .ref x0), (1, .int x1), (2, .int x2), (3, .int x3), (4, .int x4)] [.int 0] (pc' := 113) rfl rfl rfl ?_
    cases h
    rw [k0 _ hK]
    exact g_iret rfl (by decide +kernel)
theorem SF12_load_67 {xs : Nat → Int32} {L : Nat} (x0 : Nat) (x1 : Int32) (x2 : Int32) (x3 : Int32) (s0 : Int32) (hp : m_H) {r : m_O × m_H} {K : (Int32 × m_H) → Prop} (k0 : ∀ x, K x → r = (.inl (some (.int x.1)), x.2)) {t : Int32 × m_H} (h : F12_load_67 x0 x1 x2 x3 s0 hp = some t) (hK : K t) : m_Rn xs L 3 2483 67 [(0, .ref x0), (1, .int x1), (2, .int x2), (3, .int x3)] [.int s0] hp r := by
  unfold F12_load_67 at h
  refine g_in eF12_load_67 mx2483 ?_
  refine g_ch [(4, .int s0), (0, .ref x0), (1, .int x1), (2, .int x2), (3, .int x3)] [.int s0] (pc' := 71) rfl rfl rfl ?_
  rcases m_ifd h with ⟨c1, h⟩ | ⟨c1, h⟩
  · refine g_ifcn (t := 84) rfl (m_neF c1) ?_
    refine g_in eF12_load_74 mx2483 ?_
    refine g_ch [(4, .int s0), (0, .ref x0), (1, .int x1), (2, .int x2), (3, .int x3)] [.int 2, .int x1, .ref x0] (pc' := 77) rfl rfl rfl ?_
    obtain ⟨v3, e2, h⟩ := m_bd h
    refine g_call (v := some (.int v3)) (h := hp) (st' := [.int v3]) (D1 := 1) (as := [.ref x0, .int x1, .int 2]) (Or.inr (Or.inl rfl)) q12_m326 (m_cv (as := [.int 2, .int x1]) (rest := []) (Or.inl rfl) q12_m326 jv2477 (OF12_its e2) rfl rfl rfl rfl) (by decide) (SF12_its e2) rfl ?_
    refine g_ch [(4, .int s0), (0, .ref x0), (1, .int x1), (2, .int x2), (3, .int x3)] [.int 2, .int v3] (pc' := 81) rfl rfl rfl ?_
    rcases m_ifd h with ⟨c4, h⟩ | ⟨c4, h⟩
    · refine g_ifn (t := 112) rfl (m_neF c4) ?_
      exact r_lv (SF12_load_84 x0 x1 x2 x3 s0 hp (K := K) k0 h hK) rfl ⟨rfl, rfl, rfl, rfl, rfl, trivial⟩
    · refine g_if (t := 112) rfl (m_neT c4) ?_
      refine g_in eF12_load_112 mx2483 ?_
      refine g_ch [(4, .int s0), (0, .ref x0), (1, .int x1), (2, .int x2), (3, .int x3)] [.int 0] (pc' := 113) rfl rfl rfl ?_
      cases h
      rw [k0 _ hK]
      exact g_iret rfl (by decide +kernel)
  · refine g_ifc (t := 84) rfl (m_neT c1) ?_
    exact r_lv (SF12_load_84 x0 x1 x2 x3 s0 hp (K := K) k0 h hK) rfl ⟨rfl, rfl, rfl, rfl, rfl, trivial⟩
theorem SF12_load_27 {xs : Nat → Int32} {L : Nat} (x0 : Nat) (x1 : Int32) (x2 : Int32) (x3 : Int32) (s0 : Int32) (s1 : Nat) (hp : m_H) {r : m_O × m_H} {K : (Int32 × m_H) → Prop} (k0 : ∀ x, K x → r = (.inl (some (.int x.1)), x.2)) {t : Int32 × m_H} (h : F12_load_27 x0 x1 x2 x3 s0 s1 hp = some t) (hK : K t) : m_Rn xs L 3 2483 27 [(0, .ref x0), (1, .int x1), (2, .int x2), (3, .int x3)] [.int s0, .ref s1] hp r := by
  unfold F12_load_27 at h
  refine g_in eF12_load_27 mx2483 ?_
  refine g_ch [(0, .ref x0), (1, .int x1), (2, .int x2), (3, .int x3)] [.int 1, .int s0, .ref s1] (pc' := 28) rfl rfl rfl ?_
  obtain ⟨z2, e1, h⟩ := m_bd h
  refine g_call (v := some (.int z2.1)) (h := z2.2) (st' := [.int z2.1]) (D1 := 0) (as := [.ref s1, .int s0, .int 1]) (Or.inr (Or.inl rfl)) q12_m82 (m_cv (as := [.int 1, .int s0]) (rest := []) (Or.inl rfl) q12_m82 jv2401 (OF12_throwsIf e1) rfl rfl rfl rfl) (by decide) (SF12_throwsIf e1) rfl ?_
  rcases m_ifd h with ⟨c3, h⟩ | ⟨c3, h⟩
  · refine g_ifcn (t := 51) rfl (m_neF c3) ?_
    refine g_in eF12_load_34 mx2483 ?_
    refine g_ch [(0, .ref x0), (1, .int x1), (2, .int x2), (3, .int x3)] [.ref x0, .ref x0] (pc' := 36) rfl rfl rfl ?_
    obtain ⟨v5, e4, h⟩ := m_bd h
    refine g_call (v := some (.int v5)) (h := z2.2) (st' := [.int v5, .ref x0]) (D1 := 0) (as := [.ref x0]) (Or.inr (Or.inl rfl)) q12_m118 (m_cv (as := []) (rest := [.ref x0]) (Or.inl rfl) q12_m118 jv2405 (OF12_isOver e4) rfl rfl rfl rfl) (by decide) (SF12_isOver e4) rfl ?_
    refine g_ch [(0, .ref x0), (1, .int x1), (2, .int x2), (3, .int x3)] [.int 2, .int v5, .ref x0] (pc' := 40) rfl rfl rfl ?_
    obtain ⟨z7, e6, h⟩ := m_bd h
    refine g_call (v := some (.int z7.1)) (h := z7.2) (st' := [.int z7.1]) (D1 := 0) (as := [.ref x0, .int v5, .int 2]) (Or.inr (Or.inl rfl)) q12_m82 (m_cv (as := [.int 2, .int v5]) (rest := []) (Or.inl rfl) q12_m82 jv2401 (OF12_throwsIf e6) rfl rfl rfl rfl) (by decide) (SF12_throwsIf e6) rfl ?_
    rcases m_ifd h with ⟨c8, h⟩ | ⟨c8, h⟩
    · refine g_ifcn (t := 51) rfl (m_neF c8) ?_
      refine g_in eF12_load_46 mx2483 ?_
      refine g_ch [(0, .ref x0), (1, .int x1), (2, .int x2), (3, .int x3)] [.int 1, .int x3] (pc' := 48) rfl rfl rfl ?_
      rcases m_ifd h with ⟨c9, h⟩ | ⟨c9, h⟩
      · refine g_if (t := 53) rfl (m_geT c9) ?_
        refine g_in eF12_load_53 mx2483 ?_
        refine g_ch [(0, .ref x0), (1, .int x1), (2, .int x2), (3, .int x3)] [.int 2, .int x1, .ref x0] (pc' := 56) rfl rfl rfl ?_
        obtain ⟨v11, e10, h⟩ := m_bd h
        refine g_call (v := some (.int v11)) (h := z7.2) (st' := [.int v11]) (D1 := 1) (as := [.ref x0, .int x1, .int 2]) (Or.inr (Or.inl rfl)) q12_m326 (m_cv (as := [.int 2, .int x1]) (rest := []) (Or.inl rfl) q12_m326 jv2477 (OF12_its e10) rfl rfl rfl rfl) (by decide) (SF12_its e10) rfl ?_
        rcases m_ifd h with ⟨c12, h⟩ | ⟨c12, h⟩
        · refine g_ifcn (t := 66) rfl (m_neF c12) ?_
          refine g_in eF12_load_62 mx2483 ?_
          refine g_ch [(0, .ref x0), (1, .int x1), (2, .int x2), (3, .int x3)] [.int 1] (pc' := 63) rfl rfl rfl ?_
          refine g_goto (t := 67) rfl ?_
          exact r_lv (SF12_load_67 x0 x1 x2 x3 1 z7.2 (K := K) k0 h hK) rfl ⟨rfl, rfl, rfl, rfl, trivial⟩
        · refine g_ifc (t := 66) rfl (m_neT c12) ?_
          refine g_in eF12_load_66 mx2483 ?_
          refine g_ch [(0, .ref x0), (1, .int x1), (2, .int x2), (3, .int x3)] [.int 0] (pc' := 67) rfl rfl rfl ?_
          refine g_end ?_
          exact r_lv (SF12_load_67 x0 x1 x2 x3 0 z7.2 (K := K) k0 h hK) rfl ⟨rfl, rfl, rfl, rfl, trivial⟩
      · refine g_ifn (t := 53) rfl (m_geF c9) ?_
        refine g_in eF12_load_51 mx2483 ?_
        refine g_ch [(0, .ref x0), (1, .int x1), (2, .int x2), (3, .int x3)] [.int 0] (pc' := 52) rfl rfl rfl ?_
        cases h
        rw [k0 _ hK]
        exact g_iret rfl (by decide +kernel)
    · refine g_ifc (t := 51) rfl (m_neT c8) ?_
      refine g_in eF12_load_51 mx2483 ?_
      refine g_ch [(0, .ref x0), (1, .int x1), (2, .int x2), (3, .int x3)] [.int 0] (pc' := 52) rfl rfl rfl ?_
      cases h
      rw [k0 _ hK]
      exact g_iret rfl (by decide +kernel)
  · refine g_ifc (t := 51) rfl (m_neT c3) ?_
    refine g_in eF12_load_51 mx2483 ?_
    refine g_ch [(0, .ref x0), (1, .int x1), (2, .int x2), (3, .int x3)] [.int 0] (pc' := 52) rfl rfl rfl ?_
    cases h
    rw [k0 _ hK]
    exact g_iret rfl (by decide +kernel)
theorem SF12_load_22 {xs : Nat → Int32} {L : Nat} (x0 : Nat) (x1 : Int32) (x2 : Int32) (x3 : Int32) (s0 : Nat) (hp : m_H) {r : m_O × m_H} {K : (Int32 × m_H) → Prop} (k0 : ∀ x, K x → r = (.inl (some (.int x.1)), x.2)) {t : Int32 × m_H} (h : F12_load_22 x0 x1 x2 x3 s0 hp = some t) (hK : K t) : m_Rn xs L 3 2483 22 [(0, .ref x0), (1, .int x1), (2, .int x2), (3, .int x3)] [.ref s0] hp r := by
  unfold F12_load_22 at h
  refine g_in eF12_load_22 mx2483 ?_
  refine g_ch [(0, .ref x0), (1, .int x1), (2, .int x2), (3, .int x3)] [.int 1, .ref s0] (pc' := 23) rfl rfl rfl ?_
  refine g_goto (t := 27) rfl ?_
  exact r_lv (SF12_load_27 x0 x1 x2 x3 1 s0 hp (K := K) k0 h hK) rfl ⟨rfl, rfl, rfl, rfl, trivial⟩
theorem SF12_load_0 {xs : Nat → Int32} {L : Nat} (x0 : Nat) (x1 : Int32) (x2 : Int32) (x3 : Int32) (hp : m_H) {r : m_O × m_H} {K : (Int32 × m_H) → Prop} (k0 : ∀ x, K x → r = (.inl (some (.int x.1)), x.2)) {t : Int32 × m_H} (h : F12_load_0 x0 x1 x2 x3 hp = some t) (hK : K t) : m_Rn xs L 3 2483 0 [(0, .ref x0), (1, .int x1), (2, .int x2), (3, .int x3)] [] hp r := by
  unfold F12_load_0 at h
  refine g_in eF12_load_0 mx2483 ?_
  refine g_ch [(0, .ref x0), (1, .int x1), (2, .int x2), (3, .int x3)] [.int 0, .ref x0] (pc' := 2) rfl rfl rfl ?_
  obtain ⟨h1, e2, h⟩ := m_bd h
  refine g_pf q12_f3 e2 ?_
  refine g_ch [(0, .ref x0), (1, .int x1), (2, .int x2), (3, .int x3)] [.int x1, .ref x0, .ref x0] (pc' := 8) rfl rfl rfl ?_
  obtain ⟨v4, e3, h⟩ := m_bd h
  refine g_call (v := some (.int v4)) (h := h1) (st' := [.int v4, .ref x0]) (D1 := 1) (as := [.ref x0, .int x1]) (Or.inr (Or.inl rfl)) q12_m329 (m_cv (as := [.int x1]) (rest := [.ref x0]) (Or.inl rfl) q12_m329 jv2479 (OF12_noShip e3) rfl rfl rfl rfl) (by decide) (SF12_noShip e3) rfl ?_
  rcases m_ifd h with ⟨c5, h⟩ | ⟨c5, h⟩
  · refine g_ifcn (t := 22) rfl (m_neF c5) ?_
    refine g_in eF12_load_14 mx2483 ?_
    refine g_ch [(0, .ref x0), (1, .int x1), (2, .int x2), (3, .int x3)] [.int x2, .ref x0, .ref x0] (pc' := 16) rfl rfl rfl ?_
    obtain ⟨v7, e6, h⟩ := m_bd h
    refine g_call (v := some (.int v7)) (h := h1) (st' := [.int v7, .ref x0]) (D1 := 1) (as := [.ref x0, .int x2]) (Or.inr (Or.inl rfl)) q12_m125 (m_cv (as := [.int x2]) (rest := [.ref x0]) (Or.inl rfl) q12_m125 jv2427 (OF12_noLot e6) rfl rfl rfl rfl) (by decide) (SF12_noLot e6) rfl ?_
    rcases m_ifd h with ⟨c8, h⟩ | ⟨c8, h⟩
    · refine g_ifc (t := 26) rfl (m_eqT c8) ?_
      refine g_in eF12_load_26 mx2483 ?_
      refine g_ch [(0, .ref x0), (1, .int x1), (2, .int x2), (3, .int x3)] [.int 0, .ref x0] (pc' := 27) rfl rfl rfl ?_
      refine g_end ?_
      exact r_lv (SF12_load_27 x0 x1 x2 x3 0 x0 h1 (K := K) k0 h hK) rfl ⟨rfl, rfl, rfl, rfl, trivial⟩
    · refine g_ifcn (t := 26) rfl (m_eqF c8) ?_
      exact r_lv (SF12_load_22 x0 x1 x2 x3 x0 h1 (K := K) k0 h hK) rfl ⟨rfl, rfl, rfl, rfl, trivial⟩
  · refine g_ifc (t := 22) rfl (m_neT c5) ?_
    exact r_lv (SF12_load_22 x0 x1 x2 x3 x0 h1 (K := K) k0 h hK) rfl ⟨rfl, rfl, rfl, rfl, trivial⟩
theorem OF12_load {x0 : Nat} {x1 : Int32} {x2 : Int32} {x3 : Int32} {hp : m_H} {x : Int32 × m_H} (h : F12_load x0 x1 x2 x3 hp = some x) : m_isO hp 9 x0 = true := (m_gdd h).1
theorem SF12_load {xs : Nat → Int32} {L : Nat} {x0 : Nat} {x1 : Int32} {x2 : Int32} {x3 : Int32} {hp : m_H} {x : Int32 × m_H} (h : F12_load x0 x1 x2 x3 hp = some x) : m_Rn xs L 3 2483 0 (lv_args 0 [.ref x0, .int x1, .int x2, .int x3]) [] hp (.inl (some (.int x.1)), x.2) :=
  r_lv (SF12_load_0 x0 x1 x2 x3 hp (K := fun y => y = x) (fun y e => by rw [e]) (m_gdd h).2 rfl) rfl ⟨rfl, rfl, rfl, rfl, trivial⟩
-- F12_sail: LendHouseModel.sail(II)Z
theorem eF12_sail_0 : m_Fe mi12_84 0 (m_ap [(.aload_n 0, 1), (.iconst 0, 1)] ((.putfield 3, 3) :: (m_ap [(.aload_n 0, 1), (.aload_n 0, 1), (.iload_n 1, 1)] ((.invokevirtual 329, 3) :: ([(.ifCond .ne 10, 3)]))))) := m_Fe_of nd2484 0 8 rfl
theorem eF12_sail_14 : m_Fe mi12_84 14 (m_ap [(.iload_n 2, 1)] ((.invokestatic 103, 3) :: ([(.ifCond .eq 7, 3)]))) := m_Fe_of nd2484 8 3 rfl
theorem eF12_sail_25 : m_Fe mi12_84 25 (m_ap [(.iconst 0, 1)] ([])) := m_Fe_of nd2484 13 1 rfl
theorem eF12_sail_21 : m_Fe mi12_84 21 (m_ap [(.iconst 1, 1)] ([(.goto 4, 3)])) := m_Fe_of nd2484 11 2 rfl
theorem eF12_sail_26 : m_Fe mi12_84 26 (m_ap [(.iconst 1, 1)] ((.invokevirtual 82, 3) :: ([(.ifCond .ne 15, 3)]))) := m_Fe_of nd2484 14 3 rfl
theorem eF12_sail_45 : m_Fe mi12_84 45 (m_ap [(.iconst 0, 1)] ([(.ireturn, 1)])) := m_Fe_of nd2484 23 2 rfl
theorem eF12_sail_33 : m_Fe mi12_84 33 (m_ap [(.aload_n 0, 1), (.aload_n 0, 1)] ((.invokevirtual 118, 3) :: (m_ap [(.iconst 2, 1)] ((.invokevirtual 82, 3) :: ([(.ifCond .eq 5, 3)]))))) := m_Fe_of nd2484 17 6 rfl
theorem eF12_sail_47 : m_Fe mi12_84 47 (m_ap [(.aload_n 0, 1), (.iload_n 1, 1), (.iconst 2, 1)] ((.invokevirtual 326, 3) :: ([(.ifCond .ne 41, 3)]))) := m_Fe_of nd2484 25 5 rfl
theorem eF12_sail_94 : m_Fe mi12_84 94 (m_ap [(.aload_n 0, 1), (.iload_n 1, 1), (.iconst 2, 1)] ((.invokevirtual 326, 3) :: (m_ap [(.iconst 2, 1)] ([(.if_icmp .ne 11, 3)])))) := m_Fe_of nd2484 50 6 rfl
theorem eF12_sail_104 : m_Fe mi12_84 104 (m_ap [(.iload_n 2, 1)] ([(.ifCond .ne 7, 3)])) := m_Fe_of nd2484 56 2 rfl
theorem eF12_sail_108 : m_Fe mi12_84 108 (m_ap [(.iconst 1, 1)] ([(.goto 4, 3)])) := m_Fe_of nd2484 58 2 rfl
theorem eF12_sail_56 : m_Fe mi12_84 56 (m_ap [(.iload_n 2, 1)] ([(.ifCond .le 33, 3)])) := m_Fe_of nd2484 30 2 rfl
theorem eF12_sail_60 : m_Fe mi12_84 60 (m_ap [(.aload_n 0, 1), (.iload_n 1, 1), (.bipush 6, 2)] ((.invokevirtual 326, 3) :: ([(.ifCond .eq 19, 3)]))) := m_Fe_of nd2484 32 5 rfl
theorem eF12_sail_70 : m_Fe mi12_84 70 (m_ap [(.aload_n 0, 1), (.aload_n 0, 1), (.iload_n 1, 1), (.bipush 7, 2)] ((.invokevirtual 326, 3) :: (m_ap [(.iconst 2, 1)] ((.invokevirtual 115, 3) :: (m_ap [(.iload_n 2, 1)] ([(.if_icmp .ne 7, 3)])))))) := m_Fe_of nd2484 37 9 rfl
theorem eF12_sail_112 : m_Fe mi12_84 112 (m_ap [(.iconst 0, 1)] ([])) := m_Fe_of nd2484 60 1 rfl
theorem eF12_sail_113 : m_Fe mi12_84 113 (m_ap [(.istore_n 3, 1), (.iload_n 3, 1)] ([(.ifCond .ne 5, 3)])) := m_Fe_of nd2484 61 3 rfl
theorem eF12_sail_120 : m_Fe mi12_84 120 (m_ap [(.aload_n 0, 1)] ((.invokevirtual 313, 3) :: (m_ap [(.iload_n 2, 1)] ([(.ifCond .le 10, 3)])))) := m_Fe_of nd2484 66 4 rfl
theorem eF12_sail_128 : m_Fe mi12_84 128 (m_ap [(.aload_n 0, 1), (.iload_n 1, 1), (.iconst 3, 1), (.iload_n 2, 1)] ([(.invokevirtual 322, 3)])) := m_Fe_of nd2484 70 5 rfl
theorem eF12_sail_118 : m_Fe mi12_84 118 (m_ap [(.iconst 0, 1)] ([(.ireturn, 1)])) := m_Fe_of nd2484 64 2 rfl
theorem eF12_sail_90 : m_Fe mi12_84 90 (m_ap [(.iconst 0, 1)] ([(.goto 22, 3)])) := m_Fe_of nd2484 48 2 rfl
theorem eF12_sail_86 : m_Fe mi12_84 86 (m_ap [(.iconst 1, 1)] ([(.goto 26, 3)])) := m_Fe_of nd2484 46 2 rfl
theorem eF12_sail_135 : m_Fe mi12_84 135 (m_ap [(.aload_n 0, 1), (.iload_n 1, 1), (.iconst 2, 1), (.iload_n 2, 1)] ([(.ifCond .le 7, 3)])) := m_Fe_of nd2484 75 5 rfl
theorem eF12_sail_146 : m_Fe mi12_84 146 (m_ap [(.iconst 3, 1)] ([])) := m_Fe_of nd2484 82 1 rfl
theorem eF12_sail_142 : m_Fe mi12_84 142 (m_ap [(.iconst 1, 1)] ([(.goto 4, 3)])) := m_Fe_of nd2484 80 2 rfl
theorem eF12_sail_147 : m_Fe mi12_84 147 ((.invokevirtual 322, 3) :: (m_ap [(.aload_n 0, 1), (.iload_n 1, 1), (.iconst 4, 1), (.aload_n 0, 1)] ((.getfield 14, 3) :: (m_ap [(.aload_n 0, 1), (.iload_n 1, 1), (.iconst 3, 1)] ((.invokevirtual 326, 3) :: (m_ap [(.iconst 2, 1)] ((.invokestatic 106, 3) :: ((.iaload, 1) :: ((.invokevirtual 322, 3) :: (m_ap [(.iconst 1, 1)] ([(.ireturn, 1)]))))))))))) := m_Fe_of nd2484 83 16 rfl
theorem SF12_sail_147 {xs : Nat → Int32} {L : Nat} (x0 : Nat) (x1 : Int32) (s0 : Int32) (s1 : Int32) (s2 : Int32) (s3 : Nat) (hp : m_H) {r : m_O × m_H} {K : (Int32 × m_H) → Prop} (k0 : ∀ x, K x → r = (.inl (some (.int x.1)), x.2)) {t : Int32 × m_H} (h : F12_sail_147 x0 x1 s0 s1 s2 s3 hp = some t) (hK : K t) : m_Rn xs L 2 2484 147 [(0, .ref x0), (1, .int x1)] [.int s0, .int s1, .int s2, .ref s3] hp r := by
  unfold F12_sail_147 at h
  refine g_in eF12_sail_147 mx2484 ?_
  obtain ⟨h2, e1, h⟩ := m_bd h
  refine g_call (v := none) (h := h2) (st' := []) (D1 := 1) (as := [.ref s3, .int s2, .int s1, .int s0]) (Or.inr (Or.inl rfl)) q12_m322 (m_cv (as := [.int s0, .int s1, .int s2]) (rest := []) (Or.inl rfl) q12_m322 jv2478 (OF12_puts e1) rfl rfl rfl rfl) (by decide) (SF12_puts e1) rfl ?_
  refine g_ch [(0, .ref x0), (1, .int x1)] [.ref x0, .int 4, .int x1, .ref x0] (pc' := 154) rfl rfl rfl ?_
  obtain ⟨v3, e4, h⟩ := m_bd h
  refine g_gr q12_f14 e4 ?_
  refine g_ch [(0, .ref x0), (1, .int x1)] [.int 3, .int x1, .ref x0, .ref v3, .int 4, .int x1, .ref x0] (pc' := 160) rfl rfl rfl ?_
  obtain ⟨v6, e5, h⟩ := m_bd h
  refine g_call (v := some (.int v6)) (h := h2) (st' := [.int v6, .ref v3, .int 4, .int x1, .ref x0]) (D1 := 1) (as := [.ref x0, .int x1, .int 3]) (Or.inr (Or.inl rfl)) q12_m326 (m_cv (as := [.int 3, .int x1]) (rest := [.ref v3, .int 4, .int x1, .ref x0]) (Or.inl rfl) q12_m326 jv2477 (OF12_its e5) rfl rfl rfl rfl) (by decide) (SF12_its e5) rfl ?_
  refine g_ch [(0, .ref x0), (1, .int x1)] [.int 2, .int v6, .ref v3, .int 4, .int x1, .ref x0] (pc' := 164) rfl rfl rfl ?_
  obtain ⟨v8, e7, h⟩ := m_bd h
  refine g_call (v := some (.int v8)) (h := h2) (st' := [.int v8, .ref v3, .int 4, .int x1, .ref x0]) (D1 := 0) (as := [.int v6, .int 2]) (Or.inl rfl) q12_m106 (m_cs (as := [.int 2, .int v6]) (rest := [.ref v3, .int 4, .int x1, .ref x0]) q12_m106 jv2413 rfl rfl rfl rfl rfl) (by decide) (SF12_landAt e7) rfl ?_
  obtain ⟨v9, e10, h⟩ := m_bd h
  refine g_ia e10 ?_
  obtain ⟨h12, e11, h⟩ := m_bd h
  refine g_call (v := none) (h := h12) (st' := []) (D1 := 1) (as := [.ref x0, .int x1, .int 4, .int v9]) (Or.inr (Or.inl rfl)) q12_m322 (m_cv (as := [.int v9, .int 4, .int x1]) (rest := []) (Or.inl rfl) q12_m322 jv2478 (OF12_puts e11) rfl rfl rfl rfl) (by decide) (SF12_puts e11) rfl ?_
  refine g_ch [(0, .ref x0), (1, .int x1)] [.int 1] (pc' := 172) rfl rfl rfl ?_
  cases h
  rw [k0 _ hK]
  exact g_iret rfl (by decide +kernel)
theorem SF12_sail_135 {xs : Nat → Int32} {L : Nat} (x0 : Nat) (x1 : Int32) (x2 : Int32) (hp : m_H) {r : m_O × m_H} {K : (Int32 × m_H) → Prop} (k0 : ∀ x, K x → r = (.inl (some (.int x.1)), x.2)) {t : Int32 × m_H} (h : F12_sail_135 x0 x1 x2 hp = some t) (hK : K t) : m_Rn xs L 2 2484 135 [(0, .ref x0), (1, .int x1), (2, .int x2)] [] hp r := by
  unfold F12_sail_135 at h
  refine g_in eF12_sail_135 mx2484 ?_
  refine g_ch [(0, .ref x0), (1, .int x1), (2, .int x2)] [.int x2, .int 2, .int x1, .ref x0] (pc' := 139) rfl rfl rfl ?_
  rcases m_ifd h with ⟨c1, h⟩ | ⟨c1, h⟩
  · refine g_ifc (t := 146) rfl (m_leT c1) ?_
    refine g_in eF12_sail_146 mx2484 ?_
    refine g_ch [(0, .ref x0), (1, .int x1), (2, .int x2)] [.int 3, .int 2, .int x1, .ref x0] (pc' := 147) rfl rfl rfl ?_
    refine g_end ?_
    exact r_lv (SF12_sail_147 x0 x1 3 2 x1 x0 hp (K := K) k0 h hK) rfl ⟨rfl, rfl, trivial⟩
  · refine g_ifcn (t := 146) rfl (m_leF c1) ?_
    refine g_in eF12_sail_142 mx2484 ?_
    refine g_ch [(0, .ref x0), (1, .int x1), (2, .int x2)] [.int 1, .int 2, .int x1, .ref x0] (pc' := 143) rfl rfl rfl ?_
    refine g_goto (t := 147) rfl ?_
    exact r_lv (SF12_sail_147 x0 x1 1 2 x1 x0 hp (K := K) k0 h hK) rfl ⟨rfl, rfl, trivial⟩
theorem SF12_sail_113 {xs : Nat → Int32} {L : Nat} (x0 : Nat) (x1 : Int32) (x2 : Int32) (s0 : Int32) (hp : m_H) {r : m_O × m_H} {K : (Int32 × m_H) → Prop} (k0 : ∀ x, K x → r = (.inl (some (.int x.1)), x.2)) {t : Int32 × m_H} (h : F12_sail_113 x0 x1 x2 s0 hp = some t) (hK : K t) : m_Rn xs L 2 2484 113 [(0, .ref x0), (1, .int x1), (2, .int x2)] [.int s0] hp r := by
  unfold F12_sail_113 at h
  refine g_in eF12_sail_113 mx2484 ?_
  refine g_ch [(3, .int s0), (0, .ref x0), (1, .int x1), (2, .int x2)] [.int s0] (pc' := 115) rfl rfl rfl ?_
  rcases m_ifd h with ⟨c1, h⟩ | ⟨c1, h⟩
  · refine g_ifcn (t := 120) rfl (m_neF c1) ?_
    refine g_in eF12_sail_118 mx2484 ?_
    refine g_ch [(3, .int s0), (0, .ref x0), (1, .int x1), (2, .int x2)] [.int 0] (pc' := 119) rfl rfl rfl ?_
    cases h
    rw [k0 _ hK]
    exact g_iret rfl (by decide +kernel)
  · refine g_ifc (t := 120) rfl (m_neT c1) ?_
    refine g_in eF12_sail_120 mx2484 ?_
    refine g_ch [(3, .int s0), (0, .ref x0), (1, .int x1), (2, .int x2)] [.ref x0] (pc' := 121) rfl rfl rfl ?_
    obtain ⟨h3, e2, h⟩ := m_bd h
    refine g_call (v := none) (h := h3) (st' := []) (D1 := 0) (as := [.ref x0]) (Or.inr (Or.inl rfl)) q12_m313 (m_cv (as := []) (rest := []) (Or.inl rfl) q12_m313 jv2406 (OF12_deed e2) rfl rfl rfl rfl) (by decide) (SF12_deed e2) rfl ?_
    refine g_ch [(3, .int s0), (0, .ref x0), (1, .int x1), (2, .int x2)] [.int x2] (pc' := 125) rfl rfl rfl ?_
    rcases m_ifd h with ⟨c4, h⟩ | ⟨c4, h⟩
    · refine g_ifc (t := 135) rfl (m_leT c4) ?_
      exact r_lv (SF12_sail_135 x0 x1 x2 h3 (K := K) k0 h hK) rfl ⟨rfl, rfl, rfl, trivial⟩
    · refine g_ifcn (t := 135) rfl (m_leF c4) ?_
      refine g_in eF12_sail_128 mx2484 ?_
      refine g_ch [(3, .int s0), (0, .ref x0), (1, .int x1), (2, .int x2)] [.int x2, .int 3, .int x1, .ref x0] (pc' := 132) rfl rfl rfl ?_
      obtain ⟨h6, e5, h⟩ := m_bd h
      refine g_call (v := none) (h := h6) (st' := []) (D1 := 1) (as := [.ref x0, .int x1, .int 3, .int x2]) (Or.inr (Or.inl rfl)) q12_m322 (m_cv (as := [.int x2, .int 3, .int x1]) (rest := []) (Or.inl rfl) q12_m322 jv2478 (OF12_puts e5) rfl rfl rfl rfl) (by decide) (SF12_puts e5) rfl ?_
      refine g_end ?_
      exact r_lv (SF12_sail_135 x0 x1 x2 h6 (K := K) k0 h hK) rfl ⟨rfl, rfl, rfl, trivial⟩
theorem SF12_sail_112 {xs : Nat → Int32} {L : Nat} (x0 : Nat) (x1 : Int32) (x2 : Int32) (hp : m_H) {r : m_O × m_H} {K : (Int32 × m_H) → Prop} (k0 : ∀ x, K x → r = (.inl (some (.int x.1)), x.2)) {t : Int32 × m_H} (h : F12_sail_112 x0 x1 x2 hp = some t) (hK : K t) : m_Rn xs L 2 2484 112 [(0, .ref x0), (1, .int x1), (2, .int x2)] [] hp r := by
  unfold F12_sail_112 at h
  refine g_in eF12_sail_112 mx2484 ?_
  refine g_ch [(0, .ref x0), (1, .int x1), (2, .int x2)] [.int 0] (pc' := 113) rfl rfl rfl ?_
  refine g_end ?_
  exact r_lv (SF12_sail_113 x0 x1 x2 0 hp (K := K) k0 h hK) rfl ⟨rfl, rfl, rfl, trivial⟩
theorem SF12_sail_90 {xs : Nat → Int32} {L : Nat} (x0 : Nat) (x1 : Int32) (x2 : Int32) (hp : m_H) {r : m_O × m_H} {K : (Int32 × m_H) → Prop} (k0 : ∀ x, K x → r = (.inl (some (.int x.1)), x.2)) {t : Int32 × m_H} (h : F12_sail_90 x0 x1 x2 hp = some t) (hK : K t) : m_Rn xs L 2 2484 90 [(0, .ref x0), (1, .int x1), (2, .int x2)] [] hp r := by
  unfold F12_sail_90 at h
  refine g_in eF12_sail_90 mx2484 ?_
  refine g_ch [(0, .ref x0), (1, .int x1), (2, .int x2)] [.int 0] (pc' := 91) rfl rfl rfl ?_
  refine g_goto (t := 113) rfl ?_
  exact r_lv (SF12_sail_113 x0 x1 x2 0 hp (K := K) k0 h hK) rfl ⟨rfl, rfl, rfl, trivial⟩
theorem SF12_sail_86 {xs : Nat → Int32} {L : Nat} (x0 : Nat) (x1 : Int32) (x2 : Int32) (hp : m_H) {r : m_O × m_H} {K : (Int32 × m_H) → Prop} (k0 : ∀ x, K x → r = (.inl (some (.int x.1)), x.2)) {t : Int32 × m_H} (h : F12_sail_86 x0 x1 x2 hp = some t) (hK : K t) : m_Rn xs L 2 2484 86 [(0, .ref x0), (1, .int x1), (2, .int x2)] [] hp r := by
  unfold F12_sail_86 at h
  refine g_in eF12_sail_86 mx2484 ?_
  refine g_ch [(0, .ref x0), (1, .int x1), (2, .int x2)] [.int 1] (pc' := 87) rfl rfl rfl ?_
  refine g_goto (t := 113) rfl ?_
  exact r_lv (SF12_sail_113 x0 x1 x2 1 hp (K := K) k0 h hK) rfl ⟨rfl, rfl, rfl, trivial⟩
theorem SF12_sail_26 {xs : Nat → Int32} {L : Nat} (x0 : Nat) (x1 : Int32) (x2 : Int32) (s0 : Int32) (s1 : Nat) (hp : m_H) {r : m_O × m_H} {K : (Int32 × m_H) → Prop} (k0 : ∀ x, K x → r = (.inl (some (.int x.1)), x.2)) {t : Int32 × m_H} (h : F12_sail_26 x0 x1 x2 s0 s1 hp = some t) (hK : K t) : m_Rn xs L 2 2484 26 [(0, .ref x0), (1, .int x1), (2, .int x2)] [.int s0, .ref s1] hp r := by
  unfold F12_sail_26 at h
  refine g_in eF12_sail_26 mx2484 ?_
  refine g_ch [(0, .ref x0), (1, .int x1), (2, .int x2)] [.int 1, .int s0, .ref s1] (pc' := 27) rfl rfl rfl ?_
  obtain ⟨z2, e1, h⟩ := m_bd h
  refine g_call (v := some (.int z2.1)) (h := z2.2) (st' := [.int z2.1]) (D1 := 0) (as := [.ref s1, .int s0, .int 1]) (Or.inr (Or.inl rfl)) q12_m82 (m_cv (as := [.int 1, .int s0]) (rest := []) (Or.inl rfl) q12_m82 jv2401 (OF12_throwsIf e1) rfl rfl rfl rfl) (by decide) (SF12_throwsIf e1) rfl ?_
  rcases m_ifd h with ⟨c3, h⟩ | ⟨c3, h⟩
  · refine g_ifcn (t := 45) rfl (m_neF c3) ?_
    refine g_in eF12_sail_33 mx2484 ?_
    refine g_ch [(0, .ref x0), (1, .int x1), (2, .int x2)] [.ref x0, .ref x0] (pc' := 35) rfl rfl rfl ?_
    obtain ⟨v5, e4, h⟩ := m_bd h
    refine g_call (v := some (.int v5)) (h := z2.2) (st' := [.int v5, .ref x0]) (D1 := 0) (as := [.ref x0]) (Or.inr (Or.inl rfl)) q12_m118 (m_cv (as := []) (rest := [.ref x0]) (Or.inl rfl) q12_m118 jv2405 (OF12_isOver e4) rfl rfl rfl rfl) (by decide) (SF12_isOver e4) rfl ?_
    refine g_ch [(0, .ref x0), (1, .int x1), (2, .int x2)] [.int 2, .int v5, .ref x0] (pc' := 39) rfl rfl rfl ?_
    obtain ⟨z7, e6, h⟩ := m_bd h
    refine g_call (v := some (.int z7.1)) (h := z7.2) (st' := [.int z7.1]) (D1 := 0) (as := [.ref x0, .int v5, .int 2]) (Or.inr (Or.inl rfl)) q12_m82 (m_cv (as := [.int 2, .int v5]) (rest := []) (Or.inl rfl) q12_m82 jv2401 (OF12_throwsIf e6) rfl rfl rfl rfl) (by decide) (SF12_throwsIf e6) rfl ?_
    rcases m_ifd h with ⟨c8, h⟩ | ⟨c8, h⟩
    · refine g_ifc (t := 47) rfl (m_eqT c8) ?_
      refine g_in eF12_sail_47 mx2484 ?_
      refine g_ch [(0, .ref x0), (1, .int x1), (2, .int x2)] [.int 2, .int x1, .ref x0] (pc' := 50) rfl rfl rfl ?_
      obtain ⟨v10, e9, h⟩ := m_bd h
      refine g_call (v := some (.int v10)) (h := z7.2) (st' := [.int v10]) (D1 := 1) (as := [.ref x0, .int x1, .int 2]) (Or.inr (Or.inl rfl)) q12_m326 (m_cv (as := [.int 2, .int x1]) (rest := []) (Or.inl rfl) q12_m326 jv2477 (OF12_its e9) rfl rfl rfl rfl) (by decide) (SF12_its e9) rfl ?_
      rcases m_ifd h with ⟨c11, h⟩ | ⟨c11, h⟩
      · refine g_ifcn (t := 94) rfl (m_neF c11) ?_
        refine g_in eF12_sail_56 mx2484 ?_
        refine g_ch [(0, .ref x0), (1, .int x1), (2, .int x2)] [.int x2] (pc' := 57) rfl rfl rfl ?_
        rcases m_ifd h with ⟨c16, h⟩ | ⟨c16, h⟩
        · refine g_ifc (t := 90) rfl (m_leT c16) ?_
          exact r_lv (SF12_sail_90 x0 x1 x2 z7.2 (K := K) k0 h hK) rfl ⟨rfl, rfl, rfl, trivial⟩
        · refine g_ifcn (t := 90) rfl (m_leF c16) ?_
          refine g_in eF12_sail_60 mx2484 ?_
          refine g_ch [(0, .ref x0), (1, .int x1), (2, .int x2)] [.int 6, .int x1, .ref x0] (pc' := 64) rfl rfl rfl ?_
          obtain ⟨v18, e17, h⟩ := m_bd h
          refine g_call (v := some (.int v18)) (h := z7.2) (st' := [.int v18]) (D1 := 1) (as := [.ref x0, .int x1, .int 6]) (Or.inr (Or.inl rfl)) q12_m326 (m_cv (as := [.int 6, .int x1]) (rest := []) (Or.inl rfl) q12_m326 jv2477 (OF12_its e17) rfl rfl rfl rfl) (by decide) (SF12_its e17) rfl ?_
          rcases m_ifd h with ⟨c19, h⟩ | ⟨c19, h⟩
          · refine g_ifc (t := 86) rfl (m_eqT c19) ?_
            exact r_lv (SF12_sail_86 x0 x1 x2 z7.2 (K := K) k0 h hK) rfl ⟨rfl, rfl, rfl, trivial⟩
          · refine g_ifcn (t := 86) rfl (m_eqF c19) ?_
            refine g_in eF12_sail_70 mx2484 ?_
            refine g_ch [(0, .ref x0), (1, .int x1), (2, .int x2)] [.int 7, .int x1, .ref x0, .ref x0] (pc' := 75) rfl rfl rfl ?_
            obtain ⟨v21, e20, h⟩ := m_bd h
            refine g_call (v := some (.int v21)) (h := z7.2) (st' := [.int v21, .ref x0]) (D1 := 1) (as := [.ref x0, .int x1, .int 7]) (Or.inr (Or.inl rfl)) q12_m326 (m_cv (as := [.int 7, .int x1]) (rest := [.ref x0]) (Or.inl rfl) q12_m326 jv2477 (OF12_its e20) rfl rfl rfl rfl) (by decide) (SF12_its e20) rfl ?_
            refine g_ch [(0, .ref x0), (1, .int x1), (2, .int x2)] [.int 2, .int v21, .ref x0] (pc' := 79) rfl rfl rfl ?_
            obtain ⟨v23, e22, h⟩ := m_bd h
            refine g_call (v := some (.int v23)) (h := z7.2) (st' := [.int v23]) (D1 := 1) (as := [.ref x0, .int v21, .int 2]) (Or.inr (Or.inl rfl)) q12_m115 (m_cv (as := [.int 2, .int v21]) (rest := []) (Or.inl rfl) q12_m115 jv2426 (OF12_of e22) rfl rfl rfl rfl) (by decide) (SF12_of e22) rfl ?_
            refine g_ch [(0, .ref x0), (1, .int x1), (2, .int x2)] [.int x2, .int v23] (pc' := 83) rfl rfl rfl ?_
            rcases m_ifd h with ⟨c24, h⟩ | ⟨c24, h⟩
            · refine g_ifn (t := 90) rfl (m_neF c24) ?_
              exact r_lv (SF12_sail_86 x0 x1 x2 z7.2 (K := K) k0 h hK) rfl ⟨rfl, rfl, rfl, trivial⟩
            · refine g_if (t := 90) rfl (m_neT c24) ?_
              exact r_lv (SF12_sail_90 x0 x1 x2 z7.2 (K := K) k0 h hK) rfl ⟨rfl, rfl, rfl, trivial⟩
      · refine g_ifc (t := 94) rfl (m_neT c11) ?_
        refine g_in eF12_sail_94 mx2484 ?_
        refine g_ch [(0, .ref x0), (1, .int x1), (2, .int x2)] [.int 2, .int x1, .ref x0] (pc' := 97) rfl rfl rfl ?_
        obtain ⟨v13, e12, h⟩ := m_bd h
        refine g_call (v := some (.int v13)) (h := z7.2) (st' := [.int v13]) (D1 := 1) (as := [.ref x0, .int x1, .int 2]) (Or.inr (Or.inl rfl)) q12_m326 (m_cv (as := [.int 2, .int x1]) (rest := []) (Or.inl rfl) q12_m326 jv2477 (OF12_its e12) rfl rfl rfl rfl) (by decide) (SF12_its e12) rfl ?_
        refine g_ch [(0, .ref x0), (1, .int x1), (2, .int x2)] [.int 2, .int v13] (pc' := 101) rfl rfl rfl ?_
        rcases m_ifd h with ⟨c14, h⟩ | ⟨c14, h⟩
        · refine g_ifn (t := 112) rfl (m_neF c14) ?_
          refine g_in eF12_sail_104 mx2484 ?_
          refine g_ch [(0, .ref x0), (1, .int x1), (2, .int x2)] [.int x2] (pc' := 105) rfl rfl rfl ?_
          rcases m_ifd h with ⟨c15, h⟩ | ⟨c15, h⟩
          · refine g_ifcn (t := 112) rfl (m_neF c15) ?_
            refine g_in eF12_sail_108 mx2484 ?_
            refine g_ch [(0, .ref x0), (1, .int x1), (2, .int x2)] [.int 1] (pc' := 109) rfl rfl rfl ?_
            refine g_goto (t := 113) rfl ?_
            exact r_lv (SF12_sail_113 x0 x1 x2 1 z7.2 (K := K) k0 h hK) rfl ⟨rfl, rfl, rfl, trivial⟩
          · refine g_ifc (t := 112) rfl (m_neT c15) ?_
            exact r_lv (SF12_sail_112 x0 x1 x2 z7.2 (K := K) k0 h hK) rfl ⟨rfl, rfl, rfl, trivial⟩
        · refine g_if (t := 112) rfl (m_neT c14) ?_
          exact r_lv (SF12_sail_112 x0 x1 x2 z7.2 (K := K) k0 h hK) rfl ⟨rfl, rfl, rfl, trivial⟩
    · refine g_ifcn (t := 47) rfl (m_eqF c8) ?_
      refine g_in eF12_sail_45 mx2484 ?_
      refine g_ch [(0, .ref x0), (1, .int x1), (2, .int x2)] [.int 0] (pc' := 46) rfl rfl rfl ?_
      cases h
      rw [k0 _ hK]
      exact g_iret rfl (by decide +kernel)
  · refine g_ifc (t := 45) rfl (m_neT c3) ?_
    refine g_in eF12_sail_45 mx2484 ?_
    refine g_ch [(0, .ref x0), (1, .int x1), (2, .int x2)] [.int 0] (pc' := 46) rfl rfl rfl ?_
    cases h
    rw [k0 _ hK]
    exact g_iret rfl (by decide +kernel)
theorem SF12_sail_21 {xs : Nat → Int32} {L : Nat} (x0 : Nat) (x1 : Int32) (x2 : Int32) (s0 : Nat) (hp : m_H) {r : m_O × m_H} {K : (Int32 × m_H) → Prop} (k0 : ∀ x, K x → r = (.inl (some (.int x.1)), x.2)) {t : Int32 × m_H} (h : F12_sail_21 x0 x1 x2 s0 hp = some t) (hK : K t) : m_Rn xs L 2 2484 21 [(0, .ref x0), (1, .int x1), (2, .int x2)] [.ref s0] hp r := by
  unfold F12_sail_21 at h
  refine g_in eF12_sail_21 mx2484 ?_
  refine g_ch [(0, .ref x0), (1, .int x1), (2, .int x2)] [.int 1, .ref s0] (pc' := 22) rfl rfl rfl ?_
  refine g_goto (t := 26) rfl ?_
  exact r_lv (SF12_sail_26 x0 x1 x2 1 s0 hp (K := K) k0 h hK) rfl ⟨rfl, rfl, rfl, trivial⟩
theorem SF12_sail_0 {xs : Nat → Int32} {L : Nat} (x0 : Nat) (x1 : Int32) (x2 : Int32) (hp : m_H) {r : m_O × m_H} {K : (Int32 × m_H) → Prop} (k0 : ∀ x, K x → r = (.inl (some (.int x.1)), x.2)) {t : Int32 × m_H} (h : F12_sail_0 x0 x1 x2 hp = some t) (hK : K t) : m_Rn xs L 2 2484 0 [(0, .ref x0), (1, .int x1), (2, .int x2)] [] hp r := by
  unfold F12_sail_0 at h
  refine g_in eF12_sail_0 mx2484 ?_
  refine g_ch [(0, .ref x0), (1, .int x1), (2, .int x2)] [.int 0, .ref x0] (pc' := 2) rfl rfl rfl ?_
  obtain ⟨h1, e2, h⟩ := m_bd h
  refine g_pf q12_f3 e2 ?_
  refine g_ch [(0, .ref x0), (1, .int x1), (2, .int x2)] [.int x1, .ref x0, .ref x0] (pc' := 8) rfl rfl rfl ?_
  obtain ⟨v4, e3, h⟩ := m_bd h
  refine g_call (v := some (.int v4)) (h := h1) (st' := [.int v4, .ref x0]) (D1 := 1) (as := [.ref x0, .int x1]) (Or.inr (Or.inl rfl)) q12_m329 (m_cv (as := [.int x1]) (rest := [.ref x0]) (Or.inl rfl) q12_m329 jv2479 (OF12_noShip e3) rfl rfl rfl rfl) (by decide) (SF12_noShip e3) rfl ?_
  rcases m_ifd h with ⟨c5, h⟩ | ⟨c5, h⟩
  · refine g_ifcn (t := 21) rfl (m_neF c5) ?_
    refine g_in eF12_sail_14 mx2484 ?_
    refine g_ch [(0, .ref x0), (1, .int x1), (2, .int x2)] [.int x2, .ref x0] (pc' := 15) rfl rfl rfl ?_
    obtain ⟨v7, e6, h⟩ := m_bd h
    refine g_call (v := some (.int v7)) (h := h1) (st' := [.int v7, .ref x0]) (D1 := 1) (as := [.int x2]) (Or.inl rfl) q12_m103 (m_cs (as := [.int x2]) (rest := [.ref x0]) q12_m103 jv2411 rfl rfl rfl rfl rfl) (by decide) (SF12_noLand e6) rfl ?_
    rcases m_ifd h with ⟨c8, h⟩ | ⟨c8, h⟩
    · refine g_ifc (t := 25) rfl (m_eqT c8) ?_
      refine g_in eF12_sail_25 mx2484 ?_
      refine g_ch [(0, .ref x0), (1, .int x1), (2, .int x2)] [.int 0, .ref x0] (pc' := 26) rfl rfl rfl ?_
      refine g_end ?_
      exact r_lv (SF12_sail_26 x0 x1 x2 0 x0 h1 (K := K) k0 h hK) rfl ⟨rfl, rfl, rfl, trivial⟩
    · refine g_ifcn (t := 25) rfl (m_eqF c8) ?_
      exact r_lv (SF12_sail_21 x0 x1 x2 x0 h1 (K := K) k0 h hK) rfl ⟨rfl, rfl, rfl, trivial⟩
  · refine g_ifc (t := 21) rfl (m_neT c5) ?_
    exact r_lv (SF12_sail_21 x0 x1 x2 x0 h1 (K := K) k0 h hK) rfl ⟨rfl, rfl, rfl, trivial⟩
theorem OF12_sail {x0 : Nat} {x1 : Int32} {x2 : Int32} {hp : m_H} {x : Int32 × m_H} (h : F12_sail x0 x1 x2 hp = some x) : m_isO hp 9 x0 = true := (m_gdd h).1
theorem SF12_sail {xs : Nat → Int32} {L : Nat} {x0 : Nat} {x1 : Int32} {x2 : Int32} {hp : m_H} {x : Int32 × m_H} (h : F12_sail x0 x1 x2 hp = some x) : m_Rn xs L 2 2484 0 (lv_args 0 [.ref x0, .int x1, .int x2]) [] hp (.inl (some (.int x.1)), x.2) :=
  r_lv (SF12_sail_0 x0 x1 x2 hp (K := fun y => y = x) (fun y e => by rw [e]) (m_gdd h).2 rfl) rfl ⟨rfl, rfl, rfl, trivial⟩
-- F12_led: LendHouseModel.led(II)I
theorem eF12_led_0 : m_Fe mi12_85 0 (m_ap [(.aload_n 0, 1), (.iconst 0, 1)] ((.putfield 3, 3) :: (m_ap [(.aload_n 0, 1), (.aload_n 0, 1), (.iload_n 1, 1)] ((.invokevirtual 329, 3) :: (m_ap [(.iconst 1, 1)] ((.invokevirtual 82, 3) :: ([(.ifCond .eq 5, 3)]))))))) := m_Fe_of nd2485 0 10 rfl
theorem eF12_led_20 : m_Fe mi12_85 20 (m_ap [(.iload_n 2, 1)] ([(.tableswitch 81 0 5 #[39, 46, 53, 60, 66, 73], 39)])) := m_Fe_of nd2485 12 2 rfl
theorem eF12_led_102 : m_Fe mi12_85 102 (m_ap [(.aload_n 0, 1), (.iconst 2, 1)] ((.putfield 3, 3) :: (m_ap [(.iconst 0, 1)] ([(.ireturn, 1)])))) := m_Fe_of nd2485 43 5 rfl
theorem eF12_led_60 : m_Fe mi12_85 60 (m_ap [(.aload_n 0, 1), (.iload_n 1, 1), (.iconst 2, 1)] ((.invokevirtual 326, 3) :: ([(.ireturn, 1)]))) := m_Fe_of nd2485 14 5 rfl
theorem eF12_led_67 : m_Fe mi12_85 67 (m_ap [(.aload_n 0, 1), (.iload_n 1, 1), (.iconst 3, 1)] ((.invokevirtual 326, 3) :: ([(.ireturn, 1)]))) := m_Fe_of nd2485 19 5 rfl
theorem eF12_led_74 : m_Fe mi12_85 74 (m_ap [(.aload_n 0, 1), (.iload_n 1, 1), (.iconst 4, 1)] ((.invokevirtual 326, 3) :: ([(.ireturn, 1)]))) := m_Fe_of nd2485 24 5 rfl
theorem eF12_led_81 : m_Fe mi12_85 81 (m_ap [(.aload_n 0, 1), (.iload_n 1, 1)] ((.invokevirtual 335, 3) :: ([(.ireturn, 1)]))) := m_Fe_of nd2485 29 4 rfl
theorem eF12_led_87 : m_Fe mi12_85 87 (m_ap [(.aload_n 0, 1), (.iload_n 1, 1), (.iconst 5, 1)] ((.invokevirtual 326, 3) :: ([(.ireturn, 1)]))) := m_Fe_of nd2485 33 5 rfl
theorem eF12_led_94 : m_Fe mi12_85 94 (m_ap [(.aload_n 0, 1), (.iload_n 1, 1), (.bipush 6, 2)] ((.invokevirtual 326, 3) :: ([(.ireturn, 1)]))) := m_Fe_of nd2485 38 5 rfl
theorem eF12_led_18 : m_Fe mi12_85 18 (m_ap [(.iconst 0, 1)] ([(.ireturn, 1)])) := m_Fe_of nd2485 10 2 rfl
theorem SF12_led_0 {xs : Nat → Int32} {L : Nat} (x0 : Nat) (x1 : Int32) (x2 : Int32) (hp : m_H) {r : m_O × m_H} {K : (Int32 × m_H) → Prop} (k0 : ∀ x, K x → r = (.inl (some (.int x.1)), x.2)) {t : Int32 × m_H} (h : F12_led_0 x0 x1 x2 hp = some t) (hK : K t) : m_Rn xs L 3 2485 0 [(0, .ref x0), (1, .int x1), (2, .int x2)] [] hp r := by
  unfold F12_led_0 at h
  refine g_in eF12_led_0 mx2485 ?_
  refine g_ch [(0, .ref x0), (1, .int x1), (2, .int x2)] [.int 0, .ref x0] (pc' := 2) rfl rfl rfl ?_
  obtain ⟨h1, e2, h⟩ := m_bd h
  refine g_pf q12_f3 e2 ?_
  refine g_ch [(0, .ref x0), (1, .int x1), (2, .int x2)] [.int x1, .ref x0, .ref x0] (pc' := 8) rfl rfl rfl ?_
  obtain ⟨v4, e3, h⟩ := m_bd h
  refine g_call (v := some (.int v4)) (h := h1) (st' := [.int v4, .ref x0]) (D1 := 1) (as := [.ref x0, .int x1]) (Or.inr (Or.inl rfl)) q12_m329 (m_cv (as := [.int x1]) (rest := [.ref x0]) (Or.inl rfl) q12_m329 jv2479 (OF12_noShip e3) rfl rfl rfl rfl) (by decide) (SF12_noShip e3) rfl ?_
  refine g_ch [(0, .ref x0), (1, .int x1), (2, .int x2)] [.int 1, .int v4, .ref x0] (pc' := 12) rfl rfl rfl ?_
  obtain ⟨z6, e5, h⟩ := m_bd h
  refine g_call (v := some (.int z6.1)) (h := z6.2) (st' := [.int z6.1]) (D1 := 0) (as := [.ref x0, .int v4, .int 1]) (Or.inr (Or.inl rfl)) q12_m82 (m_cv (as := [.int 1, .int v4]) (rest := []) (Or.inl rfl) q12_m82 jv2401 (OF12_throwsIf e5) rfl rfl rfl rfl) (by decide) (SF12_throwsIf e5) rfl ?_
  rcases m_ifd h with ⟨c7, h⟩ | ⟨c7, h⟩
  · refine g_ifc (t := 20) rfl (m_eqT c7) ?_
    refine g_in eF12_led_20 mx2485 ?_
    refine g_ch [(0, .ref x0), (1, .int x1), (2, .int x2)] [.int x2] (pc' := 21) rfl rfl rfl ?_
    rcases m_swd h with ⟨e9, h⟩ | ⟨w8, e9, h⟩
    · refine g_swd e9 (t := 102) rfl ?_
      refine g_in eF12_led_102 mx2485 ?_
      refine g_ch [(0, .ref x0), (1, .int x1), (2, .int x2)] [.int 2, .ref x0] (pc' := 104) rfl rfl rfl ?_
      obtain ⟨h10, e11, h⟩ := m_bd h
      refine g_pf q12_f3 e11 ?_
      refine g_ch [(0, .ref x0), (1, .int x1), (2, .int x2)] [.int 0] (pc' := 108) rfl rfl rfl ?_
      cases h
      rw [k0 _ hK]
      exact g_iret rfl rfl
    · rcases m_ifd h with ⟨c12, hc12⟩ | ⟨c12, h⟩
      · subst c12
        have h := hc12
        refine g_sw (o := 39) (t := 60) e9 rfl rfl ?_
        refine g_in eF12_led_60 mx2485 ?_
        refine g_ch [(0, .ref x0), (1, .int x1), (2, .int x2)] [.int 2, .int x1, .ref x0] (pc' := 63) rfl rfl rfl ?_
        obtain ⟨v14, e13, h⟩ := m_bd h
        refine g_call (v := some (.int v14)) (h := z6.2) (st' := [.int v14]) (D1 := 1) (as := [.ref x0, .int x1, .int 2]) (Or.inr (Or.inl rfl)) q12_m326 (m_cv (as := [.int 2, .int x1]) (rest := []) (Or.inl rfl) q12_m326 jv2477 (OF12_its e13) rfl rfl rfl rfl) (by decide) (SF12_its e13) rfl ?_
        cases h
        rw [k0 _ hK]
        exact g_iret rfl rfl
      rcases m_ifd h with ⟨c15, hc15⟩ | ⟨c15, h⟩
      · subst c15
        have h := hc15
        refine g_sw (o := 46) (t := 67) e9 rfl rfl ?_
        refine g_in eF12_led_67 mx2485 ?_
        refine g_ch [(0, .ref x0), (1, .int x1), (2, .int x2)] [.int 3, .int x1, .ref x0] (pc' := 70) rfl rfl rfl ?_
        obtain ⟨v17, e16, h⟩ := m_bd h
        refine g_call (v := some (.int v17)) (h := z6.2) (st' := [.int v17]) (D1 := 1) (as := [.ref x0, .int x1, .int 3]) (Or.inr (Or.inl rfl)) q12_m326 (m_cv (as := [.int 3, .int x1]) (rest := []) (Or.inl rfl) q12_m326 jv2477 (OF12_its e16) rfl rfl rfl rfl) (by decide) (SF12_its e16) rfl ?_
        cases h
        rw [k0 _ hK]
        exact g_iret rfl rfl
      rcases m_ifd h with ⟨c18, hc18⟩ | ⟨c18, h⟩
      · subst c18
        have h := hc18
        refine g_sw (o := 53) (t := 74) e9 rfl rfl ?_
        refine g_in eF12_led_74 mx2485 ?_
        refine g_ch [(0, .ref x0), (1, .int x1), (2, .int x2)] [.int 4, .int x1, .ref x0] (pc' := 77) rfl rfl rfl ?_
        obtain ⟨v20, e19, h⟩ := m_bd h
        refine g_call (v := some (.int v20)) (h := z6.2) (st' := [.int v20]) (D1 := 1) (as := [.ref x0, .int x1, .int 4]) (Or.inr (Or.inl rfl)) q12_m326 (m_cv (as := [.int 4, .int x1]) (rest := []) (Or.inl rfl) q12_m326 jv2477 (OF12_its e19) rfl rfl rfl rfl) (by decide) (SF12_its e19) rfl ?_
        cases h
        rw [k0 _ hK]
        exact g_iret rfl rfl
      rcases m_ifd h with ⟨c21, hc21⟩ | ⟨c21, h⟩
      · subst c21
        have h := hc21
        refine g_sw (o := 60) (t := 81) e9 rfl rfl ?_
        refine g_in eF12_led_81 mx2485 ?_
        refine g_ch [(0, .ref x0), (1, .int x1), (2, .int x2)] [.int x1, .ref x0] (pc' := 83) rfl rfl rfl ?_
        obtain ⟨v23, e22, h⟩ := m_bd h
        refine g_call (v := some (.int v23)) (h := z6.2) (st' := [.int v23]) (D1 := 2) (as := [.ref x0, .int x1]) (Or.inr (Or.inl rfl)) q12_m335 (m_cv (as := [.int x1]) (rest := []) (Or.inl rfl) q12_m335 jv2481 (OF12_tonsIn e22) rfl rfl rfl rfl) (by decide) (SF12_tonsIn e22) rfl ?_
        cases h
        rw [k0 _ hK]
        exact g_iret rfl rfl
      rcases m_ifd h with ⟨c24, hc24⟩ | ⟨c24, h⟩
      · subst c24
        have h := hc24
        refine g_sw (o := 66) (t := 87) e9 rfl rfl ?_
        refine g_in eF12_led_87 mx2485 ?_
        refine g_ch [(0, .ref x0), (1, .int x1), (2, .int x2)] [.int 5, .int x1, .ref x0] (pc' := 90) rfl rfl rfl ?_
        obtain ⟨v26, e25, h⟩ := m_bd h
        refine g_call (v := some (.int v26)) (h := z6.2) (st' := [.int v26]) (D1 := 1) (as := [.ref x0, .int x1, .int 5]) (Or.inr (Or.inl rfl)) q12_m326 (m_cv (as := [.int 5, .int x1]) (rest := []) (Or.inl rfl) q12_m326 jv2477 (OF12_its e25) rfl rfl rfl rfl) (by decide) (SF12_its e25) rfl ?_
        cases h
        rw [k0 _ hK]
        exact g_iret rfl rfl
      rcases m_ifd h with ⟨c27, hc27⟩ | ⟨c27, h⟩
      · subst c27
        have h := hc27
        refine g_sw (o := 73) (t := 94) e9 rfl rfl ?_
        refine g_in eF12_led_94 mx2485 ?_
        refine g_ch [(0, .ref x0), (1, .int x1), (2, .int x2)] [.int 6, .int x1, .ref x0] (pc' := 98) rfl rfl rfl ?_
        obtain ⟨v29, e28, h⟩ := m_bd h
        refine g_call (v := some (.int v29)) (h := z6.2) (st' := [.int v29]) (D1 := 1) (as := [.ref x0, .int x1, .int 6]) (Or.inr (Or.inl rfl)) q12_m326 (m_cv (as := [.int 6, .int x1]) (rest := []) (Or.inl rfl) q12_m326 jv2477 (OF12_its e28) rfl rfl rfl rfl) (by decide) (SF12_its e28) rfl ?_
        cases h
        rw [k0 _ hK]
        exact g_iret rfl rfl
      cases h
  · refine g_ifcn (t := 20) rfl (m_eqF c7) ?_
    refine g_in eF12_led_18 mx2485 ?_
    refine g_ch [(0, .ref x0), (1, .int x1), (2, .int x2)] [.int 0] (pc' := 19) rfl rfl rfl ?_
    cases h
    rw [k0 _ hK]
    exact g_iret rfl rfl
theorem OF12_led {x0 : Nat} {x1 : Int32} {x2 : Int32} {hp : m_H} {x : Int32 × m_H} (h : F12_led x0 x1 x2 hp = some x) : m_isO hp 9 x0 = true := (m_gdd h).1
theorem SF12_led {xs : Nat → Int32} {L : Nat} {x0 : Nat} {x1 : Int32} {x2 : Int32} {hp : m_H} {x : Int32 × m_H} (h : F12_led x0 x1 x2 hp = some x) : m_Rn xs L 3 2485 0 (lv_args 0 [.ref x0, .int x1, .int x2]) [] hp (.inl (some (.int x.1)), x.2) :=
  r_lv (SF12_led_0 x0 x1 x2 hp (K := fun y => y = x) (fun y e => by rw [e]) (m_gdd h).2 rfl) rfl ⟨rfl, rfl, rfl, trivial⟩
-- F12_isOrder: LendHouseModel.isOrder(I)Z
theorem eF12_isOrder_0 : m_Fe mi12_86 0 (m_ap [(.aload_n 0, 1), (.iload_n 1, 1)] ((.invokevirtual 128, 3) :: ([(.ifCond .eq 17, 3)]))) := m_Fe_of nd2486 0 4 rfl
theorem eF12_isOrder_22 : m_Fe mi12_86 22 (m_ap [(.iconst 0, 1)] ([])) := m_Fe_of nd2486 11 1 rfl
theorem eF12_isOrder_23 : m_Fe mi12_86 23 ([(.ireturn, 1)]) := m_Fe_of nd2486 12 1 rfl
theorem eF12_isOrder_8 : m_Fe mi12_86 8 (m_ap [(.aload_n 0, 1), (.iload_n 1, 1), (.bipush 10, 2)] ((.invokevirtual 115, 3) :: ([(.ifCond .le 7, 3)]))) := m_Fe_of nd2486 4 5 rfl
theorem eF12_isOrder_18 : m_Fe mi12_86 18 (m_ap [(.iconst 1, 1)] ([(.goto 4, 3)])) := m_Fe_of nd2486 9 2 rfl
theorem SF12_isOrder_0 {xs : Nat → Int32} {L : Nat} (x0 : Nat) (x1 : Int32) (hp : m_H) {r : m_O × m_H} {K : Int32 → Prop} (k0 : ∀ x, K x → r = (.inl (some (.int x)), hp)) {t : Int32} (h : F12_isOrder_0 x0 x1 hp = some t) (hK : K t) : m_Rn xs L 3 2486 0 [(0, .ref x0), (1, .int x1)] [] hp r := by
  unfold F12_isOrder_0 at h
  refine g_in eF12_isOrder_0 mx2486 ?_
  refine g_ch [(0, .ref x0), (1, .int x1)] [.int x1, .ref x0] (pc' := 2) rfl rfl rfl ?_
  obtain ⟨v2, e1, h⟩ := m_bd h
  refine g_call (v := some (.int v2)) (h := hp) (st' := [.int v2]) (D1 := 2) (as := [.ref x0, .int x1]) (Or.inr (Or.inl rfl)) q12_m128 (m_cv (as := [.int x1]) (rest := []) (Or.inl rfl) q12_m128 jv2430 (OF12_isStock e1) rfl rfl rfl rfl) (by decide) (SF12_isStock e1) rfl ?_
  rcases m_ifd h with ⟨c3, h⟩ | ⟨c3, h⟩
  · refine g_ifc (t := 22) rfl (m_eqT c3) ?_
    refine g_in eF12_isOrder_22 mx2486 ?_
    refine g_ch [(0, .ref x0), (1, .int x1)] [.int 0] (pc' := 23) rfl rfl rfl ?_
    refine g_end ?_
    refine g_in eF12_isOrder_23 mx2486 ?_
    cases h
    rw [k0 _ hK]
    exact g_iret rfl (by decide +kernel)
  · refine g_ifcn (t := 22) rfl (m_eqF c3) ?_
    refine g_in eF12_isOrder_8 mx2486 ?_
    refine g_ch [(0, .ref x0), (1, .int x1)] [.int 10, .int x1, .ref x0] (pc' := 12) rfl rfl rfl ?_
    obtain ⟨v5, e4, h⟩ := m_bd h
    refine g_call (v := some (.int v5)) (h := hp) (st' := [.int v5]) (D1 := 1) (as := [.ref x0, .int x1, .int 10]) (Or.inr (Or.inl rfl)) q12_m115 (m_cv (as := [.int 10, .int x1]) (rest := []) (Or.inl rfl) q12_m115 jv2426 (OF12_of e4) rfl rfl rfl rfl) (by decide) (SF12_of e4) rfl ?_
    rcases m_ifd h with ⟨c6, h⟩ | ⟨c6, h⟩
    · refine g_ifc (t := 22) rfl (m_leT c6) ?_
      refine g_in eF12_isOrder_22 mx2486 ?_
      refine g_ch [(0, .ref x0), (1, .int x1)] [.int 0] (pc' := 23) rfl rfl rfl ?_
      refine g_end ?_
      refine g_in eF12_isOrder_23 mx2486 ?_
      cases h
      rw [k0 _ hK]
      exact g_iret rfl (by decide +kernel)
    · refine g_ifcn (t := 22) rfl (m_leF c6) ?_
      refine g_in eF12_isOrder_18 mx2486 ?_
      refine g_ch [(0, .ref x0), (1, .int x1)] [.int 1] (pc' := 19) rfl rfl rfl ?_
      refine g_goto (t := 23) rfl ?_
      refine g_in eF12_isOrder_23 mx2486 ?_
      cases h
      rw [k0 _ hK]
      exact g_iret rfl (by decide +kernel)
theorem OF12_isOrder {x0 : Nat} {x1 : Int32} {hp : m_H} {x : Int32} (h : F12_isOrder x0 x1 hp = some x) : m_isO hp 9 x0 = true := (m_gdd h).1
theorem SF12_isOrder {xs : Nat → Int32} {L : Nat} {x0 : Nat} {x1 : Int32} {hp : m_H} {x : Int32} (h : F12_isOrder x0 x1 hp = some x) : m_Rn xs L 3 2486 0 (lv_args 0 [.ref x0, .int x1]) [] hp (.inl (some (.int x)), hp) :=
  r_lv (SF12_isOrder_0 x0 x1 hp (K := fun y => y = x) (fun y e => by rw [e]) (m_gdd h).2 rfl) rfl ⟨rfl, rfl, trivial⟩
-- F12_makes: LendHouseModel.makes()V
theorem eF12_makes_0 : m_Fe mi12_87 0 (m_ap [(.iconst 0, 1), (.istore_n 1, 1)] ([])) := m_Fe_of nd2487 0 2 rfl
theorem eF12_makes_2 : m_Fe mi12_87 2 (m_ap [(.iload_n 1, 1), (.aload_n 0, 1)] ((.getfield 14, 3) :: (m_ap [(.sipush 807, 3)] ((.iaload, 1) :: ([(.if_icmp .ge 80, 3)]))))) := m_Fe_of nd2487 2 6 rfl
theorem eF12_makes_91 : m_Fe mi12_87 91 (m_ap [(.aload_n 0, 1)] ((.getfield 14, 3) :: (m_ap [(.iconst 2, 1)] ((.iaload, 1) :: (m_ap [(.istore_n 1, 1), (.iconst 0, 1), (.istore_n 2, 1)] ([])))))) := m_Fe_of nd2487 55 7 rfl
theorem eF12_makes_14 : m_Fe mi12_87 14 (m_ap [(.aload_n 0, 1), (.iload_n 1, 1), (.iconst 1, 1)] ((.invokevirtual 115, 3) :: (m_ap [(.aload_n 0, 1), (.aload_n 0, 1), (.iload_n 1, 1), (.iconst 0, 1)] ((.invokevirtual 115, 3) :: (m_ap [(.iconst 1, 1)] ((.invokevirtual 256, 3) :: (m_ap [(.imul, 1), (.istore_n 2, 1), (.aload_n 0, 1), (.iload_n 1, 1)] ((.invokevirtual 341, 3) :: ([(.ifCond .eq 47, 3)]))))))))) := m_Fe_of nd2487 8 17 rfl
theorem eF12_makes_85 : m_Fe mi12_87 85 (m_ap [(.iinc 1 1, 3)] ([(.goto (-86), 3)])) := m_Fe_of nd2487 53 2 rfl
theorem eF12_makes_41 : m_Fe mi12_87 41 (m_ap [(.aload_n 0, 1), (.iload_n 1, 1), (.iconst 5, 1)] ((.invokevirtual 115, 3) :: (m_ap [(.iconst 1, 1)] ([(.if_icmp .eq 37, 3)])))) := m_Fe_of nd2487 25 6 rfl
theorem eF12_makes_51 : m_Fe mi12_87 51 (m_ap [(.iload_n 2, 1), (.aload_n 0, 1)] ((.getfield 14, 3) :: (m_ap [(.iconst 1, 1)] ((.iaload, 1) :: ([(.if_icmp .le 6, 3)]))))) := m_Fe_of nd2487 31 6 rfl
theorem eF12_makes_64 : m_Fe mi12_87 64 (m_ap [(.aload_n 0, 1)] ((.getfield 14, 3) :: (m_ap [(.iconst 1, 1), (.dup2, 1)] ((.iaload, 1) :: (m_ap [(.iload_n 2, 1), (.isub, 1)] ((.iastore, 1) :: (m_ap [(.aload_n 0, 1)] ((.getfield 14, 3) :: (m_ap [(.iload_n 1, 1), (.iconst 5, 1)] ((.invokestatic 112, 3) :: (m_ap [(.iconst 1, 1)] ([(.iastore, 1)])))))))))))) := m_Fe_of nd2487 38 15 rfl
theorem eF12_makes_61 : m_Fe mi12_87 61 ([(.goto 24, 3)]) := m_Fe_of nd2487 37 1 rfl
theorem eF12_makes_100 : m_Fe mi12_87 100 (m_ap [(.iload_n 2, 1), (.aload_n 0, 1)] ((.getfield 14, 3) :: (m_ap [(.sipush 807, 3)] ((.iaload, 1) :: ([(.if_icmp .ge 104, 3)]))))) := m_Fe_of nd2487 62 6 rfl
theorem eF12_makes_213 : m_Fe mi12_87 213 ([(.return_, 1)]) := m_Fe_of nd2487 131 1 rfl
theorem eF12_makes_112 : m_Fe mi12_87 112 (m_ap [(.aload_n 0, 1), (.iload_n 2, 1), (.iconst 1, 1)] ((.invokevirtual 115, 3) :: (m_ap [(.aload_n 0, 1), (.aload_n 0, 1), (.iload_n 2, 1), (.iconst 0, 1)] ((.invokevirtual 115, 3) :: (m_ap [(.iconst 2, 1)] ((.invokevirtual 256, 3) :: (m_ap [(.imul, 1), (.istore_n 3, 1), (.aload_n 0, 1), (.iload_n 2, 1)] ((.invokevirtual 341, 3) :: ([(.ifCond .eq 71, 3)]))))))))) := m_Fe_of nd2487 68 17 rfl
theorem eF12_makes_207 : m_Fe mi12_87 207 (m_ap [(.iinc 2 1, 3)] ([(.goto (-110), 3)])) := m_Fe_of nd2487 129 2 rfl
theorem eF12_makes_139 : m_Fe mi12_87 139 (m_ap [(.aload_n 0, 1), (.iload_n 2, 1), (.iconst 5, 1)] ((.invokevirtual 115, 3) :: ([(.ifCond .eq 62, 3)]))) := m_Fe_of nd2487 85 5 rfl
theorem eF12_makes_148 : m_Fe mi12_87 148 (m_ap [(.iload_n 3, 1), (.iload_n 1, 1)] ([(.if_icmp .le 6, 3)])) := m_Fe_of nd2487 90 3 rfl
theorem eF12_makes_156 : m_Fe mi12_87 156 (m_ap [(.iload_n 1, 1), (.iload_n 3, 1), (.isub, 1), (.istore_n 1, 1), (.aload_n 0, 1)] ((.getfield 14, 3) :: (m_ap [(.iload_n 2, 1), (.iconst 4, 1)] ((.invokestatic 112, 3) :: (m_ap [(.dup2, 1)] ((.iaload, 1) :: (m_ap [(.iconst 1, 1), (.iadd, 1)] ((.iastore, 1) :: (m_ap [(.aload_n 0, 1), (.iload_n 2, 1), (.iconst 4, 1)] ((.invokevirtual 115, 3) :: (m_ap [(.aload_n 0, 1), (.aload_n 0, 1), (.iload_n 2, 1), (.iconst 0, 1)] ((.invokevirtual 115, 3) :: (m_ap [(.iconst 3, 1)] ((.invokevirtual 256, 3) :: ([(.if_icmp .lt 16, 3)]))))))))))))))) := m_Fe_of nd2487 94 26 rfl
theorem eF12_makes_194 : m_Fe mi12_87 194 (m_ap [(.aload_n 0, 1), (.iload_n 2, 1), (.iconst 0, 1), (.iconst 1, 1), (.aload_n 0, 1), (.iload_n 2, 1), (.iconst 1, 1)] ((.invokevirtual 115, 3) :: ([(.invokevirtual 338, 3)]))) := m_Fe_of nd2487 120 9 rfl
theorem eF12_makes_153 : m_Fe mi12_87 153 ([(.goto 54, 3)]) := m_Fe_of nd2487 93 1 rfl
theorem SF12_makes_100b {xs : Nat → Int32} {L : Nat} (x0 : Nat) (s : Int32 × Int32 × m_H) {r : m_O × m_H} {K : ((Int32 × Int32 × m_H) ⊕ m_H) → Prop} (k0 : ∀ x, K (.inr x) → r = (.inl none, x)) (k1 : ∀ s, K (.inl s) → m_Rn xs L 4 2487 100 [(0, .ref x0), (1, .int s.1), (2, .int s.2.1)] [] s.2.2 r) {t : (Int32 × Int32 × m_H) ⊕ m_H} (h : F12_makes_100b x0 s = some t) (hK : K t) : m_Rn xs L 4 2487 100 [(0, .ref x0), (1, .int s.1), (2, .int s.2.1)] [] s.2.2 r := by
  unfold F12_makes_100b at h
  refine g_in eF12_makes_100 mx2487 ?_
  refine g_ch [(0, .ref x0), (1, .int s.1), (2, .int s.2.1)] [.ref x0, .int s.2.1] (pc' := 102) rfl rfl rfl ?_
  obtain ⟨v1, e2, h⟩ := m_bd h
  refine g_gr q12_f14 e2 ?_
  refine g_ch [(0, .ref x0), (1, .int s.1), (2, .int s.2.1)] [.int 807, .ref v1, .int s.2.1] (pc' := 108) rfl rfl rfl ?_
  obtain ⟨v3, e4, h⟩ := m_bd h
  refine g_ia e4 ?_
  rcases m_ifd h with ⟨c5, h⟩ | ⟨c5, h⟩
  · refine g_if (t := 213) rfl (m_geT c5) ?_
    refine g_in eF12_makes_213 mx2487 ?_
    cases h
    rw [k0 _ hK]
    exact g_vret rfl
  · refine g_ifn (t := 213) rfl (m_geF c5) ?_
    refine g_in eF12_makes_112 mx2487 ?_
    refine g_ch [(0, .ref x0), (1, .int s.1), (2, .int s.2.1)] [.int 1, .int s.2.1, .ref x0] (pc' := 115) rfl rfl rfl ?_
    obtain ⟨v7, e6, h⟩ := m_bd h
    refine g_call (v := some (.int v7)) (h := s.2.2) (st' := [.int v7]) (D1 := 1) (as := [.ref x0, .int s.2.1, .int 1]) (Or.inr (Or.inl rfl)) q12_m115 (m_cv (as := [.int 1, .int s.2.1]) (rest := []) (Or.inl rfl) q12_m115 jv2426 (OF12_of e6) rfl rfl rfl rfl) (by decide) (SF12_of e6) rfl ?_
    refine g_ch [(0, .ref x0), (1, .int s.1), (2, .int s.2.1)] [.int 0, .int s.2.1, .ref x0, .ref x0, .int v7] (pc' := 122) rfl rfl rfl ?_
    obtain ⟨v9, e8, h⟩ := m_bd h
    refine g_call (v := some (.int v9)) (h := s.2.2) (st' := [.int v9, .ref x0, .int v7]) (D1 := 1) (as := [.ref x0, .int s.2.1, .int 0]) (Or.inr (Or.inl rfl)) q12_m115 (m_cv (as := [.int 0, .int s.2.1]) (rest := [.ref x0, .int v7]) (Or.inl rfl) q12_m115 jv2426 (OF12_of e8) rfl rfl rfl rfl) (by decide) (SF12_of e8) rfl ?_
    refine g_ch [(0, .ref x0), (1, .int s.1), (2, .int s.2.1)] [.int 2, .int v9, .ref x0, .int v7] (pc' := 126) rfl rfl rfl ?_
    obtain ⟨v11, e10, h⟩ := m_bd h
    refine g_call (v := some (.int v11)) (h := s.2.2) (st' := [.int v11, .int v7]) (D1 := 0) (as := [.ref x0, .int v9, .int 2]) (Or.inr (Or.inl rfl)) q12_m256 (m_cv (as := [.int 2, .int v9]) (rest := [.int v7]) (Or.inl rfl) q12_m256 jv2412 (OF12_sortOf e10) rfl rfl rfl rfl) (by decide) (SF12_sortOf e10) rfl ?_
    refine g_ch [(3, .int (v7 * v11)), (0, .ref x0), (1, .int s.1), (2, .int s.2.1)] [.int s.2.1, .ref x0] (pc' := 133) rfl rfl rfl ?_
    obtain ⟨v13, e12, h⟩ := m_bd h
    refine g_call (v := some (.int v13)) (h := s.2.2) (st' := [.int v13]) (D1 := 3) (as := [.ref x0, .int s.2.1]) (Or.inr (Or.inl rfl)) q12_m341 (m_cv (as := [.int s.2.1]) (rest := []) (Or.inl rfl) q12_m341 jv2486 (OF12_isOrder e12) rfl rfl rfl rfl) (by decide) (SF12_isOrder e12) rfl ?_
    rcases m_ifd h with ⟨c14, h⟩ | ⟨c14, h⟩
    · refine g_ifc (t := 207) rfl (m_eqT c14) ?_
      refine g_in eF12_makes_207 mx2487 ?_
      refine g_ch [(2, .int (s.2.1 + 1)), (3, .int (v7 * v11)), (0, .ref x0), (1, .int s.1)] [] (pc' := 210) rfl rfl rfl ?_
      refine g_goto (t := 100) rfl ?_
      cases h
      exact r_lv (k1 (s.1, (s.2.1 + 1), s.2.2) hK) rfl ⟨rfl, rfl, rfl, trivial⟩
    · refine g_ifcn (t := 207) rfl (m_eqF c14) ?_
      refine g_in eF12_makes_139 mx2487 ?_
      refine g_ch [(3, .int (v7 * v11)), (0, .ref x0), (1, .int s.1), (2, .int s.2.1)] [.int 5, .int s.2.1, .ref x0] (pc' := 142) rfl rfl rfl ?_
      obtain ⟨v16, e15, h⟩ := m_bd h
      refine g_call (v := some (.int v16)) (h := s.2.2) (st' := [.int v16]) (D1 := 1) (as := [.ref x0, .int s.2.1, .int 5]) (Or.inr (Or.inl rfl)) q12_m115 (m_cv (as := [.int 5, .int s.2.1]) (rest := []) (Or.inl rfl) q12_m115 jv2426 (OF12_of e15) rfl rfl rfl rfl) (by decide) (SF12_of e15) rfl ?_
      rcases m_ifd h with ⟨c17, h⟩ | ⟨c17, h⟩
      · refine g_ifc (t := 207) rfl (m_eqT c17) ?_
        refine g_in eF12_makes_207 mx2487 ?_
        refine g_ch [(2, .int (s.2.1 + 1)), (3, .int (v7 * v11)), (0, .ref x0), (1, .int s.1)] [] (pc' := 210) rfl rfl rfl ?_
        refine g_goto (t := 100) rfl ?_
        cases h
        exact r_lv (k1 (s.1, (s.2.1 + 1), s.2.2) hK) rfl ⟨rfl, rfl, rfl, trivial⟩
      · refine g_ifcn (t := 207) rfl (m_eqF c17) ?_
        refine g_in eF12_makes_148 mx2487 ?_
        refine g_ch [(3, .int (v7 * v11)), (0, .ref x0), (1, .int s.1), (2, .int s.2.1)] [.int s.1, .int (v7 * v11)] (pc' := 150) rfl rfl rfl ?_
        rcases m_ifd h with ⟨c18, h⟩ | ⟨c18, h⟩
        · refine g_if (t := 156) rfl (m_leT c18) ?_
          refine g_in eF12_makes_156 mx2487 ?_
          refine g_ch [(1, .int (s.1 - (v7 * v11))), (3, .int (v7 * v11)), (0, .ref x0), (2, .int s.2.1)] [.ref x0] (pc' := 161) rfl rfl rfl ?_
          obtain ⟨v19, e20, h⟩ := m_bd h
          refine g_gr q12_f14 e20 ?_
          refine g_ch [(1, .int (s.1 - (v7 * v11))), (3, .int (v7 * v11)), (0, .ref x0), (2, .int s.2.1)] [.int 4, .int s.2.1, .ref v19] (pc' := 166) rfl rfl rfl ?_
          obtain ⟨v22, e21, h⟩ := m_bd h
          refine g_call (v := some (.int v22)) (h := s.2.2) (st' := [.int v22, .ref v19]) (D1 := 0) (as := [.int s.2.1, .int 4]) (Or.inl rfl) q12_m112 (m_cs (as := [.int 4, .int s.2.1]) (rest := [.ref v19]) q12_m112 jv2425 rfl rfl rfl rfl rfl) (by decide) (SF12_lotAt e21) rfl ?_
          refine g_ch [(1, .int (s.1 - (v7 * v11))), (3, .int (v7 * v11)), (0, .ref x0), (2, .int s.2.1)] [.int v22, .ref v19, .int v22, .ref v19] (pc' := 170) rfl rfl rfl ?_
          obtain ⟨v23, e24, h⟩ := m_bd h
          refine g_ia e24 ?_
          refine g_ch [(1, .int (s.1 - (v7 * v11))), (3, .int (v7 * v11)), (0, .ref x0), (2, .int s.2.1)] [.int (v23 + 1), .int v22, .ref v19] (pc' := 173) rfl rfl rfl ?_
          obtain ⟨h25, e26, h⟩ := m_bd h
          refine g_is e26 ?_
          refine g_ch [(1, .int (s.1 - (v7 * v11))), (3, .int (v7 * v11)), (0, .ref x0), (2, .int s.2.1)] [.int 4, .int s.2.1, .ref x0] (pc' := 177) rfl rfl rfl ?_
          obtain ⟨v28, e27, h⟩ := m_bd h
          refine g_call (v := some (.int v28)) (h := h25) (st' := [.int v28]) (D1 := 1) (as := [.ref x0, .int s.2.1, .int 4]) (Or.inr (Or.inl rfl)) q12_m115 (m_cv (as := [.int 4, .int s.2.1]) (rest := []) (Or.inl rfl) q12_m115 jv2426 (OF12_of e27) rfl rfl rfl rfl) (by decide) (SF12_of e27) rfl ?_
          refine g_ch [(1, .int (s.1 - (v7 * v11))), (3, .int (v7 * v11)), (0, .ref x0), (2, .int s.2.1)] [.int 0, .int s.2.1, .ref x0, .ref x0, .int v28] (pc' := 184) rfl rfl rfl ?_
          obtain ⟨v30, e29, h⟩ := m_bd h
          refine g_call (v := some (.int v30)) (h := h25) (st' := [.int v30, .ref x0, .int v28]) (D1 := 1) (as := [.ref x0, .int s.2.1, .int 0]) (Or.inr (Or.inl rfl)) q12_m115 (m_cv (as := [.int 0, .int s.2.1]) (rest := [.ref x0, .int v28]) (Or.inl rfl) q12_m115 jv2426 (OF12_of e29) rfl rfl rfl rfl) (by decide) (SF12_of e29) rfl ?_
          refine g_ch [(1, .int (s.1 - (v7 * v11))), (3, .int (v7 * v11)), (0, .ref x0), (2, .int s.2.1)] [.int 3, .int v30, .ref x0, .int v28] (pc' := 188) rfl rfl rfl ?_
          obtain ⟨v32, e31, h⟩ := m_bd h
          refine g_call (v := some (.int v32)) (h := h25) (st' := [.int v32, .int v28]) (D1 := 0) (as := [.ref x0, .int v30, .int 3]) (Or.inr (Or.inl rfl)) q12_m256 (m_cv (as := [.int 3, .int v30]) (rest := [.int v28]) (Or.inl rfl) q12_m256 jv2412 (OF12_sortOf e31) rfl rfl rfl rfl) (by decide) (SF12_sortOf e31) rfl ?_
          rcases m_ifd h with ⟨c33, h⟩ | ⟨c33, h⟩
          · refine g_if (t := 207) rfl (m_ltT c33) ?_
            refine g_in eF12_makes_207 mx2487 ?_
            refine g_ch [(2, .int (s.2.1 + 1)), (1, .int (s.1 - (v7 * v11))), (3, .int (v7 * v11)), (0, .ref x0)] [] (pc' := 210) rfl rfl rfl ?_
            refine g_goto (t := 100) rfl ?_
            cases h
            exact r_lv (k1 ((s.1 - (v7 * v11)), (s.2.1 + 1), h25) hK) rfl ⟨rfl, rfl, rfl, trivial⟩
          · refine g_ifn (t := 207) rfl (m_ltF c33) ?_
            refine g_in eF12_makes_194 mx2487 ?_
            refine g_ch [(1, .int (s.1 - (v7 * v11))), (3, .int (v7 * v11)), (0, .ref x0), (2, .int s.2.1)] [.int 1, .int s.2.1, .ref x0, .int 1, .int 0, .int s.2.1, .ref x0] (pc' := 201) rfl rfl rfl ?_
            obtain ⟨v35, e34, h⟩ := m_bd h
            refine g_call (v := some (.int v35)) (h := h25) (st' := [.int v35, .int 1, .int 0, .int s.2.1, .ref x0]) (D1 := 1) (as := [.ref x0, .int s.2.1, .int 1]) (Or.inr (Or.inl rfl)) q12_m115 (m_cv (as := [.int 1, .int s.2.1]) (rest := [.int 1, .int 0, .int s.2.1, .ref x0]) (Or.inl rfl) q12_m115 jv2426 (OF12_of e34) rfl rfl rfl rfl) (by decide) (SF12_of e34) rfl ?_
            obtain ⟨h37, e36, h⟩ := m_bd h
            refine g_call (v := none) (h := h37) (st' := []) (D1 := 1) (as := [.ref x0, .int s.2.1, .int 0, .int 1, .int v35]) (Or.inr (Or.inl rfl)) q12_m338 (m_cv (as := [.int v35, .int 1, .int 0, .int s.2.1]) (rest := []) (Or.inl rfl) q12_m338 jv2429 (OF12_moves e36) rfl rfl rfl rfl) (by decide) (SF12_moves e36) rfl ?_
            refine g_end ?_
            refine g_in eF12_makes_207 mx2487 ?_
            refine g_ch [(2, .int (s.2.1 + 1)), (1, .int (s.1 - (v7 * v11))), (3, .int (v7 * v11)), (0, .ref x0)] [] (pc' := 210) rfl rfl rfl ?_
            refine g_goto (t := 100) rfl ?_
            cases h
            exact r_lv (k1 ((s.1 - (v7 * v11)), (s.2.1 + 1), h37) hK) rfl ⟨rfl, rfl, rfl, trivial⟩
        · refine g_ifn (t := 156) rfl (m_leF c18) ?_
          refine g_in eF12_makes_153 mx2487 ?_
          refine g_goto (t := 207) rfl ?_
          refine g_in eF12_makes_207 mx2487 ?_
          refine g_ch [(2, .int (s.2.1 + 1)), (3, .int (v7 * v11)), (0, .ref x0), (1, .int s.1)] [] (pc' := 210) rfl rfl rfl ?_
          refine g_goto (t := 100) rfl ?_
          cases h
          exact r_lv (k1 (s.1, (s.2.1 + 1), s.2.2) hK) rfl ⟨rfl, rfl, rfl, trivial⟩
theorem SF12_makes_100 {xs : Nat → Int32} {L : Nat} (x0 : Nat) (x1 : Int32) (x2 : Int32) (hp : m_H) {r : m_O × m_H} {K : m_H → Prop} (k0 : ∀ x, K x → r = (.inl none, x)) {t : m_H} (h : F12_makes_100 x0 x1 x2 hp = some t) (hK : K t) : m_Rn xs L 4 2487 100 [(0, .ref x0), (1, .int x1), (2, .int x2)] [] hp r :=
  m_wh_ok (P := fun s => m_Rn xs L 4 2487 100 [(0, .ref x0), (1, .int s.1), (2, .int s.2.1)] [] s.2.2 r) (Q := K) (fun s t hb hK => SF12_makes_100b x0 s (K := m_KK (fun s => m_Rn xs L 4 2487 100 [(0, .ref x0), (1, .int s.1), (2, .int s.2.1)] [] s.2.2 r) K) k0 (fun _ q => q) hb hK) m_N _ _ h hK
theorem SF12_makes_2b {xs : Nat → Int32} {L : Nat} (x0 : Nat) (s : Int32 × m_H) {r : m_O × m_H} {K : ((Int32 × m_H) ⊕ m_H) → Prop} (k0 : ∀ x, K (.inr x) → r = (.inl none, x)) (k1 : ∀ s, K (.inl s) → m_Rn xs L 4 2487 2 [(0, .ref x0), (1, .int s.1)] [] s.2 r) {t : (Int32 × m_H) ⊕ m_H} (h : F12_makes_2b x0 s = some t) (hK : K t) : m_Rn xs L 4 2487 2 [(0, .ref x0), (1, .int s.1)] [] s.2 r := by
  unfold F12_makes_2b at h
  refine g_in eF12_makes_2 mx2487 ?_
  refine g_ch [(0, .ref x0), (1, .int s.1)] [.ref x0, .int s.1] (pc' := 4) rfl rfl rfl ?_
  obtain ⟨v1, e2, h⟩ := m_bd h
  refine g_gr q12_f14 e2 ?_
  refine g_ch [(0, .ref x0), (1, .int s.1)] [.int 807, .ref v1, .int s.1] (pc' := 10) rfl rfl rfl ?_
  obtain ⟨v3, e4, h⟩ := m_bd h
  refine g_ia e4 ?_
  rcases m_ifd h with ⟨c5, h⟩ | ⟨c5, h⟩
  · refine g_if (t := 91) rfl (m_geT c5) ?_
    refine g_in eF12_makes_91 mx2487 ?_
    refine g_ch [(0, .ref x0), (1, .int s.1)] [.ref x0] (pc' := 92) rfl rfl rfl ?_
    obtain ⟨v6, e7, h⟩ := m_bd h
    refine g_gr q12_f14 e7 ?_
    refine g_ch [(0, .ref x0), (1, .int s.1)] [.int 2, .ref v6] (pc' := 96) rfl rfl rfl ?_
    obtain ⟨v8, e9, h⟩ := m_bd h
    refine g_ia e9 ?_
    refine g_ch [(2, .int 0), (1, .int v8), (0, .ref x0)] [] (pc' := 100) rfl rfl rfl ?_
    refine g_end ?_
    obtain ⟨t', h2, rfl⟩ := Option.map_eq_some_iff.mp h
    exact r_lv (SF12_makes_100 x0 v8 0 s.2 (K := fun t => K (.inr t)) k0 h2 hK) rfl ⟨rfl, rfl, rfl, trivial⟩
  · refine g_ifn (t := 91) rfl (m_geF c5) ?_
    refine g_in eF12_makes_14 mx2487 ?_
    refine g_ch [(0, .ref x0), (1, .int s.1)] [.int 1, .int s.1, .ref x0] (pc' := 17) rfl rfl rfl ?_
    obtain ⟨v11, e10, h⟩ := m_bd h
    refine g_call (v := some (.int v11)) (h := s.2) (st' := [.int v11]) (D1 := 1) (as := [.ref x0, .int s.1, .int 1]) (Or.inr (Or.inl rfl)) q12_m115 (m_cv (as := [.int 1, .int s.1]) (rest := []) (Or.inl rfl) q12_m115 jv2426 (OF12_of e10) rfl rfl rfl rfl) (by decide) (SF12_of e10) rfl ?_
    refine g_ch [(0, .ref x0), (1, .int s.1)] [.int 0, .int s.1, .ref x0, .ref x0, .int v11] (pc' := 24) rfl rfl rfl ?_
    obtain ⟨v13, e12, h⟩ := m_bd h
    refine g_call (v := some (.int v13)) (h := s.2) (st' := [.int v13, .ref x0, .int v11]) (D1 := 1) (as := [.ref x0, .int s.1, .int 0]) (Or.inr (Or.inl rfl)) q12_m115 (m_cv (as := [.int 0, .int s.1]) (rest := [.ref x0, .int v11]) (Or.inl rfl) q12_m115 jv2426 (OF12_of e12) rfl rfl rfl rfl) (by decide) (SF12_of e12) rfl ?_
    refine g_ch [(0, .ref x0), (1, .int s.1)] [.int 1, .int v13, .ref x0, .int v11] (pc' := 28) rfl rfl rfl ?_
    obtain ⟨v15, e14, h⟩ := m_bd h
    refine g_call (v := some (.int v15)) (h := s.2) (st' := [.int v15, .int v11]) (D1 := 0) (as := [.ref x0, .int v13, .int 1]) (Or.inr (Or.inl rfl)) q12_m256 (m_cv (as := [.int 1, .int v13]) (rest := [.int v11]) (Or.inl rfl) q12_m256 jv2412 (OF12_sortOf e14) rfl rfl rfl rfl) (by decide) (SF12_sortOf e14) rfl ?_
    refine g_ch [(2, .int (v11 * v15)), (0, .ref x0), (1, .int s.1)] [.int s.1, .ref x0] (pc' := 35) rfl rfl rfl ?_
    obtain ⟨v17, e16, h⟩ := m_bd h
    refine g_call (v := some (.int v17)) (h := s.2) (st' := [.int v17]) (D1 := 3) (as := [.ref x0, .int s.1]) (Or.inr (Or.inl rfl)) q12_m341 (m_cv (as := [.int s.1]) (rest := []) (Or.inl rfl) q12_m341 jv2486 (OF12_isOrder e16) rfl rfl rfl rfl) (by decide) (SF12_isOrder e16) rfl ?_
    rcases m_ifd h with ⟨c18, h⟩ | ⟨c18, h⟩
    · refine g_ifc (t := 85) rfl (m_eqT c18) ?_
      refine g_in eF12_makes_85 mx2487 ?_
      refine g_ch [(1, .int (s.1 + 1)), (2, .int (v11 * v15)), (0, .ref x0)] [] (pc' := 88) rfl rfl rfl ?_
      refine g_goto (t := 2) rfl ?_
      cases h
      exact r_lv (k1 ((s.1 + 1), s.2) hK) rfl ⟨rfl, rfl, trivial⟩
    · refine g_ifcn (t := 85) rfl (m_eqF c18) ?_
      refine g_in eF12_makes_41 mx2487 ?_
      refine g_ch [(2, .int (v11 * v15)), (0, .ref x0), (1, .int s.1)] [.int 5, .int s.1, .ref x0] (pc' := 44) rfl rfl rfl ?_
      obtain ⟨v20, e19, h⟩ := m_bd h
      refine g_call (v := some (.int v20)) (h := s.2) (st' := [.int v20]) (D1 := 1) (as := [.ref x0, .int s.1, .int 5]) (Or.inr (Or.inl rfl)) q12_m115 (m_cv (as := [.int 5, .int s.1]) (rest := []) (Or.inl rfl) q12_m115 jv2426 (OF12_of e19) rfl rfl rfl rfl) (by decide) (SF12_of e19) rfl ?_
      refine g_ch [(2, .int (v11 * v15)), (0, .ref x0), (1, .int s.1)] [.int 1, .int v20] (pc' := 48) rfl rfl rfl ?_
      rcases m_ifd h with ⟨c21, h⟩ | ⟨c21, h⟩
      · refine g_if (t := 85) rfl (m_eqT c21) ?_
        refine g_in eF12_makes_85 mx2487 ?_
        refine g_ch [(1, .int (s.1 + 1)), (2, .int (v11 * v15)), (0, .ref x0)] [] (pc' := 88) rfl rfl rfl ?_
        refine g_goto (t := 2) rfl ?_
        cases h
        exact r_lv (k1 ((s.1 + 1), s.2) hK) rfl ⟨rfl, rfl, trivial⟩
      · refine g_ifn (t := 85) rfl (m_eqF c21) ?_
        refine g_in eF12_makes_51 mx2487 ?_
        refine g_ch [(2, .int (v11 * v15)), (0, .ref x0), (1, .int s.1)] [.ref x0, .int (v11 * v15)] (pc' := 53) rfl rfl rfl ?_
        obtain ⟨v22, e23, h⟩ := m_bd h
        refine g_gr q12_f14 e23 ?_
        refine g_ch [(2, .int (v11 * v15)), (0, .ref x0), (1, .int s.1)] [.int 1, .ref v22, .int (v11 * v15)] (pc' := 57) rfl rfl rfl ?_
        obtain ⟨v24, e25, h⟩ := m_bd h
        refine g_ia e25 ?_
        rcases m_ifd h with ⟨c26, h⟩ | ⟨c26, h⟩
        · refine g_if (t := 64) rfl (m_leT c26) ?_
          refine g_in eF12_makes_64 mx2487 ?_
          refine g_ch [(2, .int (v11 * v15)), (0, .ref x0), (1, .int s.1)] [.ref x0] (pc' := 65) rfl rfl rfl ?_
          obtain ⟨v27, e28, h⟩ := m_bd h
          refine g_gr q12_f14 e28 ?_
          refine g_ch [(2, .int (v11 * v15)), (0, .ref x0), (1, .int s.1)] [.int 1, .ref v27, .int 1, .ref v27] (pc' := 70) rfl rfl rfl ?_
          obtain ⟨v29, e30, h⟩ := m_bd h
          refine g_ia e30 ?_
          refine g_ch [(2, .int (v11 * v15)), (0, .ref x0), (1, .int s.1)] [.int (v29 - (v11 * v15)), .int 1, .ref v27] (pc' := 73) rfl rfl rfl ?_
          obtain ⟨h31, e32, h⟩ := m_bd h
          refine g_is e32 ?_
          refine g_ch [(2, .int (v11 * v15)), (0, .ref x0), (1, .int s.1)] [.ref x0] (pc' := 75) rfl rfl rfl ?_
          obtain ⟨v33, e34, h⟩ := m_bd h
          refine g_gr q12_f14 e34 ?_
          refine g_ch [(2, .int (v11 * v15)), (0, .ref x0), (1, .int s.1)] [.int 5, .int s.1, .ref v33] (pc' := 80) rfl rfl rfl ?_
          obtain ⟨v36, e35, h⟩ := m_bd h
          refine g_call (v := some (.int v36)) (h := h31) (st' := [.int v36, .ref v33]) (D1 := 0) (as := [.int s.1, .int 5]) (Or.inl rfl) q12_m112 (m_cs (as := [.int 5, .int s.1]) (rest := [.ref v33]) q12_m112 jv2425 rfl rfl rfl rfl rfl) (by decide) (SF12_lotAt e35) rfl ?_
          refine g_ch [(2, .int (v11 * v15)), (0, .ref x0), (1, .int s.1)] [.int 1, .int v36, .ref v33] (pc' := 84) rfl rfl rfl ?_
          obtain ⟨h37, e38, h⟩ := m_bd h
          refine g_is e38 ?_
          refine g_end ?_
          refine g_in eF12_makes_85 mx2487 ?_
          refine g_ch [(1, .int (s.1 + 1)), (2, .int (v11 * v15)), (0, .ref x0)] [] (pc' := 88) rfl rfl rfl ?_
          refine g_goto (t := 2) rfl ?_
          cases h
          exact r_lv (k1 ((s.1 + 1), h37) hK) rfl ⟨rfl, rfl, trivial⟩
        · refine g_ifn (t := 64) rfl (m_leF c26) ?_
          refine g_in eF12_makes_61 mx2487 ?_
          refine g_goto (t := 85) rfl ?_
          refine g_in eF12_makes_85 mx2487 ?_
          refine g_ch [(1, .int (s.1 + 1)), (2, .int (v11 * v15)), (0, .ref x0)] [] (pc' := 88) rfl rfl rfl ?_
          refine g_goto (t := 2) rfl ?_
          cases h
          exact r_lv (k1 ((s.1 + 1), s.2) hK) rfl ⟨rfl, rfl, trivial⟩
theorem SF12_makes_2 {xs : Nat → Int32} {L : Nat} (x0 : Nat) (x1 : Int32) (hp : m_H) {r : m_O × m_H} {K : m_H → Prop} (k0 : ∀ x, K x → r = (.inl none, x)) {t : m_H} (h : F12_makes_2 x0 x1 hp = some t) (hK : K t) : m_Rn xs L 4 2487 2 [(0, .ref x0), (1, .int x1)] [] hp r :=
  m_wh_ok (P := fun s => m_Rn xs L 4 2487 2 [(0, .ref x0), (1, .int s.1)] [] s.2 r) (Q := K) (fun s t hb hK => SF12_makes_2b x0 s (K := m_KK (fun s => m_Rn xs L 4 2487 2 [(0, .ref x0), (1, .int s.1)] [] s.2 r) K) k0 (fun _ q => q) hb hK) m_N _ _ h hK
theorem SF12_makes_0 {xs : Nat → Int32} {L : Nat} (x0 : Nat) (hp : m_H) {r : m_O × m_H} {K : m_H → Prop} (k0 : ∀ x, K x → r = (.inl none, x)) {t : m_H} (h : F12_makes_0 x0 hp = some t) (hK : K t) : m_Rn xs L 4 2487 0 [(0, .ref x0)] [] hp r := by
  unfold F12_makes_0 at h
  refine g_in eF12_makes_0 mx2487 ?_
  refine g_ch [(1, .int 0), (0, .ref x0)] [] (pc' := 2) rfl rfl rfl ?_
  refine g_end ?_
  exact r_lv (SF12_makes_2 x0 0 hp (K := K) k0 h hK) rfl ⟨rfl, rfl, trivial⟩
theorem OF12_makes {x0 : Nat} {hp : m_H} {x : m_H} (h : F12_makes x0 hp = some x) : m_isO hp 9 x0 = true := (m_gdd h).1
theorem SF12_makes {xs : Nat → Int32} {L : Nat} {x0 : Nat} {hp : m_H} {x : m_H} (h : F12_makes x0 hp = some x) : m_Rn xs L 4 2487 0 (lv_args 0 [.ref x0]) [] hp (.inl none, x) :=
  r_lv (SF12_makes_0 x0 hp (K := fun y => y = x) (fun y e => by rw [e]) (m_gdd h).2 rfl) rfl ⟨rfl, trivial⟩
-- F12_clears: LendHouseModel.clears(II)V
theorem eF12_clears_0 : m_Fe mi12_88 0 (m_ap [(.iconst 0, 1), (.istore_n 3, 1)] ([])) := m_Fe_of nd2488 0 2 rfl
theorem eF12_clears_2 : m_Fe mi12_88 2 (m_ap [(.iload_n 3, 1), (.aload_n 0, 1), (.iload_n 1, 1), (.bipush 6, 2)] ((.invokevirtual 326, 3) :: ([(.if_icmp .ge 125, 3)]))) := m_Fe_of nd2488 2 6 rfl
theorem eF12_clears_135 : m_Fe mi12_88 135 (m_ap [(.aload_n 0, 1), (.iload_n 1, 1), (.bipush 6, 2), (.iconst 0, 1)] ((.invokevirtual 322, 3) :: ([(.return_, 1)]))) := m_Fe_of nd2488 79 6 rfl
theorem eF12_clears_13 : m_Fe mi12_88 13 (m_ap [(.aload_n 0, 1), (.iload_n 1, 1), (.bipush 7, 2), (.iconst 2, 1), (.iload_n 3, 1), (.imul, 1), (.iadd, 1)] ((.invokevirtual 326, 3) :: (m_ap [(.istore 4, 2), (.aload_n 0, 1), (.iload_n 1, 1), (.bipush 7, 2), (.iconst 2, 1), (.iload_n 3, 1), (.imul, 1), (.iadd, 1)] (m_ap [(.iconst 1, 1), (.iadd, 1)] ((.invokevirtual 326, 3) :: (m_ap [(.istore 5, 2), (.aload_n 0, 1), (.iload 4, 2), (.iconst 2, 1), (.iload_n 2, 1), (.iload 5, 2)] ((.invokevirtual 338, 3) :: (m_ap [(.iload_n 2, 1), (.iconst 3, 1)] ([(.if_icmp .eq 6, 3)]))))))))) := m_Fe_of nd2488 8 29 rfl
theorem eF12_clears_59 : m_Fe mi12_88 59 (m_ap [(.aload_n 0, 1)] ((.getfield 14, 3) :: (m_ap [(.bipush 109, 2), (.aload_n 0, 1), (.iload 4, 2), (.iconst 2, 1)] ((.invokevirtual 115, 3) :: (m_ap [(.aload_n 0, 1), (.iload 4, 2), (.iconst 0, 1)] ((.invokevirtual 115, 3) :: ((.invokestatic 109, 3) :: (m_ap [(.dup2, 1)] ((.iaload, 1) :: (m_ap [(.iload 5, 2), (.iadd, 1)] ((.iastore, 1) :: (m_ap [(.aload_n 0, 1), (.iload 4, 2), (.iconst 2, 1)] ((.invokevirtual 115, 3) :: (m_ap [(.iconst 1, 1)] ((.invokestatic 106, 3) :: (m_ap [(.istore 6, 2), (.aload_n 0, 1)] ((.getfield 14, 3) :: (m_ap [(.iload 6, 2), (.bipush (-100), 2), (.aload_n 0, 1)] ((.getfield 14, 3) :: (m_ap [(.iload 6, 2)] ((.iaload, 1) :: (m_ap [(.aload_n 0, 1), (.iload 4, 2), (.bipush 7, 2)] ((.invokevirtual 115, 3) :: (m_ap [(.isub, 1)] ((.invokestatic 277, 3) :: ([(.iastore, 1)])))))))))))))))))))))))))) := m_Fe_of nd2488 38 39 rfl
theorem eF12_clears_129 : m_Fe mi12_88 129 (m_ap [(.iinc 3 1, 3)] ([(.goto (-130), 3)])) := m_Fe_of nd2488 77 2 rfl
theorem eF12_clears_56 : m_Fe mi12_88 56 ([(.goto 73, 3)]) := m_Fe_of nd2488 37 1 rfl
theorem SF12_clears_2b {xs : Nat → Int32} {L : Nat} (x0 : Nat) (x1 : Int32) (x2 : Int32) (s : Int32 × m_H) {r : m_O × m_H} {K : ((Int32 × m_H) ⊕ m_H) → Prop} (k0 : ∀ x, K (.inr x) → r = (.inl none, x)) (k1 : ∀ s, K (.inl s) → m_Rn xs L 7 2488 2 [(0, .ref x0), (1, .int x1), (2, .int x2), (3, .int s.1)] [] s.2 r) {t : (Int32 × m_H) ⊕ m_H} (h : F12_clears_2b x0 x1 x2 s = some t) (hK : K t) : m_Rn xs L 7 2488 2 [(0, .ref x0), (1, .int x1), (2, .int x2), (3, .int s.1)] [] s.2 r := by
  unfold F12_clears_2b at h
  refine g_in eF12_clears_2 mx2488 ?_
  refine g_ch [(0, .ref x0), (1, .int x1), (2, .int x2), (3, .int s.1)] [.int 6, .int x1, .ref x0, .int s.1] (pc' := 7) rfl rfl rfl ?_
  obtain ⟨v2, e1, h⟩ := m_bd h
  refine g_call (v := some (.int v2)) (h := s.2) (st' := [.int v2, .int s.1]) (D1 := 1) (as := [.ref x0, .int x1, .int 6]) (Or.inr (Or.inl rfl)) q12_m326 (m_cv (as := [.int 6, .int x1]) (rest := [.int s.1]) (Or.inl rfl) q12_m326 jv2477 (OF12_its e1) rfl rfl rfl rfl) (by decide) (SF12_its e1) rfl ?_
  rcases m_ifd h with ⟨c3, h⟩ | ⟨c3, h⟩
  · refine g_if (t := 135) rfl (m_geT c3) ?_
    refine g_in eF12_clears_135 mx2488 ?_
    refine g_ch [(0, .ref x0), (1, .int x1), (2, .int x2), (3, .int s.1)] [.int 0, .int 6, .int x1, .ref x0] (pc' := 140) rfl rfl rfl ?_
    obtain ⟨h5, e4, h⟩ := m_bd h
    refine g_call (v := none) (h := h5) (st' := []) (D1 := 1) (as := [.ref x0, .int x1, .int 6, .int 0]) (Or.inr (Or.inl rfl)) q12_m322 (m_cv (as := [.int 0, .int 6, .int x1]) (rest := []) (Or.inl rfl) q12_m322 jv2478 (OF12_puts e4) rfl rfl rfl rfl) (by decide) (SF12_puts e4) rfl ?_
    cases h
    rw [k0 _ hK]
    exact g_vret rfl
  · refine g_ifn (t := 135) rfl (m_geF c3) ?_
    refine g_in eF12_clears_13 mx2488 ?_
    refine g_ch [(0, .ref x0), (1, .int x1), (2, .int x2), (3, .int s.1)] [.int (7 + (2 * s.1)), .int x1, .ref x0] (pc' := 21) rfl rfl rfl ?_
    obtain ⟨v7, e6, h⟩ := m_bd h
    refine g_call (v := some (.int v7)) (h := s.2) (st' := [.int v7]) (D1 := 1) (as := [.ref x0, .int x1, .int (7 + (2 * s.1))]) (Or.inr (Or.inl rfl)) q12_m326 (m_cv (as := [.int (7 + (2 * s.1)), .int x1]) (rest := []) (Or.inl rfl) q12_m326 jv2477 (OF12_its e6) rfl rfl rfl rfl) (by decide) (SF12_its e6) rfl ?_
    refine g_ch [(4, .int v7), (0, .ref x0), (1, .int x1), (2, .int x2), (3, .int s.1)] [.int (7 + (2 * s.1)), .int x1, .ref x0] (pc' := 34) rfl rfl rfl ?_
    refine g_ch [(4, .int v7), (0, .ref x0), (1, .int x1), (2, .int x2), (3, .int s.1)] [.int ((7 + (2 * s.1)) + 1), .int x1, .ref x0] (pc' := 36) rfl rfl rfl ?_
    obtain ⟨v9, e8, h⟩ := m_bd h
    refine g_call (v := some (.int v9)) (h := s.2) (st' := [.int v9]) (D1 := 1) (as := [.ref x0, .int x1, .int ((7 + (2 * s.1)) + 1)]) (Or.inr (Or.inl rfl)) q12_m326 (m_cv (as := [.int ((7 + (2 * s.1)) + 1), .int x1]) (rest := []) (Or.inl rfl) q12_m326 jv2477 (OF12_its e8) rfl rfl rfl rfl) (by decide) (SF12_its e8) rfl ?_
    refine g_ch [(5, .int v9), (4, .int v7), (0, .ref x0), (1, .int x1), (2, .int x2), (3, .int s.1)] [.int v9, .int x2, .int 2, .int v7, .ref x0] (pc' := 48) rfl rfl rfl ?_
    obtain ⟨h11, e10, h⟩ := m_bd h
    refine g_call (v := none) (h := h11) (st' := []) (D1 := 1) (as := [.ref x0, .int v7, .int 2, .int x2, .int v9]) (Or.inr (Or.inl rfl)) q12_m338 (m_cv (as := [.int v9, .int x2, .int 2, .int v7]) (rest := []) (Or.inl rfl) q12_m338 jv2429 (OF12_moves e10) rfl rfl rfl rfl) (by decide) (SF12_moves e10) rfl ?_
    refine g_ch [(5, .int v9), (4, .int v7), (0, .ref x0), (1, .int x1), (2, .int x2), (3, .int s.1)] [.int 3, .int x2] (pc' := 53) rfl rfl rfl ?_
    rcases m_ifd h with ⟨c12, h⟩ | ⟨c12, h⟩
    · refine g_if (t := 59) rfl (m_eqT c12) ?_
      refine g_in eF12_clears_59 mx2488 ?_
      refine g_ch [(5, .int v9), (4, .int v7), (0, .ref x0), (1, .int x1), (2, .int x2), (3, .int s.1)] [.ref x0] (pc' := 60) rfl rfl rfl ?_
      obtain ⟨v13, e14, h⟩ := m_bd h
      refine g_gr q12_f14 e14 ?_
      refine g_ch [(5, .int v9), (4, .int v7), (0, .ref x0), (1, .int x1), (2, .int x2), (3, .int s.1)] [.int 2, .int v7, .ref x0, .int 109, .ref v13] (pc' := 69) rfl rfl rfl ?_
      obtain ⟨v16, e15, h⟩ := m_bd h
      refine g_call (v := some (.int v16)) (h := h11) (st' := [.int v16, .int 109, .ref v13]) (D1 := 1) (as := [.ref x0, .int v7, .int 2]) (Or.inr (Or.inl rfl)) q12_m115 (m_cv (as := [.int 2, .int v7]) (rest := [.int 109, .ref v13]) (Or.inl rfl) q12_m115 jv2426 (OF12_of e15) rfl rfl rfl rfl) (by decide) (SF12_of e15) rfl ?_
      refine g_ch [(5, .int v9), (4, .int v7), (0, .ref x0), (1, .int x1), (2, .int x2), (3, .int s.1)] [.int 0, .int v7, .ref x0, .int v16, .int 109, .ref v13] (pc' := 76) rfl rfl rfl ?_
      obtain ⟨v18, e17, h⟩ := m_bd h
      refine g_call (v := some (.int v18)) (h := h11) (st' := [.int v18, .int v16, .int 109, .ref v13]) (D1 := 1) (as := [.ref x0, .int v7, .int 0]) (Or.inr (Or.inl rfl)) q12_m115 (m_cv (as := [.int 0, .int v7]) (rest := [.int v16, .int 109, .ref v13]) (Or.inl rfl) q12_m115 jv2426 (OF12_of e17) rfl rfl rfl rfl) (by decide) (SF12_of e17) rfl ?_
      obtain ⟨v20, e19, h⟩ := m_bd h
      refine g_call (v := some (.int v20)) (h := h11) (st' := [.int v20, .ref v13]) (D1 := 0) (as := [.int 109, .int v16, .int v18]) (Or.inl rfl) q12_m109 (m_cs (as := [.int v18, .int v16, .int 109]) (rest := [.ref v13]) q12_m109 jv2414 rfl rfl rfl rfl rfl) (by decide) (SF12_both e19) rfl ?_
      refine g_ch [(5, .int v9), (4, .int v7), (0, .ref x0), (1, .int x1), (2, .int x2), (3, .int s.1)] [.int v20, .ref v13, .int v20, .ref v13] (pc' := 83) rfl rfl rfl ?_
      obtain ⟨v21, e22, h⟩ := m_bd h
      refine g_ia e22 ?_
      refine g_ch [(5, .int v9), (4, .int v7), (0, .ref x0), (1, .int x1), (2, .int x2), (3, .int s.1)] [.int (v21 + v9), .int v20, .ref v13] (pc' := 87) rfl rfl rfl ?_
      obtain ⟨h23, e24, h⟩ := m_bd h
      refine g_is e24 ?_
      refine g_ch [(5, .int v9), (4, .int v7), (0, .ref x0), (1, .int x1), (2, .int x2), (3, .int s.1)] [.int 2, .int v7, .ref x0] (pc' := 92) rfl rfl rfl ?_
      obtain ⟨v26, e25, h⟩ := m_bd h
      refine g_call (v := some (.int v26)) (h := h23) (st' := [.int v26]) (D1 := 1) (as := [.ref x0, .int v7, .int 2]) (Or.inr (Or.inl rfl)) q12_m115 (m_cv (as := [.int 2, .int v7]) (rest := []) (Or.inl rfl) q12_m115 jv2426 (OF12_of e25) rfl rfl rfl rfl) (by decide) (SF12_of e25) rfl ?_
      refine g_ch [(5, .int v9), (4, .int v7), (0, .ref x0), (1, .int x1), (2, .int x2), (3, .int s.1)] [.int 1, .int v26] (pc' := 96) rfl rfl rfl ?_
      obtain ⟨v28, e27, h⟩ := m_bd h
      refine g_call (v := some (.int v28)) (h := h23) (st' := [.int v28]) (D1 := 0) (as := [.int v26, .int 1]) (Or.inl rfl) q12_m106 (m_cs (as := [.int 1, .int v26]) (rest := []) q12_m106 jv2413 rfl rfl rfl rfl rfl) (by decide) (SF12_landAt e27) rfl ?_
      refine g_ch [(6, .int v28), (5, .int v9), (4, .int v7), (0, .ref x0), (1, .int x1), (2, .int x2), (3, .int s.1)] [.ref x0] (pc' := 102) rfl rfl rfl ?_
      obtain ⟨v29, e30, h⟩ := m_bd h
      refine g_gr q12_f14 e30 ?_
      refine g_ch [(6, .int v28), (5, .int v9), (4, .int v7), (0, .ref x0), (1, .int x1), (2, .int x2), (3, .int s.1)] [.ref x0, .int (-100), .int v28, .ref v29] (pc' := 110) rfl rfl rfl ?_
      obtain ⟨v31, e32, h⟩ := m_bd h
      refine g_gr q12_f14 e32 ?_
      refine g_ch [(6, .int v28), (5, .int v9), (4, .int v7), (0, .ref x0), (1, .int x1), (2, .int x2), (3, .int s.1)] [.int v28, .ref v31, .int (-100), .int v28, .ref v29] (pc' := 115) rfl rfl rfl ?_
      obtain ⟨v33, e34, h⟩ := m_bd h
      refine g_ia e34 ?_
      refine g_ch [(6, .int v28), (5, .int v9), (4, .int v7), (0, .ref x0), (1, .int x1), (2, .int x2), (3, .int s.1)] [.int 7, .int v7, .ref x0, .int v33, .int (-100), .int v28, .ref v29] (pc' := 121) rfl rfl rfl ?_
      obtain ⟨v36, e35, h⟩ := m_bd h
      refine g_call (v := some (.int v36)) (h := h23) (st' := [.int v36, .int v33, .int (-100), .int v28, .ref v29]) (D1 := 1) (as := [.ref x0, .int v7, .int 7]) (Or.inr (Or.inl rfl)) q12_m115 (m_cv (as := [.int 7, .int v7]) (rest := [.int v33, .int (-100), .int v28, .ref v29]) (Or.inl rfl) q12_m115 jv2426 (OF12_of e35) rfl rfl rfl rfl) (by decide) (SF12_of e35) rfl ?_
      refine g_ch [(6, .int v28), (5, .int v9), (4, .int v7), (0, .ref x0), (1, .int x1), (2, .int x2), (3, .int s.1)] [.int (v33 - v36), .int (-100), .int v28, .ref v29] (pc' := 125) rfl rfl rfl ?_
      refine g_nat (Or.inl rfl) q12_m277 rfl (z := ([.int (m_max (-100) (v33 - v36)), .int v28, .ref v29], h23)) rfl (by decide) ?_
      obtain ⟨h37, e38, h⟩ := m_bd h
      refine g_is e38 ?_
      refine g_end ?_
      refine g_in eF12_clears_129 mx2488 ?_
      refine g_ch [(3, .int (s.1 + 1)), (6, .int v28), (5, .int v9), (4, .int v7), (0, .ref x0), (1, .int x1), (2, .int x2)] [] (pc' := 132) rfl rfl rfl ?_
      refine g_goto (t := 2) rfl ?_
      cases h
      exact r_lv (k1 ((s.1 + 1), h37) hK) rfl ⟨rfl, rfl, rfl, rfl, trivial⟩
    · refine g_ifn (t := 59) rfl (m_eqF c12) ?_
      refine g_in eF12_clears_56 mx2488 ?_
      refine g_goto (t := 129) rfl ?_
      refine g_in eF12_clears_129 mx2488 ?_
      refine g_ch [(3, .int (s.1 + 1)), (5, .int v9), (4, .int v7), (0, .ref x0), (1, .int x1), (2, .int x2)] [] (pc' := 132) rfl rfl rfl ?_
      refine g_goto (t := 2) rfl ?_
      cases h
      exact r_lv (k1 ((s.1 + 1), h11) hK) rfl ⟨rfl, rfl, rfl, rfl, trivial⟩
theorem SF12_clears_2 {xs : Nat → Int32} {L : Nat} (x0 : Nat) (x1 : Int32) (x2 : Int32) (x3 : Int32) (hp : m_H) {r : m_O × m_H} {K : m_H → Prop} (k0 : ∀ x, K x → r = (.inl none, x)) {t : m_H} (h : F12_clears_2 x0 x1 x2 x3 hp = some t) (hK : K t) : m_Rn xs L 7 2488 2 [(0, .ref x0), (1, .int x1), (2, .int x2), (3, .int x3)] [] hp r :=
  m_wh_ok (P := fun s => m_Rn xs L 7 2488 2 [(0, .ref x0), (1, .int x1), (2, .int x2), (3, .int s.1)] [] s.2 r) (Q := K) (fun s t hb hK => SF12_clears_2b x0 x1 x2 s (K := m_KK (fun s => m_Rn xs L 7 2488 2 [(0, .ref x0), (1, .int x1), (2, .int x2), (3, .int s.1)] [] s.2 r) K) k0 (fun _ q => q) hb hK) m_N _ _ h hK
theorem SF12_clears_0 {xs : Nat → Int32} {L : Nat} (x0 : Nat) (x1 : Int32) (x2 : Int32) (hp : m_H) {r : m_O × m_H} {K : m_H → Prop} (k0 : ∀ x, K x → r = (.inl none, x)) {t : m_H} (h : F12_clears_0 x0 x1 x2 hp = some t) (hK : K t) : m_Rn xs L 7 2488 0 [(0, .ref x0), (1, .int x1), (2, .int x2)] [] hp r := by
  unfold F12_clears_0 at h
  refine g_in eF12_clears_0 mx2488 ?_
  refine g_ch [(3, .int 0), (0, .ref x0), (1, .int x1), (2, .int x2)] [] (pc' := 2) rfl rfl rfl ?_
  refine g_end ?_
  exact r_lv (SF12_clears_2 x0 x1 x2 0 hp (K := K) k0 h hK) rfl ⟨rfl, rfl, rfl, rfl, trivial⟩
theorem OF12_clears {x0 : Nat} {x1 : Int32} {x2 : Int32} {hp : m_H} {x : m_H} (h : F12_clears x0 x1 x2 hp = some x) : m_isO hp 9 x0 = true := (m_gdd h).1
theorem SF12_clears {xs : Nat → Int32} {L : Nat} {x0 : Nat} {x1 : Int32} {x2 : Int32} {hp : m_H} {x : m_H} (h : F12_clears x0 x1 x2 hp = some x) : m_Rn xs L 7 2488 0 (lv_args 0 [.ref x0, .int x1, .int x2]) [] hp (.inl none, x) :=
  r_lv (SF12_clears_0 x0 x1 x2 hp (K := fun y => y = x) (fun y e => by rw [e]) (m_gdd h).2 rfl) rfl ⟨rfl, rfl, rfl, trivial⟩
-- F12_goes: LendHouseModel.goes(I)V
theorem eF12_goes_0 : m_Fe mi12_89 0 (m_ap [(.aload_n 0, 1), (.iload_n 1, 1), (.iconst 2, 1)] ((.invokevirtual 326, 3) :: (m_ap [(.iconst 1, 1)] ([(.if_icmp .ne 7, 3)])))) := m_Fe_of nd2489 0 6 rfl
theorem eF12_goes_14 : m_Fe mi12_89 14 (m_ap [(.iconst 0, 1)] ([])) := m_Fe_of nd2489 8 1 rfl
theorem eF12_goes_10 : m_Fe mi12_89 10 (m_ap [(.iconst 1, 1)] ([(.goto 4, 3)])) := m_Fe_of nd2489 6 2 rfl
theorem eF12_goes_15 : m_Fe mi12_89 15 (m_ap [(.istore_n 2, 1), (.aload_n 0, 1), (.iload_n 1, 1), (.iconst 1, 1)] ((.invokevirtual 326, 3) :: (m_ap [(.bipush 37, 2), (.aload_n 0, 1)] ((.invokevirtual 86, 3) :: (m_ap [(.imul, 1), (.iadd, 1), (.bipush 100, 2)] ((.irem, 1) :: (m_ap [(.aload_n 0, 1), (.sipush 506, 3), (.aload_n 0, 1), (.iload_n 1, 1), (.iconst 3, 1)] ((.invokevirtual 326, 3) :: (m_ap [(.aload_n 0, 1)] ((.invokevirtual 86, 3) :: ((.invokevirtual 94, 3) :: ([(.if_icmp .ge 35, 3)])))))))))))) := m_Fe_of nd2489 9 22 rfl
theorem eF12_goes_85 : m_Fe mi12_89 85 (m_ap [(.aload_n 0, 1), (.iload_n 1, 1), (.iconst 4, 1), (.aload_n 0, 1), (.iload_n 1, 1), (.iconst 4, 1)] ((.invokevirtual 326, 3) :: (m_ap [(.iconst 1, 1), (.isub, 1)] ((.invokevirtual 322, 3) :: (m_ap [(.aload_n 0, 1), (.iload_n 1, 1), (.iconst 4, 1)] ((.invokevirtual 326, 3) :: ([(.ifCond .le 4, 3)]))))))) := m_Fe_of nd2489 52 15 rfl
theorem eF12_goes_109 : m_Fe mi12_89 109 (m_ap [(.aload_n 0, 1), (.iload_n 1, 1), (.iload_n 2, 1)] ([(.ifCond .eq 7, 3)])) := m_Fe_of nd2489 68 4 rfl
theorem eF12_goes_119 : m_Fe mi12_89 119 (m_ap [(.bipush 7, 2)] ([])) := m_Fe_of nd2489 74 1 rfl
theorem eF12_goes_115 : m_Fe mi12_89 115 (m_ap [(.iconst 3, 1)] ([(.goto 5, 3)])) := m_Fe_of nd2489 72 2 rfl
theorem eF12_goes_108 : m_Fe mi12_89 108 ([(.return_, 1)]) := m_Fe_of nd2489 67 1 rfl
theorem eF12_goes_53 : m_Fe mi12_89 53 (m_ap [(.aload_n 0, 1), (.iload_n 1, 1), (.bipush 6, 2)] ((.invokevirtual 344, 3) :: (m_ap [(.aload_n 0, 1), (.iload_n 1, 1), (.iconst 2, 1), (.iconst 4, 1)] ((.invokevirtual 322, 3) :: (m_ap [(.aload_n 0, 1), (.iload_n 1, 1), (.iconst 4, 1), (.iconst 0, 1)] ((.invokevirtual 322, 3) :: (m_ap [(.aload_n 0, 1), (.iload_n 1, 1), (.iconst 5, 1), (.aload_n 0, 1)] ((.invokevirtual 86, 3) :: ((.invokevirtual 322, 3) :: ([(.return_, 1)])))))))))) := m_Fe_of nd2489 31 21 rfl
theorem eF12_goes_121 : m_Fe mi12_89 121 ((.invokevirtual 344, 3) :: (m_ap [(.aload_n 0, 1), (.iload_n 1, 1), (.iconst 2, 1), (.iload_n 2, 1)] ([(.ifCond .eq 7, 3)]))) := m_Fe_of nd2489 75 6 rfl
theorem eF12_goes_135 : m_Fe mi12_89 135 (m_ap [(.iconst 0, 1)] ([])) := m_Fe_of nd2489 83 1 rfl
theorem eF12_goes_131 : m_Fe mi12_89 131 (m_ap [(.iconst 2, 1)] ([(.goto 4, 3)])) := m_Fe_of nd2489 81 2 rfl
theorem eF12_goes_136 : m_Fe mi12_89 136 ((.invokevirtual 322, 3) :: (m_ap [(.iload_n 2, 1)] ([(.ifCond .ne 10, 3)]))) := m_Fe_of nd2489 84 3 rfl
theorem eF12_goes_150 : m_Fe mi12_89 150 ([(.return_, 1)]) := m_Fe_of nd2489 92 1 rfl
theorem eF12_goes_143 : m_Fe mi12_89 143 (m_ap [(.aload_n 0, 1), (.iload_n 1, 1), (.iconst 3, 1), (.iconst 0, 1)] ([(.invokevirtual 322, 3)])) := m_Fe_of nd2489 87 5 rfl
theorem SF12_goes_136 {xs : Nat → Int32} {L : Nat} (x0 : Nat) (x1 : Int32) (x2 : Int32) (s0 : Int32) (s1 : Int32) (s2 : Int32) (s3 : Nat) (hp : m_H) {r : m_O × m_H} {K : m_H → Prop} (k0 : ∀ x, K x → r = (.inl none, x)) {t : m_H} (h : F12_goes_136 x0 x1 x2 s0 s1 s2 s3 hp = some t) (hK : K t) : m_Rn xs L 8 2489 136 [(0, .ref x0), (1, .int x1), (2, .int x2)] [.int s0, .int s1, .int s2, .ref s3] hp r := by
  unfold F12_goes_136 at h
  refine g_in eF12_goes_136 mx2489 ?_
  obtain ⟨h2, e1, h⟩ := m_bd h
  refine g_call (v := none) (h := h2) (st' := []) (D1 := 1) (as := [.ref s3, .int s2, .int s1, .int s0]) (Or.inr (Or.inl rfl)) q12_m322 (m_cv (as := [.int s0, .int s1, .int s2]) (rest := []) (Or.inl rfl) q12_m322 jv2478 (OF12_puts e1) rfl rfl rfl rfl) (by decide) (SF12_puts e1) rfl ?_
  refine g_ch [(0, .ref x0), (1, .int x1), (2, .int x2)] [.int x2] (pc' := 140) rfl rfl rfl ?_
  rcases m_ifd h with ⟨c3, h⟩ | ⟨c3, h⟩
  · refine g_ifcn (t := 150) rfl (m_neF c3) ?_
    refine g_in eF12_goes_143 mx2489 ?_
    refine g_ch [(0, .ref x0), (1, .int x1), (2, .int x2)] [.int 0, .int 3, .int x1, .ref x0] (pc' := 147) rfl rfl rfl ?_
    obtain ⟨h5, e4, h⟩ := m_bd h
    refine g_call (v := none) (h := h5) (st' := []) (D1 := 1) (as := [.ref x0, .int x1, .int 3, .int 0]) (Or.inr (Or.inl rfl)) q12_m322 (m_cv (as := [.int 0, .int 3, .int x1]) (rest := []) (Or.inl rfl) q12_m322 jv2478 (OF12_puts e4) rfl rfl rfl rfl) (by decide) (SF12_puts e4) rfl ?_
    refine g_end ?_
    refine g_in eF12_goes_150 mx2489 ?_
    cases h
    rw [k0 _ hK]
    exact g_vret rfl
  · refine g_ifc (t := 150) rfl (m_neT c3) ?_
    refine g_in eF12_goes_150 mx2489 ?_
    cases h
    rw [k0 _ hK]
    exact g_vret rfl
theorem SF12_goes_121 {xs : Nat → Int32} {L : Nat} (x0 : Nat) (x1 : Int32) (x2 : Int32) (s0 : Int32) (s1 : Int32) (s2 : Nat) (hp : m_H) {r : m_O × m_H} {K : m_H → Prop} (k0 : ∀ x, K x → r = (.inl none, x)) {t : m_H} (h : F12_goes_121 x0 x1 x2 s0 s1 s2 hp = some t) (hK : K t) : m_Rn xs L 8 2489 121 [(0, .ref x0), (1, .int x1), (2, .int x2)] [.int s0, .int s1, .ref s2] hp r := by
  unfold F12_goes_121 at h
  refine g_in eF12_goes_121 mx2489 ?_
  obtain ⟨h2, e1, h⟩ := m_bd h
  refine g_call (v := none) (h := h2) (st' := []) (D1 := 7) (as := [.ref s2, .int s1, .int s0]) (Or.inr (Or.inl rfl)) q12_m344 (m_cv (as := [.int s0, .int s1]) (rest := []) (Or.inl rfl) q12_m344 jv2488 (OF12_clears e1) rfl rfl rfl rfl) (by decide) (SF12_clears e1) rfl ?_
  refine g_ch [(0, .ref x0), (1, .int x1), (2, .int x2)] [.int x2, .int 2, .int x1, .ref x0] (pc' := 128) rfl rfl rfl ?_
  rcases m_ifd h with ⟨c3, h⟩ | ⟨c3, h⟩
  · refine g_ifc (t := 135) rfl (m_eqT c3) ?_
    refine g_in eF12_goes_135 mx2489 ?_
    refine g_ch [(0, .ref x0), (1, .int x1), (2, .int x2)] [.int 0, .int 2, .int x1, .ref x0] (pc' := 136) rfl rfl rfl ?_
    refine g_end ?_
    exact r_lv (SF12_goes_136 x0 x1 x2 0 2 x1 x0 h2 (K := K) k0 h hK) rfl ⟨rfl, rfl, rfl, trivial⟩
  · refine g_ifcn (t := 135) rfl (m_eqF c3) ?_
    refine g_in eF12_goes_131 mx2489 ?_
    refine g_ch [(0, .ref x0), (1, .int x1), (2, .int x2)] [.int 2, .int 2, .int x1, .ref x0] (pc' := 132) rfl rfl rfl ?_
    refine g_goto (t := 136) rfl ?_
    exact r_lv (SF12_goes_136 x0 x1 x2 2 2 x1 x0 h2 (K := K) k0 h hK) rfl ⟨rfl, rfl, rfl, trivial⟩
theorem SF12_goes_15 {xs : Nat → Int32} {L : Nat} (x0 : Nat) (x1 : Int32) (s0 : Int32) (hp : m_H) {r : m_O × m_H} {K : m_H → Prop} (k0 : ∀ x, K x → r = (.inl none, x)) {t : m_H} (h : F12_goes_15 x0 x1 s0 hp = some t) (hK : K t) : m_Rn xs L 8 2489 15 [(0, .ref x0), (1, .int x1)] [.int s0] hp r := by
  unfold F12_goes_15 at h
  refine g_in eF12_goes_15 mx2489 ?_
  refine g_ch [(2, .int s0), (0, .ref x0), (1, .int x1)] [.int 1, .int x1, .ref x0] (pc' := 19) rfl rfl rfl ?_
  obtain ⟨v2, e1, h⟩ := m_bd h
  refine g_call (v := some (.int v2)) (h := hp) (st' := [.int v2]) (D1 := 1) (as := [.ref x0, .int x1, .int 1]) (Or.inr (Or.inl rfl)) q12_m326 (m_cv (as := [.int 1, .int x1]) (rest := []) (Or.inl rfl) q12_m326 jv2477 (OF12_its e1) rfl rfl rfl rfl) (by decide) (SF12_its e1) rfl ?_
  refine g_ch [(2, .int s0), (0, .ref x0), (1, .int x1)] [.ref x0, .int 37, .int v2] (pc' := 25) rfl rfl rfl ?_
  obtain ⟨v4, e3, h⟩ := m_bd h
  refine g_call (v := some (.int v4)) (h := hp) (st' := [.int v4, .int 37, .int v2]) (D1 := 0) (as := [.ref x0]) (Or.inr (Or.inl rfl)) q12_m86 (m_cv (as := []) (rest := [.int 37, .int v2]) (Or.inl rfl) q12_m86 jv2404 (OF12_week e3) rfl rfl rfl rfl) (by decide) (SF12_week e3) rfl ?_
  refine g_ch [(2, .int s0), (0, .ref x0), (1, .int x1)] [.int 100, .int (v2 + (37 * v4))] (pc' := 32) rfl rfl rfl ?_
  obtain ⟨v5, e6, h⟩ := m_bd h
  refine g_rm e6 ?_
  refine g_ch [(2, .int s0), (0, .ref x0), (1, .int x1)] [.int 3, .int x1, .ref x0, .int 506, .ref x0, .int v5] (pc' := 40) rfl rfl rfl ?_
  obtain ⟨v8, e7, h⟩ := m_bd h
  refine g_call (v := some (.int v8)) (h := hp) (st' := [.int v8, .int 506, .ref x0, .int v5]) (D1 := 1) (as := [.ref x0, .int x1, .int 3]) (Or.inr (Or.inl rfl)) q12_m326 (m_cv (as := [.int 3, .int x1]) (rest := [.int 506, .ref x0, .int v5]) (Or.inl rfl) q12_m326 jv2477 (OF12_its e7) rfl rfl rfl rfl) (by decide) (SF12_its e7) rfl ?_
  refine g_ch [(2, .int s0), (0, .ref x0), (1, .int x1)] [.ref x0, .int v8, .int 506, .ref x0, .int v5] (pc' := 44) rfl rfl rfl ?_
  obtain ⟨v10, e9, h⟩ := m_bd h
  refine g_call (v := some (.int v10)) (h := hp) (st' := [.int v10, .int v8, .int 506, .ref x0, .int v5]) (D1 := 0) (as := [.ref x0]) (Or.inr (Or.inl rfl)) q12_m86 (m_cv (as := []) (rest := [.int v8, .int 506, .ref x0, .int v5]) (Or.inl rfl) q12_m86 jv2404 (OF12_week e9) rfl rfl rfl rfl) (by decide) (SF12_week e9) rfl ?_
  obtain ⟨v12, e11, h⟩ := m_bd h
  refine g_call (v := some (.int v12)) (h := hp) (st' := [.int v12, .int v5]) (D1 := 0) (as := [.ref x0, .int 506, .int v8, .int v10]) (Or.inr (Or.inl rfl)) q12_m94 (m_cv (as := [.int v10, .int v8, .int 506]) (rest := [.int v5]) (Or.inl rfl) q12_m94 jv2417 (OF12_toldOf e11) rfl rfl rfl rfl) (by decide) (SF12_toldOf e11) rfl ?_
  rcases m_ifd h with ⟨c13, h⟩ | ⟨c13, h⟩
  · refine g_if (t := 85) rfl (m_geT c13) ?_
    refine g_in eF12_goes_85 mx2489 ?_
    refine g_ch [(2, .int s0), (0, .ref x0), (1, .int x1)] [.int 4, .int x1, .ref x0, .int 4, .int x1, .ref x0] (pc' := 91) rfl rfl rfl ?_
    obtain ⟨v15, e14, h⟩ := m_bd h
    refine g_call (v := some (.int v15)) (h := hp) (st' := [.int v15, .int 4, .int x1, .ref x0]) (D1 := 1) (as := [.ref x0, .int x1, .int 4]) (Or.inr (Or.inl rfl)) q12_m326 (m_cv (as := [.int 4, .int x1]) (rest := [.int 4, .int x1, .ref x0]) (Or.inl rfl) q12_m326 jv2477 (OF12_its e14) rfl rfl rfl rfl) (by decide) (SF12_its e14) rfl ?_
    refine g_ch [(2, .int s0), (0, .ref x0), (1, .int x1)] [.int (v15 - 1), .int 4, .int x1, .ref x0] (pc' := 96) rfl rfl rfl ?_
    obtain ⟨h17, e16, h⟩ := m_bd h
    refine g_call (v := none) (h := h17) (st' := []) (D1 := 1) (as := [.ref x0, .int x1, .int 4, .int (v15 - 1)]) (Or.inr (Or.inl rfl)) q12_m322 (m_cv (as := [.int (v15 - 1), .int 4, .int x1]) (rest := []) (Or.inl rfl) q12_m322 jv2478 (OF12_puts e16) rfl rfl rfl rfl) (by decide) (SF12_puts e16) rfl ?_
    refine g_ch [(2, .int s0), (0, .ref x0), (1, .int x1)] [.int 4, .int x1, .ref x0] (pc' := 102) rfl rfl rfl ?_
    obtain ⟨v19, e18, h⟩ := m_bd h
    refine g_call (v := some (.int v19)) (h := h17) (st' := [.int v19]) (D1 := 1) (as := [.ref x0, .int x1, .int 4]) (Or.inr (Or.inl rfl)) q12_m326 (m_cv (as := [.int 4, .int x1]) (rest := []) (Or.inl rfl) q12_m326 jv2477 (OF12_its e18) rfl rfl rfl rfl) (by decide) (SF12_its e18) rfl ?_
    rcases m_ifd h with ⟨c20, h⟩ | ⟨c20, h⟩
    · refine g_ifc (t := 109) rfl (m_leT c20) ?_
      refine g_in eF12_goes_109 mx2489 ?_
      refine g_ch [(2, .int s0), (0, .ref x0), (1, .int x1)] [.int s0, .int x1, .ref x0] (pc' := 112) rfl rfl rfl ?_
      rcases m_ifd h with ⟨c21, h⟩ | ⟨c21, h⟩
      · refine g_ifc (t := 119) rfl (m_eqT c21) ?_
        refine g_in eF12_goes_119 mx2489 ?_
        refine g_ch [(2, .int s0), (0, .ref x0), (1, .int x1)] [.int 7, .int x1, .ref x0] (pc' := 121) rfl rfl rfl ?_
        refine g_end ?_
        exact r_lv (SF12_goes_121 x0 x1 s0 7 x1 x0 h17 (K := K) k0 h hK) rfl ⟨rfl, rfl, rfl, trivial⟩
      · refine g_ifcn (t := 119) rfl (m_eqF c21) ?_
        refine g_in eF12_goes_115 mx2489 ?_
        refine g_ch [(2, .int s0), (0, .ref x0), (1, .int x1)] [.int 3, .int x1, .ref x0] (pc' := 116) rfl rfl rfl ?_
        refine g_goto (t := 121) rfl ?_
        exact r_lv (SF12_goes_121 x0 x1 s0 3 x1 x0 h17 (K := K) k0 h hK) rfl ⟨rfl, rfl, rfl, trivial⟩
    · refine g_ifcn (t := 109) rfl (m_leF c20) ?_
      refine g_in eF12_goes_108 mx2489 ?_
      cases h
      rw [k0 _ hK]
      exact g_vret rfl
  · refine g_ifn (t := 85) rfl (m_geF c13) ?_
    refine g_in eF12_goes_53 mx2489 ?_
    refine g_ch [(2, .int s0), (0, .ref x0), (1, .int x1)] [.int 6, .int x1, .ref x0] (pc' := 57) rfl rfl rfl ?_
    obtain ⟨h23, e22, h⟩ := m_bd h
    refine g_call (v := none) (h := h23) (st' := []) (D1 := 7) (as := [.ref x0, .int x1, .int 6]) (Or.inr (Or.inl rfl)) q12_m344 (m_cv (as := [.int 6, .int x1]) (rest := []) (Or.inl rfl) q12_m344 jv2488 (OF12_clears e22) rfl rfl rfl rfl) (by decide) (SF12_clears e22) rfl ?_
    refine g_ch [(2, .int s0), (0, .ref x0), (1, .int x1)] [.int 4, .int 2, .int x1, .ref x0] (pc' := 64) rfl rfl rfl ?_
    obtain ⟨h25, e24, h⟩ := m_bd h
    refine g_call (v := none) (h := h25) (st' := []) (D1 := 1) (as := [.ref x0, .int x1, .int 2, .int 4]) (Or.inr (Or.inl rfl)) q12_m322 (m_cv (as := [.int 4, .int 2, .int x1]) (rest := []) (Or.inl rfl) q12_m322 jv2478 (OF12_puts e24) rfl rfl rfl rfl) (by decide) (SF12_puts e24) rfl ?_
    refine g_ch [(2, .int s0), (0, .ref x0), (1, .int x1)] [.int 0, .int 4, .int x1, .ref x0] (pc' := 71) rfl rfl rfl ?_
    obtain ⟨h27, e26, h⟩ := m_bd h
    refine g_call (v := none) (h := h27) (st' := []) (D1 := 1) (as := [.ref x0, .int x1, .int 4, .int 0]) (Or.inr (Or.inl rfl)) q12_m322 (m_cv (as := [.int 0, .int 4, .int x1]) (rest := []) (Or.inl rfl) q12_m322 jv2478 (OF12_puts e26) rfl rfl rfl rfl) (by decide) (SF12_puts e26) rfl ?_
    refine g_ch [(2, .int s0), (0, .ref x0), (1, .int x1)] [.ref x0, .int 5, .int x1, .ref x0] (pc' := 78) rfl rfl rfl ?_
    obtain ⟨v29, e28, h⟩ := m_bd h
    refine g_call (v := some (.int v29)) (h := h27) (st' := [.int v29, .int 5, .int x1, .ref x0]) (D1 := 0) (as := [.ref x0]) (Or.inr (Or.inl rfl)) q12_m86 (m_cv (as := []) (rest := [.int 5, .int x1, .ref x0]) (Or.inl rfl) q12_m86 jv2404 (OF12_week e28) rfl rfl rfl rfl) (by decide) (SF12_week e28) rfl ?_
    obtain ⟨h31, e30, h⟩ := m_bd h
    refine g_call (v := none) (h := h31) (st' := []) (D1 := 1) (as := [.ref x0, .int x1, .int 5, .int v29]) (Or.inr (Or.inl rfl)) q12_m322 (m_cv (as := [.int v29, .int 5, .int x1]) (rest := []) (Or.inl rfl) q12_m322 jv2478 (OF12_puts e30) rfl rfl rfl rfl) (by decide) (SF12_puts e30) rfl ?_
    cases h
    rw [k0 _ hK]
    exact g_vret rfl
theorem SF12_goes_0 {xs : Nat → Int32} {L : Nat} (x0 : Nat) (x1 : Int32) (hp : m_H) {r : m_O × m_H} {K : m_H → Prop} (k0 : ∀ x, K x → r = (.inl none, x)) {t : m_H} (h : F12_goes_0 x0 x1 hp = some t) (hK : K t) : m_Rn xs L 8 2489 0 [(0, .ref x0), (1, .int x1)] [] hp r := by
  unfold F12_goes_0 at h
  refine g_in eF12_goes_0 mx2489 ?_
  refine g_ch [(0, .ref x0), (1, .int x1)] [.int 2, .int x1, .ref x0] (pc' := 3) rfl rfl rfl ?_
  obtain ⟨v2, e1, h⟩ := m_bd h
  refine g_call (v := some (.int v2)) (h := hp) (st' := [.int v2]) (D1 := 1) (as := [.ref x0, .int x1, .int 2]) (Or.inr (Or.inl rfl)) q12_m326 (m_cv (as := [.int 2, .int x1]) (rest := []) (Or.inl rfl) q12_m326 jv2477 (OF12_its e1) rfl rfl rfl rfl) (by decide) (SF12_its e1) rfl ?_
  refine g_ch [(0, .ref x0), (1, .int x1)] [.int 1, .int v2] (pc' := 7) rfl rfl rfl ?_
  rcases m_ifd h with ⟨c3, h⟩ | ⟨c3, h⟩
  · refine g_ifn (t := 14) rfl (m_neF c3) ?_
    refine g_in eF12_goes_10 mx2489 ?_
    refine g_ch [(0, .ref x0), (1, .int x1)] [.int 1] (pc' := 11) rfl rfl rfl ?_
    refine g_goto (t := 15) rfl ?_
    exact r_lv (SF12_goes_15 x0 x1 1 hp (K := K) k0 h hK) rfl ⟨rfl, rfl, trivial⟩
  · refine g_if (t := 14) rfl (m_neT c3) ?_
    refine g_in eF12_goes_14 mx2489 ?_
    refine g_ch [(0, .ref x0), (1, .int x1)] [.int 0] (pc' := 15) rfl rfl rfl ?_
    refine g_end ?_
    exact r_lv (SF12_goes_15 x0 x1 0 hp (K := K) k0 h hK) rfl ⟨rfl, rfl, trivial⟩
theorem OF12_goes {x0 : Nat} {x1 : Int32} {hp : m_H} {x : m_H} (h : F12_goes x0 x1 hp = some x) : m_isO hp 9 x0 = true := (m_gdd h).1
theorem SF12_goes {xs : Nat → Int32} {L : Nat} {x0 : Nat} {x1 : Int32} {hp : m_H} {x : m_H} (h : F12_goes x0 x1 hp = some x) : m_Rn xs L 8 2489 0 (lv_args 0 [.ref x0, .int x1]) [] hp (.inl none, x) :=
  r_lv (SF12_goes_0 x0 x1 hp (K := fun y => y = x) (fun y e => by rw [e]) (m_gdd h).2 rfl) rfl ⟨rfl, rfl, trivial⟩
-- F12_landedOf: LendHouseModel.landedOf(II)I
theorem eF12_landedOf_0 : m_Fe mi12_90 0 (m_ap [(.iconst 0, 1), (.istore_n 3, 1), (.iconst 0, 1), (.istore 4, 2)] ([])) := m_Fe_of nd2490 0 4 rfl
theorem eF12_landedOf_5 : m_Fe mi12_90 5 (m_ap [(.iload 4, 2), (.aload_n 0, 1)] ((.getfield 14, 3) :: (m_ap [(.sipush 807, 3)] ((.iaload, 1) :: ([(.if_icmp .ge 45, 3)]))))) := m_Fe_of nd2490 4 6 rfl
theorem eF12_landedOf_60 : m_Fe mi12_90 60 (m_ap [(.iload_n 3, 1)] ([(.ireturn, 1)])) := m_Fe_of nd2490 32 2 rfl
theorem eF12_landedOf_18 : m_Fe mi12_90 18 (m_ap [(.iload_n 3, 1), (.aload_n 0, 1), (.iload 4, 2), (.iload_n 1, 1)] ((.invokevirtual 347, 3) :: ([(.ifCond .eq 25, 3)]))) := m_Fe_of nd2490 10 6 rfl
theorem eF12_landedOf_51 : m_Fe mi12_90 51 (m_ap [(.iconst 0, 1)] ([])) := m_Fe_of nd2490 27 1 rfl
theorem eF12_landedOf_52 : m_Fe mi12_90 52 (m_ap [(.iadd, 1), (.istore_n 3, 1), (.iinc 4 1, 3)] ([(.goto (-52), 3)])) := m_Fe_of nd2490 28 4 rfl
theorem eF12_landedOf_29 : m_Fe mi12_90 29 (m_ap [(.aload_n 0, 1), (.iload 4, 2), (.iconst 0, 1)] ((.invokevirtual 115, 3) :: (m_ap [(.iload_n 2, 1)] ([(.if_icmp .ne 14, 3)])))) := m_Fe_of nd2490 16 6 rfl
theorem eF12_landedOf_40 : m_Fe mi12_90 40 (m_ap [(.aload_n 0, 1), (.iload 4, 2), (.bipush 13, 2)] ((.invokevirtual 115, 3) :: ([(.goto 4, 3)]))) := m_Fe_of nd2490 22 5 rfl
theorem SF12_landedOf_5b {xs : Nat → Int32} {L : Nat} (x0 : Nat) (x1 : Int32) (x2 : Int32) (hp : m_H) (s : Int32 × Int32) {r : m_O × m_H} {K : ((Int32 × Int32) ⊕ Int32) → Prop} (k0 : ∀ x, K (.inr x) → r = (.inl (some (.int x)), hp)) (k1 : ∀ s, K (.inl s) → m_Rn xs L 3 2490 5 [(0, .ref x0), (1, .int x1), (2, .int x2), (3, .int s.1), (4, .int s.2)] [] hp r) {t : (Int32 × Int32) ⊕ Int32} (h : F12_landedOf_5b x0 x1 x2 hp s = some t) (hK : K t) : m_Rn xs L 3 2490 5 [(0, .ref x0), (1, .int x1), (2, .int x2), (3, .int s.1), (4, .int s.2)] [] hp r := by
  unfold F12_landedOf_5b at h
  refine g_in eF12_landedOf_5 mx2490 ?_
  refine g_ch [(0, .ref x0), (1, .int x1), (2, .int x2), (3, .int s.1), (4, .int s.2)] [.ref x0, .int s.2] (pc' := 8) rfl rfl rfl ?_
  obtain ⟨v1, e2, h⟩ := m_bd h
  refine g_gr q12_f14 e2 ?_
  refine g_ch [(0, .ref x0), (1, .int x1), (2, .int x2), (3, .int s.1), (4, .int s.2)] [.int 807, .ref v1, .int s.2] (pc' := 14) rfl rfl rfl ?_
  obtain ⟨v3, e4, h⟩ := m_bd h
  refine g_ia e4 ?_
  rcases m_ifd h with ⟨c5, h⟩ | ⟨c5, h⟩
  · refine g_if (t := 60) rfl (m_geT c5) ?_
    refine g_in eF12_landedOf_60 mx2490 ?_
    refine g_ch [(0, .ref x0), (1, .int x1), (2, .int x2), (3, .int s.1), (4, .int s.2)] [.int s.1] (pc' := 61) rfl rfl rfl ?_
    cases h
    rw [k0 _ hK]
    exact g_iret rfl rfl
  · refine g_ifn (t := 60) rfl (m_geF c5) ?_
    refine g_in eF12_landedOf_18 mx2490 ?_
    refine g_ch [(0, .ref x0), (1, .int x1), (2, .int x2), (3, .int s.1), (4, .int s.2)] [.int x1, .int s.2, .ref x0, .int s.1] (pc' := 23) rfl rfl rfl ?_
    obtain ⟨v7, e6, h⟩ := m_bd h
    refine g_call (v := some (.int v7)) (h := hp) (st' := [.int v7, .int s.1]) (D1 := 2) (as := [.ref x0, .int s.2, .int x1]) (Or.inr (Or.inl rfl)) q12_m347 (m_cv (as := [.int x1, .int s.2]) (rest := [.int s.1]) (Or.inl rfl) q12_m347 jv2431 (OF12_isFor e6) rfl rfl rfl rfl) (by decide) (SF12_isFor e6) rfl ?_
    rcases m_ifd h with ⟨c8, h⟩ | ⟨c8, h⟩
    · refine g_ifc (t := 51) rfl (m_eqT c8) ?_
      refine g_in eF12_landedOf_51 mx2490 ?_
      refine g_ch [(0, .ref x0), (1, .int x1), (2, .int x2), (3, .int s.1), (4, .int s.2)] [.int 0, .int s.1] (pc' := 52) rfl rfl rfl ?_
      refine g_end ?_
      refine g_in eF12_landedOf_52 mx2490 ?_
      refine g_ch [(4, .int (s.2 + 1)), (3, .int (s.1 + 0)), (0, .ref x0), (1, .int x1), (2, .int x2)] [] (pc' := 57) rfl rfl rfl ?_
      refine g_goto (t := 5) rfl ?_
      cases h
      exact r_lv (k1 ((s.1 + 0), (s.2 + 1)) hK) rfl ⟨rfl, rfl, rfl, rfl, rfl, trivial⟩
    · refine g_ifcn (t := 51) rfl (m_eqF c8) ?_
      refine g_in eF12_landedOf_29 mx2490 ?_
      refine g_ch [(0, .ref x0), (1, .int x1), (2, .int x2), (3, .int s.1), (4, .int s.2)] [.int 0, .int s.2, .ref x0, .int s.1] (pc' := 33) rfl rfl rfl ?_
      obtain ⟨v10, e9, h⟩ := m_bd h
      refine g_call (v := some (.int v10)) (h := hp) (st' := [.int v10, .int s.1]) (D1 := 1) (as := [.ref x0, .int s.2, .int 0]) (Or.inr (Or.inl rfl)) q12_m115 (m_cv (as := [.int 0, .int s.2]) (rest := [.int s.1]) (Or.inl rfl) q12_m115 jv2426 (OF12_of e9) rfl rfl rfl rfl) (by decide) (SF12_of e9) rfl ?_
      refine g_ch [(0, .ref x0), (1, .int x1), (2, .int x2), (3, .int s.1), (4, .int s.2)] [.int x2, .int v10, .int s.1] (pc' := 37) rfl rfl rfl ?_
      rcases m_ifd h with ⟨c11, h⟩ | ⟨c11, h⟩
      · refine g_ifn (t := 51) rfl (m_neF c11) ?_
        refine g_in eF12_landedOf_40 mx2490 ?_
        refine g_ch [(0, .ref x0), (1, .int x1), (2, .int x2), (3, .int s.1), (4, .int s.2)] [.int 13, .int s.2, .ref x0, .int s.1] (pc' := 45) rfl rfl rfl ?_
        obtain ⟨v13, e12, h⟩ := m_bd h
        refine g_call (v := some (.int v13)) (h := hp) (st' := [.int v13, .int s.1]) (D1 := 1) (as := [.ref x0, .int s.2, .int 13]) (Or.inr (Or.inl rfl)) q12_m115 (m_cv (as := [.int 13, .int s.2]) (rest := [.int s.1]) (Or.inl rfl) q12_m115 jv2426 (OF12_of e12) rfl rfl rfl rfl) (by decide) (SF12_of e12) rfl ?_
        refine g_goto (t := 52) rfl ?_
        refine g_in eF12_landedOf_52 mx2490 ?_
        refine g_ch [(4, .int (s.2 + 1)), (3, .int (s.1 + v13)), (0, .ref x0), (1, .int x1), (2, .int x2)] [] (pc' := 57) rfl rfl rfl ?_
        refine g_goto (t := 5) rfl ?_
        cases h
        exact r_lv (k1 ((s.1 + v13), (s.2 + 1)) hK) rfl ⟨rfl, rfl, rfl, rfl, rfl, trivial⟩
      · refine g_if (t := 51) rfl (m_neT c11) ?_
        refine g_in eF12_landedOf_51 mx2490 ?_
        refine g_ch [(0, .ref x0), (1, .int x1), (2, .int x2), (3, .int s.1), (4, .int s.2)] [.int 0, .int s.1] (pc' := 52) rfl rfl rfl ?_
        refine g_end ?_
        refine g_in eF12_landedOf_52 mx2490 ?_
        refine g_ch [(4, .int (s.2 + 1)), (3, .int (s.1 + 0)), (0, .ref x0), (1, .int x1), (2, .int x2)] [] (pc' := 57) rfl rfl rfl ?_
        refine g_goto (t := 5) rfl ?_
        cases h
        exact r_lv (k1 ((s.1 + 0), (s.2 + 1)) hK) rfl ⟨rfl, rfl, rfl, rfl, rfl, trivial⟩
theorem SF12_landedOf_5 {xs : Nat → Int32} {L : Nat} (x0 : Nat) (x1 : Int32) (x2 : Int32) (x3 : Int32) (x4 : Int32) (hp : m_H) {r : m_O × m_H} {K : Int32 → Prop} (k0 : ∀ x, K x → r = (.inl (some (.int x)), hp)) {t : Int32} (h : F12_landedOf_5 x0 x1 x2 x3 x4 hp = some t) (hK : K t) : m_Rn xs L 3 2490 5 [(0, .ref x0), (1, .int x1), (2, .int x2), (3, .int x3), (4, .int x4)] [] hp r :=
  m_wh_ok (P := fun s => m_Rn xs L 3 2490 5 [(0, .ref x0), (1, .int x1), (2, .int x2), (3, .int s.1), (4, .int s.2)] [] hp r) (Q := K) (fun s t hb hK => SF12_landedOf_5b x0 x1 x2 hp s (K := m_KK (fun s => m_Rn xs L 3 2490 5 [(0, .ref x0), (1, .int x1), (2, .int x2), (3, .int s.1), (4, .int s.2)] [] hp r) K) k0 (fun _ q => q) hb hK) m_N _ _ h hK
theorem SF12_landedOf_0 {xs : Nat → Int32} {L : Nat} (x0 : Nat) (x1 : Int32) (x2 : Int32) (hp : m_H) {r : m_O × m_H} {K : Int32 → Prop} (k0 : ∀ x, K x → r = (.inl (some (.int x)), hp)) {t : Int32} (h : F12_landedOf_0 x0 x1 x2 hp = some t) (hK : K t) : m_Rn xs L 3 2490 0 [(0, .ref x0), (1, .int x1), (2, .int x2)] [] hp r := by
  unfold F12_landedOf_0 at h
  refine g_in eF12_landedOf_0 mx2490 ?_
  refine g_ch [(4, .int 0), (3, .int 0), (0, .ref x0), (1, .int x1), (2, .int x2)] [] (pc' := 5) rfl rfl rfl ?_
  refine g_end ?_
  exact r_lv (SF12_landedOf_5 x0 x1 x2 0 0 hp (K := K) k0 h hK) rfl ⟨rfl, rfl, rfl, rfl, rfl, trivial⟩
theorem OF12_landedOf {x0 : Nat} {x1 : Int32} {x2 : Int32} {hp : m_H} {x : Int32} (h : F12_landedOf x0 x1 x2 hp = some x) : m_isO hp 9 x0 = true := (m_gdd h).1
theorem SF12_landedOf {xs : Nat → Int32} {L : Nat} {x0 : Nat} {x1 : Int32} {x2 : Int32} {hp : m_H} {x : Int32} (h : F12_landedOf x0 x1 x2 hp = some x) : m_Rn xs L 3 2490 0 (lv_args 0 [.ref x0, .int x1, .int x2]) [] hp (.inl (some (.int x)), hp) :=
  r_lv (SF12_landedOf_0 x0 x1 x2 hp (K := fun y => y = x) (fun y e => by rw [e]) (m_gdd h).2 rfl) rfl ⟨rfl, rfl, rfl, trivial⟩
-- F12_eats: LendHouseModel.eats(II)V
theorem eF12_eats_0 : m_Fe mi12_91 0 (m_ap [(.aload_n 0, 1)] ((.getfield 14, 3) :: (m_ap [(.bipush 61, 2), (.iload_n 1, 1), (.iload_n 2, 1)] ((.invokestatic 109, 3) :: ((.iaload, 1) :: (m_ap [(.istore_n 3, 1), (.aload_n 0, 1)] ((.getfield 14, 3) :: (m_ap [(.iload_n 1, 1), (.iconst 1, 1)] ((.invokestatic 106, 3) :: ((.iaload, 1) :: ([(.ifCond .ge 9, 3)]))))))))))) := m_Fe_of nd2491 0 15 rfl
theorem eF12_eats_32 : m_Fe mi12_91 32 (m_ap [(.iload_n 3, 1)] ([])) := m_Fe_of nd2491 19 1 rfl
theorem eF12_eats_26 : m_Fe mi12_91 26 (m_ap [(.iload_n 3, 1), (.iconst 2, 1)] ((.idiv, 1) :: ([(.goto 4, 3)]))) := m_Fe_of nd2491 15 4 rfl
theorem eF12_eats_33 : m_Fe mi12_91 33 (m_ap [(.aload_n 0, 1), (.iload_n 1, 1), (.iload_n 2, 1)] ((.invokevirtual 350, 3) :: ((.invokestatic 304, 3) :: (m_ap [(.istore 4, 2), (.aload_n 0, 1)] ((.getfield 14, 3) :: (m_ap [(.iload_n 1, 1), (.iconst 0, 1)] ((.invokestatic 106, 3) :: (m_ap [(.dup2, 1)] ((.iaload, 1) :: (m_ap [(.iload_n 3, 1), (.iload 4, 2), (.isub, 1), (.iadd, 1)] ((.iastore, 1) :: (m_ap [(.iconst 0, 1), (.istore 5, 2)] ([]))))))))))))) := m_Fe_of nd2491 20 20 rfl
theorem eF12_eats_64 : m_Fe mi12_91 64 (m_ap [(.iload 5, 2), (.aload_n 0, 1)] ((.getfield 14, 3) :: (m_ap [(.sipush 807, 3)] ((.iaload, 1) :: ([(.if_icmp .ge 70, 3)]))))) := m_Fe_of nd2491 40 6 rfl
theorem eF12_eats_144 : m_Fe mi12_91 144 ([(.return_, 1)]) := m_Fe_of nd2491 79 1 rfl
theorem eF12_eats_77 : m_Fe mi12_91 77 (m_ap [(.iload 4, 2)] ([(.ifCond .le 65, 3)])) := m_Fe_of nd2491 46 2 rfl
theorem eF12_eats_82 : m_Fe mi12_91 82 (m_ap [(.aload_n 0, 1), (.iload 5, 2), (.iload_n 1, 1)] ((.invokevirtual 347, 3) :: ([(.ifCond .eq 49, 3)]))) := m_Fe_of nd2491 48 5 rfl
theorem eF12_eats_138 : m_Fe mi12_91 138 (m_ap [(.iinc 5 1, 3)] ([(.goto (-77), 3)])) := m_Fe_of nd2491 77 2 rfl
theorem eF12_eats_92 : m_Fe mi12_91 92 (m_ap [(.aload_n 0, 1), (.iload 5, 2), (.iconst 0, 1)] ((.invokevirtual 115, 3) :: (m_ap [(.iload_n 2, 1)] ([(.if_icmp .eq 6, 3)])))) := m_Fe_of nd2491 53 6 rfl
theorem eF12_eats_106 : m_Fe mi12_91 106 (m_ap [(.iload 4, 2), (.aload_n 0, 1), (.iload 5, 2), (.bipush 13, 2)] ((.invokevirtual 115, 3) :: ((.invokestatic 304, 3) :: (m_ap [(.istore 6, 2), (.aload_n 0, 1), (.iload 5, 2), (.iconst 3, 1), (.iconst 4, 1), (.iload 6, 2)] ((.invokevirtual 338, 3) :: (m_ap [(.iload 4, 2), (.iload 6, 2), (.isub, 1), (.istore 4, 2)] ([]))))))) := m_Fe_of nd2491 60 17 rfl
theorem eF12_eats_103 : m_Fe mi12_91 103 ([(.goto 35, 3)]) := m_Fe_of nd2491 59 1 rfl
theorem SF12_eats_64b {xs : Nat → Int32} {L : Nat} (x0 : Nat) (x1 : Int32) (x2 : Int32) (s : Int32 × Int32 × m_H) {r : m_O × m_H} {K : ((Int32 × Int32 × m_H) ⊕ m_H) → Prop} (k0 : ∀ x, K (.inr x) → r = (.inl none, x)) (k1 : ∀ s, K (.inl s) → m_Rn xs L 7 2491 64 [(0, .ref x0), (1, .int x1), (2, .int x2), (4, .int s.1), (5, .int s.2.1)] [] s.2.2 r) {t : (Int32 × Int32 × m_H) ⊕ m_H} (h : F12_eats_64b x0 x1 x2 s = some t) (hK : K t) : m_Rn xs L 7 2491 64 [(0, .ref x0), (1, .int x1), (2, .int x2), (4, .int s.1), (5, .int s.2.1)] [] s.2.2 r := by
  unfold F12_eats_64b at h
  refine g_in eF12_eats_64 mx2491 ?_
  refine g_ch [(0, .ref x0), (1, .int x1), (2, .int x2), (4, .int s.1), (5, .int s.2.1)] [.ref x0, .int s.2.1] (pc' := 67) rfl rfl rfl ?_
  obtain ⟨v1, e2, h⟩ := m_bd h
  refine g_gr q12_f14 e2 ?_
  refine g_ch [(0, .ref x0), (1, .int x1), (2, .int x2), (4, .int s.1), (5, .int s.2.1)] [.int 807, .ref v1, .int s.2.1] (pc' := 73) rfl rfl rfl ?_
  obtain ⟨v3, e4, h⟩ := m_bd h
  refine g_ia e4 ?_
  rcases m_ifd h with ⟨c5, h⟩ | ⟨c5, h⟩
  · refine g_if (t := 144) rfl (m_geT c5) ?_
    refine g_in eF12_eats_144 mx2491 ?_
    cases h
    rw [k0 _ hK]
    exact g_vret rfl
  · refine g_ifn (t := 144) rfl (m_geF c5) ?_
    refine g_in eF12_eats_77 mx2491 ?_
    refine g_ch [(0, .ref x0), (1, .int x1), (2, .int x2), (4, .int s.1), (5, .int s.2.1)] [.int s.1] (pc' := 79) rfl rfl rfl ?_
    rcases m_ifd h with ⟨c6, h⟩ | ⟨c6, h⟩
    · refine g_ifc (t := 144) rfl (m_leT c6) ?_
      refine g_in eF12_eats_144 mx2491 ?_
      cases h
      rw [k0 _ hK]
      exact g_vret rfl
    · refine g_ifcn (t := 144) rfl (m_leF c6) ?_
      refine g_in eF12_eats_82 mx2491 ?_
      refine g_ch [(0, .ref x0), (1, .int x1), (2, .int x2), (4, .int s.1), (5, .int s.2.1)] [.int x1, .int s.2.1, .ref x0] (pc' := 86) rfl rfl rfl ?_
      obtain ⟨v8, e7, h⟩ := m_bd h
      refine g_call (v := some (.int v8)) (h := s.2.2) (st' := [.int v8]) (D1 := 2) (as := [.ref x0, .int s.2.1, .int x1]) (Or.inr (Or.inl rfl)) q12_m347 (m_cv (as := [.int x1, .int s.2.1]) (rest := []) (Or.inl rfl) q12_m347 jv2431 (OF12_isFor e7) rfl rfl rfl rfl) (by decide) (SF12_isFor e7) rfl ?_
      rcases m_ifd h with ⟨c9, h⟩ | ⟨c9, h⟩
      · refine g_ifc (t := 138) rfl (m_eqT c9) ?_
        refine g_in eF12_eats_138 mx2491 ?_
        refine g_ch [(5, .int (s.2.1 + 1)), (0, .ref x0), (1, .int x1), (2, .int x2), (4, .int s.1)] [] (pc' := 141) rfl rfl rfl ?_
        refine g_goto (t := 64) rfl ?_
        cases h
        exact r_lv (k1 (s.1, (s.2.1 + 1), s.2.2) hK) rfl ⟨rfl, rfl, rfl, rfl, rfl, trivial⟩
      · refine g_ifcn (t := 138) rfl (m_eqF c9) ?_
        refine g_in eF12_eats_92 mx2491 ?_
        refine g_ch [(0, .ref x0), (1, .int x1), (2, .int x2), (4, .int s.1), (5, .int s.2.1)] [.int 0, .int s.2.1, .ref x0] (pc' := 96) rfl rfl rfl ?_
        obtain ⟨v11, e10, h⟩ := m_bd h
        refine g_call (v := some (.int v11)) (h := s.2.2) (st' := [.int v11]) (D1 := 1) (as := [.ref x0, .int s.2.1, .int 0]) (Or.inr (Or.inl rfl)) q12_m115 (m_cv (as := [.int 0, .int s.2.1]) (rest := []) (Or.inl rfl) q12_m115 jv2426 (OF12_of e10) rfl rfl rfl rfl) (by decide) (SF12_of e10) rfl ?_
        refine g_ch [(0, .ref x0), (1, .int x1), (2, .int x2), (4, .int s.1), (5, .int s.2.1)] [.int x2, .int v11] (pc' := 100) rfl rfl rfl ?_
        rcases m_ifd h with ⟨c12, h⟩ | ⟨c12, h⟩
        · refine g_if (t := 106) rfl (m_eqT c12) ?_
          refine g_in eF12_eats_106 mx2491 ?_
          refine g_ch [(0, .ref x0), (1, .int x1), (2, .int x2), (4, .int s.1), (5, .int s.2.1)] [.int 13, .int s.2.1, .ref x0, .int s.1] (pc' := 113) rfl rfl rfl ?_
          obtain ⟨v14, e13, h⟩ := m_bd h
          refine g_call (v := some (.int v14)) (h := s.2.2) (st' := [.int v14, .int s.1]) (D1 := 1) (as := [.ref x0, .int s.2.1, .int 13]) (Or.inr (Or.inl rfl)) q12_m115 (m_cv (as := [.int 13, .int s.2.1]) (rest := [.int s.1]) (Or.inl rfl) q12_m115 jv2426 (OF12_of e13) rfl rfl rfl rfl) (by decide) (SF12_of e13) rfl ?_
          refine g_nat (Or.inl rfl) q12_m304 rfl (z := ([.int (m_min s.1 v14)], s.2.2)) rfl (by decide) ?_
          refine g_ch [(6, .int (m_min s.1 v14)), (0, .ref x0), (1, .int x1), (2, .int x2), (4, .int s.1), (5, .int s.2.1)] [.int (m_min s.1 v14), .int 4, .int 3, .int s.2.1, .ref x0] (pc' := 128) rfl rfl rfl ?_
          obtain ⟨h16, e15, h⟩ := m_bd h
          refine g_call (v := none) (h := h16) (st' := []) (D1 := 1) (as := [.ref x0, .int s.2.1, .int 3, .int 4, .int (m_min s.1 v14)]) (Or.inr (Or.inl rfl)) q12_m338 (m_cv (as := [.int (m_min s.1 v14), .int 4, .int 3, .int s.2.1]) (rest := []) (Or.inl rfl) q12_m338 jv2429 (OF12_moves e15) rfl rfl rfl rfl) (by decide) (SF12_moves e15) rfl ?_
          refine g_ch [(4, .int (s.1 - (m_min s.1 v14))), (6, .int (m_min s.1 v14)), (0, .ref x0), (1, .int x1), (2, .int x2), (5, .int s.2.1)] [] (pc' := 138) rfl rfl rfl ?_
          refine g_end ?_
          refine g_in eF12_eats_138 mx2491 ?_
          refine g_ch [(5, .int (s.2.1 + 1)), (4, .int (s.1 - (m_min s.1 v14))), (6, .int (m_min s.1 v14)), (0, .ref x0), (1, .int x1), (2, .int x2)] [] (pc' := 141) rfl rfl rfl ?_
          refine g_goto (t := 64) rfl ?_
          cases h
          exact r_lv (k1 ((s.1 - (m_min s.1 v14)), (s.2.1 + 1), h16) hK) rfl ⟨rfl, rfl, rfl, rfl, rfl, trivial⟩
        · refine g_ifn (t := 106) rfl (m_eqF c12) ?_
          refine g_in eF12_eats_103 mx2491 ?_
          refine g_goto (t := 138) rfl ?_
          refine g_in eF12_eats_138 mx2491 ?_
          refine g_ch [(5, .int (s.2.1 + 1)), (0, .ref x0), (1, .int x1), (2, .int x2), (4, .int s.1)] [] (pc' := 141) rfl rfl rfl ?_
          refine g_goto (t := 64) rfl ?_
          cases h
          exact r_lv (k1 (s.1, (s.2.1 + 1), s.2.2) hK) rfl ⟨rfl, rfl, rfl, rfl, rfl, trivial⟩
theorem SF12_eats_64 {xs : Nat → Int32} {L : Nat} (x0 : Nat) (x1 : Int32) (x2 : Int32) (x4 : Int32) (x5 : Int32) (hp : m_H) {r : m_O × m_H} {K : m_H → Prop} (k0 : ∀ x, K x → r = (.inl none, x)) {t : m_H} (h : F12_eats_64 x0 x1 x2 x4 x5 hp = some t) (hK : K t) : m_Rn xs L 7 2491 64 [(0, .ref x0), (1, .int x1), (2, .int x2), (4, .int x4), (5, .int x5)] [] hp r :=
  m_wh_ok (P := fun s => m_Rn xs L 7 2491 64 [(0, .ref x0), (1, .int x1), (2, .int x2), (4, .int s.1), (5, .int s.2.1)] [] s.2.2 r) (Q := K) (fun s t hb hK => SF12_eats_64b x0 x1 x2 s (K := m_KK (fun s => m_Rn xs L 7 2491 64 [(0, .ref x0), (1, .int x1), (2, .int x2), (4, .int s.1), (5, .int s.2.1)] [] s.2.2 r) K) k0 (fun _ q => q) hb hK) m_N _ _ h hK
theorem SF12_eats_33 {xs : Nat → Int32} {L : Nat} (x0 : Nat) (x1 : Int32) (x2 : Int32) (x3 : Int32) (s0 : Int32) (hp : m_H) {r : m_O × m_H} {K : m_H → Prop} (k0 : ∀ x, K x → r = (.inl none, x)) {t : m_H} (h : F12_eats_33 x0 x1 x2 x3 s0 hp = some t) (hK : K t) : m_Rn xs L 7 2491 33 [(0, .ref x0), (1, .int x1), (2, .int x2), (3, .int x3)] [.int s0] hp r := by
  unfold F12_eats_33 at h
  refine g_in eF12_eats_33 mx2491 ?_
  refine g_ch [(0, .ref x0), (1, .int x1), (2, .int x2), (3, .int x3)] [.int x2, .int x1, .ref x0, .int s0] (pc' := 36) rfl rfl rfl ?_
  obtain ⟨v2, e1, h⟩ := m_bd h
  refine g_call (v := some (.int v2)) (h := hp) (st' := [.int v2, .int s0]) (D1 := 3) (as := [.ref x0, .int x1, .int x2]) (Or.inr (Or.inl rfl)) q12_m350 (m_cv (as := [.int x2, .int x1]) (rest := [.int s0]) (Or.inl rfl) q12_m350 jv2490 (OF12_landedOf e1) rfl rfl rfl rfl) (by decide) (SF12_landedOf e1) rfl ?_
  refine g_nat (Or.inl rfl) q12_m304 rfl (z := ([.int (m_min s0 v2)], hp)) rfl (by decide) ?_
  refine g_ch [(4, .int (m_min s0 v2)), (0, .ref x0), (1, .int x1), (2, .int x2), (3, .int x3)] [.ref x0] (pc' := 45) rfl rfl rfl ?_
  obtain ⟨v3, e4, h⟩ := m_bd h
  refine g_gr q12_f14 e4 ?_
  refine g_ch [(4, .int (m_min s0 v2)), (0, .ref x0), (1, .int x1), (2, .int x2), (3, .int x3)] [.int 0, .int x1, .ref v3] (pc' := 50) rfl rfl rfl ?_
  obtain ⟨v6, e5, h⟩ := m_bd h
  refine g_call (v := some (.int v6)) (h := hp) (st' := [.int v6, .ref v3]) (D1 := 0) (as := [.int x1, .int 0]) (Or.inl rfl) q12_m106 (m_cs (as := [.int 0, .int x1]) (rest := [.ref v3]) q12_m106 jv2413 rfl rfl rfl rfl rfl) (by decide) (SF12_landAt e5) rfl ?_
  refine g_ch [(4, .int (m_min s0 v2)), (0, .ref x0), (1, .int x1), (2, .int x2), (3, .int x3)] [.int v6, .ref v3, .int v6, .ref v3] (pc' := 54) rfl rfl rfl ?_
  obtain ⟨v7, e8, h⟩ := m_bd h
  refine g_ia e8 ?_
  refine g_ch [(4, .int (m_min s0 v2)), (0, .ref x0), (1, .int x1), (2, .int x2), (3, .int x3)] [.int (v7 + (x3 - (m_min s0 v2))), .int v6, .ref v3] (pc' := 60) rfl rfl rfl ?_
  obtain ⟨h9, e10, h⟩ := m_bd h
  refine g_is e10 ?_
  refine g_ch [(5, .int 0), (4, .int (m_min s0 v2)), (0, .ref x0), (1, .int x1), (2, .int x2), (3, .int x3)] [] (pc' := 64) rfl rfl rfl ?_
  refine g_end ?_
  exact r_lv (SF12_eats_64 x0 x1 x2 (m_min s0 v2) 0 h9 (K := K) k0 h hK) rfl ⟨rfl, rfl, rfl, rfl, rfl, trivial⟩
theorem SF12_eats_0 {xs : Nat → Int32} {L : Nat} (x0 : Nat) (x1 : Int32) (x2 : Int32) (hp : m_H) {r : m_O × m_H} {K : m_H → Prop} (k0 : ∀ x, K x → r = (.inl none, x)) {t : m_H} (h : F12_eats_0 x0 x1 x2 hp = some t) (hK : K t) : m_Rn xs L 7 2491 0 [(0, .ref x0), (1, .int x1), (2, .int x2)] [] hp r := by
  unfold F12_eats_0 at h
  refine g_in eF12_eats_0 mx2491 ?_
  refine g_ch [(0, .ref x0), (1, .int x1), (2, .int x2)] [.ref x0] (pc' := 1) rfl rfl rfl ?_
  obtain ⟨v1, e2, h⟩ := m_bd h
  refine g_gr q12_f14 e2 ?_
  refine g_ch [(0, .ref x0), (1, .int x1), (2, .int x2)] [.int x2, .int x1, .int 61, .ref v1] (pc' := 8) rfl rfl rfl ?_
  obtain ⟨v4, e3, h⟩ := m_bd h
  refine g_call (v := some (.int v4)) (h := hp) (st' := [.int v4, .ref v1]) (D1 := 0) (as := [.int 61, .int x1, .int x2]) (Or.inl rfl) q12_m109 (m_cs (as := [.int x2, .int x1, .int 61]) (rest := [.ref v1]) q12_m109 jv2414 rfl rfl rfl rfl rfl) (by decide) (SF12_both e3) rfl ?_
  obtain ⟨v5, e6, h⟩ := m_bd h
  refine g_ia e6 ?_
  refine g_ch [(3, .int v5), (0, .ref x0), (1, .int x1), (2, .int x2)] [.ref x0] (pc' := 14) rfl rfl rfl ?_
  obtain ⟨v7, e8, h⟩ := m_bd h
  refine g_gr q12_f14 e8 ?_
  refine g_ch [(3, .int v5), (0, .ref x0), (1, .int x1), (2, .int x2)] [.int 1, .int x1, .ref v7] (pc' := 19) rfl rfl rfl ?_
  obtain ⟨v10, e9, h⟩ := m_bd h
  refine g_call (v := some (.int v10)) (h := hp) (st' := [.int v10, .ref v7]) (D1 := 0) (as := [.int x1, .int 1]) (Or.inl rfl) q12_m106 (m_cs (as := [.int 1, .int x1]) (rest := [.ref v7]) q12_m106 jv2413 rfl rfl rfl rfl rfl) (by decide) (SF12_landAt e9) rfl ?_
  obtain ⟨v11, e12, h⟩ := m_bd h
  refine g_ia e12 ?_
  rcases m_ifd h with ⟨c13, h⟩ | ⟨c13, h⟩
  · refine g_ifc (t := 32) rfl (m_geT c13) ?_
    refine g_in eF12_eats_32 mx2491 ?_
    refine g_ch [(3, .int v5), (0, .ref x0), (1, .int x1), (2, .int x2)] [.int v5] (pc' := 33) rfl rfl rfl ?_
    refine g_end ?_
    exact r_lv (SF12_eats_33 x0 x1 x2 v5 v5 hp (K := K) k0 h hK) rfl ⟨rfl, rfl, rfl, rfl, trivial⟩
  · refine g_ifcn (t := 32) rfl (m_geF c13) ?_
    refine g_in eF12_eats_26 mx2491 ?_
    refine g_ch [(3, .int v5), (0, .ref x0), (1, .int x1), (2, .int x2)] [.int 2, .int v5] (pc' := 28) rfl rfl rfl ?_
    obtain ⟨v14, e15, h⟩ := m_bd h
    refine g_dv e15 ?_
    refine g_goto (t := 33) rfl ?_
    exact r_lv (SF12_eats_33 x0 x1 x2 v5 v14 hp (K := K) k0 h hK) rfl ⟨rfl, rfl, rfl, rfl, trivial⟩
theorem OF12_eats {x0 : Nat} {x1 : Int32} {x2 : Int32} {hp : m_H} {x : m_H} (h : F12_eats x0 x1 x2 hp = some x) : m_isO hp 9 x0 = true := (m_gdd h).1
theorem SF12_eats {xs : Nat → Int32} {L : Nat} {x0 : Nat} {x1 : Int32} {x2 : Int32} {hp : m_H} {x : m_H} (h : F12_eats x0 x1 x2 hp = some x) : m_Rn xs L 7 2491 0 (lv_args 0 [.ref x0, .int x1, .int x2]) [] hp (.inl none, x) :=
  r_lv (SF12_eats_0 x0 x1 x2 hp (K := fun y => y = x) (fun y e => by rw [e]) (m_gdd h).2 rfl) rfl ⟨rfl, rfl, rfl, trivial⟩
-- F12_goesOn: LendHouseModel.goesOn()V
theorem eF12_goesOn_0 : m_Fe mi12_92 0 (m_ap [(.aload_n 0, 1)] ((.invokevirtual 118, 3) :: (m_ap [(.istore_n 1, 1), (.iconst 1, 1), (.istore_n 2, 1)] ([])))) := m_Fe_of nd2492 0 5 rfl
theorem eF12_goesOn_7 : m_Fe mi12_92 7 (m_ap [(.iload_n 2, 1), (.bipush 6, 2)] ([(.if_icmp .ge 52, 3)])) := m_Fe_of nd2492 5 3 rfl
theorem eF12_goesOn_62 : m_Fe mi12_92 62 (m_ap [(.aload_n 0, 1)] ((.getfield 14, 3) :: (m_ap [(.iconst 0, 1), (.dup2, 1)] ((.iaload, 1) :: (m_ap [(.iconst 1, 1), (.iadd, 1)] ((.iastore, 1) :: (m_ap [(.iload_n 1, 1)] ([(.ifCond .eq 4, 3)])))))))) := m_Fe_of nd2492 36 10 rfl
theorem eF12_goesOn_77 : m_Fe mi12_92 77 (m_ap [(.aload_n 0, 1)] ((.invokevirtual 353, 3) :: (m_ap [(.iconst 0, 1), (.istore_n 2, 1)] ([])))) := m_Fe_of nd2492 47 4 rfl
theorem eF12_goesOn_76 : m_Fe mi12_92 76 ([(.return_, 1)]) := m_Fe_of nd2492 46 1 rfl
theorem eF12_goesOn_13 : m_Fe mi12_92 13 (m_ap [(.iconst 0, 1), (.istore_n 3, 1)] ([])) := m_Fe_of nd2492 8 2 rfl
theorem eF12_goesOn_83 : m_Fe mi12_92 83 (m_ap [(.iload_n 2, 1), (.aload_n 0, 1)] ((.getfield 14, 3) :: (m_ap [(.sipush 3209, 3)] ((.iaload, 1) :: ([(.if_icmp .ge 34, 3)]))))) := m_Fe_of nd2492 51 6 rfl
theorem eF12_goesOn_126 : m_Fe mi12_92 126 (m_ap [(.iconst 1, 1), (.istore_n 2, 1)] ([])) := m_Fe_of nd2492 74 2 rfl
theorem eF12_goesOn_95 : m_Fe mi12_92 95 (m_ap [(.aload_n 0, 1), (.iload_n 2, 1), (.iconst 2, 1)] ((.invokevirtual 326, 3) :: (m_ap [(.iconst 1, 1)] ([(.if_icmp .eq 13, 3)])))) := m_Fe_of nd2492 57 6 rfl
theorem eF12_goesOn_115 : m_Fe mi12_92 115 (m_ap [(.aload_n 0, 1), (.iload_n 2, 1)] ([(.invokevirtual 356, 3)])) := m_Fe_of nd2492 69 3 rfl
theorem eF12_goesOn_120 : m_Fe mi12_92 120 (m_ap [(.iinc 2 1, 3)] ([(.goto (-40), 3)])) := m_Fe_of nd2492 72 2 rfl
theorem eF12_goesOn_105 : m_Fe mi12_92 105 (m_ap [(.aload_n 0, 1), (.iload_n 2, 1), (.iconst 2, 1)] ((.invokevirtual 326, 3) :: (m_ap [(.iconst 3, 1)] ([(.if_icmp .ne 8, 3)])))) := m_Fe_of nd2492 63 6 rfl
theorem eF12_goesOn_15 : m_Fe mi12_92 15 (m_ap [(.iload_n 3, 1), (.bipush 8, 2)] ([(.if_icmp .ge 38, 3)])) := m_Fe_of nd2492 10 3 rfl
theorem eF12_goesOn_56 : m_Fe mi12_92 56 (m_ap [(.iinc 2 1, 3)] ([(.goto (-52), 3)])) := m_Fe_of nd2492 34 2 rfl
theorem eF12_goesOn_21 : m_Fe mi12_92 21 (m_ap [(.aload_n 0, 1)] ((.getfield 14, 3) :: (m_ap [(.sipush 4326, 3), (.bipush 48, 2), (.aload_n 0, 1)] ((.invokevirtual 86, 3) :: (m_ap [(.imul, 1), (.iadd, 1), (.bipush 8, 2), (.iload_n 2, 1), (.imul, 1), (.iadd, 1), (.iload_n 3, 1), (.iadd, 1)] (m_ap [(.aload_n 0, 1), (.iload_n 2, 1), (.iload_n 3, 1)] ((.invokevirtual 350, 3) :: ((.iastore, 1) :: (m_ap [(.iinc 3 1, 3)] ([(.goto (-38), 3)])))))))))) := m_Fe_of nd2492 13 21 rfl
theorem eF12_goesOn_128 : m_Fe mi12_92 128 (m_ap [(.iload_n 2, 1), (.bipush 6, 2)] ([(.if_icmp .ge 29, 3)])) := m_Fe_of nd2492 76 3 rfl
theorem eF12_goesOn_160 : m_Fe mi12_92 160 (m_ap [(.iconst 1, 1), (.istore_n 2, 1)] ([])) := m_Fe_of nd2492 92 2 rfl
theorem eF12_goesOn_134 : m_Fe mi12_92 134 (m_ap [(.iconst 0, 1), (.istore_n 3, 1)] ([])) := m_Fe_of nd2492 79 2 rfl
theorem eF12_goesOn_162 : m_Fe mi12_92 162 (m_ap [(.iload_n 2, 1), (.bipush 6, 2)] ([(.if_icmp .ge 51, 3)])) := m_Fe_of nd2492 94 3 rfl
theorem eF12_goesOn_216 : m_Fe mi12_92 216 (m_ap [(.iconst 0, 1), (.istore_n 2, 1)] ([])) := m_Fe_of nd2492 125 2 rfl
theorem eF12_goesOn_168 : m_Fe mi12_92 168 (m_ap [(.aload_n 0, 1)] ((.getfield 14, 3) :: (m_ap [(.iload_n 2, 1), (.iconst 1, 1)] ((.invokestatic 106, 3) :: ((.iaload, 1) :: (m_ap [(.istore_n 3, 1), (.aload_n 0, 1)] ((.getfield 14, 3) :: (m_ap [(.iload_n 2, 1), (.iconst 1, 1)] ((.invokestatic 106, 3) :: (m_ap [(.iload_n 3, 1)] ([(.ifCond .ge 9, 3)]))))))))))) := m_Fe_of nd2492 97 14 rfl
theorem eF12_goesOn_198 : m_Fe mi12_92 198 (m_ap [(.iload_n 3, 1)] ([(.ifCond .le 9, 3)])) := m_Fe_of nd2492 115 2 rfl
theorem eF12_goesOn_208 : m_Fe mi12_92 208 (m_ap [(.iconst 0, 1)] ([])) := m_Fe_of nd2492 121 1 rfl
theorem eF12_goesOn_209 : m_Fe mi12_92 209 ((.iastore, 1) :: (m_ap [(.iinc 2 1, 3)] ([(.goto (-51), 3)]))) := m_Fe_of nd2492 122 3 rfl
theorem eF12_goesOn_202 : m_Fe mi12_92 202 (m_ap [(.iload_n 3, 1), (.iconst 1, 1), (.isub, 1)] ([(.goto 4, 3)])) := m_Fe_of nd2492 117 4 rfl
theorem eF12_goesOn_192 : m_Fe mi12_92 192 (m_ap [(.iload_n 3, 1), (.iconst 1, 1), (.iadd, 1)] ([(.goto 14, 3)])) := m_Fe_of nd2492 111 4 rfl
theorem eF12_goesOn_136 : m_Fe mi12_92 136 (m_ap [(.iload_n 3, 1), (.bipush 8, 2)] ([(.if_icmp .ge 15, 3)])) := m_Fe_of nd2492 81 3 rfl
theorem eF12_goesOn_154 : m_Fe mi12_92 154 (m_ap [(.iinc 2 1, 3)] ([(.goto (-29), 3)])) := m_Fe_of nd2492 90 2 rfl
theorem eF12_goesOn_142 : m_Fe mi12_92 142 (m_ap [(.aload_n 0, 1), (.iload_n 2, 1), (.iload_n 3, 1)] ((.invokevirtual 360, 3) :: (m_ap [(.iinc 3 1, 3)] ([(.goto (-15), 3)])))) := m_Fe_of nd2492 84 6 rfl
theorem eF12_goesOn_218 : m_Fe mi12_92 218 (m_ap [(.iload_n 2, 1), (.aload_n 0, 1)] ((.getfield 14, 3) :: (m_ap [(.sipush 4168, 3)] ((.iaload, 1) :: ([(.if_icmp .ge 90, 3)]))))) := m_Fe_of nd2492 127 6 rfl
theorem eF12_goesOn_317 : m_Fe mi12_92 317 ([(.return_, 1)]) := m_Fe_of nd2492 192 1 rfl
theorem eF12_goesOn_230 : m_Fe mi12_92 230 (m_ap [(.iload_n 2, 1)] ((.invokestatic 363, 3) :: (m_ap [(.istore_n 3, 1), (.aload_n 0, 1)] ((.invokevirtual 86, 3) :: (m_ap [(.aload_n 0, 1)] ((.getfield 14, 3) :: (m_ap [(.iload_n 3, 1), (.iconst 1, 1), (.iadd, 1)] ((.iaload, 1) :: (m_ap [(.iconst 1, 1), (.iadd, 1), (.aload_n 0, 1)] ((.getfield 14, 3) :: (m_ap [(.iload_n 3, 1), (.iconst 1, 1), (.iadd, 1)] ((.iaload, 1) :: (m_ap [(.aload_n 0, 1)] ((.getfield 14, 3) :: (m_ap [(.iload_n 3, 1), (.iconst 2, 1), (.iadd, 1)] ((.iaload, 1) :: (m_ap [(.iadd, 1)] ((.invokestatic 74, 3) :: ([(.ifCond .ne 6, 3)]))))))))))))))))))) := m_Fe_of nd2492 133 28 rfl
theorem eF12_goesOn_275 : m_Fe mi12_92 275 (m_ap [(.aload_n 0, 1)] ((.getfield 14, 3) :: (m_ap [(.iload_n 3, 1), (.iconst 5, 1), (.iadd, 1), (.dup2, 1)] ((.iaload, 1) :: (m_ap [(.aload_n 0, 1)] ((.getfield 14, 3) :: (m_ap [(.iload_n 3, 1), (.iconst 4, 1), (.iadd, 1)] ((.iaload, 1) :: (m_ap [(.iadd, 1)] ((.iastore, 1) :: (m_ap [(.aload_n 0, 1)] ((.getfield 14, 3) :: (m_ap [(.iconst 4, 1), (.dup2, 1)] ((.iaload, 1) :: (m_ap [(.aload_n 0, 1)] ((.getfield 14, 3) :: (m_ap [(.iload_n 3, 1), (.iconst 4, 1), (.iadd, 1)] ((.iaload, 1) :: (m_ap [(.iadd, 1)] ([(.iastore, 1)])))))))))))))))))))) := m_Fe_of nd2492 162 28 rfl
theorem eF12_goesOn_311 : m_Fe mi12_92 311 (m_ap [(.iinc 2 1, 3)] ([(.goto (-96), 3)])) := m_Fe_of nd2492 190 2 rfl
theorem eF12_goesOn_272 : m_Fe mi12_92 272 ([(.goto 39, 3)]) := m_Fe_of nd2492 161 1 rfl
theorem SF12_goesOn_218b {xs : Nat → Int32} {L : Nat} (x0 : Nat) (s : Int32 × m_H) {r : m_O × m_H} {K : ((Int32 × m_H) ⊕ m_H) → Prop} (k0 : ∀ x, K (.inr x) → r = (.inl none, x)) (k1 : ∀ s, K (.inl s) → m_Rn xs L 9 2492 218 [(0, .ref x0), (2, .int s.1)] [] s.2 r) {t : (Int32 × m_H) ⊕ m_H} (h : F12_goesOn_218b x0 s = some t) (hK : K t) : m_Rn xs L 9 2492 218 [(0, .ref x0), (2, .int s.1)] [] s.2 r := by
  unfold F12_goesOn_218b at h
  refine g_in eF12_goesOn_218 mx2492 ?_
  refine g_ch [(0, .ref x0), (2, .int s.1)] [.ref x0, .int s.1] (pc' := 220) rfl rfl rfl ?_
  obtain ⟨v1, e2, h⟩ := m_bd h
  refine g_gr q12_f14 e2 ?_
  refine g_ch [(0, .ref x0), (2, .int s.1)] [.int 4168, .ref v1, .int s.1] (pc' := 226) rfl rfl rfl ?_
  obtain ⟨v3, e4, h⟩ := m_bd h
  refine g_ia e4 ?_
  rcases m_ifd h with ⟨c5, h⟩ | ⟨c5, h⟩
  · refine g_if (t := 317) rfl (m_geT c5) ?_
    refine g_in eF12_goesOn_317 mx2492 ?_
    cases h
    rw [k0 _ hK]
    exact g_vret rfl
  · refine g_ifn (t := 317) rfl (m_geF c5) ?_
    refine g_in eF12_goesOn_230 mx2492 ?_
    refine g_ch [(0, .ref x0), (2, .int s.1)] [.int s.1] (pc' := 231) rfl rfl rfl ?_
    obtain ⟨v7, e6, h⟩ := m_bd h
    refine g_call (v := some (.int v7)) (h := s.2) (st' := [.int v7]) (D1 := 0) (as := [.int s.1]) (Or.inl rfl) q12_m363 (m_cs (as := [.int s.1]) (rest := []) q12_m363 jv2508 rfl rfl rfl rfl rfl) (by decide) (SF12_baseAt e6) rfl ?_
    refine g_ch [(3, .int v7), (0, .ref x0), (2, .int s.1)] [.ref x0] (pc' := 236) rfl rfl rfl ?_
    obtain ⟨v9, e8, h⟩ := m_bd h
    refine g_call (v := some (.int v9)) (h := s.2) (st' := [.int v9]) (D1 := 0) (as := [.ref x0]) (Or.inr (Or.inl rfl)) q12_m86 (m_cv (as := []) (rest := []) (Or.inl rfl) q12_m86 jv2404 (OF12_week e8) rfl rfl rfl rfl) (by decide) (SF12_week e8) rfl ?_
    refine g_ch [(3, .int v7), (0, .ref x0), (2, .int s.1)] [.ref x0, .int v9] (pc' := 240) rfl rfl rfl ?_
    obtain ⟨v10, e11, h⟩ := m_bd h
    refine g_gr q12_f14 e11 ?_
    refine g_ch [(3, .int v7), (0, .ref x0), (2, .int s.1)] [.int (v7 + 1), .ref v10, .int v9] (pc' := 246) rfl rfl rfl ?_
    obtain ⟨v12, e13, h⟩ := m_bd h
    refine g_ia e13 ?_
    refine g_ch [(3, .int v7), (0, .ref x0), (2, .int s.1)] [.ref x0, .int (v12 + 1), .int v9] (pc' := 250) rfl rfl rfl ?_
    obtain ⟨v14, e15, h⟩ := m_bd h
    refine g_gr q12_f14 e15 ?_
    refine g_ch [(3, .int v7), (0, .ref x0), (2, .int s.1)] [.int (v7 + 1), .ref v14, .int (v12 + 1), .int v9] (pc' := 256) rfl rfl rfl ?_
    obtain ⟨v16, e17, h⟩ := m_bd h
    refine g_ia e17 ?_
    refine g_ch [(3, .int v7), (0, .ref x0), (2, .int s.1)] [.ref x0, .int v16, .int (v12 + 1), .int v9] (pc' := 258) rfl rfl rfl ?_
    obtain ⟨v18, e19, h⟩ := m_bd h
    refine g_gr q12_f14 e19 ?_
    refine g_ch [(3, .int v7), (0, .ref x0), (2, .int s.1)] [.int (v7 + 2), .ref v18, .int v16, .int (v12 + 1), .int v9] (pc' := 264) rfl rfl rfl ?_
    obtain ⟨v20, e21, h⟩ := m_bd h
    refine g_ia e21 ?_
    refine g_ch [(3, .int v7), (0, .ref x0), (2, .int s.1)] [.int (v16 + v20), .int (v12 + 1), .int v9] (pc' := 266) rfl rfl rfl ?_
    obtain ⟨v23, e22, h⟩ := m_bd h
    refine g_call (v := some (.int v23)) (h := s.2) (st' := [.int v23]) (D1 := 0) (as := [.int v9, .int (v12 + 1), .int (v16 + v20)]) (Or.inl rfl) q12_m74 (m_cs (as := [.int (v16 + v20), .int (v12 + 1), .int v9]) (rest := []) q12_m74 jv2402 rfl rfl rfl rfl rfl) (by decide) (SF12_in e22) rfl ?_
    rcases m_ifd h with ⟨c24, h⟩ | ⟨c24, h⟩
    · refine g_ifcn (t := 275) rfl (m_neF c24) ?_
      refine g_in eF12_goesOn_272 mx2492 ?_
      refine g_goto (t := 311) rfl ?_
      refine g_in eF12_goesOn_311 mx2492 ?_
      refine g_ch [(2, .int (s.1 + 1)), (3, .int v7), (0, .ref x0)] [] (pc' := 314) rfl rfl rfl ?_
      refine g_goto (t := 218) rfl ?_
      cases h
      exact r_lv (k1 ((s.1 + 1), s.2) hK) rfl ⟨rfl, rfl, trivial⟩
    · refine g_ifc (t := 275) rfl (m_neT c24) ?_
      refine g_in eF12_goesOn_275 mx2492 ?_
      refine g_ch [(3, .int v7), (0, .ref x0), (2, .int s.1)] [.ref x0] (pc' := 276) rfl rfl rfl ?_
      obtain ⟨v25, e26, h⟩ := m_bd h
      refine g_gr q12_f14 e26 ?_
      refine g_ch [(3, .int v7), (0, .ref x0), (2, .int s.1)] [.int (v7 + 5), .ref v25, .int (v7 + 5), .ref v25] (pc' := 283) rfl rfl rfl ?_
      obtain ⟨v27, e28, h⟩ := m_bd h
      refine g_ia e28 ?_
      refine g_ch [(3, .int v7), (0, .ref x0), (2, .int s.1)] [.ref x0, .int v27, .int (v7 + 5), .ref v25] (pc' := 285) rfl rfl rfl ?_
      obtain ⟨v29, e30, h⟩ := m_bd h
      refine g_gr q12_f14 e30 ?_
      refine g_ch [(3, .int v7), (0, .ref x0), (2, .int s.1)] [.int (v7 + 4), .ref v29, .int v27, .int (v7 + 5), .ref v25] (pc' := 291) rfl rfl rfl ?_
      obtain ⟨v31, e32, h⟩ := m_bd h
      refine g_ia e32 ?_
      refine g_ch [(3, .int v7), (0, .ref x0), (2, .int s.1)] [.int (v27 + v31), .int (v7 + 5), .ref v25] (pc' := 293) rfl rfl rfl ?_
      obtain ⟨h33, e34, h⟩ := m_bd h
      refine g_is e34 ?_
      refine g_ch [(3, .int v7), (0, .ref x0), (2, .int s.1)] [.ref x0] (pc' := 295) rfl rfl rfl ?_
      obtain ⟨v35, e36, h⟩ := m_bd h
      refine g_gr q12_f14 e36 ?_
      refine g_ch [(3, .int v7), (0, .ref x0), (2, .int s.1)] [.int 4, .ref v35, .int 4, .ref v35] (pc' := 300) rfl rfl rfl ?_
      obtain ⟨v37, e38, h⟩ := m_bd h
      refine g_ia e38 ?_
      refine g_ch [(3, .int v7), (0, .ref x0), (2, .int s.1)] [.ref x0, .int v37, .int 4, .ref v35] (pc' := 302) rfl rfl rfl ?_
      obtain ⟨v39, e40, h⟩ := m_bd h
      refine g_gr q12_f14 e40 ?_
      refine g_ch [(3, .int v7), (0, .ref x0), (2, .int s.1)] [.int (v7 + 4), .ref v39, .int v37, .int 4, .ref v35] (pc' := 308) rfl rfl rfl ?_
      obtain ⟨v41, e42, h⟩ := m_bd h
      refine g_ia e42 ?_
      refine g_ch [(3, .int v7), (0, .ref x0), (2, .int s.1)] [.int (v37 + v41), .int 4, .ref v35] (pc' := 310) rfl rfl rfl ?_
      obtain ⟨h43, e44, h⟩ := m_bd h
      refine g_is e44 ?_
      refine g_end ?_
      refine g_in eF12_goesOn_311 mx2492 ?_
      refine g_ch [(2, .int (s.1 + 1)), (3, .int v7), (0, .ref x0)] [] (pc' := 314) rfl rfl rfl ?_
      refine g_goto (t := 218) rfl ?_
      cases h
      exact r_lv (k1 ((s.1 + 1), h43) hK) rfl ⟨rfl, rfl, trivial⟩
theorem SF12_goesOn_218 {xs : Nat → Int32} {L : Nat} (x0 : Nat) (x2 : Int32) (hp : m_H) {r : m_O × m_H} {K : m_H → Prop} (k0 : ∀ x, K x → r = (.inl none, x)) {t : m_H} (h : F12_goesOn_218 x0 x2 hp = some t) (hK : K t) : m_Rn xs L 9 2492 218 [(0, .ref x0), (2, .int x2)] [] hp r :=
  m_wh_ok (P := fun s => m_Rn xs L 9 2492 218 [(0, .ref x0), (2, .int s.1)] [] s.2 r) (Q := K) (fun s t hb hK => SF12_goesOn_218b x0 s (K := m_KK (fun s => m_Rn xs L 9 2492 218 [(0, .ref x0), (2, .int s.1)] [] s.2 r) K) k0 (fun _ q => q) hb hK) m_N _ _ h hK
theorem SF12_goesOn_162b {xs : Nat → Int32} {L : Nat} (x0 : Nat) (s : Int32 × m_H) {r : m_O × m_H} {K : ((Int32 × m_H) ⊕ m_H) → Prop} (k0 : ∀ x, K (.inr x) → r = (.inl none, x)) (k1 : ∀ s, K (.inl s) → m_Rn xs L 9 2492 162 [(0, .ref x0), (2, .int s.1)] [] s.2 r) {t : (Int32 × m_H) ⊕ m_H} (h : F12_goesOn_162b x0 s = some t) (hK : K t) : m_Rn xs L 9 2492 162 [(0, .ref x0), (2, .int s.1)] [] s.2 r := by
  unfold F12_goesOn_162b at h
  refine g_in eF12_goesOn_162 mx2492 ?_
  refine g_ch [(0, .ref x0), (2, .int s.1)] [.int 6, .int s.1] (pc' := 165) rfl rfl rfl ?_
  rcases m_ifd h with ⟨c1, h⟩ | ⟨c1, h⟩
  · refine g_if (t := 216) rfl (m_geT c1) ?_
    refine g_in eF12_goesOn_216 mx2492 ?_
    refine g_ch [(2, .int 0), (0, .ref x0)] [] (pc' := 218) rfl rfl rfl ?_
    refine g_end ?_
    obtain ⟨t', h2, rfl⟩ := Option.map_eq_some_iff.mp h
    exact r_lv (SF12_goesOn_218 x0 0 s.2 (K := fun t => K (.inr t)) k0 h2 hK) rfl ⟨rfl, rfl, trivial⟩
  · refine g_ifn (t := 216) rfl (m_geF c1) ?_
    refine g_in eF12_goesOn_168 mx2492 ?_
    refine g_ch [(0, .ref x0), (2, .int s.1)] [.ref x0] (pc' := 169) rfl rfl rfl ?_
    obtain ⟨v2, e3, h⟩ := m_bd h
    refine g_gr q12_f14 e3 ?_
    refine g_ch [(0, .ref x0), (2, .int s.1)] [.int 1, .int s.1, .ref v2] (pc' := 174) rfl rfl rfl ?_
    obtain ⟨v5, e4, h⟩ := m_bd h
    refine g_call (v := some (.int v5)) (h := s.2) (st' := [.int v5, .ref v2]) (D1 := 0) (as := [.int s.1, .int 1]) (Or.inl rfl) q12_m106 (m_cs (as := [.int 1, .int s.1]) (rest := [.ref v2]) q12_m106 jv2413 rfl rfl rfl rfl rfl) (by decide) (SF12_landAt e4) rfl ?_
    obtain ⟨v6, e7, h⟩ := m_bd h
    refine g_ia e7 ?_
    refine g_ch [(3, .int v6), (0, .ref x0), (2, .int s.1)] [.ref x0] (pc' := 180) rfl rfl rfl ?_
    obtain ⟨v8, e9, h⟩ := m_bd h
    refine g_gr q12_f14 e9 ?_
    refine g_ch [(3, .int v6), (0, .ref x0), (2, .int s.1)] [.int 1, .int s.1, .ref v8] (pc' := 185) rfl rfl rfl ?_
    obtain ⟨v11, e10, h⟩ := m_bd h
    refine g_call (v := some (.int v11)) (h := s.2) (st' := [.int v11, .ref v8]) (D1 := 0) (as := [.int s.1, .int 1]) (Or.inl rfl) q12_m106 (m_cs (as := [.int 1, .int s.1]) (rest := [.ref v8]) q12_m106 jv2413 rfl rfl rfl rfl rfl) (by decide) (SF12_landAt e10) rfl ?_
    refine g_ch [(3, .int v6), (0, .ref x0), (2, .int s.1)] [.int v6, .int v11, .ref v8] (pc' := 189) rfl rfl rfl ?_
    rcases m_ifd h with ⟨c12, h⟩ | ⟨c12, h⟩
    · refine g_ifc (t := 198) rfl (m_geT c12) ?_
      refine g_in eF12_goesOn_198 mx2492 ?_
      refine g_ch [(3, .int v6), (0, .ref x0), (2, .int s.1)] [.int v6, .int v11, .ref v8] (pc' := 199) rfl rfl rfl ?_
      rcases m_ifd h with ⟨c13, h⟩ | ⟨c13, h⟩
      · refine g_ifc (t := 208) rfl (m_leT c13) ?_
        refine g_in eF12_goesOn_208 mx2492 ?_
        refine g_ch [(3, .int v6), (0, .ref x0), (2, .int s.1)] [.int 0, .int v11, .ref v8] (pc' := 209) rfl rfl rfl ?_
        refine g_end ?_
        refine g_in eF12_goesOn_209 mx2492 ?_
        obtain ⟨h14, e15, h⟩ := m_bd h
        refine g_is e15 ?_
        refine g_ch [(2, .int (s.1 + 1)), (3, .int v6), (0, .ref x0)] [] (pc' := 213) rfl rfl rfl ?_
        refine g_goto (t := 162) rfl ?_
        cases h
        exact r_lv (k1 ((s.1 + 1), h14) hK) rfl ⟨rfl, rfl, trivial⟩
      · refine g_ifcn (t := 208) rfl (m_leF c13) ?_
        refine g_in eF12_goesOn_202 mx2492 ?_
        refine g_ch [(3, .int v6), (0, .ref x0), (2, .int s.1)] [.int (v6 - 1), .int v11, .ref v8] (pc' := 205) rfl rfl rfl ?_
        refine g_goto (t := 209) rfl ?_
        refine g_in eF12_goesOn_209 mx2492 ?_
        obtain ⟨h16, e17, h⟩ := m_bd h
        refine g_is e17 ?_
        refine g_ch [(2, .int (s.1 + 1)), (3, .int v6), (0, .ref x0)] [] (pc' := 213) rfl rfl rfl ?_
        refine g_goto (t := 162) rfl ?_
        cases h
        exact r_lv (k1 ((s.1 + 1), h16) hK) rfl ⟨rfl, rfl, trivial⟩
    · refine g_ifcn (t := 198) rfl (m_geF c12) ?_
      refine g_in eF12_goesOn_192 mx2492 ?_
      refine g_ch [(3, .int v6), (0, .ref x0), (2, .int s.1)] [.int (v6 + 1), .int v11, .ref v8] (pc' := 195) rfl rfl rfl ?_
      refine g_goto (t := 209) rfl ?_
      refine g_in eF12_goesOn_209 mx2492 ?_
      obtain ⟨h18, e19, h⟩ := m_bd h
      refine g_is e19 ?_
      refine g_ch [(2, .int (s.1 + 1)), (3, .int v6), (0, .ref x0)] [] (pc' := 213) rfl rfl rfl ?_
      refine g_goto (t := 162) rfl ?_
      cases h
      exact r_lv (k1 ((s.1 + 1), h18) hK) rfl ⟨rfl, rfl, trivial⟩
theorem SF12_goesOn_162 {xs : Nat → Int32} {L : Nat} (x0 : Nat) (x2 : Int32) (hp : m_H) {r : m_O × m_H} {K : m_H → Prop} (k0 : ∀ x, K x → r = (.inl none, x)) {t : m_H} (h : F12_goesOn_162 x0 x2 hp = some t) (hK : K t) : m_Rn xs L 9 2492 162 [(0, .ref x0), (2, .int x2)] [] hp r :=
  m_wh_ok (P := fun s => m_Rn xs L 9 2492 162 [(0, .ref x0), (2, .int s.1)] [] s.2 r) (Q := K) (fun s t hb hK => SF12_goesOn_162b x0 s (K := m_KK (fun s => m_Rn xs L 9 2492 162 [(0, .ref x0), (2, .int s.1)] [] s.2 r) K) k0 (fun _ q => q) hb hK) m_N _ _ h hK
theorem SF12_goesOn_136b {xs : Nat → Int32} {L : Nat} (x0 : Nat) (x2 : Int32) (s : Int32 × m_H) {r : m_O × m_H} {K : ((Int32 × m_H) ⊕ ((Int32 × m_H) ⊕ m_H)) → Prop} (k0 : ∀ x, K (.inr (.inr x)) → r = (.inl none, x)) (k1 : ∀ s, K (.inr (.inl s)) → m_Rn xs L 9 2492 128 [(0, .ref x0), (2, .int s.1)] [] s.2 r) (k2 : ∀ s, K (.inl s) → m_Rn xs L 9 2492 136 [(0, .ref x0), (2, .int x2), (3, .int s.1)] [] s.2 r) {t : (Int32 × m_H) ⊕ ((Int32 × m_H) ⊕ m_H)} (h : F12_goesOn_136b x0 x2 s = some t) (hK : K t) : m_Rn xs L 9 2492 136 [(0, .ref x0), (2, .int x2), (3, .int s.1)] [] s.2 r := by
  unfold F12_goesOn_136b at h
  refine g_in eF12_goesOn_136 mx2492 ?_
  refine g_ch [(0, .ref x0), (2, .int x2), (3, .int s.1)] [.int 8, .int s.1] (pc' := 139) rfl rfl rfl ?_
  rcases m_ifd h with ⟨c1, h⟩ | ⟨c1, h⟩
  · refine g_if (t := 154) rfl (m_geT c1) ?_
    refine g_in eF12_goesOn_154 mx2492 ?_
    refine g_ch [(2, .int (x2 + 1)), (0, .ref x0), (3, .int s.1)] [] (pc' := 157) rfl rfl rfl ?_
    refine g_goto (t := 128) rfl ?_
    cases h
    exact r_lv (k1 ((x2 + 1), s.2) hK) rfl ⟨rfl, rfl, trivial⟩
  · refine g_ifn (t := 154) rfl (m_geF c1) ?_
    refine g_in eF12_goesOn_142 mx2492 ?_
    refine g_ch [(0, .ref x0), (2, .int x2), (3, .int s.1)] [.int s.1, .int x2, .ref x0] (pc' := 145) rfl rfl rfl ?_
    obtain ⟨h3, e2, h⟩ := m_bd h
    refine g_call (v := none) (h := h3) (st' := []) (D1 := 7) (as := [.ref x0, .int x2, .int s.1]) (Or.inr (Or.inl rfl)) q12_m360 (m_cv (as := [.int s.1, .int x2]) (rest := []) (Or.inl rfl) q12_m360 jv2491 (OF12_eats e2) rfl rfl rfl rfl) (by decide) (SF12_eats e2) rfl ?_
    refine g_ch [(3, .int (s.1 + 1)), (0, .ref x0), (2, .int x2)] [] (pc' := 151) rfl rfl rfl ?_
    refine g_goto (t := 136) rfl ?_
    cases h
    exact r_lv (k2 ((s.1 + 1), h3) hK) rfl ⟨rfl, rfl, rfl, trivial⟩
theorem SF12_goesOn_136 {xs : Nat → Int32} {L : Nat} (x0 : Nat) (x2 : Int32) (x3 : Int32) (hp : m_H) {r : m_O × m_H} {K : (Int32 × m_H) ⊕ m_H → Prop} (k0 : ∀ x, K (.inr x) → r = (.inl none, x)) (k1 : ∀ s, K (.inl s) → m_Rn xs L 9 2492 128 [(0, .ref x0), (2, .int s.1)] [] s.2 r) {t : (Int32 × m_H) ⊕ m_H} (h : F12_goesOn_136 x0 x2 x3 hp = some t) (hK : K t) : m_Rn xs L 9 2492 136 [(0, .ref x0), (2, .int x2), (3, .int x3)] [] hp r :=
  m_wh_ok (P := fun s => m_Rn xs L 9 2492 136 [(0, .ref x0), (2, .int x2), (3, .int s.1)] [] s.2 r) (Q := K) (fun s t hb hK => SF12_goesOn_136b x0 x2 s (K := m_KK (fun s => m_Rn xs L 9 2492 136 [(0, .ref x0), (2, .int x2), (3, .int s.1)] [] s.2 r) K) k0 k1 (fun _ q => q) hb hK) m_N _ _ h hK
theorem SF12_goesOn_128b {xs : Nat → Int32} {L : Nat} (x0 : Nat) (s : Int32 × m_H) {r : m_O × m_H} {K : ((Int32 × m_H) ⊕ m_H) → Prop} (k0 : ∀ x, K (.inr x) → r = (.inl none, x)) (k1 : ∀ s, K (.inl s) → m_Rn xs L 9 2492 128 [(0, .ref x0), (2, .int s.1)] [] s.2 r) {t : (Int32 × m_H) ⊕ m_H} (h : F12_goesOn_128b x0 s = some t) (hK : K t) : m_Rn xs L 9 2492 128 [(0, .ref x0), (2, .int s.1)] [] s.2 r := by
  unfold F12_goesOn_128b at h
  refine g_in eF12_goesOn_128 mx2492 ?_
  refine g_ch [(0, .ref x0), (2, .int s.1)] [.int 6, .int s.1] (pc' := 131) rfl rfl rfl ?_
  rcases m_ifd h with ⟨c1, h⟩ | ⟨c1, h⟩
  · refine g_if (t := 160) rfl (m_geT c1) ?_
    refine g_in eF12_goesOn_160 mx2492 ?_
    refine g_ch [(2, .int 1), (0, .ref x0)] [] (pc' := 162) rfl rfl rfl ?_
    refine g_end ?_
    obtain ⟨t', h2, rfl⟩ := Option.map_eq_some_iff.mp h
    exact r_lv (SF12_goesOn_162 x0 1 s.2 (K := fun t => K (.inr t)) k0 h2 hK) rfl ⟨rfl, rfl, trivial⟩
  · refine g_ifn (t := 160) rfl (m_geF c1) ?_
    refine g_in eF12_goesOn_134 mx2492 ?_
    refine g_ch [(3, .int 0), (0, .ref x0), (2, .int s.1)] [] (pc' := 136) rfl rfl rfl ?_
    refine g_end ?_
    exact r_lv (SF12_goesOn_136 x0 s.1 0 s.2 (K := K) k0 k1 h hK) rfl ⟨rfl, rfl, rfl, trivial⟩
theorem SF12_goesOn_128 {xs : Nat → Int32} {L : Nat} (x0 : Nat) (x2 : Int32) (hp : m_H) {r : m_O × m_H} {K : m_H → Prop} (k0 : ∀ x, K x → r = (.inl none, x)) {t : m_H} (h : F12_goesOn_128 x0 x2 hp = some t) (hK : K t) : m_Rn xs L 9 2492 128 [(0, .ref x0), (2, .int x2)] [] hp r :=
  m_wh_ok (P := fun s => m_Rn xs L 9 2492 128 [(0, .ref x0), (2, .int s.1)] [] s.2 r) (Q := K) (fun s t hb hK => SF12_goesOn_128b x0 s (K := m_KK (fun s => m_Rn xs L 9 2492 128 [(0, .ref x0), (2, .int s.1)] [] s.2 r) K) k0 (fun _ q => q) hb hK) m_N _ _ h hK
theorem SF12_goesOn_83b {xs : Nat → Int32} {L : Nat} (x0 : Nat) (s : Int32 × m_H) {r : m_O × m_H} {K : ((Int32 × m_H) ⊕ m_H) → Prop} (k0 : ∀ x, K (.inr x) → r = (.inl none, x)) (k1 : ∀ s, K (.inl s) → m_Rn xs L 9 2492 83 [(0, .ref x0), (2, .int s.1)] [] s.2 r) {t : (Int32 × m_H) ⊕ m_H} (h : F12_goesOn_83b x0 s = some t) (hK : K t) : m_Rn xs L 9 2492 83 [(0, .ref x0), (2, .int s.1)] [] s.2 r := by
  unfold F12_goesOn_83b at h
  refine g_in eF12_goesOn_83 mx2492 ?_
  refine g_ch [(0, .ref x0), (2, .int s.1)] [.ref x0, .int s.1] (pc' := 85) rfl rfl rfl ?_
  obtain ⟨v1, e2, h⟩ := m_bd h
  refine g_gr q12_f14 e2 ?_
  refine g_ch [(0, .ref x0), (2, .int s.1)] [.int 3209, .ref v1, .int s.1] (pc' := 91) rfl rfl rfl ?_
  obtain ⟨v3, e4, h⟩ := m_bd h
  refine g_ia e4 ?_
  rcases m_ifd h with ⟨c5, h⟩ | ⟨c5, h⟩
  · refine g_if (t := 126) rfl (m_geT c5) ?_
    refine g_in eF12_goesOn_126 mx2492 ?_
    refine g_ch [(2, .int 1), (0, .ref x0)] [] (pc' := 128) rfl rfl rfl ?_
    refine g_end ?_
    obtain ⟨t', h2, rfl⟩ := Option.map_eq_some_iff.mp h
    exact r_lv (SF12_goesOn_128 x0 1 s.2 (K := fun t => K (.inr t)) k0 h2 hK) rfl ⟨rfl, rfl, trivial⟩
  · refine g_ifn (t := 126) rfl (m_geF c5) ?_
    refine g_in eF12_goesOn_95 mx2492 ?_
    refine g_ch [(0, .ref x0), (2, .int s.1)] [.int 2, .int s.1, .ref x0] (pc' := 98) rfl rfl rfl ?_
    obtain ⟨v7, e6, h⟩ := m_bd h
    refine g_call (v := some (.int v7)) (h := s.2) (st' := [.int v7]) (D1 := 1) (as := [.ref x0, .int s.1, .int 2]) (Or.inr (Or.inl rfl)) q12_m326 (m_cv (as := [.int 2, .int s.1]) (rest := []) (Or.inl rfl) q12_m326 jv2477 (OF12_its e6) rfl rfl rfl rfl) (by decide) (SF12_its e6) rfl ?_
    refine g_ch [(0, .ref x0), (2, .int s.1)] [.int 1, .int v7] (pc' := 102) rfl rfl rfl ?_
    rcases m_ifd h with ⟨c8, h⟩ | ⟨c8, h⟩
    · refine g_if (t := 115) rfl (m_eqT c8) ?_
      refine g_in eF12_goesOn_115 mx2492 ?_
      refine g_ch [(0, .ref x0), (2, .int s.1)] [.int s.1, .ref x0] (pc' := 117) rfl rfl rfl ?_
      obtain ⟨h10, e9, h⟩ := m_bd h
      refine g_call (v := none) (h := h10) (st' := []) (D1 := 8) (as := [.ref x0, .int s.1]) (Or.inr (Or.inl rfl)) q12_m356 (m_cv (as := [.int s.1]) (rest := []) (Or.inl rfl) q12_m356 jv2489 (OF12_goes e9) rfl rfl rfl rfl) (by decide) (SF12_goes e9) rfl ?_
      refine g_end ?_
      refine g_in eF12_goesOn_120 mx2492 ?_
      refine g_ch [(2, .int (s.1 + 1)), (0, .ref x0)] [] (pc' := 123) rfl rfl rfl ?_
      refine g_goto (t := 83) rfl ?_
      cases h
      exact r_lv (k1 ((s.1 + 1), h10) hK) rfl ⟨rfl, rfl, trivial⟩
    · refine g_ifn (t := 115) rfl (m_eqF c8) ?_
      refine g_in eF12_goesOn_105 mx2492 ?_
      refine g_ch [(0, .ref x0), (2, .int s.1)] [.int 2, .int s.1, .ref x0] (pc' := 108) rfl rfl rfl ?_
      obtain ⟨v12, e11, h⟩ := m_bd h
      refine g_call (v := some (.int v12)) (h := s.2) (st' := [.int v12]) (D1 := 1) (as := [.ref x0, .int s.1, .int 2]) (Or.inr (Or.inl rfl)) q12_m326 (m_cv (as := [.int 2, .int s.1]) (rest := []) (Or.inl rfl) q12_m326 jv2477 (OF12_its e11) rfl rfl rfl rfl) (by decide) (SF12_its e11) rfl ?_
      refine g_ch [(0, .ref x0), (2, .int s.1)] [.int 3, .int v12] (pc' := 112) rfl rfl rfl ?_
      rcases m_ifd h with ⟨c13, h⟩ | ⟨c13, h⟩
      · refine g_ifn (t := 120) rfl (m_neF c13) ?_
        refine g_in eF12_goesOn_115 mx2492 ?_
        refine g_ch [(0, .ref x0), (2, .int s.1)] [.int s.1, .ref x0] (pc' := 117) rfl rfl rfl ?_
        obtain ⟨h15, e14, h⟩ := m_bd h
        refine g_call (v := none) (h := h15) (st' := []) (D1 := 8) (as := [.ref x0, .int s.1]) (Or.inr (Or.inl rfl)) q12_m356 (m_cv (as := [.int s.1]) (rest := []) (Or.inl rfl) q12_m356 jv2489 (OF12_goes e14) rfl rfl rfl rfl) (by decide) (SF12_goes e14) rfl ?_
        refine g_end ?_
        refine g_in eF12_goesOn_120 mx2492 ?_
        refine g_ch [(2, .int (s.1 + 1)), (0, .ref x0)] [] (pc' := 123) rfl rfl rfl ?_
        refine g_goto (t := 83) rfl ?_
        cases h
        exact r_lv (k1 ((s.1 + 1), h15) hK) rfl ⟨rfl, rfl, trivial⟩
      · refine g_if (t := 120) rfl (m_neT c13) ?_
        refine g_in eF12_goesOn_120 mx2492 ?_
        refine g_ch [(2, .int (s.1 + 1)), (0, .ref x0)] [] (pc' := 123) rfl rfl rfl ?_
        refine g_goto (t := 83) rfl ?_
        cases h
        exact r_lv (k1 ((s.1 + 1), s.2) hK) rfl ⟨rfl, rfl, trivial⟩
theorem SF12_goesOn_83 {xs : Nat → Int32} {L : Nat} (x0 : Nat) (x2 : Int32) (hp : m_H) {r : m_O × m_H} {K : m_H → Prop} (k0 : ∀ x, K x → r = (.inl none, x)) {t : m_H} (h : F12_goesOn_83 x0 x2 hp = some t) (hK : K t) : m_Rn xs L 9 2492 83 [(0, .ref x0), (2, .int x2)] [] hp r :=
  m_wh_ok (P := fun s => m_Rn xs L 9 2492 83 [(0, .ref x0), (2, .int s.1)] [] s.2 r) (Q := K) (fun s t hb hK => SF12_goesOn_83b x0 s (K := m_KK (fun s => m_Rn xs L 9 2492 83 [(0, .ref x0), (2, .int s.1)] [] s.2 r) K) k0 (fun _ q => q) hb hK) m_N _ _ h hK
theorem SF12_goesOn_15b {xs : Nat → Int32} {L : Nat} (x0 : Nat) (x1 : Int32) (x2 : Int32) (s : Int32 × m_H) {r : m_O × m_H} {K : ((Int32 × m_H) ⊕ ((Int32 × m_H) ⊕ m_H)) → Prop} (k0 : ∀ x, K (.inr (.inr x)) → r = (.inl none, x)) (k1 : ∀ s, K (.inr (.inl s)) → m_Rn xs L 9 2492 7 [(0, .ref x0), (1, .int x1), (2, .int s.1)] [] s.2 r) (k2 : ∀ s, K (.inl s) → m_Rn xs L 9 2492 15 [(0, .ref x0), (1, .int x1), (2, .int x2), (3, .int s.1)] [] s.2 r) {t : (Int32 × m_H) ⊕ ((Int32 × m_H) ⊕ m_H)} (h : F12_goesOn_15b x0 x1 x2 s = some t) (hK : K t) : m_Rn xs L 9 2492 15 [(0, .ref x0), (1, .int x1), (2, .int x2), (3, .int s.1)] [] s.2 r := by
  unfold F12_goesOn_15b at h
  refine g_in eF12_goesOn_15 mx2492 ?_
  refine g_ch [(0, .ref x0), (1, .int x1), (2, .int x2), (3, .int s.1)] [.int 8, .int s.1] (pc' := 18) rfl rfl rfl ?_
  rcases m_ifd h with ⟨c1, h⟩ | ⟨c1, h⟩
  · refine g_if (t := 56) rfl (m_geT c1) ?_
    refine g_in eF12_goesOn_56 mx2492 ?_
    refine g_ch [(2, .int (x2 + 1)), (0, .ref x0), (1, .int x1), (3, .int s.1)] [] (pc' := 59) rfl rfl rfl ?_
    refine g_goto (t := 7) rfl ?_
    cases h
    exact r_lv (k1 ((x2 + 1), s.2) hK) rfl ⟨rfl, rfl, rfl, trivial⟩
  · refine g_ifn (t := 56) rfl (m_geF c1) ?_
    refine g_in eF12_goesOn_21 mx2492 ?_
    refine g_ch [(0, .ref x0), (1, .int x1), (2, .int x2), (3, .int s.1)] [.ref x0] (pc' := 22) rfl rfl rfl ?_
    obtain ⟨v2, e3, h⟩ := m_bd h
    refine g_gr q12_f14 e3 ?_
    refine g_ch [(0, .ref x0), (1, .int x1), (2, .int x2), (3, .int s.1)] [.ref x0, .int 48, .int 4326, .ref v2] (pc' := 31) rfl rfl rfl ?_
    obtain ⟨v5, e4, h⟩ := m_bd h
    refine g_call (v := some (.int v5)) (h := s.2) (st' := [.int v5, .int 48, .int 4326, .ref v2]) (D1 := 0) (as := [.ref x0]) (Or.inr (Or.inl rfl)) q12_m86 (m_cv (as := []) (rest := [.int 48, .int 4326, .ref v2]) (Or.inl rfl) q12_m86 jv2404 (OF12_week e4) rfl rfl rfl rfl) (by decide) (SF12_week e4) rfl ?_
    refine g_ch [(0, .ref x0), (1, .int x1), (2, .int x2), (3, .int s.1)] [.int (((4326 + (48 * v5)) + (8 * x2)) + s.1), .ref v2] (pc' := 43) rfl rfl rfl ?_
    refine g_ch [(0, .ref x0), (1, .int x1), (2, .int x2), (3, .int s.1)] [.int s.1, .int x2, .ref x0, .int (((4326 + (48 * v5)) + (8 * x2)) + s.1), .ref v2] (pc' := 46) rfl rfl rfl ?_
    obtain ⟨v7, e6, h⟩ := m_bd h
    refine g_call (v := some (.int v7)) (h := s.2) (st' := [.int v7, .int (((4326 + (48 * v5)) + (8 * x2)) + s.1), .ref v2]) (D1 := 3) (as := [.ref x0, .int x2, .int s.1]) (Or.inr (Or.inl rfl)) q12_m350 (m_cv (as := [.int s.1, .int x2]) (rest := [.int (((4326 + (48 * v5)) + (8 * x2)) + s.1), .ref v2]) (Or.inl rfl) q12_m350 jv2490 (OF12_landedOf e6) rfl rfl rfl rfl) (by decide) (SF12_landedOf e6) rfl ?_
    obtain ⟨h8, e9, h⟩ := m_bd h
    refine g_is e9 ?_
    refine g_ch [(3, .int (s.1 + 1)), (0, .ref x0), (1, .int x1), (2, .int x2)] [] (pc' := 53) rfl rfl rfl ?_
    refine g_goto (t := 15) rfl ?_
    cases h
    exact r_lv (k2 ((s.1 + 1), h8) hK) rfl ⟨rfl, rfl, rfl, rfl, trivial⟩
theorem SF12_goesOn_15 {xs : Nat → Int32} {L : Nat} (x0 : Nat) (x1 : Int32) (x2 : Int32) (x3 : Int32) (hp : m_H) {r : m_O × m_H} {K : (Int32 × m_H) ⊕ m_H → Prop} (k0 : ∀ x, K (.inr x) → r = (.inl none, x)) (k1 : ∀ s, K (.inl s) → m_Rn xs L 9 2492 7 [(0, .ref x0), (1, .int x1), (2, .int s.1)] [] s.2 r) {t : (Int32 × m_H) ⊕ m_H} (h : F12_goesOn_15 x0 x1 x2 x3 hp = some t) (hK : K t) : m_Rn xs L 9 2492 15 [(0, .ref x0), (1, .int x1), (2, .int x2), (3, .int x3)] [] hp r :=
  m_wh_ok (P := fun s => m_Rn xs L 9 2492 15 [(0, .ref x0), (1, .int x1), (2, .int x2), (3, .int s.1)] [] s.2 r) (Q := K) (fun s t hb hK => SF12_goesOn_15b x0 x1 x2 s (K := m_KK (fun s => m_Rn xs L 9 2492 15 [(0, .ref x0), (1, .int x1), (2, .int x2), (3, .int s.1)] [] s.2 r) K) k0 k1 (fun _ q => q) hb hK) m_N _ _ h hK
theorem SF12_goesOn_7b {xs : Nat → Int32} {L : Nat} (x0 : Nat) (x1 : Int32) (s : Int32 × m_H) {r : m_O × m_H} {K : ((Int32 × m_H) ⊕ m_H) → Prop} (k0 : ∀ x, K (.inr x) → r = (.inl none, x)) (k1 : ∀ s, K (.inl s) → m_Rn xs L 9 2492 7 [(0, .ref x0), (1, .int x1), (2, .int s.1)] [] s.2 r) {t : (Int32 × m_H) ⊕ m_H} (h : F12_goesOn_7b x0 x1 s = some t) (hK : K t) : m_Rn xs L 9 2492 7 [(0, .ref x0), (1, .int x1), (2, .int s.1)] [] s.2 r := by
  unfold F12_goesOn_7b at h
  refine g_in eF12_goesOn_7 mx2492 ?_
  refine g_ch [(0, .ref x0), (1, .int x1), (2, .int s.1)] [.int 6, .int s.1] (pc' := 10) rfl rfl rfl ?_
  rcases m_ifd h with ⟨c1, h⟩ | ⟨c1, h⟩
  · refine g_if (t := 62) rfl (m_geT c1) ?_
    refine g_in eF12_goesOn_62 mx2492 ?_
    refine g_ch [(0, .ref x0), (1, .int x1), (2, .int s.1)] [.ref x0] (pc' := 63) rfl rfl rfl ?_
    obtain ⟨v2, e3, h⟩ := m_bd h
    refine g_gr q12_f14 e3 ?_
    refine g_ch [(0, .ref x0), (1, .int x1), (2, .int s.1)] [.int 0, .ref v2, .int 0, .ref v2] (pc' := 68) rfl rfl rfl ?_
    obtain ⟨v4, e5, h⟩ := m_bd h
    refine g_ia e5 ?_
    refine g_ch [(0, .ref x0), (1, .int x1), (2, .int s.1)] [.int (v4 + 1), .int 0, .ref v2] (pc' := 71) rfl rfl rfl ?_
    obtain ⟨h6, e7, h⟩ := m_bd h
    refine g_is e7 ?_
    refine g_ch [(0, .ref x0), (1, .int x1), (2, .int s.1)] [.int x1] (pc' := 73) rfl rfl rfl ?_
    rcases m_ifd h with ⟨c8, h⟩ | ⟨c8, h⟩
    · refine g_ifc (t := 77) rfl (m_eqT c8) ?_
      refine g_in eF12_goesOn_77 mx2492 ?_
      refine g_ch [(0, .ref x0), (1, .int x1), (2, .int s.1)] [.ref x0] (pc' := 78) rfl rfl rfl ?_
      obtain ⟨h10, e9, h⟩ := m_bd h
      refine g_call (v := none) (h := h10) (st' := []) (D1 := 4) (as := [.ref x0]) (Or.inr (Or.inl rfl)) q12_m353 (m_cv (as := []) (rest := []) (Or.inl rfl) q12_m353 jv2487 (OF12_makes e9) rfl rfl rfl rfl) (by decide) (SF12_makes e9) rfl ?_
      refine g_ch [(2, .int 0), (0, .ref x0), (1, .int x1)] [] (pc' := 83) rfl rfl rfl ?_
      refine g_end ?_
      obtain ⟨t', h2, rfl⟩ := Option.map_eq_some_iff.mp h
      exact r_lv (SF12_goesOn_83 x0 0 h10 (K := fun t => K (.inr t)) k0 h2 hK) rfl ⟨rfl, rfl, trivial⟩
    · refine g_ifcn (t := 77) rfl (m_eqF c8) ?_
      refine g_in eF12_goesOn_76 mx2492 ?_
      cases h
      rw [k0 _ hK]
      exact g_vret rfl
  · refine g_ifn (t := 62) rfl (m_geF c1) ?_
    refine g_in eF12_goesOn_13 mx2492 ?_
    refine g_ch [(3, .int 0), (0, .ref x0), (1, .int x1), (2, .int s.1)] [] (pc' := 15) rfl rfl rfl ?_
    refine g_end ?_
    exact r_lv (SF12_goesOn_15 x0 x1 s.1 0 s.2 (K := K) k0 k1 h hK) rfl ⟨rfl, rfl, rfl, rfl, trivial⟩
theorem SF12_goesOn_7 {xs : Nat → Int32} {L : Nat} (x0 : Nat) (x1 : Int32) (x2 : Int32) (hp : m_H) {r : m_O × m_H} {K : m_H → Prop} (k0 : ∀ x, K x → r = (.inl none, x)) {t : m_H} (h : F12_goesOn_7 x0 x1 x2 hp = some t) (hK : K t) : m_Rn xs L 9 2492 7 [(0, .ref x0), (1, .int x1), (2, .int x2)] [] hp r :=
  m_wh_ok (P := fun s => m_Rn xs L 9 2492 7 [(0, .ref x0), (1, .int x1), (2, .int s.1)] [] s.2 r) (Q := K) (fun s t hb hK => SF12_goesOn_7b x0 x1 s (K := m_KK (fun s => m_Rn xs L 9 2492 7 [(0, .ref x0), (1, .int x1), (2, .int s.1)] [] s.2 r) K) k0 (fun _ q => q) hb hK) m_N _ _ h hK
theorem SF12_goesOn_0 {xs : Nat → Int32} {L : Nat} (x0 : Nat) (hp : m_H) {r : m_O × m_H} {K : m_H → Prop} (k0 : ∀ x, K x → r = (.inl none, x)) {t : m_H} (h : F12_goesOn_0 x0 hp = some t) (hK : K t) : m_Rn xs L 9 2492 0 [(0, .ref x0)] [] hp r := by
  unfold F12_goesOn_0 at h
  refine g_in eF12_goesOn_0 mx2492 ?_
  refine g_ch [(0, .ref x0)] [.ref x0] (pc' := 1) rfl rfl rfl ?_
  obtain ⟨v2, e1, h⟩ := m_bd h
  refine g_call (v := some (.int v2)) (h := hp) (st' := [.int v2]) (D1 := 0) (as := [.ref x0]) (Or.inr (Or.inl rfl)) q12_m118 (m_cv (as := []) (rest := []) (Or.inl rfl) q12_m118 jv2405 (OF12_isOver e1) rfl rfl rfl rfl) (by decide) (SF12_isOver e1) rfl ?_
  refine g_ch [(2, .int 1), (1, .int v2), (0, .ref x0)] [] (pc' := 7) rfl rfl rfl ?_
  refine g_end ?_
  exact r_lv (SF12_goesOn_7 x0 v2 1 hp (K := K) k0 h hK) rfl ⟨rfl, rfl, rfl, trivial⟩
theorem OF12_goesOn {x0 : Nat} {hp : m_H} {x : m_H} (h : F12_goesOn x0 hp = some x) : m_isO hp 9 x0 = true := (m_gdd h).1
theorem SF12_goesOn {xs : Nat → Int32} {L : Nat} {x0 : Nat} {hp : m_H} {x : m_H} (h : F12_goesOn x0 hp = some x) : m_Rn xs L 9 2492 0 (lv_args 0 [.ref x0]) [] hp (.inl none, x) :=
  r_lv (SF12_goesOn_0 x0 hp (K := fun y => y = x) (fun y e => by rw [e]) (m_gdd h).2 rfl) rfl ⟨rfl, trivial⟩
-- F12_weeks: LendHouseModel.weeks(I)I
theorem eF12_weeks_0 : m_Fe mi12_93 0 (m_ap [(.aload_n 0, 1), (.iconst 0, 1)] ((.putfield 3, 3) :: (m_ap [(.aload_n 0, 1), (.iload_n 1, 1), (.iconst 0, 1), (.bipush 60, 2)] ((.invokestatic 74, 3) :: ([(.ifCond .ne 7, 3)]))))) := m_Fe_of nd2493 0 9 rfl
theorem eF12_weeks_20 : m_Fe mi12_93 20 (m_ap [(.iconst 0, 1)] ([])) := m_Fe_of nd2493 11 1 rfl
theorem eF12_weeks_16 : m_Fe mi12_93 16 (m_ap [(.iconst 1, 1)] ([(.goto 4, 3)])) := m_Fe_of nd2493 9 2 rfl
theorem eF12_weeks_21 : m_Fe mi12_93 21 (m_ap [(.iconst 1, 1)] ((.invokevirtual 82, 3) :: ([(.ifCond .eq 5, 3)]))) := m_Fe_of nd2493 12 3 rfl
theorem eF12_weeks_30 : m_Fe mi12_93 30 (m_ap [(.iload_n 1, 1)] ([(.ifCond .le 17, 3)])) := m_Fe_of nd2493 17 2 rfl
theorem eF12_weeks_34 : m_Fe mi12_93 34 (m_ap [(.aload_n 0, 1)] ((.invokevirtual 86, 3) :: (m_ap [(.sipush 500, 3)] ([(.if_icmp .ge 7, 3)])))) := m_Fe_of nd2493 19 4 rfl
theorem eF12_weeks_44 : m_Fe mi12_93 44 (m_ap [(.aload_n 0, 1)] ([(.invokevirtual 313, 3)])) := m_Fe_of nd2493 23 2 rfl
theorem eF12_weeks_28 : m_Fe mi12_93 28 (m_ap [(.iconst 0, 1)] ([(.ireturn, 1)])) := m_Fe_of nd2493 15 2 rfl
theorem eF12_weeks_48 : m_Fe mi12_93 48 (m_ap [(.iconst 0, 1), (.istore_n 2, 1)] ([])) := m_Fe_of nd2493 25 2 rfl
theorem eF12_weeks_50 : m_Fe mi12_93 50 (m_ap [(.iload_n 2, 1), (.iload_n 1, 1)] ([(.if_icmp .ge 23, 3)])) := m_Fe_of nd2493 27 3 rfl
theorem eF12_weeks_75 : m_Fe mi12_93 75 (m_ap [(.aload_n 0, 1)] ((.invokevirtual 86, 3) :: ([(.ireturn, 1)]))) := m_Fe_of nd2493 38 3 rfl
theorem eF12_weeks_55 : m_Fe mi12_93 55 (m_ap [(.aload_n 0, 1)] ((.invokevirtual 86, 3) :: (m_ap [(.sipush 500, 3)] ([(.if_icmp .ge 13, 3)])))) := m_Fe_of nd2493 30 4 rfl
theorem eF12_weeks_65 : m_Fe mi12_93 65 (m_ap [(.aload_n 0, 1)] ((.invokevirtual 366, 3) :: (m_ap [(.iinc 2 1, 3)] ([(.goto (-22), 3)])))) := m_Fe_of nd2493 34 4 rfl
theorem SF12_weeks_50b {xs : Nat → Int32} {L : Nat} (x0 : Nat) (x1 : Int32) (s : Int32 × m_H) {r : m_O × m_H} {K : ((Int32 × m_H) ⊕ (Int32 × m_H)) → Prop} (k0 : ∀ x, K (.inr x) → r = (.inl (some (.int x.1)), x.2)) (k1 : ∀ s, K (.inl s) → m_Rn xs L 10 2493 50 [(0, .ref x0), (1, .int x1), (2, .int s.1)] [] s.2 r) {t : (Int32 × m_H) ⊕ (Int32 × m_H)} (h : F12_weeks_50b x0 x1 s = some t) (hK : K t) : m_Rn xs L 10 2493 50 [(0, .ref x0), (1, .int x1), (2, .int s.1)] [] s.2 r := by
  unfold F12_weeks_50b at h
  refine g_in eF12_weeks_50 mx2493 ?_
  refine g_ch [(0, .ref x0), (1, .int x1), (2, .int s.1)] [.int x1, .int s.1] (pc' := 52) rfl rfl rfl ?_
  rcases m_ifd h with ⟨c1, h⟩ | ⟨c1, h⟩
  · refine g_if (t := 75) rfl (m_geT c1) ?_
    refine g_in eF12_weeks_75 mx2493 ?_
    refine g_ch [(0, .ref x0), (1, .int x1), (2, .int s.1)] [.ref x0] (pc' := 76) rfl rfl rfl ?_
    obtain ⟨v3, e2, h⟩ := m_bd h
    refine g_call (v := some (.int v3)) (h := s.2) (st' := [.int v3]) (D1 := 0) (as := [.ref x0]) (Or.inr (Or.inl rfl)) q12_m86 (m_cv (as := []) (rest := []) (Or.inl rfl) q12_m86 jv2404 (OF12_week e2) rfl rfl rfl rfl) (by decide) (SF12_week e2) rfl ?_
    cases h
    rw [k0 _ hK]
    exact g_iret rfl rfl
  · refine g_ifn (t := 75) rfl (m_geF c1) ?_
    refine g_in eF12_weeks_55 mx2493 ?_
    refine g_ch [(0, .ref x0), (1, .int x1), (2, .int s.1)] [.ref x0] (pc' := 56) rfl rfl rfl ?_
    obtain ⟨v5, e4, h⟩ := m_bd h
    refine g_call (v := some (.int v5)) (h := s.2) (st' := [.int v5]) (D1 := 0) (as := [.ref x0]) (Or.inr (Or.inl rfl)) q12_m86 (m_cv (as := []) (rest := []) (Or.inl rfl) q12_m86 jv2404 (OF12_week e4) rfl rfl rfl rfl) (by decide) (SF12_week e4) rfl ?_
    refine g_ch [(0, .ref x0), (1, .int x1), (2, .int s.1)] [.int 500, .int v5] (pc' := 62) rfl rfl rfl ?_
    rcases m_ifd h with ⟨c6, h⟩ | ⟨c6, h⟩
    · refine g_if (t := 75) rfl (m_geT c6) ?_
      refine g_in eF12_weeks_75 mx2493 ?_
      refine g_ch [(0, .ref x0), (1, .int x1), (2, .int s.1)] [.ref x0] (pc' := 76) rfl rfl rfl ?_
      obtain ⟨v8, e7, h⟩ := m_bd h
      refine g_call (v := some (.int v8)) (h := s.2) (st' := [.int v8]) (D1 := 0) (as := [.ref x0]) (Or.inr (Or.inl rfl)) q12_m86 (m_cv (as := []) (rest := []) (Or.inl rfl) q12_m86 jv2404 (OF12_week e7) rfl rfl rfl rfl) (by decide) (SF12_week e7) rfl ?_
      cases h
      rw [k0 _ hK]
      exact g_iret rfl rfl
    · refine g_ifn (t := 75) rfl (m_geF c6) ?_
      refine g_in eF12_weeks_65 mx2493 ?_
      refine g_ch [(0, .ref x0), (1, .int x1), (2, .int s.1)] [.ref x0] (pc' := 66) rfl rfl rfl ?_
      obtain ⟨h10, e9, h⟩ := m_bd h
      refine g_call (v := none) (h := h10) (st' := []) (D1 := 9) (as := [.ref x0]) (Or.inr (Or.inl rfl)) q12_m366 (m_cv (as := []) (rest := []) (Or.inl rfl) q12_m366 jv2492 (OF12_goesOn e9) rfl rfl rfl rfl) (by decide) (SF12_goesOn e9) rfl ?_
      refine g_ch [(2, .int (s.1 + 1)), (0, .ref x0), (1, .int x1)] [] (pc' := 72) rfl rfl rfl ?_
      refine g_goto (t := 50) rfl ?_
      cases h
      exact r_lv (k1 ((s.1 + 1), h10) hK) rfl ⟨rfl, rfl, rfl, trivial⟩
theorem SF12_weeks_50 {xs : Nat → Int32} {L : Nat} (x0 : Nat) (x1 : Int32) (x2 : Int32) (hp : m_H) {r : m_O × m_H} {K : Int32 × m_H → Prop} (k0 : ∀ x, K x → r = (.inl (some (.int x.1)), x.2)) {t : Int32 × m_H} (h : F12_weeks_50 x0 x1 x2 hp = some t) (hK : K t) : m_Rn xs L 10 2493 50 [(0, .ref x0), (1, .int x1), (2, .int x2)] [] hp r :=
  m_wh_ok (P := fun s => m_Rn xs L 10 2493 50 [(0, .ref x0), (1, .int x1), (2, .int s.1)] [] s.2 r) (Q := K) (fun s t hb hK => SF12_weeks_50b x0 x1 s (K := m_KK (fun s => m_Rn xs L 10 2493 50 [(0, .ref x0), (1, .int x1), (2, .int s.1)] [] s.2 r) K) k0 (fun _ q => q) hb hK) m_N _ _ h hK
theorem SF12_weeks_48 {xs : Nat → Int32} {L : Nat} (x0 : Nat) (x1 : Int32) (hp : m_H) {r : m_O × m_H} {K : (Int32 × m_H) → Prop} (k0 : ∀ x, K x → r = (.inl (some (.int x.1)), x.2)) {t : Int32 × m_H} (h : F12_weeks_48 x0 x1 hp = some t) (hK : K t) : m_Rn xs L 10 2493 48 [(0, .ref x0), (1, .int x1)] [] hp r := by
  unfold F12_weeks_48 at h
  refine g_in eF12_weeks_48 mx2493 ?_
  refine g_ch [(2, .int 0), (0, .ref x0), (1, .int x1)] [] (pc' := 50) rfl rfl rfl ?_
  refine g_end ?_
  exact r_lv (SF12_weeks_50 x0 x1 0 hp (K := K) k0 h hK) rfl ⟨rfl, rfl, rfl, trivial⟩
theorem SF12_weeks_21 {xs : Nat → Int32} {L : Nat} (x0 : Nat) (x1 : Int32) (s0 : Int32) (s1 : Nat) (hp : m_H) {r : m_O × m_H} {K : (Int32 × m_H) → Prop} (k0 : ∀ x, K x → r = (.inl (some (.int x.1)), x.2)) {t : Int32 × m_H} (h : F12_weeks_21 x0 x1 s0 s1 hp = some t) (hK : K t) : m_Rn xs L 10 2493 21 [(0, .ref x0), (1, .int x1)] [.int s0, .ref s1] hp r := by
  unfold F12_weeks_21 at h
  refine g_in eF12_weeks_21 mx2493 ?_
  refine g_ch [(0, .ref x0), (1, .int x1)] [.int 1, .int s0, .ref s1] (pc' := 22) rfl rfl rfl ?_
  obtain ⟨z2, e1, h⟩ := m_bd h
  refine g_call (v := some (.int z2.1)) (h := z2.2) (st' := [.int z2.1]) (D1 := 0) (as := [.ref s1, .int s0, .int 1]) (Or.inr (Or.inl rfl)) q12_m82 (m_cv (as := [.int 1, .int s0]) (rest := []) (Or.inl rfl) q12_m82 jv2401 (OF12_throwsIf e1) rfl rfl rfl rfl) (by decide) (SF12_throwsIf e1) rfl ?_
  rcases m_ifd h with ⟨c3, h⟩ | ⟨c3, h⟩
  · refine g_ifc (t := 30) rfl (m_eqT c3) ?_
    refine g_in eF12_weeks_30 mx2493 ?_
    refine g_ch [(0, .ref x0), (1, .int x1)] [.int x1] (pc' := 31) rfl rfl rfl ?_
    rcases m_ifd h with ⟨c4, h⟩ | ⟨c4, h⟩
    · refine g_ifc (t := 48) rfl (m_leT c4) ?_
      exact r_lv (SF12_weeks_48 x0 x1 z2.2 (K := K) k0 h hK) rfl ⟨rfl, rfl, trivial⟩
    · refine g_ifcn (t := 48) rfl (m_leF c4) ?_
      refine g_in eF12_weeks_34 mx2493 ?_
      refine g_ch [(0, .ref x0), (1, .int x1)] [.ref x0] (pc' := 35) rfl rfl rfl ?_
      obtain ⟨v6, e5, h⟩ := m_bd h
      refine g_call (v := some (.int v6)) (h := z2.2) (st' := [.int v6]) (D1 := 0) (as := [.ref x0]) (Or.inr (Or.inl rfl)) q12_m86 (m_cv (as := []) (rest := []) (Or.inl rfl) q12_m86 jv2404 (OF12_week e5) rfl rfl rfl rfl) (by decide) (SF12_week e5) rfl ?_
      refine g_ch [(0, .ref x0), (1, .int x1)] [.int 500, .int v6] (pc' := 41) rfl rfl rfl ?_
      rcases m_ifd h with ⟨c7, h⟩ | ⟨c7, h⟩
      · refine g_if (t := 48) rfl (m_geT c7) ?_
        exact r_lv (SF12_weeks_48 x0 x1 z2.2 (K := K) k0 h hK) rfl ⟨rfl, rfl, trivial⟩
      · refine g_ifn (t := 48) rfl (m_geF c7) ?_
        refine g_in eF12_weeks_44 mx2493 ?_
        refine g_ch [(0, .ref x0), (1, .int x1)] [.ref x0] (pc' := 45) rfl rfl rfl ?_
        obtain ⟨h9, e8, h⟩ := m_bd h
        refine g_call (v := none) (h := h9) (st' := []) (D1 := 0) (as := [.ref x0]) (Or.inr (Or.inl rfl)) q12_m313 (m_cv (as := []) (rest := []) (Or.inl rfl) q12_m313 jv2406 (OF12_deed e8) rfl rfl rfl rfl) (by decide) (SF12_deed e8) rfl ?_
        refine g_end ?_
        exact r_lv (SF12_weeks_48 x0 x1 h9 (K := K) k0 h hK) rfl ⟨rfl, rfl, trivial⟩
  · refine g_ifcn (t := 30) rfl (m_eqF c3) ?_
    refine g_in eF12_weeks_28 mx2493 ?_
    refine g_ch [(0, .ref x0), (1, .int x1)] [.int 0] (pc' := 29) rfl rfl rfl ?_
    cases h
    rw [k0 _ hK]
    exact g_iret rfl rfl
theorem SF12_weeks_0 {xs : Nat → Int32} {L : Nat} (x0 : Nat) (x1 : Int32) (hp : m_H) {r : m_O × m_H} {K : (Int32 × m_H) → Prop} (k0 : ∀ x, K x → r = (.inl (some (.int x.1)), x.2)) {t : Int32 × m_H} (h : F12_weeks_0 x0 x1 hp = some t) (hK : K t) : m_Rn xs L 10 2493 0 [(0, .ref x0), (1, .int x1)] [] hp r := by
  unfold F12_weeks_0 at h
  refine g_in eF12_weeks_0 mx2493 ?_
  refine g_ch [(0, .ref x0), (1, .int x1)] [.int 0, .ref x0] (pc' := 2) rfl rfl rfl ?_
  obtain ⟨h1, e2, h⟩ := m_bd h
  refine g_pf q12_f3 e2 ?_
  refine g_ch [(0, .ref x0), (1, .int x1)] [.int 60, .int 0, .int x1, .ref x0] (pc' := 10) rfl rfl rfl ?_
  obtain ⟨v4, e3, h⟩ := m_bd h
  refine g_call (v := some (.int v4)) (h := h1) (st' := [.int v4, .ref x0]) (D1 := 0) (as := [.int x1, .int 0, .int 60]) (Or.inl rfl) q12_m74 (m_cs (as := [.int 60, .int 0, .int x1]) (rest := [.ref x0]) q12_m74 jv2402 rfl rfl rfl rfl rfl) (by decide) (SF12_in e3) rfl ?_
  rcases m_ifd h with ⟨c5, h⟩ | ⟨c5, h⟩
  · refine g_ifcn (t := 20) rfl (m_neF c5) ?_
    refine g_in eF12_weeks_16 mx2493 ?_
    refine g_ch [(0, .ref x0), (1, .int x1)] [.int 1, .ref x0] (pc' := 17) rfl rfl rfl ?_
    refine g_goto (t := 21) rfl ?_
    exact r_lv (SF12_weeks_21 x0 x1 1 x0 h1 (K := K) k0 h hK) rfl ⟨rfl, rfl, trivial⟩
  · refine g_ifc (t := 20) rfl (m_neT c5) ?_
    refine g_in eF12_weeks_20 mx2493 ?_
    refine g_ch [(0, .ref x0), (1, .int x1)] [.int 0, .ref x0] (pc' := 21) rfl rfl rfl ?_
    refine g_end ?_
    exact r_lv (SF12_weeks_21 x0 x1 0 x0 h1 (K := K) k0 h hK) rfl ⟨rfl, rfl, trivial⟩
theorem OF12_weeks {x0 : Nat} {x1 : Int32} {hp : m_H} {x : Int32 × m_H} (h : F12_weeks x0 x1 hp = some x) : m_isO hp 9 x0 = true := (m_gdd h).1
theorem SF12_weeks {xs : Nat → Int32} {L : Nat} {x0 : Nat} {x1 : Int32} {hp : m_H} {x : Int32 × m_H} (h : F12_weeks x0 x1 hp = some x) : m_Rn xs L 10 2493 0 (lv_args 0 [.ref x0, .int x1]) [] hp (.inl (some (.int x.1)), x.2) :=
  r_lv (SF12_weeks_0 x0 x1 hp (K := fun y => y = x) (fun y e => by rw [e]) (m_gdd h).2 rfl) rfl ⟨rfl, rfl, trivial⟩
