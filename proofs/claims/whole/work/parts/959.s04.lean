/-! ===== m_: the small machine does what the functions say, piece 4 (printed) ===== -/
-- F11_allot: LendHouse.allot(I)I
theorem eF11_allot_0 : m_Fe mi11_14 0 (m_ap [(.iload_n 1, 1)] ((.invokestatic 118, 3) :: (m_ap [(.aload_n 0, 1)] ((.invokevirtual 161, 3) :: (m_ap [(.aload_n 0, 1)] ((.getfield 28, 3) :: (m_ap [(.aload_n 0, 1)] ((.getfield 42, 3) :: (m_ap [(.iload_n 1, 1)] ((.invokevirtual 234, 3) :: (m_ap [(.aload_n 0, 1)] ((.getfield 42, 3) :: (m_ap [(.iload_n 1, 1)] ((.invokevirtual 238, 3) :: (m_ap [(.istore_n 2, 1), (.iconst 0, 1), (.istore_n 3, 1), (.iconst 0, 1), (.istore 4, 2)] ([])))))))))))))))) := m_Fe_of nd2214 0 19 rfl
theorem eF11_allot_34 : m_Fe mi11_14 34 (m_ap [(.iload 4, 2), (.bipush 60, 2)] ([(.if_icmp .ge 126, 3)])) := m_Fe_of nd2214 19 3 rfl
theorem eF11_allot_164 : m_Fe mi11_14 164 (m_ap [(.iload_n 3, 1)] ([(.ireturn, 1)])) := m_Fe_of nd2214 81 2 rfl
theorem eF11_allot_41 : m_Fe mi11_14 41 (m_ap [(.iload_n 2, 1)] ([(.ifCond .le 122, 3)])) := m_Fe_of nd2214 22 2 rfl
theorem eF11_allot_45 : m_Fe mi11_14 45 (m_ap [(.aload_n 0, 1)] ((.getfield 42, 3) :: ((.getfield 176, 3) :: ((.invokevirtual 193, 3) :: ([(.ifCond .ne 109, 3)]))))) := m_Fe_of nd2214 24 5 rfl
theorem eF11_allot_58 : m_Fe mi11_14 58 (m_ap [(.aload_n 0, 1)] ((.getfield 28, 3) :: (m_ap [(.aload_n 0, 1)] ((.getfield 42, 3) :: ((.invokevirtual 241, 3) :: (m_ap [(.istore 5, 2), (.iload 5, 2), (.iconst (-1), 1)] ([(.if_icmp .ne 6, 3)]))))))) := m_Fe_of nd2214 29 9 rfl
theorem eF11_allot_80 : m_Fe mi11_14 80 (m_ap [(.iload_n 2, 1), (.aload_n 0, 1)] ((.getfield 42, 3) :: (m_ap [(.iload 5, 2)] ((.invokevirtual 214, 3) :: ((.invokestatic 245, 3) :: (m_ap [(.istore 6, 2), (.aload_n 0, 1)] ((.getfield 28, 3) :: (m_ap [(.aload_n 0, 1)] ((.getfield 42, 3) :: (m_ap [(.iload 5, 2), (.iload 6, 2)] ((.invokevirtual 218, 3) :: (m_ap [(.aload_n 0, 1)] ((.getfield 28, 3) :: (m_ap [(.iconst 0, 1)] ((.invokevirtual 228, 3) :: (m_ap [(.iconst (-1), 1)] ([(.if_icmp .eq 39, 3)]))))))))))))))))) := m_Fe_of nd2214 39 20 rfl
theorem eF11_allot_158 : m_Fe mi11_14 158 (m_ap [(.iinc 4 1, 3)] ([(.goto (-127), 3)])) := m_Fe_of nd2214 79 2 rfl
theorem eF11_allot_122 : m_Fe mi11_14 122 (m_ap [(.iload_n 3, 1)] ([(.ifCond .ne 7, 3)])) := m_Fe_of nd2214 59 2 rfl
theorem eF11_allot_126 : m_Fe mi11_14 126 (m_ap [(.aload_n 0, 1)] ([(.invokevirtual 250, 3)])) := m_Fe_of nd2214 61 2 rfl
theorem eF11_allot_77 : m_Fe mi11_14 77 ([(.goto 87, 3)]) := m_Fe_of nd2214 38 1 rfl
theorem eF11_allot_130 : m_Fe mi11_14 130 (m_ap [(.aload_n 0, 1)] ((.getfield 42, 3) :: (m_ap [(.iload 5, 2), (.iload 6, 2), (.aload_n 0, 1)] ((.getfield 28, 3) :: ((.invokevirtual 231, 3) :: ((.invokevirtual 253, 3) :: (m_ap [(.iload_n 2, 1), (.iload 6, 2), (.isub, 1), (.istore_n 2, 1), (.iload_n 3, 1), (.iload 6, 2), (.iadd, 1), (.istore_n 3, 1)] ([])))))))) := m_Fe_of nd2214 63 16 rfl
theorem SF11_allot_130 {xs : Nat → Int32} {L : Nat} (x0 : Nat) (x2 : Int32) (x3 : Int32) (x4 : Int32) (x5 : Int32) (x6 : Int32) (hp : m_H) {r : m_O × m_H} {K : ((Int32 × Int32 × Int32 × m_H) ⊕ ((Int32 ⊕ Nat) × m_H)) → Prop} (k0 : ∀ x, K (.inr x) → r = (m_xI x)) (k1 : ∀ s, K (.inl s) → m_Rn xs L 10 2214 34 [(0, .ref x0), (2, .int s.1), (3, .int s.2.1), (4, .int s.2.2.1)] [] s.2.2.2 r) {t : (Int32 × Int32 × Int32 × m_H) ⊕ ((Int32 ⊕ Nat) × m_H)} (h : F11_allot_130 x0 x2 x3 x4 x5 x6 hp = some t) (hK : K t) : m_Rn xs L 10 2214 130 [(0, .ref x0), (2, .int x2), (3, .int x3), (4, .int x4), (5, .int x5), (6, .int x6)] [] hp r := by
  unfold F11_allot_130 at h
  refine g_in eF11_allot_130 mx2214 ?_
  refine g_ch [(0, .ref x0), (2, .int x2), (3, .int x3), (4, .int x4), (5, .int x5), (6, .int x6)] [.ref x0] (pc' := 131) rfl rfl rfl ?_
  obtain ⟨v1, e2, h⟩ := m_bd h
  refine g_gr q11_f42 e2 ?_
  refine g_ch [(0, .ref x0), (2, .int x2), (3, .int x3), (4, .int x4), (5, .int x5), (6, .int x6)] [.ref x0, .int x6, .int x5, .ref v1] (pc' := 139) rfl rfl rfl ?_
  obtain ⟨v3, e4, h⟩ := m_bd h
  refine g_gr q11_f28 e4 ?_
  obtain ⟨z6, e5, h⟩ := m_bd h
  refine g_call (v := some (.int z6.1)) (h := z6.2) (st' := [.int z6.1, .int x6, .int x5, .ref v1]) (D1 := 8) (as := [.ref v3]) (Or.inr (Or.inl rfl)) q11_m231 (m_cv (as := []) (rest := [.int x6, .int x5, .ref v1]) (Or.inl rfl) q11_m231 jv409 (OF2_greatestOwe e5) rfl rfl rfl rfl) (by decide) (SF2_greatestOwe e5) rfl ?_
  obtain ⟨h8, e7, h⟩ := m_bd h
  refine g_call (v := none) (h := h8) (st' := []) (D1 := 8) (as := [.ref v1, .int x5, .int x6, .int z6.1]) (Or.inr (Or.inl rfl)) q11_m253 (m_cv (as := [.int z6.1, .int x6, .int x5]) (rest := []) (Or.inl rfl) q11_m253 jv622 (OF3_lend e7) rfl rfl rfl rfl) (by decide) (SF3_lend e7) rfl ?_
  refine g_ch [(3, .int (x3 + x6)), (2, .int (x2 - x6)), (0, .ref x0), (4, .int x4), (5, .int x5), (6, .int x6)] [] (pc' := 158) rfl rfl rfl ?_
  refine g_end ?_
  refine g_in eF11_allot_158 mx2214 ?_
  refine g_ch [(4, .int (x4 + 1)), (3, .int (x3 + x6)), (2, .int (x2 - x6)), (0, .ref x0), (5, .int x5), (6, .int x6)] [] (pc' := 161) rfl rfl rfl ?_
  refine g_goto (t := 34) rfl ?_
  cases h
  exact r_lv (k1 ((x2 - x6), (x3 + x6), (x4 + 1), h8) hK) rfl ⟨rfl, rfl, rfl, rfl, trivial⟩
theorem SF11_allot_34b {xs : Nat → Int32} {L : Nat} (x0 : Nat) (s : Int32 × Int32 × Int32 × m_H) {r : m_O × m_H} {K : ((Int32 × Int32 × Int32 × m_H) ⊕ ((Int32 ⊕ Nat) × m_H)) → Prop} (k0 : ∀ x, K (.inr x) → r = (m_xI x)) (k1 : ∀ s, K (.inl s) → m_Rn xs L 10 2214 34 [(0, .ref x0), (2, .int s.1), (3, .int s.2.1), (4, .int s.2.2.1)] [] s.2.2.2 r) {t : (Int32 × Int32 × Int32 × m_H) ⊕ ((Int32 ⊕ Nat) × m_H)} (h : F11_allot_34b x0 s = some t) (hK : K t) : m_Rn xs L 10 2214 34 [(0, .ref x0), (2, .int s.1), (3, .int s.2.1), (4, .int s.2.2.1)] [] s.2.2.2 r := by
  unfold F11_allot_34b at h
  refine g_in eF11_allot_34 mx2214 ?_
  refine g_ch [(0, .ref x0), (2, .int s.1), (3, .int s.2.1), (4, .int s.2.2.1)] [.int 60, .int s.2.2.1] (pc' := 38) rfl rfl rfl ?_
  rcases m_ifd h with ⟨c1, h⟩ | ⟨c1, h⟩
  · refine g_if (t := 164) rfl (m_geT c1) ?_
    refine g_in eF11_allot_164 mx2214 ?_
    refine g_ch [(0, .ref x0), (2, .int s.1), (3, .int s.2.1), (4, .int s.2.2.1)] [.int s.2.1] (pc' := 165) rfl rfl rfl ?_
    cases h
    rw [k0 _ hK]
    exact g_iret rfl rfl
  · refine g_ifn (t := 164) rfl (m_geF c1) ?_
    refine g_in eF11_allot_41 mx2214 ?_
    refine g_ch [(0, .ref x0), (2, .int s.1), (3, .int s.2.1), (4, .int s.2.2.1)] [.int s.1] (pc' := 42) rfl rfl rfl ?_
    rcases m_ifd h with ⟨c2, h⟩ | ⟨c2, h⟩
    · refine g_ifc (t := 164) rfl (m_leT c2) ?_
      refine g_in eF11_allot_164 mx2214 ?_
      refine g_ch [(0, .ref x0), (2, .int s.1), (3, .int s.2.1), (4, .int s.2.2.1)] [.int s.2.1] (pc' := 165) rfl rfl rfl ?_
      cases h
      rw [k0 _ hK]
      exact g_iret rfl rfl
    · refine g_ifcn (t := 164) rfl (m_leF c2) ?_
      refine g_in eF11_allot_45 mx2214 ?_
      refine g_ch [(0, .ref x0), (2, .int s.1), (3, .int s.2.1), (4, .int s.2.2.1)] [.ref x0] (pc' := 46) rfl rfl rfl ?_
      obtain ⟨v3, e4, h⟩ := m_bd h
      refine g_gr q11_f42 e4 ?_
      obtain ⟨v5, e6, h⟩ := m_bd h
      refine g_gr q11_f176 e6 ?_
      obtain ⟨v8, e7, h⟩ := m_bd h
      refine g_call (v := some (.int v8)) (h := s.2.2.2) (st' := [.int v8]) (D1 := 0) (as := [.ref v5]) (Or.inr (Or.inl rfl)) q11_m193 (m_cv (as := []) (rest := []) (Or.inl rfl) q11_m193 jv1602 (OF8_full e7) rfl rfl rfl rfl) (by decide) (SF8_full e7) rfl ?_
      rcases m_ifd h with ⟨c9, h⟩ | ⟨c9, h⟩
      · refine g_ifcn (t := 164) rfl (m_neF c9) ?_
        refine g_in eF11_allot_58 mx2214 ?_
        refine g_ch [(0, .ref x0), (2, .int s.1), (3, .int s.2.1), (4, .int s.2.2.1)] [.ref x0] (pc' := 59) rfl rfl rfl ?_
        obtain ⟨v10, e11, h⟩ := m_bd h
        refine g_gr q11_f28 e11 ?_
        refine g_ch [(0, .ref x0), (2, .int s.1), (3, .int s.2.1), (4, .int s.2.2.1)] [.ref x0, .ref v10] (pc' := 63) rfl rfl rfl ?_
        obtain ⟨v12, e13, h⟩ := m_bd h
        refine g_gr q11_f42 e13 ?_
        obtain ⟨z15, e14, h⟩ := m_bd h
        refine g_call (v := some (.int z15.1)) (h := z15.2) (st' := [.int z15.1]) (D1 := 3) (as := [.ref v10, .ref v12]) (Or.inr (Or.inl rfl)) q11_m241 (m_cv (as := [.ref v12]) (rest := []) (Or.inl rfl) q11_m241 jv402 (OF2_nextCalled e14) rfl rfl rfl rfl) (by decide) (SF2_nextCalled e14) rfl ?_
        refine g_ch [(5, .int z15.1), (0, .ref x0), (2, .int s.1), (3, .int s.2.1), (4, .int s.2.2.1)] [.int (-1), .int z15.1] (pc' := 74) rfl rfl rfl ?_
        rcases m_ifd h with ⟨c16, h⟩ | ⟨c16, h⟩
        · refine g_ifn (t := 80) rfl (m_neF c16) ?_
          refine g_in eF11_allot_77 mx2214 ?_
          refine g_goto (t := 164) rfl ?_
          refine g_in eF11_allot_164 mx2214 ?_
          refine g_ch [(5, .int z15.1), (0, .ref x0), (2, .int s.1), (3, .int s.2.1), (4, .int s.2.2.1)] [.int s.2.1] (pc' := 165) rfl rfl rfl ?_
          cases h
          rw [k0 _ hK]
          exact g_iret rfl rfl
        · refine g_if (t := 80) rfl (m_neT c16) ?_
          refine g_in eF11_allot_80 mx2214 ?_
          refine g_ch [(5, .int z15.1), (0, .ref x0), (2, .int s.1), (3, .int s.2.1), (4, .int s.2.2.1)] [.ref x0, .int s.1] (pc' := 82) rfl rfl rfl ?_
          obtain ⟨v17, e18, h⟩ := m_bd h
          refine g_gr q11_f42 e18 ?_
          refine g_ch [(5, .int z15.1), (0, .ref x0), (2, .int s.1), (3, .int s.2.1), (4, .int s.2.2.1)] [.int z15.1, .ref v17, .int s.1] (pc' := 87) rfl rfl rfl ?_
          obtain ⟨v20, e19, h⟩ := m_bd h
          refine g_call (v := some (.int v20)) (h := z15.2) (st' := [.int v20, .int s.1]) (D1 := 2) (as := [.ref v17, .int z15.1]) (Or.inr (Or.inl rfl)) q11_m214 (m_cv (as := [.int z15.1]) (rest := [.int s.1]) (Or.inl rfl) q11_m214 jv625 (OF3_lackOf e19) rfl rfl rfl rfl) (by decide) (SF3_lackOf e19) rfl ?_
          refine g_nat (Or.inl rfl) q11_m245 rfl (z := ([.int (m_min s.1 v20)], z15.2)) rfl (by decide) ?_
          refine g_ch [(6, .int (m_min s.1 v20)), (5, .int z15.1), (0, .ref x0), (2, .int s.1), (3, .int s.2.1), (4, .int s.2.2.1)] [.ref x0] (pc' := 96) rfl rfl rfl ?_
          obtain ⟨v21, e22, h⟩ := m_bd h
          refine g_gr q11_f28 e22 ?_
          refine g_ch [(6, .int (m_min s.1 v20)), (5, .int z15.1), (0, .ref x0), (2, .int s.1), (3, .int s.2.1), (4, .int s.2.2.1)] [.ref x0, .ref v21] (pc' := 100) rfl rfl rfl ?_
          obtain ⟨v23, e24, h⟩ := m_bd h
          refine g_gr q11_f42 e24 ?_
          refine g_ch [(6, .int (m_min s.1 v20)), (5, .int z15.1), (0, .ref x0), (2, .int s.1), (3, .int s.2.1), (4, .int s.2.2.1)] [.int (m_min s.1 v20), .int z15.1, .ref v23, .ref v21] (pc' := 107) rfl rfl rfl ?_
          obtain ⟨h26, e25, h⟩ := m_bd h
          refine g_call (v := none) (h := h26) (st' := []) (D1 := 5) (as := [.ref v21, .ref v23, .int z15.1, .int (m_min s.1 v20)]) (Or.inr (Or.inl rfl)) q11_m218 (m_cv (as := [.int (m_min s.1 v20), .int z15.1, .ref v23]) (rest := []) (Or.inl rfl) q11_m218 jv404 (OF2_hear e25) rfl rfl rfl rfl) (by decide) (SF2_hear e25) rfl ?_
          refine g_ch [(6, .int (m_min s.1 v20)), (5, .int z15.1), (0, .ref x0), (2, .int s.1), (3, .int s.2.1), (4, .int s.2.2.1)] [.ref x0] (pc' := 111) rfl rfl rfl ?_
          obtain ⟨v27, e28, h⟩ := m_bd h
          refine g_gr q11_f28 e28 ?_
          refine g_ch [(6, .int (m_min s.1 v20)), (5, .int z15.1), (0, .ref x0), (2, .int s.1), (3, .int s.2.1), (4, .int s.2.2.1)] [.int 0, .ref v27] (pc' := 115) rfl rfl rfl ?_
          obtain ⟨z30, e29, h⟩ := m_bd h
          refine g_call (v := some (.int z30.1)) (h := z30.2) (st' := [.int z30.1]) (D1 := 8) (as := [.ref v27, .int 0]) (Or.inr (Or.inl rfl)) q11_m228 (m_cv (as := [.int 0]) (rest := []) (Or.inl rfl) q11_m228 jv407 (OF2_why e29) rfl rfl rfl rfl) (by decide) (SF2_why e29) rfl ?_
          refine g_ch [(6, .int (m_min s.1 v20)), (5, .int z15.1), (0, .ref x0), (2, .int s.1), (3, .int s.2.1), (4, .int s.2.2.1)] [.int (-1), .int z30.1] (pc' := 119) rfl rfl rfl ?_
          rcases m_ifd h with ⟨c31, h⟩ | ⟨c31, h⟩
          · refine g_if (t := 158) rfl (m_eqT c31) ?_
            refine g_in eF11_allot_158 mx2214 ?_
            refine g_ch [(4, .int (s.2.2.1 + 1)), (6, .int (m_min s.1 v20)), (5, .int z15.1), (0, .ref x0), (2, .int s.1), (3, .int s.2.1)] [] (pc' := 161) rfl rfl rfl ?_
            refine g_goto (t := 34) rfl ?_
            cases h
            exact r_lv (k1 (s.1, s.2.1, (s.2.2.1 + 1), z30.2) hK) rfl ⟨rfl, rfl, rfl, rfl, trivial⟩
          · refine g_ifn (t := 158) rfl (m_eqF c31) ?_
            refine g_in eF11_allot_122 mx2214 ?_
            refine g_ch [(6, .int (m_min s.1 v20)), (5, .int z15.1), (0, .ref x0), (2, .int s.1), (3, .int s.2.1), (4, .int s.2.2.1)] [.int s.2.1] (pc' := 123) rfl rfl rfl ?_
            rcases m_ifd h with ⟨c32, h⟩ | ⟨c32, h⟩
            · refine g_ifcn (t := 130) rfl (m_neF c32) ?_
              refine g_in eF11_allot_126 mx2214 ?_
              refine g_ch [(6, .int (m_min s.1 v20)), (5, .int z15.1), (0, .ref x0), (2, .int s.1), (3, .int s.2.1), (4, .int s.2.2.1)] [.ref x0] (pc' := 127) rfl rfl rfl ?_
              obtain ⟨h34, e33, h⟩ := m_bd h
              refine g_call (v := none) (h := h34) (st' := []) (D1 := 9) (as := [.ref x0]) (Or.inr (Or.inl rfl)) q11_m250 (m_cv (as := []) (rest := []) (Or.inl rfl) q11_m250 jv2250 (OF11_remember e33) rfl rfl rfl rfl) (by decide) (SF11_remember e33) rfl ?_
              refine g_end ?_
              exact r_lv (SF11_allot_130 x0 s.1 s.2.1 s.2.2.1 z15.1 (m_min s.1 v20) h34 (K := K) k0 k1 h hK) rfl ⟨rfl, rfl, rfl, rfl, rfl, rfl, trivial⟩
            · refine g_ifc (t := 130) rfl (m_neT c32) ?_
              exact r_lv (SF11_allot_130 x0 s.1 s.2.1 s.2.2.1 z15.1 (m_min s.1 v20) z30.2 (K := K) k0 k1 h hK) rfl ⟨rfl, rfl, rfl, rfl, rfl, rfl, trivial⟩
      · refine g_ifc (t := 164) rfl (m_neT c9) ?_
        refine g_in eF11_allot_164 mx2214 ?_
        refine g_ch [(0, .ref x0), (2, .int s.1), (3, .int s.2.1), (4, .int s.2.2.1)] [.int s.2.1] (pc' := 165) rfl rfl rfl ?_
        cases h
        rw [k0 _ hK]
        exact g_iret rfl rfl
theorem SF11_allot_34 {xs : Nat → Int32} {L : Nat} (x0 : Nat) (x2 : Int32) (x3 : Int32) (x4 : Int32) (hp : m_H) {r : m_O × m_H} {K : (Int32 ⊕ Nat) × m_H → Prop} (k0 : ∀ x, K x → r = (m_xI x)) {t : (Int32 ⊕ Nat) × m_H} (h : F11_allot_34 x0 x2 x3 x4 hp = some t) (hK : K t) : m_Rn xs L 10 2214 34 [(0, .ref x0), (2, .int x2), (3, .int x3), (4, .int x4)] [] hp r :=
  m_wh_ok (P := fun s => m_Rn xs L 10 2214 34 [(0, .ref x0), (2, .int s.1), (3, .int s.2.1), (4, .int s.2.2.1)] [] s.2.2.2 r) (Q := K) (fun s t hb hK => SF11_allot_34b x0 s (K := m_KK (fun s => m_Rn xs L 10 2214 34 [(0, .ref x0), (2, .int s.1), (3, .int s.2.1), (4, .int s.2.2.1)] [] s.2.2.2 r) K) k0 (fun _ q => q) hb hK) m_N _ _ h hK
theorem SF11_allot_0 {xs : Nat → Int32} {L : Nat} (x0 : Nat) (x1 : Int32) (hp : m_H) {r : m_O × m_H} {K : ((Int32 ⊕ Nat) × m_H) → Prop} (k0 : ∀ x, K x → r = (m_xI x)) {t : (Int32 ⊕ Nat) × m_H} (h : F11_allot_0 x0 x1 hp = some t) (hK : K t) : m_Rn xs L 10 2214 0 [(0, .ref x0), (1, .int x1)] [] hp r := by
  unfold F11_allot_0 at h
  refine g_in eF11_allot_0 mx2214 ?_
  refine g_ch [(0, .ref x0), (1, .int x1)] [.int x1] (pc' := 1) rfl rfl rfl ?_
  obtain ⟨z2, e1, h⟩ := m_bd h
  rcases m_sxd h with ⟨u22, e3, h⟩ | ⟨E4, e3, h⟩
  · have q5 := (SF11_testSort (xs := xs) (L := L) e1)
    unfold m_xV at q5
    rw [e3] at q5
    refine g_call (v := none) (h := z2.2) (st' := []) (D1 := 7) (as := [.int x1]) (Or.inl rfl) q11_m118 (m_cs (as := [.int x1]) (rest := []) q11_m118 jv2254 rfl rfl rfl rfl rfl) (by decide) q5 rfl ?_
    refine g_ch [(0, .ref x0), (1, .int x1)] [.ref x0] (pc' := 5) rfl rfl rfl ?_
    obtain ⟨z7, e6, h⟩ := m_bd h
    rcases m_sxd h with ⟨u21, e8, h⟩ | ⟨E9, e8, h⟩
    · have q10 := (SF11_testNotEnded (xs := xs) (L := L) e6)
      unfold m_xV at q10
      rw [e8] at q10
      refine g_call (v := none) (h := z7.2) (st' := []) (D1 := 7) (as := [.ref x0]) (Or.inr (Or.inl rfl)) q11_m161 (m_cv (as := []) (rest := []) (Or.inl rfl) q11_m161 jv2259 (OF11_testNotEnded e6) rfl rfl rfl rfl) (by decide) q10 rfl ?_
      refine g_ch [(0, .ref x0), (1, .int x1)] [.ref x0] (pc' := 9) rfl rfl rfl ?_
      obtain ⟨v11, e12, h⟩ := m_bd h
      refine g_gr q11_f28 e12 ?_
      refine g_ch [(0, .ref x0), (1, .int x1)] [.ref x0, .ref v11] (pc' := 13) rfl rfl rfl ?_
      obtain ⟨v13, e14, h⟩ := m_bd h
      refine g_gr q11_f42 e14 ?_
      refine g_ch [(0, .ref x0), (1, .int x1)] [.int x1, .ref v13, .ref v11] (pc' := 17) rfl rfl rfl ?_
      obtain ⟨h16, e15, h⟩ := m_bd h
      refine g_call (v := none) (h := h16) (st' := []) (D1 := 9) (as := [.ref v11, .ref v13, .int x1]) (Or.inr (Or.inl rfl)) q11_m234 (m_cv (as := [.int x1, .ref v13]) (rest := []) (Or.inl rfl) q11_m234 jv401 (OF2_call e15) rfl rfl rfl rfl) (by decide) (SF2_call e15) rfl ?_
      refine g_ch [(0, .ref x0), (1, .int x1)] [.ref x0] (pc' := 21) rfl rfl rfl ?_
      obtain ⟨v17, e18, h⟩ := m_bd h
      refine g_gr q11_f42 e18 ?_
      refine g_ch [(0, .ref x0), (1, .int x1)] [.int x1, .ref v17] (pc' := 25) rfl rfl rfl ?_
      obtain ⟨v20, e19, h⟩ := m_bd h
      refine g_call (v := some (.int v20)) (h := h16) (st' := [.int v20]) (D1 := 3) (as := [.ref v17, .int x1]) (Or.inr (Or.inl rfl)) q11_m238 (m_cv (as := [.int x1]) (rest := []) (Or.inl rfl) q11_m238 jv620 (OF3_stockInPort e19) rfl rfl rfl rfl) (by decide) (SF3_stockInPort e19) rfl ?_
      refine g_ch [(4, .int 0), (3, .int 0), (2, .int v20), (0, .ref x0), (1, .int x1)] [] (pc' := 34) rfl rfl rfl ?_
      refine g_end ?_
      exact r_lv (SF11_allot_34 x0 v20 0 0 h16 (K := K) k0 h hK) rfl ⟨rfl, rfl, rfl, rfl, trivial⟩
    · have q10 := (SF11_testNotEnded (xs := xs) (L := L) e6)
      unfold m_xV at q10
      rw [e8] at q10
      cases h
      rw [k0 _ hK]
      exact g_callX (D1 := 7) (as := [.ref x0]) (Or.inr (Or.inl rfl)) q11_m161 (m_cv (as := []) (rest := []) (Or.inl rfl) q11_m161 jv2259 (OF11_testNotEnded e6) rfl rfl rfl rfl) (by decide) q10 rfl
  · have q5 := (SF11_testSort (xs := xs) (L := L) e1)
    unfold m_xV at q5
    rw [e3] at q5
    cases h
    rw [k0 _ hK]
    exact g_callX (D1 := 7) (as := [.int x1]) (Or.inl rfl) q11_m118 (m_cs (as := [.int x1]) (rest := []) q11_m118 jv2254 rfl rfl rfl rfl rfl) (by decide) q5 rfl
theorem OF11_allot {x0 : Nat} {x1 : Int32} {hp : m_H} {x : (Int32 ⊕ Nat) × m_H} (h : F11_allot x0 x1 hp = some x) : m_isO hp 8 x0 = true := (m_gdd h).1
theorem SF11_allot {xs : Nat → Int32} {L : Nat} {x0 : Nat} {x1 : Int32} {hp : m_H} {x : (Int32 ⊕ Nat) × m_H} (h : F11_allot x0 x1 hp = some x) : m_Rn xs L 10 2214 0 (lv_args 0 [.ref x0, .int x1]) [] hp (m_xI x) :=
  r_lv (SF11_allot_0 x0 x1 hp (K := fun y => y = x) (fun y e => by rw [e]) (m_gdd h).2 rfl) rfl ⟨rfl, rfl, trivial⟩
-- F11_label: LendHouse.label(II)Z
theorem eF11_label_0 : m_Fe mi11_15 0 (m_ap [(.aload_n 0, 1), (.iload_n 1, 1)] ((.invokevirtual 168, 3) :: (m_ap [(.iload_n 2, 1), (.iconst 0, 1), (.bipush 9, 2)] ((.invokestatic 79, 3) :: ([(.ifCond .eq 14, 3)]))))) := m_Fe_of nd2215 0 8 rfl
theorem eF11_label_26 : m_Fe mi11_15 26 (m_ap [(.aload_n 0, 1)] ((.getfield 42, 3) :: (m_ap [(.iload_n 1, 1)] ((.invokevirtual 258, 3) :: ([(.ifCond .eq 32, 3)]))))) := m_Fe_of nd2215 13 5 rfl
theorem eF11_label_66 : m_Fe mi11_15 66 (m_ap [(.iconst 0, 1)] ([(.ireturn, 1)])) := m_Fe_of nd2215 32 2 rfl
theorem eF11_label_37 : m_Fe mi11_15 37 (m_ap [(.aload_n 0, 1)] ((.getfield 42, 3) :: (m_ap [(.iload_n 1, 1), (.iconst 1, 1)] ((.invokevirtual 261, 3) :: ([(.ifCond .eq 20, 3)]))))) := m_Fe_of nd2215 18 6 rfl
theorem eF11_label_49 : m_Fe mi11_15 49 (m_ap [(.aload_n 0, 1)] ((.getfield 42, 3) :: ((.getfield 176, 3) :: (m_ap [(.iload_n 1, 1), (.bipush 7, 2)] ((.invokevirtual 179, 3) :: (m_ap [(.iload_n 2, 1)] ([(.if_icmp .ne 5, 3)]))))))) := m_Fe_of nd2215 24 8 rfl
theorem eF11_label_68 : m_Fe mi11_15 68 (m_ap [(.aload_n 0, 1)] ((.getfield 42, 3) :: ((.getfield 176, 3) :: (m_ap [(.iload_n 1, 1), (.bipush 7, 2), (.iload_n 2, 1)] ((.invokevirtual 127, 3) :: (m_ap [(.iconst 1, 1)] ([(.ireturn, 1)]))))))) := m_Fe_of nd2215 34 9 rfl
theorem eF11_label_15 : m_Fe mi11_15 15 ([(.new 83, 3)]) := m_Fe_of nd2215 8 1 rfl
theorem SF11_label_0 {xs : Nat → Int32} {L : Nat} (x0 : Nat) (x1 : Int32) (x2 : Int32) (hp : m_H) {r : m_O × m_H} {K : ((Int32 ⊕ Nat) × m_H) → Prop} (k0 : ∀ x, K x → r = (m_xI x)) {t : (Int32 ⊕ Nat) × m_H} (h : F11_label_0 x0 x1 x2 hp = some t) (hK : K t) : m_Rn xs L 8 2215 0 [(0, .ref x0), (1, .int x1), (2, .int x2)] [] hp r := by
  unfold F11_label_0 at h
  refine g_in eF11_label_0 mx2215 ?_
  refine g_ch [(0, .ref x0), (1, .int x1), (2, .int x2)] [.int x1, .ref x0] (pc' := 2) rfl rfl rfl ?_
  obtain ⟨z2, e1, h⟩ := m_bd h
  rcases m_sxd h with ⟨u32, e3, h⟩ | ⟨E4, e3, h⟩
  · have q5 := (SF11_testLot (xs := xs) (L := L) e1)
    unfold m_xV at q5
    rw [e3] at q5
    refine g_call (v := none) (h := z2.2) (st' := []) (D1 := 7) (as := [.ref x0, .int x1]) (Or.inr (Or.inl rfl)) q11_m168 (m_cv (as := [.int x1]) (rest := []) (Or.inl rfl) q11_m168 jv2256 (OF11_testLot e1) rfl rfl rfl rfl) (by decide) q5 rfl ?_
    refine g_ch [(0, .ref x0), (1, .int x1), (2, .int x2)] [.int 9, .int 0, .int x2] (pc' := 9) rfl rfl rfl ?_
    obtain ⟨v7, e6, h⟩ := m_bd h
    refine g_call (v := some (.int v7)) (h := z2.2) (st' := [.int v7]) (D1 := 0) (as := [.int x2, .int 0, .int 9]) (Or.inl rfl) q11_m79 (m_cs (as := [.int 9, .int 0, .int x2]) (rest := []) q11_m79 jv2251 rfl rfl rfl rfl rfl) (by decide) (SF11_outside e6) rfl ?_
    rcases m_ifd h with ⟨c8, h⟩ | ⟨c8, h⟩
    · refine g_ifc (t := 26) rfl (m_eqT c8) ?_
      refine g_in eF11_label_26 mx2215 ?_
      refine g_ch [(0, .ref x0), (1, .int x1), (2, .int x2)] [.ref x0] (pc' := 27) rfl rfl rfl ?_
      obtain ⟨v9, e10, h⟩ := m_bd h
      refine g_gr q11_f42 e10 ?_
      refine g_ch [(0, .ref x0), (1, .int x1), (2, .int x2)] [.int x1, .ref v9] (pc' := 31) rfl rfl rfl ?_
      obtain ⟨v12, e11, h⟩ := m_bd h
      refine g_call (v := some (.int v12)) (h := z2.2) (st' := [.int v12]) (D1 := 2) (as := [.ref v9, .int x1]) (Or.inr (Or.inl rfl)) q11_m258 (m_cv (as := [.int x1]) (rest := []) (Or.inl rfl) q11_m258 jv614 (OF3_isLent e11) rfl rfl rfl rfl) (by decide) (SF3_isLent e11) rfl ?_
      rcases m_ifd h with ⟨c13, h⟩ | ⟨c13, h⟩
      · refine g_ifc (t := 66) rfl (m_eqT c13) ?_
        refine g_in eF11_label_66 mx2215 ?_
        refine g_ch [(0, .ref x0), (1, .int x1), (2, .int x2)] [.int 0] (pc' := 67) rfl rfl rfl ?_
        cases h
        rw [k0 _ hK]
        exact g_iret rfl (by decide +kernel)
      · refine g_ifcn (t := 66) rfl (m_eqF c13) ?_
        refine g_in eF11_label_37 mx2215 ?_
        refine g_ch [(0, .ref x0), (1, .int x1), (2, .int x2)] [.ref x0] (pc' := 38) rfl rfl rfl ?_
        obtain ⟨v14, e15, h⟩ := m_bd h
        refine g_gr q11_f42 e15 ?_
        refine g_ch [(0, .ref x0), (1, .int x1), (2, .int x2)] [.int 1, .int x1, .ref v14] (pc' := 43) rfl rfl rfl ?_
        obtain ⟨v17, e16, h⟩ := m_bd h
        refine g_call (v := some (.int v17)) (h := z2.2) (st' := [.int v17]) (D1 := 2) (as := [.ref v14, .int x1, .int 1]) (Or.inr (Or.inl rfl)) q11_m261 (m_cv (as := [.int 1, .int x1]) (rest := []) (Or.inl rfl) q11_m261 jv616 (OF3_crates e16) rfl rfl rfl rfl) (by decide) (SF3_crates e16) rfl ?_
        rcases m_ifd h with ⟨c18, h⟩ | ⟨c18, h⟩
        · refine g_ifc (t := 66) rfl (m_eqT c18) ?_
          refine g_in eF11_label_66 mx2215 ?_
          refine g_ch [(0, .ref x0), (1, .int x1), (2, .int x2)] [.int 0] (pc' := 67) rfl rfl rfl ?_
          cases h
          rw [k0 _ hK]
          exact g_iret rfl (by decide +kernel)
        · refine g_ifcn (t := 66) rfl (m_eqF c18) ?_
          refine g_in eF11_label_49 mx2215 ?_
          refine g_ch [(0, .ref x0), (1, .int x1), (2, .int x2)] [.ref x0] (pc' := 50) rfl rfl rfl ?_
          obtain ⟨v19, e20, h⟩ := m_bd h
          refine g_gr q11_f42 e20 ?_
          obtain ⟨v21, e22, h⟩ := m_bd h
          refine g_gr q11_f176 e22 ?_
          refine g_ch [(0, .ref x0), (1, .int x1), (2, .int x2)] [.int 7, .int x1, .ref v21] (pc' := 59) rfl rfl rfl ?_
          obtain ⟨v24, e23, h⟩ := m_bd h
          refine g_call (v := some (.int v24)) (h := z2.2) (st' := [.int v24]) (D1 := 1) (as := [.ref v21, .int x1, .int 7]) (Or.inr (Or.inl rfl)) q11_m179 (m_cv (as := [.int 7, .int x1]) (rest := []) (Or.inl rfl) q11_m179 jv1604 (OF8_get e23) rfl rfl rfl rfl) (by decide) (SF8_get e23) rfl ?_
          refine g_ch [(0, .ref x0), (1, .int x1), (2, .int x2)] [.int x2, .int v24] (pc' := 63) rfl rfl rfl ?_
          rcases m_ifd h with ⟨c25, h⟩ | ⟨c25, h⟩
          · refine g_ifn (t := 68) rfl (m_neF c25) ?_
            refine g_in eF11_label_66 mx2215 ?_
            refine g_ch [(0, .ref x0), (1, .int x1), (2, .int x2)] [.int 0] (pc' := 67) rfl rfl rfl ?_
            cases h
            rw [k0 _ hK]
            exact g_iret rfl (by decide +kernel)
          · refine g_if (t := 68) rfl (m_neT c25) ?_
            refine g_in eF11_label_68 mx2215 ?_
            refine g_ch [(0, .ref x0), (1, .int x1), (2, .int x2)] [.ref x0] (pc' := 69) rfl rfl rfl ?_
            obtain ⟨v26, e27, h⟩ := m_bd h
            refine g_gr q11_f42 e27 ?_
            obtain ⟨v28, e29, h⟩ := m_bd h
            refine g_gr q11_f176 e29 ?_
            refine g_ch [(0, .ref x0), (1, .int x1), (2, .int x2)] [.int x2, .int 7, .int x1, .ref v28] (pc' := 79) rfl rfl rfl ?_
            obtain ⟨h31, e30, h⟩ := m_bd h
            refine g_call (v := none) (h := h31) (st' := []) (D1 := 1) (as := [.ref v28, .int x1, .int 7, .int x2]) (Or.inr (Or.inl rfl)) q11_m127 (m_cv (as := [.int x2, .int 7, .int x1]) (rest := []) (Or.inl rfl) q11_m127 jv1605 (OF8_set e30) rfl rfl rfl rfl) (by decide) (SF8_set e30) rfl ?_
            refine g_ch [(0, .ref x0), (1, .int x1), (2, .int x2)] [.int 1] (pc' := 83) rfl rfl rfl ?_
            cases h
            rw [k0 _ hK]
            exact g_iret rfl (by decide +kernel)
    · refine g_ifcn (t := 26) rfl (m_eqF c8) ?_
      refine g_in eF11_label_15 mx2215 ?_
      cases h
      rw [k0 _ hK]
      exact g_thr (by decide +kernel) (by decide) rfl
  · have q5 := (SF11_testLot (xs := xs) (L := L) e1)
    unfold m_xV at q5
    rw [e3] at q5
    cases h
    rw [k0 _ hK]
    exact g_callX (D1 := 7) (as := [.ref x0, .int x1]) (Or.inr (Or.inl rfl)) q11_m168 (m_cv (as := [.int x1]) (rest := []) (Or.inl rfl) q11_m168 jv2256 (OF11_testLot e1) rfl rfl rfl rfl) (by decide) q5 rfl
theorem OF11_label {x0 : Nat} {x1 : Int32} {x2 : Int32} {hp : m_H} {x : (Int32 ⊕ Nat) × m_H} (h : F11_label x0 x1 x2 hp = some x) : m_isO hp 8 x0 = true := (m_gdd h).1
theorem SF11_label {xs : Nat → Int32} {L : Nat} {x0 : Nat} {x1 : Int32} {x2 : Int32} {hp : m_H} {x : (Int32 ⊕ Nat) × m_H} (h : F11_label x0 x1 x2 hp = some x) : m_Rn xs L 8 2215 0 (lv_args 0 [.ref x0, .int x1, .int x2]) [] hp (m_xI x) :=
  r_lv (SF11_label_0 x0 x1 x2 hp (K := fun y => y = x) (fun y e => by rw [e]) (m_gdd h).2 rfl) rfl ⟨rfl, rfl, rfl, trivial⟩
-- F11_give: LendHouse.give(IIIZ)I
theorem eF11_give_0 : m_Fe mi11_16 0 (m_ap [(.aload_n 0, 1), (.iload_n 1, 1)] ((.invokevirtual 168, 3) :: (m_ap [(.iload_n 3, 1)] ((.invokestatic 182, 3) :: (m_ap [(.aload_n 0, 1)] ((.invokevirtual 161, 3) :: (m_ap [(.aload_n 0, 1)] ((.getfield 42, 3) :: ((.getfield 176, 3) :: (m_ap [(.iload_n 1, 1), (.iconst 2, 1)] ((.invokevirtual 179, 3) :: (m_ap [(.istore 5, 2), (.aload_n 0, 1)] ((.getfield 42, 3) :: (m_ap [(.iload_n 1, 1)] ((.invokevirtual 258, 3) :: ([(.ifCond .eq 43, 3)])))))))))))))))) := m_Fe_of nd2216 0 19 rfl
theorem eF11_give_78 : m_Fe mi11_16 78 (m_ap [(.iconst (-1), 1)] ([(.ireturn, 1)])) := m_Fe_of nd2216 38 2 rfl
theorem eF11_give_38 : m_Fe mi11_16 38 (m_ap [(.iload_n 2, 1), (.iconst 1, 1), (.aload_n 0, 1)] ((.getfield 42, 3) :: (m_ap [(.iload_n 1, 1), (.iconst 3, 1)] ((.invokevirtual 261, 3) :: ((.invokestatic 79, 3) :: ([(.ifCond .ne 26, 3)])))))) := m_Fe_of nd2216 19 9 rfl
theorem eF11_give_55 : m_Fe mi11_16 55 (m_ap [(.iload_n 3, 1)] ([(.ifCond .eq 22, 3)])) := m_Fe_of nd2216 28 2 rfl
theorem eF11_give_59 : m_Fe mi11_16 59 (m_ap [(.iload_n 3, 1), (.iload 5, 2)] ([(.if_icmp .eq 16, 3)])) := m_Fe_of nd2216 30 3 rfl
theorem eF11_give_65 : m_Fe mi11_16 65 (m_ap [(.aload_n 0, 1)] ((.getfield 42, 3) :: ((.getfield 176, 3) :: ((.invokevirtual 193, 3) :: ([(.ifCond .eq 5, 3)]))))) := m_Fe_of nd2216 33 5 rfl
theorem eF11_give_80 : m_Fe mi11_16 80 (m_ap [(.aload_n 0, 1)] ((.getfield 28, 3) :: (m_ap [(.aload_n 0, 1)] ((.getfield 42, 3) :: (m_ap [(.iload 5, 2), (.aload_n 0, 1)] ((.getfield 42, 3) :: ((.getfield 176, 3) :: (m_ap [(.iload_n 1, 1), (.iconst 0, 1)] ((.invokevirtual 179, 3) :: (m_ap [(.iload_n 2, 1), (.iload_n 3, 1)] ((.invokevirtual 264, 3) :: (m_ap [(.aload_n 0, 1)] ((.getfield 28, 3) :: (m_ap [(.iconst 3, 1)] ((.invokevirtual 228, 3) :: (m_ap [(.iconst (-1), 1)] ([(.if_icmp .eq 7, 3)]))))))))))))))))) := m_Fe_of nd2216 40 20 rfl
theorem eF11_give_123 : m_Fe mi11_16 123 (m_ap [(.iconst 0, 1)] ([])) := m_Fe_of nd2216 62 1 rfl
theorem eF11_give_119 : m_Fe mi11_16 119 (m_ap [(.iconst 1, 1)] ([(.goto 4, 3)])) := m_Fe_of nd2216 60 2 rfl
theorem eF11_give_124 : m_Fe mi11_16 124 (m_ap [(.istore 6, 2), (.iload 6, 2)] ([(.ifCond .ne 10, 3)])) := m_Fe_of nd2216 63 3 rfl
theorem eF11_give_131 : m_Fe mi11_16 131 (m_ap [(.iload 4, 2)] ([(.ifCond .ne 5, 3)])) := m_Fe_of nd2216 66 2 rfl
theorem eF11_give_136 : m_Fe mi11_16 136 (m_ap [(.iconst (-1), 1)] ([(.ireturn, 1)])) := m_Fe_of nd2216 68 2 rfl
theorem eF11_give_138 : m_Fe mi11_16 138 (m_ap [(.aload_n 0, 1)] ((.invokevirtual 250, 3) :: (m_ap [(.aload_n 0, 1)] ((.getfield 42, 3) :: (m_ap [(.iload_n 1, 1), (.iload_n 2, 1), (.iload_n 3, 1), (.iload 6, 2)] ([(.ifCond .ne 7, 3)])))))) := m_Fe_of nd2216 70 9 rfl
theorem eF11_give_158 : m_Fe mi11_16 158 (m_ap [(.iconst 0, 1)] ([])) := m_Fe_of nd2216 81 1 rfl
theorem eF11_give_159 : m_Fe mi11_16 159 ((.invokevirtual 268, 3) :: ([(.ireturn, 1)])) := m_Fe_of nd2216 82 2 rfl
theorem eF11_give_154 : m_Fe mi11_16 154 (m_ap [(.iconst 1, 1)] ([(.goto 4, 3)])) := m_Fe_of nd2216 79 2 rfl
theorem SF11_give_138 {xs : Nat → Int32} {L : Nat} (x0 : Nat) (x1 : Int32) (x2 : Int32) (x3 : Int32) (x6 : Int32) (hp : m_H) {r : m_O × m_H} {K : ((Int32 ⊕ Nat) × m_H) → Prop} (k0 : ∀ x, K x → r = (m_xI x)) {t : (Int32 ⊕ Nat) × m_H} (h : F11_give_138 x0 x1 x2 x3 x6 hp = some t) (hK : K t) : m_Rn xs L 10 2216 138 [(0, .ref x0), (1, .int x1), (2, .int x2), (3, .int x3), (6, .int x6)] [] hp r := by
  unfold F11_give_138 at h
  refine g_in eF11_give_138 mx2216 ?_
  refine g_ch [(0, .ref x0), (1, .int x1), (2, .int x2), (3, .int x3), (6, .int x6)] [.ref x0] (pc' := 139) rfl rfl rfl ?_
  obtain ⟨h2, e1, h⟩ := m_bd h
  refine g_call (v := none) (h := h2) (st' := []) (D1 := 9) (as := [.ref x0]) (Or.inr (Or.inl rfl)) q11_m250 (m_cv (as := []) (rest := []) (Or.inl rfl) q11_m250 jv2250 (OF11_remember e1) rfl rfl rfl rfl) (by decide) (SF11_remember e1) rfl ?_
  refine g_ch [(0, .ref x0), (1, .int x1), (2, .int x2), (3, .int x3), (6, .int x6)] [.ref x0] (pc' := 143) rfl rfl rfl ?_
  obtain ⟨v3, e4, h⟩ := m_bd h
  refine g_gr q11_f42 e4 ?_
  refine g_ch [(0, .ref x0), (1, .int x1), (2, .int x2), (3, .int x3), (6, .int x6)] [.int x6, .int x3, .int x2, .int x1, .ref v3] (pc' := 151) rfl rfl rfl ?_
  rcases m_ifd h with ⟨c5, h⟩ | ⟨c5, h⟩
  · refine g_ifcn (t := 158) rfl (m_neF c5) ?_
    refine g_in eF11_give_154 mx2216 ?_
    refine g_ch [(0, .ref x0), (1, .int x1), (2, .int x2), (3, .int x3), (6, .int x6)] [.int 1, .int x3, .int x2, .int x1, .ref v3] (pc' := 155) rfl rfl rfl ?_
    refine g_goto (t := 159) rfl ?_
    refine g_in eF11_give_159 mx2216 ?_
    obtain ⟨z9, e8, h⟩ := m_bd h
    refine g_call (v := some (.int z9.1)) (h := z9.2) (st' := [.int z9.1]) (D1 := 4) (as := [.ref v3, .int x1, .int x2, .int x3, .int 1]) (Or.inr (Or.inl rfl)) q11_m268 (m_cv (as := [.int 1, .int x3, .int x2, .int x1]) (rest := []) (Or.inl rfl) q11_m268 jv623 (OF3_giveOn e8) rfl rfl rfl rfl) (by decide) (SF3_giveOn e8) rfl ?_
    cases h
    rw [k0 _ hK]
    exact g_iret rfl rfl
  · refine g_ifc (t := 158) rfl (m_neT c5) ?_
    refine g_in eF11_give_158 mx2216 ?_
    refine g_ch [(0, .ref x0), (1, .int x1), (2, .int x2), (3, .int x3), (6, .int x6)] [.int 0, .int x3, .int x2, .int x1, .ref v3] (pc' := 159) rfl rfl rfl ?_
    refine g_end ?_
    refine g_in eF11_give_159 mx2216 ?_
    obtain ⟨z7, e6, h⟩ := m_bd h
    refine g_call (v := some (.int z7.1)) (h := z7.2) (st' := [.int z7.1]) (D1 := 4) (as := [.ref v3, .int x1, .int x2, .int x3, .int 0]) (Or.inr (Or.inl rfl)) q11_m268 (m_cv (as := [.int 0, .int x3, .int x2, .int x1]) (rest := []) (Or.inl rfl) q11_m268 jv623 (OF3_giveOn e6) rfl rfl rfl rfl) (by decide) (SF3_giveOn e6) rfl ?_
    cases h
    rw [k0 _ hK]
    exact g_iret rfl rfl
theorem SF11_give_124 {xs : Nat → Int32} {L : Nat} (x0 : Nat) (x1 : Int32) (x2 : Int32) (x3 : Int32) (x4 : Int32) (s0 : Int32) (hp : m_H) {r : m_O × m_H} {K : ((Int32 ⊕ Nat) × m_H) → Prop} (k0 : ∀ x, K x → r = (m_xI x)) {t : (Int32 ⊕ Nat) × m_H} (h : F11_give_124 x0 x1 x2 x3 x4 s0 hp = some t) (hK : K t) : m_Rn xs L 10 2216 124 [(0, .ref x0), (1, .int x1), (2, .int x2), (3, .int x3), (4, .int x4)] [.int s0] hp r := by
  unfold F11_give_124 at h
  refine g_in eF11_give_124 mx2216 ?_
  refine g_ch [(6, .int s0), (0, .ref x0), (1, .int x1), (2, .int x2), (3, .int x3), (4, .int x4)] [.int s0] (pc' := 128) rfl rfl rfl ?_
  rcases m_ifd h with ⟨c1, h⟩ | ⟨c1, h⟩
  · refine g_ifcn (t := 138) rfl (m_neF c1) ?_
    refine g_in eF11_give_131 mx2216 ?_
    refine g_ch [(6, .int s0), (0, .ref x0), (1, .int x1), (2, .int x2), (3, .int x3), (4, .int x4)] [.int x4] (pc' := 133) rfl rfl rfl ?_
    rcases m_ifd h with ⟨c2, h⟩ | ⟨c2, h⟩
    · refine g_ifcn (t := 138) rfl (m_neF c2) ?_
      refine g_in eF11_give_136 mx2216 ?_
      refine g_ch [(6, .int s0), (0, .ref x0), (1, .int x1), (2, .int x2), (3, .int x3), (4, .int x4)] [.int (-1)] (pc' := 137) rfl rfl rfl ?_
      cases h
      rw [k0 _ hK]
      exact g_iret rfl rfl
    · refine g_ifc (t := 138) rfl (m_neT c2) ?_
      exact r_lv (SF11_give_138 x0 x1 x2 x3 s0 hp (K := K) k0 h hK) rfl ⟨rfl, rfl, rfl, rfl, rfl, trivial⟩
  · refine g_ifc (t := 138) rfl (m_neT c1) ?_
    exact r_lv (SF11_give_138 x0 x1 x2 x3 s0 hp (K := K) k0 h hK) rfl ⟨rfl, rfl, rfl, rfl, rfl, trivial⟩
theorem SF11_give_0 {xs : Nat → Int32} {L : Nat} (x0 : Nat) (x1 : Int32) (x2 : Int32) (x3 : Int32) (x4 : Int32) (hp : m_H) {r : m_O × m_H} {K : ((Int32 ⊕ Nat) × m_H) → Prop} (k0 : ∀ x, K x → r = (m_xI x)) {t : (Int32 ⊕ Nat) × m_H} (h : F11_give_0 x0 x1 x2 x3 x4 hp = some t) (hK : K t) : m_Rn xs L 10 2216 0 [(0, .ref x0), (1, .int x1), (2, .int x2), (3, .int x3), (4, .int x4)] [] hp r := by
  unfold F11_give_0 at h
  refine g_in eF11_give_0 mx2216 ?_
  refine g_ch [(0, .ref x0), (1, .int x1), (2, .int x2), (3, .int x3), (4, .int x4)] [.int x1, .ref x0] (pc' := 2) rfl rfl rfl ?_
  obtain ⟨z2, e1, h⟩ := m_bd h
  rcases m_sxd h with ⟨u62, e3, h⟩ | ⟨E4, e3, h⟩
  · have q5 := (SF11_testLot (xs := xs) (L := L) e1)
    unfold m_xV at q5
    rw [e3] at q5
    refine g_call (v := none) (h := z2.2) (st' := []) (D1 := 7) (as := [.ref x0, .int x1]) (Or.inr (Or.inl rfl)) q11_m168 (m_cv (as := [.int x1]) (rest := []) (Or.inl rfl) q11_m168 jv2256 (OF11_testLot e1) rfl rfl rfl rfl) (by decide) q5 rfl ?_
    refine g_ch [(0, .ref x0), (1, .int x1), (2, .int x2), (3, .int x3), (4, .int x4)] [.int x3] (pc' := 6) rfl rfl rfl ?_
    obtain ⟨z7, e6, h⟩ := m_bd h
    rcases m_sxd h with ⟨u61, e8, h⟩ | ⟨E9, e8, h⟩
    · have q10 := (SF11_testLand (xs := xs) (L := L) e6)
      unfold m_xV at q10
      rw [e8] at q10
      refine g_call (v := none) (h := z7.2) (st' := []) (D1 := 7) (as := [.int x3]) (Or.inl rfl) q11_m182 (m_cs (as := [.int x3]) (rest := []) q11_m182 jv2252 rfl rfl rfl rfl rfl) (by decide) q10 rfl ?_
      refine g_ch [(0, .ref x0), (1, .int x1), (2, .int x2), (3, .int x3), (4, .int x4)] [.ref x0] (pc' := 10) rfl rfl rfl ?_
      obtain ⟨z12, e11, h⟩ := m_bd h
      rcases m_sxd h with ⟨u60, e13, h⟩ | ⟨E14, e13, h⟩
      · have q15 := (SF11_testNotEnded (xs := xs) (L := L) e11)
        unfold m_xV at q15
        rw [e13] at q15
        refine g_call (v := none) (h := z12.2) (st' := []) (D1 := 7) (as := [.ref x0]) (Or.inr (Or.inl rfl)) q11_m161 (m_cv (as := []) (rest := []) (Or.inl rfl) q11_m161 jv2259 (OF11_testNotEnded e11) rfl rfl rfl rfl) (by decide) q15 rfl ?_
        refine g_ch [(0, .ref x0), (1, .int x1), (2, .int x2), (3, .int x3), (4, .int x4)] [.ref x0] (pc' := 14) rfl rfl rfl ?_
        obtain ⟨v16, e17, h⟩ := m_bd h
        refine g_gr q11_f42 e17 ?_
        obtain ⟨v18, e19, h⟩ := m_bd h
        refine g_gr q11_f176 e19 ?_
        refine g_ch [(0, .ref x0), (1, .int x1), (2, .int x2), (3, .int x3), (4, .int x4)] [.int 2, .int x1, .ref v18] (pc' := 22) rfl rfl rfl ?_
        obtain ⟨v21, e20, h⟩ := m_bd h
        refine g_call (v := some (.int v21)) (h := z12.2) (st' := [.int v21]) (D1 := 1) (as := [.ref v18, .int x1, .int 2]) (Or.inr (Or.inl rfl)) q11_m179 (m_cv (as := [.int 2, .int x1]) (rest := []) (Or.inl rfl) q11_m179 jv1604 (OF8_get e20) rfl rfl rfl rfl) (by decide) (SF8_get e20) rfl ?_
        refine g_ch [(5, .int v21), (0, .ref x0), (1, .int x1), (2, .int x2), (3, .int x3), (4, .int x4)] [.ref x0] (pc' := 28) rfl rfl rfl ?_
        obtain ⟨v22, e23, h⟩ := m_bd h
        refine g_gr q11_f42 e23 ?_
        refine g_ch [(5, .int v21), (0, .ref x0), (1, .int x1), (2, .int x2), (3, .int x3), (4, .int x4)] [.int x1, .ref v22] (pc' := 32) rfl rfl rfl ?_
        obtain ⟨v25, e24, h⟩ := m_bd h
        refine g_call (v := some (.int v25)) (h := z12.2) (st' := [.int v25]) (D1 := 2) (as := [.ref v22, .int x1]) (Or.inr (Or.inl rfl)) q11_m258 (m_cv (as := [.int x1]) (rest := []) (Or.inl rfl) q11_m258 jv614 (OF3_isLent e24) rfl rfl rfl rfl) (by decide) (SF3_isLent e24) rfl ?_
        rcases m_ifd h with ⟨c26, h⟩ | ⟨c26, h⟩
        · refine g_ifc (t := 78) rfl (m_eqT c26) ?_
          refine g_in eF11_give_78 mx2216 ?_
          refine g_ch [(5, .int v21), (0, .ref x0), (1, .int x1), (2, .int x2), (3, .int x3), (4, .int x4)] [.int (-1)] (pc' := 79) rfl rfl rfl ?_
          cases h
          rw [k0 _ hK]
          exact g_iret rfl rfl
        · refine g_ifcn (t := 78) rfl (m_eqF c26) ?_
          refine g_in eF11_give_38 mx2216 ?_
          refine g_ch [(5, .int v21), (0, .ref x0), (1, .int x1), (2, .int x2), (3, .int x3), (4, .int x4)] [.ref x0, .int 1, .int x2] (pc' := 41) rfl rfl rfl ?_
          obtain ⟨v27, e28, h⟩ := m_bd h
          refine g_gr q11_f42 e28 ?_
          refine g_ch [(5, .int v21), (0, .ref x0), (1, .int x1), (2, .int x2), (3, .int x3), (4, .int x4)] [.int 3, .int x1, .ref v27, .int 1, .int x2] (pc' := 46) rfl rfl rfl ?_
          obtain ⟨v30, e29, h⟩ := m_bd h
          refine g_call (v := some (.int v30)) (h := z12.2) (st' := [.int v30, .int 1, .int x2]) (D1 := 2) (as := [.ref v27, .int x1, .int 3]) (Or.inr (Or.inl rfl)) q11_m261 (m_cv (as := [.int 3, .int x1]) (rest := [.int 1, .int x2]) (Or.inl rfl) q11_m261 jv616 (OF3_crates e29) rfl rfl rfl rfl) (by decide) (SF3_crates e29) rfl ?_
          obtain ⟨v32, e31, h⟩ := m_bd h
          refine g_call (v := some (.int v32)) (h := z12.2) (st' := [.int v32]) (D1 := 0) (as := [.int x2, .int 1, .int v30]) (Or.inl rfl) q11_m79 (m_cs (as := [.int v30, .int 1, .int x2]) (rest := []) q11_m79 jv2251 rfl rfl rfl rfl rfl) (by decide) (SF11_outside e31) rfl ?_
          rcases m_ifd h with ⟨c33, h⟩ | ⟨c33, h⟩
          · refine g_ifcn (t := 78) rfl (m_neF c33) ?_
            refine g_in eF11_give_55 mx2216 ?_
            refine g_ch [(5, .int v21), (0, .ref x0), (1, .int x1), (2, .int x2), (3, .int x3), (4, .int x4)] [.int x3] (pc' := 56) rfl rfl rfl ?_
            rcases m_ifd h with ⟨c34, h⟩ | ⟨c34, h⟩
            · refine g_ifc (t := 78) rfl (m_eqT c34) ?_
              refine g_in eF11_give_78 mx2216 ?_
              refine g_ch [(5, .int v21), (0, .ref x0), (1, .int x1), (2, .int x2), (3, .int x3), (4, .int x4)] [.int (-1)] (pc' := 79) rfl rfl rfl ?_
              cases h
              rw [k0 _ hK]
              exact g_iret rfl rfl
            · refine g_ifcn (t := 78) rfl (m_eqF c34) ?_
              refine g_in eF11_give_59 mx2216 ?_
              refine g_ch [(5, .int v21), (0, .ref x0), (1, .int x1), (2, .int x2), (3, .int x3), (4, .int x4)] [.int v21, .int x3] (pc' := 62) rfl rfl rfl ?_
              rcases m_ifd h with ⟨c35, h⟩ | ⟨c35, h⟩
              · refine g_if (t := 78) rfl (m_eqT c35) ?_
                refine g_in eF11_give_78 mx2216 ?_
                refine g_ch [(5, .int v21), (0, .ref x0), (1, .int x1), (2, .int x2), (3, .int x3), (4, .int x4)] [.int (-1)] (pc' := 79) rfl rfl rfl ?_
                cases h
                rw [k0 _ hK]
                exact g_iret rfl rfl
              · refine g_ifn (t := 78) rfl (m_eqF c35) ?_
                refine g_in eF11_give_65 mx2216 ?_
                refine g_ch [(5, .int v21), (0, .ref x0), (1, .int x1), (2, .int x2), (3, .int x3), (4, .int x4)] [.ref x0] (pc' := 66) rfl rfl rfl ?_
                obtain ⟨v36, e37, h⟩ := m_bd h
                refine g_gr q11_f42 e37 ?_
                obtain ⟨v38, e39, h⟩ := m_bd h
                refine g_gr q11_f176 e39 ?_
                obtain ⟨v41, e40, h⟩ := m_bd h
                refine g_call (v := some (.int v41)) (h := z12.2) (st' := [.int v41]) (D1 := 0) (as := [.ref v38]) (Or.inr (Or.inl rfl)) q11_m193 (m_cv (as := []) (rest := []) (Or.inl rfl) q11_m193 jv1602 (OF8_full e40) rfl rfl rfl rfl) (by decide) (SF8_full e40) rfl ?_
                rcases m_ifd h with ⟨c42, h⟩ | ⟨c42, h⟩
                · refine g_ifc (t := 80) rfl (m_eqT c42) ?_
                  refine g_in eF11_give_80 mx2216 ?_
                  refine g_ch [(5, .int v21), (0, .ref x0), (1, .int x1), (2, .int x2), (3, .int x3), (4, .int x4)] [.ref x0] (pc' := 81) rfl rfl rfl ?_
                  obtain ⟨v43, e44, h⟩ := m_bd h
                  refine g_gr q11_f28 e44 ?_
                  refine g_ch [(5, .int v21), (0, .ref x0), (1, .int x1), (2, .int x2), (3, .int x3), (4, .int x4)] [.ref x0, .ref v43] (pc' := 85) rfl rfl rfl ?_
                  obtain ⟨v45, e46, h⟩ := m_bd h
                  refine g_gr q11_f42 e46 ?_
                  refine g_ch [(5, .int v21), (0, .ref x0), (1, .int x1), (2, .int x2), (3, .int x3), (4, .int x4)] [.ref x0, .int v21, .ref v45, .ref v43] (pc' := 91) rfl rfl rfl ?_
                  obtain ⟨v47, e48, h⟩ := m_bd h
                  refine g_gr q11_f42 e48 ?_
                  obtain ⟨v49, e50, h⟩ := m_bd h
                  refine g_gr q11_f176 e50 ?_
                  refine g_ch [(5, .int v21), (0, .ref x0), (1, .int x1), (2, .int x2), (3, .int x3), (4, .int x4)] [.int 0, .int x1, .ref v49, .int v21, .ref v45, .ref v43] (pc' := 99) rfl rfl rfl ?_
                  obtain ⟨v52, e51, h⟩ := m_bd h
                  refine g_call (v := some (.int v52)) (h := z12.2) (st' := [.int v52, .int v21, .ref v45, .ref v43]) (D1 := 1) (as := [.ref v49, .int x1, .int 0]) (Or.inr (Or.inl rfl)) q11_m179 (m_cv (as := [.int 0, .int x1]) (rest := [.int v21, .ref v45, .ref v43]) (Or.inl rfl) q11_m179 jv1604 (OF8_get e51) rfl rfl rfl rfl) (by decide) (SF8_get e51) rfl ?_
                  refine g_ch [(5, .int v21), (0, .ref x0), (1, .int x1), (2, .int x2), (3, .int x3), (4, .int x4)] [.int x3, .int x2, .int v52, .int v21, .ref v45, .ref v43] (pc' := 104) rfl rfl rfl ?_
                  obtain ⟨h54, e53, h⟩ := m_bd h
                  refine g_call (v := none) (h := h54) (st' := []) (D1 := 4) (as := [.ref v43, .ref v45, .int v21, .int v52, .int x2, .int x3]) (Or.inr (Or.inl rfl)) q11_m264 (m_cv (as := [.int x3, .int x2, .int v52, .int v21, .ref v45]) (rest := []) (Or.inl rfl) q11_m264 jv405 (OF2_gather e53) rfl rfl rfl rfl) (by decide) (SF2_gather e53) rfl ?_
                  refine g_ch [(5, .int v21), (0, .ref x0), (1, .int x1), (2, .int x2), (3, .int x3), (4, .int x4)] [.ref x0] (pc' := 108) rfl rfl rfl ?_
                  obtain ⟨v55, e56, h⟩ := m_bd h
                  refine g_gr q11_f28 e56 ?_
                  refine g_ch [(5, .int v21), (0, .ref x0), (1, .int x1), (2, .int x2), (3, .int x3), (4, .int x4)] [.int 3, .ref v55] (pc' := 112) rfl rfl rfl ?_
                  obtain ⟨z58, e57, h⟩ := m_bd h
                  refine g_call (v := some (.int z58.1)) (h := z58.2) (st' := [.int z58.1]) (D1 := 8) (as := [.ref v55, .int 3]) (Or.inr (Or.inl rfl)) q11_m228 (m_cv (as := [.int 3]) (rest := []) (Or.inl rfl) q11_m228 jv407 (OF2_why e57) rfl rfl rfl rfl) (by decide) (SF2_why e57) rfl ?_
                  refine g_ch [(5, .int v21), (0, .ref x0), (1, .int x1), (2, .int x2), (3, .int x3), (4, .int x4)] [.int (-1), .int z58.1] (pc' := 116) rfl rfl rfl ?_
                  rcases m_ifd h with ⟨c59, h⟩ | ⟨c59, h⟩
                  · refine g_if (t := 123) rfl (m_eqT c59) ?_
                    refine g_in eF11_give_123 mx2216 ?_
                    refine g_ch [(5, .int v21), (0, .ref x0), (1, .int x1), (2, .int x2), (3, .int x3), (4, .int x4)] [.int 0] (pc' := 124) rfl rfl rfl ?_
                    refine g_end ?_
                    exact r_lv (SF11_give_124 x0 x1 x2 x3 x4 0 z58.2 (K := K) k0 h hK) rfl ⟨rfl, rfl, rfl, rfl, rfl, trivial⟩
                  · refine g_ifn (t := 123) rfl (m_eqF c59) ?_
                    refine g_in eF11_give_119 mx2216 ?_
                    refine g_ch [(5, .int v21), (0, .ref x0), (1, .int x1), (2, .int x2), (3, .int x3), (4, .int x4)] [.int 1] (pc' := 120) rfl rfl rfl ?_
                    refine g_goto (t := 124) rfl ?_
                    exact r_lv (SF11_give_124 x0 x1 x2 x3 x4 1 z58.2 (K := K) k0 h hK) rfl ⟨rfl, rfl, rfl, rfl, rfl, trivial⟩
                · refine g_ifcn (t := 80) rfl (m_eqF c42) ?_
                  refine g_in eF11_give_78 mx2216 ?_
                  refine g_ch [(5, .int v21), (0, .ref x0), (1, .int x1), (2, .int x2), (3, .int x3), (4, .int x4)] [.int (-1)] (pc' := 79) rfl rfl rfl ?_
                  cases h
                  rw [k0 _ hK]
                  exact g_iret rfl rfl
          · refine g_ifc (t := 78) rfl (m_neT c33) ?_
            refine g_in eF11_give_78 mx2216 ?_
            refine g_ch [(5, .int v21), (0, .ref x0), (1, .int x1), (2, .int x2), (3, .int x3), (4, .int x4)] [.int (-1)] (pc' := 79) rfl rfl rfl ?_
            cases h
            rw [k0 _ hK]
            exact g_iret rfl rfl
      · have q15 := (SF11_testNotEnded (xs := xs) (L := L) e11)
        unfold m_xV at q15
        rw [e13] at q15
        cases h
        rw [k0 _ hK]
        exact g_callX (D1 := 7) (as := [.ref x0]) (Or.inr (Or.inl rfl)) q11_m161 (m_cv (as := []) (rest := []) (Or.inl rfl) q11_m161 jv2259 (OF11_testNotEnded e11) rfl rfl rfl rfl) (by decide) q15 rfl
    · have q10 := (SF11_testLand (xs := xs) (L := L) e6)
      unfold m_xV at q10
      rw [e8] at q10
      cases h
      rw [k0 _ hK]
      exact g_callX (D1 := 7) (as := [.int x3]) (Or.inl rfl) q11_m182 (m_cs (as := [.int x3]) (rest := []) q11_m182 jv2252 rfl rfl rfl rfl rfl) (by decide) q10 rfl
  · have q5 := (SF11_testLot (xs := xs) (L := L) e1)
    unfold m_xV at q5
    rw [e3] at q5
    cases h
    rw [k0 _ hK]
    exact g_callX (D1 := 7) (as := [.ref x0, .int x1]) (Or.inr (Or.inl rfl)) q11_m168 (m_cv (as := [.int x1]) (rest := []) (Or.inl rfl) q11_m168 jv2256 (OF11_testLot e1) rfl rfl rfl rfl) (by decide) q5 rfl
theorem OF11_give {x0 : Nat} {x1 : Int32} {x2 : Int32} {x3 : Int32} {x4 : Int32} {hp : m_H} {x : (Int32 ⊕ Nat) × m_H} (h : F11_give x0 x1 x2 x3 x4 hp = some x) : m_isO hp 8 x0 = true := (m_gdd h).1
theorem SF11_give {xs : Nat → Int32} {L : Nat} {x0 : Nat} {x1 : Int32} {x2 : Int32} {x3 : Int32} {x4 : Int32} {hp : m_H} {x : (Int32 ⊕ Nat) × m_H} (h : F11_give x0 x1 x2 x3 x4 hp = some x) : m_Rn xs L 10 2216 0 (lv_args 0 [.ref x0, .int x1, .int x2, .int x3, .int x4]) [] hp (m_xI x) :=
  r_lv (SF11_give_0 x0 x1 x2 x3 x4 hp (K := fun y => y = x) (fun y e => by rw [e]) (m_gdd h).2 rfl) rfl ⟨rfl, rfl, rfl, rfl, rfl, trivial⟩
-- F11_back: LendHouse.back(III)I
theorem eF11_back_0 : m_Fe mi11_17 0 (m_ap [(.iload_n 1, 1)] ((.invokestatic 182, 3) :: (m_ap [(.iload_n 2, 1)] ((.invokestatic 118, 3) :: (m_ap [(.iload_n 1, 1)] ((.invokestatic 185, 3) :: (m_ap [(.iload_n 3, 1)] ((.invokestatic 155, 3) :: (m_ap [(.aload_n 0, 1)] ((.invokevirtual 158, 3) :: (m_ap [(.aload_n 0, 1)] ((.invokevirtual 161, 3) :: (m_ap [(.aload_n 0, 1)] ((.getfield 42, 3) :: (m_ap [(.iload_n 2, 1), (.iload_n 3, 1), (.iload_n 1, 1), (.iconst 3, 1)] ((.invokevirtual 164, 3) :: (m_ap [(.istore 4, 2), (.aload_n 0, 1)] ((.getfield 42, 3) :: ((.getfield 176, 3) :: (m_ap [(.iload 4, 2), (.iconst 3, 1), (.iconst 1, 1)] ((.invokevirtual 127, 3) :: (m_ap [(.iload 4, 2)] ([(.ireturn, 1)]))))))))))))))))))))))) := m_Fe_of nd2217 0 29 rfl
theorem SF11_back_0 {xs : Nat → Int32} {L : Nat} (x0 : Nat) (x1 : Int32) (x2 : Int32) (x3 : Int32) (hp : m_H) {r : m_O × m_H} {K : ((Int32 ⊕ Nat) × m_H) → Prop} (k0 : ∀ x, K x → r = (m_xI x)) {t : (Int32 ⊕ Nat) × m_H} (h : F11_back_0 x0 x1 x2 x3 hp = some t) (hK : K t) : m_Rn xs L 8 2217 0 [(0, .ref x0), (1, .int x1), (2, .int x2), (3, .int x3)] [] hp r := by
  unfold F11_back_0 at h
  refine g_in eF11_back_0 mx2217 ?_
  refine g_ch [(0, .ref x0), (1, .int x1), (2, .int x2), (3, .int x3)] [.int x1] (pc' := 1) rfl rfl rfl ?_
  obtain ⟨z2, e1, h⟩ := m_bd h
  rcases m_sxd h with ⟨u46, e3, h⟩ | ⟨E4, e3, h⟩
  · have q5 := (SF11_testLand (xs := xs) (L := L) e1)
    unfold m_xV at q5
    rw [e3] at q5
    refine g_call (v := none) (h := z2.2) (st' := []) (D1 := 7) (as := [.int x1]) (Or.inl rfl) q11_m182 (m_cs (as := [.int x1]) (rest := []) q11_m182 jv2252 rfl rfl rfl rfl rfl) (by decide) q5 rfl ?_
    refine g_ch [(0, .ref x0), (1, .int x1), (2, .int x2), (3, .int x3)] [.int x2] (pc' := 5) rfl rfl rfl ?_
    obtain ⟨z7, e6, h⟩ := m_bd h
    rcases m_sxd h with ⟨u45, e8, h⟩ | ⟨E9, e8, h⟩
    · have q10 := (SF11_testSort (xs := xs) (L := L) e6)
      unfold m_xV at q10
      rw [e8] at q10
      refine g_call (v := none) (h := z7.2) (st' := []) (D1 := 7) (as := [.int x2]) (Or.inl rfl) q11_m118 (m_cs (as := [.int x2]) (rest := []) q11_m118 jv2254 rfl rfl rfl rfl rfl) (by decide) q10 rfl ?_
      refine g_ch [(0, .ref x0), (1, .int x1), (2, .int x2), (3, .int x3)] [.int x1] (pc' := 9) rfl rfl rfl ?_
      obtain ⟨z12, e11, h⟩ := m_bd h
      rcases m_sxd h with ⟨u44, e13, h⟩ | ⟨E14, e13, h⟩
      · have q15 := (SF11_testAbroad (xs := xs) (L := L) e11)
        unfold m_xV at q15
        rw [e13] at q15
        refine g_call (v := none) (h := z12.2) (st' := []) (D1 := 7) (as := [.int x1]) (Or.inl rfl) q11_m185 (m_cs (as := [.int x1]) (rest := []) q11_m185 jv2253 rfl rfl rfl rfl rfl) (by decide) q15 rfl ?_
        refine g_ch [(0, .ref x0), (1, .int x1), (2, .int x2), (3, .int x3)] [.int x3] (pc' := 13) rfl rfl rfl ?_
        obtain ⟨z17, e16, h⟩ := m_bd h
        rcases m_sxd h with ⟨u43, e18, h⟩ | ⟨E19, e18, h⟩
        · have q20 := (SF11_testCrates (xs := xs) (L := L) e16)
          unfold m_xV at q20
          rw [e18] at q20
          refine g_call (v := none) (h := z17.2) (st' := []) (D1 := 7) (as := [.int x3]) (Or.inl rfl) q11_m155 (m_cs (as := [.int x3]) (rest := []) q11_m155 jv2255 rfl rfl rfl rfl rfl) (by decide) q20 rfl ?_
          refine g_ch [(0, .ref x0), (1, .int x1), (2, .int x2), (3, .int x3)] [.ref x0] (pc' := 17) rfl rfl rfl ?_
          obtain ⟨z22, e21, h⟩ := m_bd h
          rcases m_sxd h with ⟨u42, e23, h⟩ | ⟨E24, e23, h⟩
          · have q25 := (SF11_testRoomForLot (xs := xs) (L := L) e21)
            unfold m_xV at q25
            rw [e23] at q25
            refine g_call (v := none) (h := z22.2) (st' := []) (D1 := 7) (as := [.ref x0]) (Or.inr (Or.inl rfl)) q11_m158 (m_cv (as := []) (rest := []) (Or.inl rfl) q11_m158 jv2258 (OF11_testRoomForLot e21) rfl rfl rfl rfl) (by decide) q25 rfl ?_
            refine g_ch [(0, .ref x0), (1, .int x1), (2, .int x2), (3, .int x3)] [.ref x0] (pc' := 21) rfl rfl rfl ?_
            obtain ⟨z27, e26, h⟩ := m_bd h
            rcases m_sxd h with ⟨u41, e28, h⟩ | ⟨E29, e28, h⟩
            · have q30 := (SF11_testNotEnded (xs := xs) (L := L) e26)
              unfold m_xV at q30
              rw [e28] at q30
              refine g_call (v := none) (h := z27.2) (st' := []) (D1 := 7) (as := [.ref x0]) (Or.inr (Or.inl rfl)) q11_m161 (m_cv (as := []) (rest := []) (Or.inl rfl) q11_m161 jv2259 (OF11_testNotEnded e26) rfl rfl rfl rfl) (by decide) q30 rfl ?_
              refine g_ch [(0, .ref x0), (1, .int x1), (2, .int x2), (3, .int x3)] [.ref x0] (pc' := 25) rfl rfl rfl ?_
              obtain ⟨v31, e32, h⟩ := m_bd h
              refine g_gr q11_f42 e32 ?_
              refine g_ch [(0, .ref x0), (1, .int x1), (2, .int x2), (3, .int x3)] [.int 3, .int x1, .int x3, .int x2, .ref v31] (pc' := 32) rfl rfl rfl ?_
              obtain ⟨z34, e33, h⟩ := m_bd h
              refine g_call (v := some (.int z34.1)) (h := z34.2) (st' := [.int z34.1]) (D1 := 3) (as := [.ref v31, .int x2, .int x3, .int x1, .int 3]) (Or.inr (Or.inl rfl)) q11_m164 (m_cv (as := [.int 3, .int x1, .int x3, .int x2]) (rest := []) (Or.inl rfl) q11_m164 jv611 (OF3_addLot e33) rfl rfl rfl rfl) (by decide) (SF3_addLot e33) rfl ?_
              refine g_ch [(4, .int z34.1), (0, .ref x0), (1, .int x1), (2, .int x2), (3, .int x3)] [.ref x0] (pc' := 38) rfl rfl rfl ?_
              obtain ⟨v35, e36, h⟩ := m_bd h
              refine g_gr q11_f42 e36 ?_
              obtain ⟨v37, e38, h⟩ := m_bd h
              refine g_gr q11_f176 e38 ?_
              refine g_ch [(4, .int z34.1), (0, .ref x0), (1, .int x1), (2, .int x2), (3, .int x3)] [.int 1, .int 3, .int z34.1, .ref v37] (pc' := 48) rfl rfl rfl ?_
              obtain ⟨h40, e39, h⟩ := m_bd h
              refine g_call (v := none) (h := h40) (st' := []) (D1 := 1) (as := [.ref v37, .int z34.1, .int 3, .int 1]) (Or.inr (Or.inl rfl)) q11_m127 (m_cv (as := [.int 1, .int 3, .int z34.1]) (rest := []) (Or.inl rfl) q11_m127 jv1605 (OF8_set e39) rfl rfl rfl rfl) (by decide) (SF8_set e39) rfl ?_
              refine g_ch [(4, .int z34.1), (0, .ref x0), (1, .int x1), (2, .int x2), (3, .int x3)] [.int z34.1] (pc' := 53) rfl rfl rfl ?_
              cases h
              rw [k0 _ hK]
              exact g_iret rfl rfl
            · have q30 := (SF11_testNotEnded (xs := xs) (L := L) e26)
              unfold m_xV at q30
              rw [e28] at q30
              cases h
              rw [k0 _ hK]
              exact g_callX (D1 := 7) (as := [.ref x0]) (Or.inr (Or.inl rfl)) q11_m161 (m_cv (as := []) (rest := []) (Or.inl rfl) q11_m161 jv2259 (OF11_testNotEnded e26) rfl rfl rfl rfl) (by decide) q30 rfl
          · have q25 := (SF11_testRoomForLot (xs := xs) (L := L) e21)
            unfold m_xV at q25
            rw [e23] at q25
            cases h
            rw [k0 _ hK]
            exact g_callX (D1 := 7) (as := [.ref x0]) (Or.inr (Or.inl rfl)) q11_m158 (m_cv (as := []) (rest := []) (Or.inl rfl) q11_m158 jv2258 (OF11_testRoomForLot e21) rfl rfl rfl rfl) (by decide) q25 rfl
        · have q20 := (SF11_testCrates (xs := xs) (L := L) e16)
          unfold m_xV at q20
          rw [e18] at q20
          cases h
          rw [k0 _ hK]
          exact g_callX (D1 := 7) (as := [.int x3]) (Or.inl rfl) q11_m155 (m_cs (as := [.int x3]) (rest := []) q11_m155 jv2255 rfl rfl rfl rfl rfl) (by decide) q20 rfl
      · have q15 := (SF11_testAbroad (xs := xs) (L := L) e11)
        unfold m_xV at q15
        rw [e13] at q15
        cases h
        rw [k0 _ hK]
        exact g_callX (D1 := 7) (as := [.int x1]) (Or.inl rfl) q11_m185 (m_cs (as := [.int x1]) (rest := []) q11_m185 jv2253 rfl rfl rfl rfl rfl) (by decide) q15 rfl
    · have q10 := (SF11_testSort (xs := xs) (L := L) e6)
      unfold m_xV at q10
      rw [e8] at q10
      cases h
      rw [k0 _ hK]
      exact g_callX (D1 := 7) (as := [.int x2]) (Or.inl rfl) q11_m118 (m_cs (as := [.int x2]) (rest := []) q11_m118 jv2254 rfl rfl rfl rfl rfl) (by decide) q10 rfl
  · have q5 := (SF11_testLand (xs := xs) (L := L) e1)
    unfold m_xV at q5
    rw [e3] at q5
    cases h
    rw [k0 _ hK]
    exact g_callX (D1 := 7) (as := [.int x1]) (Or.inl rfl) q11_m182 (m_cs (as := [.int x1]) (rest := []) q11_m182 jv2252 rfl rfl rfl rfl rfl) (by decide) q5 rfl
theorem OF11_back {x0 : Nat} {x1 : Int32} {x2 : Int32} {x3 : Int32} {hp : m_H} {x : (Int32 ⊕ Nat) × m_H} (h : F11_back x0 x1 x2 x3 hp = some x) : m_isO hp 8 x0 = true := (m_gdd h).1
theorem SF11_back {xs : Nat → Int32} {L : Nat} {x0 : Nat} {x1 : Int32} {x2 : Int32} {x3 : Int32} {hp : m_H} {x : (Int32 ⊕ Nat) × m_H} (h : F11_back x0 x1 x2 x3 hp = some x) : m_Rn xs L 8 2217 0 (lv_args 0 [.ref x0, .int x1, .int x2, .int x3]) [] hp (m_xI x) :=
  r_lv (SF11_back_0 x0 x1 x2 x3 hp (K := fun y => y = x) (fun y e => by rw [e]) (m_gdd h).2 rfl) rfl ⟨rfl, rfl, rfl, rfl, trivial⟩
-- F11_ship: LendHouse.ship(II)I
theorem eF11_ship_0 : m_Fe mi11_18 0 (m_ap [(.iload_n 1, 1), (.iconst 1, 1), (.sipush 5000, 3)] ((.invokestatic 79, 3) :: ([(.ifCond .ne 13, 3)]))) := m_Fe_of nd2218 0 5 rfl
theorem eF11_ship_21 : m_Fe mi11_18 21 ([(.new 83, 3)]) := m_Fe_of nd2218 10 1 rfl
theorem eF11_ship_11 : m_Fe mi11_18 11 (m_ap [(.iload_n 2, 1), (.iconst 0, 1), (.bipush 99, 2)] ((.invokestatic 79, 3) :: ([(.ifCond .eq 14, 3)]))) := m_Fe_of nd2218 5 5 rfl
theorem eF11_ship_32 : m_Fe mi11_18 32 (m_ap [(.aload_n 0, 1)] ((.getfield 42, 3) :: ((.getfield 274, 3) :: ((.invokevirtual 193, 3) :: ([(.ifCond .eq 14, 3)]))))) := m_Fe_of nd2218 15 5 rfl
theorem eF11_ship_56 : m_Fe mi11_18 56 (m_ap [(.aload_n 0, 1)] ((.getfield 42, 3) :: ((.getfield 274, 3) :: ((.invokevirtual 199, 3) :: (m_ap [(.istore_n 3, 1), (.aload_n 0, 1)] ((.getfield 42, 3) :: ((.getfield 274, 3) :: (m_ap [(.iload_n 3, 1), (.iconst 0, 1), (.iload_n 1, 1)] ((.invokevirtual 127, 3) :: (m_ap [(.aload_n 0, 1)] ((.getfield 42, 3) :: ((.getfield 274, 3) :: (m_ap [(.iload_n 3, 1), (.iconst 1, 1), (.iload_n 2, 1)] ((.invokevirtual 127, 3) :: (m_ap [(.aload_n 0, 1)] ((.getfield 42, 3) :: ((.getfield 274, 3) :: (m_ap [(.iload_n 3, 1), (.iconst 5, 1), (.iconst (-1), 1)] ((.invokevirtual 127, 3) :: (m_ap [(.iload_n 3, 1)] ([(.ireturn, 1)]))))))))))))))))))))) := m_Fe_of nd2218 25 28 rfl
theorem eF11_ship_45 : m_Fe mi11_18 45 ([(.new 101, 3)]) := m_Fe_of nd2218 20 1 rfl
theorem SF11_ship_0 {xs : Nat → Int32} {L : Nat} (x0 : Nat) (x1 : Int32) (x2 : Int32) (hp : m_H) {r : m_O × m_H} {K : ((Int32 ⊕ Nat) × m_H) → Prop} (k0 : ∀ x, K x → r = (m_xI x)) {t : (Int32 ⊕ Nat) × m_H} (h : F11_ship_0 x0 x1 x2 hp = some t) (hK : K t) : m_Rn xs L 7 2218 0 [(0, .ref x0), (1, .int x1), (2, .int x2)] [] hp r := by
  unfold F11_ship_0 at h
  refine g_in eF11_ship_0 mx2218 ?_
  refine g_ch [(0, .ref x0), (1, .int x1), (2, .int x2)] [.int 5000, .int 1, .int x1] (pc' := 5) rfl rfl rfl ?_
  obtain ⟨v2, e1, h⟩ := m_bd h
  refine g_call (v := some (.int v2)) (h := hp) (st' := [.int v2]) (D1 := 0) (as := [.int x1, .int 1, .int 5000]) (Or.inl rfl) q11_m79 (m_cs (as := [.int 5000, .int 1, .int x1]) (rest := []) q11_m79 jv2251 rfl rfl rfl rfl rfl) (by decide) (SF11_outside e1) rfl ?_
  rcases m_ifd h with ⟨c3, h⟩ | ⟨c3, h⟩
  · refine g_ifcn (t := 21) rfl (m_neF c3) ?_
    refine g_in eF11_ship_11 mx2218 ?_
    refine g_ch [(0, .ref x0), (1, .int x1), (2, .int x2)] [.int 99, .int 0, .int x2] (pc' := 15) rfl rfl rfl ?_
    obtain ⟨v5, e4, h⟩ := m_bd h
    refine g_call (v := some (.int v5)) (h := hp) (st' := [.int v5]) (D1 := 0) (as := [.int x2, .int 0, .int 99]) (Or.inl rfl) q11_m79 (m_cs (as := [.int 99, .int 0, .int x2]) (rest := []) q11_m79 jv2251 rfl rfl rfl rfl rfl) (by decide) (SF11_outside e4) rfl ?_
    rcases m_ifd h with ⟨c6, h⟩ | ⟨c6, h⟩
    · refine g_ifc (t := 32) rfl (m_eqT c6) ?_
      refine g_in eF11_ship_32 mx2218 ?_
      refine g_ch [(0, .ref x0), (1, .int x1), (2, .int x2)] [.ref x0] (pc' := 33) rfl rfl rfl ?_
      obtain ⟨v7, e8, h⟩ := m_bd h
      refine g_gr q11_f42 e8 ?_
      obtain ⟨v9, e10, h⟩ := m_bd h
      refine g_gr q11_f274 e10 ?_
      obtain ⟨v12, e11, h⟩ := m_bd h
      refine g_call (v := some (.int v12)) (h := hp) (st' := [.int v12]) (D1 := 0) (as := [.ref v9]) (Or.inr (Or.inl rfl)) q11_m193 (m_cv (as := []) (rest := []) (Or.inl rfl) q11_m193 jv1602 (OF8_full e11) rfl rfl rfl rfl) (by decide) (SF8_full e11) rfl ?_
      rcases m_ifd h with ⟨c13, h⟩ | ⟨c13, h⟩
      · refine g_ifc (t := 56) rfl (m_eqT c13) ?_
        refine g_in eF11_ship_56 mx2218 ?_
        refine g_ch [(0, .ref x0), (1, .int x1), (2, .int x2)] [.ref x0] (pc' := 57) rfl rfl rfl ?_
        obtain ⟨v14, e15, h⟩ := m_bd h
        refine g_gr q11_f42 e15 ?_
        obtain ⟨v16, e17, h⟩ := m_bd h
        refine g_gr q11_f274 e17 ?_
        obtain ⟨z19, e18, h⟩ := m_bd h
        refine g_call (v := some (.int z19.1)) (h := z19.2) (st' := [.int z19.1]) (D1 := 2) (as := [.ref v16]) (Or.inr (Or.inl rfl)) q11_m199 (m_cv (as := []) (rest := []) (Or.inl rfl) q11_m199 jv1607 (OF8_add e18) rfl rfl rfl rfl) (by decide) (SF8_add e18) rfl ?_
        refine g_ch [(3, .int z19.1), (0, .ref x0), (1, .int x1), (2, .int x2)] [.ref x0] (pc' := 68) rfl rfl rfl ?_
        obtain ⟨v20, e21, h⟩ := m_bd h
        refine g_gr q11_f42 e21 ?_
        obtain ⟨v22, e23, h⟩ := m_bd h
        refine g_gr q11_f274 e23 ?_
        refine g_ch [(3, .int z19.1), (0, .ref x0), (1, .int x1), (2, .int x2)] [.int x1, .int 0, .int z19.1, .ref v22] (pc' := 77) rfl rfl rfl ?_
        obtain ⟨h25, e24, h⟩ := m_bd h
        refine g_call (v := none) (h := h25) (st' := []) (D1 := 1) (as := [.ref v22, .int z19.1, .int 0, .int x1]) (Or.inr (Or.inl rfl)) q11_m127 (m_cv (as := [.int x1, .int 0, .int z19.1]) (rest := []) (Or.inl rfl) q11_m127 jv1605 (OF8_set e24) rfl rfl rfl rfl) (by decide) (SF8_set e24) rfl ?_
        refine g_ch [(3, .int z19.1), (0, .ref x0), (1, .int x1), (2, .int x2)] [.ref x0] (pc' := 81) rfl rfl rfl ?_
        obtain ⟨v26, e27, h⟩ := m_bd h
        refine g_gr q11_f42 e27 ?_
        obtain ⟨v28, e29, h⟩ := m_bd h
        refine g_gr q11_f274 e29 ?_
        refine g_ch [(3, .int z19.1), (0, .ref x0), (1, .int x1), (2, .int x2)] [.int x2, .int 1, .int z19.1, .ref v28] (pc' := 90) rfl rfl rfl ?_
        obtain ⟨h31, e30, h⟩ := m_bd h
        refine g_call (v := none) (h := h31) (st' := []) (D1 := 1) (as := [.ref v28, .int z19.1, .int 1, .int x2]) (Or.inr (Or.inl rfl)) q11_m127 (m_cv (as := [.int x2, .int 1, .int z19.1]) (rest := []) (Or.inl rfl) q11_m127 jv1605 (OF8_set e30) rfl rfl rfl rfl) (by decide) (SF8_set e30) rfl ?_
        refine g_ch [(3, .int z19.1), (0, .ref x0), (1, .int x1), (2, .int x2)] [.ref x0] (pc' := 94) rfl rfl rfl ?_
        obtain ⟨v32, e33, h⟩ := m_bd h
        refine g_gr q11_f42 e33 ?_
        obtain ⟨v34, e35, h⟩ := m_bd h
        refine g_gr q11_f274 e35 ?_
        refine g_ch [(3, .int z19.1), (0, .ref x0), (1, .int x1), (2, .int x2)] [.int (-1), .int 5, .int z19.1, .ref v34] (pc' := 103) rfl rfl rfl ?_
        obtain ⟨h37, e36, h⟩ := m_bd h
        refine g_call (v := none) (h := h37) (st' := []) (D1 := 1) (as := [.ref v34, .int z19.1, .int 5, .int (-1)]) (Or.inr (Or.inl rfl)) q11_m127 (m_cv (as := [.int (-1), .int 5, .int z19.1]) (rest := []) (Or.inl rfl) q11_m127 jv1605 (OF8_set e36) rfl rfl rfl rfl) (by decide) (SF8_set e36) rfl ?_
        refine g_ch [(3, .int z19.1), (0, .ref x0), (1, .int x1), (2, .int x2)] [.int z19.1] (pc' := 107) rfl rfl rfl ?_
        cases h
        rw [k0 _ hK]
        exact g_iret rfl rfl
      · refine g_ifcn (t := 56) rfl (m_eqF c13) ?_
        refine g_in eF11_ship_45 mx2218 ?_
        cases h
        rw [k0 _ hK]
        exact g_thr (by decide +kernel) (by decide) rfl
    · refine g_ifcn (t := 32) rfl (m_eqF c6) ?_
      refine g_in eF11_ship_21 mx2218 ?_
      cases h
      rw [k0 _ hK]
      exact g_thr (by decide +kernel) (by decide) rfl
  · refine g_ifc (t := 21) rfl (m_neT c3) ?_
    refine g_in eF11_ship_21 mx2218 ?_
    cases h
    rw [k0 _ hK]
    exact g_thr (by decide +kernel) (by decide) rfl
theorem OF11_ship {x0 : Nat} {x1 : Int32} {x2 : Int32} {hp : m_H} {x : (Int32 ⊕ Nat) × m_H} (h : F11_ship x0 x1 x2 hp = some x) : m_isO hp 8 x0 = true := (m_gdd h).1
theorem SF11_ship {xs : Nat → Int32} {L : Nat} {x0 : Nat} {x1 : Int32} {x2 : Int32} {hp : m_H} {x : (Int32 ⊕ Nat) × m_H} (h : F11_ship x0 x1 x2 hp = some x) : m_Rn xs L 7 2218 0 (lv_args 0 [.ref x0, .int x1, .int x2]) [] hp (m_xI x) :=
  r_lv (SF11_ship_0 x0 x1 x2 hp (K := fun y => y = x) (fun y e => by rw [e]) (m_gdd h).2 rfl) rfl ⟨rfl, rfl, rfl, trivial⟩
-- F11_way: LendHouse.way(II)V
theorem eF11_way_0 : m_Fe mi11_19 0 (m_ap [(.iload_n 1, 1)] ((.invokestatic 182, 3) :: (m_ap [(.iload_n 1, 1)] ((.invokestatic 185, 3) :: (m_ap [(.iload_n 2, 1), (.iconst 1, 1), (.bipush 6, 2)] ((.invokestatic 79, 3) :: ([(.ifCond .eq 14, 3)]))))))) := m_Fe_of nd2219 0 9 rfl
theorem eF11_way_29 : m_Fe mi11_19 29 (m_ap [(.aload_n 0, 1)] ((.getfield 42, 3) :: ((.getfield 281, 3) :: (m_ap [(.iload_n 1, 1), (.iconst 2, 1), (.iload_n 2, 1)] ((.invokevirtual 127, 3) :: ([(.return_, 1)])))))) := m_Fe_of nd2219 14 8 rfl
theorem eF11_way_18 : m_Fe mi11_19 18 ([(.new 83, 3)]) := m_Fe_of nd2219 9 1 rfl
theorem SF11_way_0 {xs : Nat → Int32} {L : Nat} (x0 : Nat) (x1 : Int32) (x2 : Int32) (hp : m_H) {r : m_O × m_H} {K : ((Unit ⊕ Nat) × m_H) → Prop} (k0 : ∀ x, K x → r = (m_xV x)) {t : (Unit ⊕ Nat) × m_H} (h : F11_way_0 x0 x1 x2 hp = some t) (hK : K t) : m_Rn xs L 8 2219 0 [(0, .ref x0), (1, .int x1), (2, .int x2)] [] hp r := by
  unfold F11_way_0 at h
  refine g_in eF11_way_0 mx2219 ?_
  refine g_ch [(0, .ref x0), (1, .int x1), (2, .int x2)] [.int x1] (pc' := 1) rfl rfl rfl ?_
  obtain ⟨z2, e1, h⟩ := m_bd h
  rcases m_sxd h with ⟨u21, e3, h⟩ | ⟨E4, e3, h⟩
  · have q5 := (SF11_testLand (xs := xs) (L := L) e1)
    unfold m_xV at q5
    rw [e3] at q5
    refine g_call (v := none) (h := z2.2) (st' := []) (D1 := 7) (as := [.int x1]) (Or.inl rfl) q11_m182 (m_cs (as := [.int x1]) (rest := []) q11_m182 jv2252 rfl rfl rfl rfl rfl) (by decide) q5 rfl ?_
    refine g_ch [(0, .ref x0), (1, .int x1), (2, .int x2)] [.int x1] (pc' := 5) rfl rfl rfl ?_
    obtain ⟨z7, e6, h⟩ := m_bd h
    rcases m_sxd h with ⟨u20, e8, h⟩ | ⟨E9, e8, h⟩
    · have q10 := (SF11_testAbroad (xs := xs) (L := L) e6)
      unfold m_xV at q10
      rw [e8] at q10
      refine g_call (v := none) (h := z7.2) (st' := []) (D1 := 7) (as := [.int x1]) (Or.inl rfl) q11_m185 (m_cs (as := [.int x1]) (rest := []) q11_m185 jv2253 rfl rfl rfl rfl rfl) (by decide) q10 rfl ?_
      refine g_ch [(0, .ref x0), (1, .int x1), (2, .int x2)] [.int 6, .int 1, .int x2] (pc' := 12) rfl rfl rfl ?_
      obtain ⟨v12, e11, h⟩ := m_bd h
      refine g_call (v := some (.int v12)) (h := z7.2) (st' := [.int v12]) (D1 := 0) (as := [.int x2, .int 1, .int 6]) (Or.inl rfl) q11_m79 (m_cs (as := [.int 6, .int 1, .int x2]) (rest := []) q11_m79 jv2251 rfl rfl rfl rfl rfl) (by decide) (SF11_outside e11) rfl ?_
      rcases m_ifd h with ⟨c13, h⟩ | ⟨c13, h⟩
      · refine g_ifc (t := 29) rfl (m_eqT c13) ?_
        refine g_in eF11_way_29 mx2219 ?_
        refine g_ch [(0, .ref x0), (1, .int x1), (2, .int x2)] [.ref x0] (pc' := 30) rfl rfl rfl ?_
        obtain ⟨v14, e15, h⟩ := m_bd h
        refine g_gr q11_f42 e15 ?_
        obtain ⟨v16, e17, h⟩ := m_bd h
        refine g_gr q11_f281 e17 ?_
        refine g_ch [(0, .ref x0), (1, .int x1), (2, .int x2)] [.int x2, .int 2, .int x1, .ref v16] (pc' := 39) rfl rfl rfl ?_
        obtain ⟨h19, e18, h⟩ := m_bd h
        refine g_call (v := none) (h := h19) (st' := []) (D1 := 1) (as := [.ref v16, .int x1, .int 2, .int x2]) (Or.inr (Or.inl rfl)) q11_m127 (m_cv (as := [.int x2, .int 2, .int x1]) (rest := []) (Or.inl rfl) q11_m127 jv1605 (OF8_set e18) rfl rfl rfl rfl) (by decide) (SF8_set e18) rfl ?_
        cases h
        rw [k0 _ hK]
        exact g_vret rfl
      · refine g_ifcn (t := 29) rfl (m_eqF c13) ?_
        refine g_in eF11_way_18 mx2219 ?_
        cases h
        rw [k0 _ hK]
        exact g_thr (by decide +kernel) (by decide) rfl
    · have q10 := (SF11_testAbroad (xs := xs) (L := L) e6)
      unfold m_xV at q10
      rw [e8] at q10
      cases h
      rw [k0 _ hK]
      exact g_callX (D1 := 7) (as := [.int x1]) (Or.inl rfl) q11_m185 (m_cs (as := [.int x1]) (rest := []) q11_m185 jv2253 rfl rfl rfl rfl rfl) (by decide) q10 rfl
  · have q5 := (SF11_testLand (xs := xs) (L := L) e1)
    unfold m_xV at q5
    rw [e3] at q5
    cases h
    rw [k0 _ hK]
    exact g_callX (D1 := 7) (as := [.int x1]) (Or.inl rfl) q11_m182 (m_cs (as := [.int x1]) (rest := []) q11_m182 jv2252 rfl rfl rfl rfl rfl) (by decide) q5 rfl
theorem OF11_way {x0 : Nat} {x1 : Int32} {x2 : Int32} {hp : m_H} {x : (Unit ⊕ Nat) × m_H} (h : F11_way x0 x1 x2 hp = some x) : m_isO hp 8 x0 = true := (m_gdd h).1
theorem SF11_way {xs : Nat → Int32} {L : Nat} {x0 : Nat} {x1 : Int32} {x2 : Int32} {hp : m_H} {x : (Unit ⊕ Nat) × m_H} (h : F11_way x0 x1 x2 hp = some x) : m_Rn xs L 8 2219 0 (lv_args 0 [.ref x0, .int x1, .int x2]) [] hp (m_xV x) :=
  r_lv (SF11_way_0 x0 x1 x2 hp (K := fun y => y = x) (fun y e => by rw [e]) (m_gdd h).2 rfl) rfl ⟨rfl, rfl, rfl, trivial⟩
-- F11_risk: LendHouse.risk(III)I
theorem eF11_risk_0 : m_Fe mi11_20 0 (m_ap [(.iload_n 1, 1)] ((.invokestatic 182, 3) :: (m_ap [(.iload_n 1, 1)] ((.invokestatic 185, 3) :: (m_ap [(.iload_n 2, 1), (.aload_n 0, 1)] ((.getfield 42, 3) :: ((.getfield 76, 3) :: (m_ap [(.sipush 500, 3)] ((.invokestatic 79, 3) :: ([(.ifCond .ne 13, 3)])))))))))) := m_Fe_of nd2220 0 11 rfl
theorem eF11_risk_35 : m_Fe mi11_20 35 ([(.new 83, 3)]) := m_Fe_of nd2220 16 1 rfl
theorem eF11_risk_25 : m_Fe mi11_20 25 (m_ap [(.iload_n 3, 1), (.iconst 0, 1), (.bipush 100, 2)] ((.invokestatic 79, 3) :: ([(.ifCond .eq 14, 3)]))) := m_Fe_of nd2220 11 5 rfl
theorem eF11_risk_46 : m_Fe mi11_20 46 (m_ap [(.aload_n 0, 1)] ((.getfield 42, 3) :: ((.getfield 286, 3) :: (m_ap [(.iload_n 1, 1), (.iload_n 2, 1), (.iload_n 3, 1)] ((.invokestatic 138, 3) :: ([(.ireturn, 1)])))))) := m_Fe_of nd2220 21 8 rfl
theorem SF11_risk_0 {xs : Nat → Int32} {L : Nat} (x0 : Nat) (x1 : Int32) (x2 : Int32) (x3 : Int32) (hp : m_H) {r : m_O × m_H} {K : ((Int32 ⊕ Nat) × m_H) → Prop} (k0 : ∀ x, K x → r = (m_xI x)) {t : (Int32 ⊕ Nat) × m_H} (h : F11_risk_0 x0 x1 x2 x3 hp = some t) (hK : K t) : m_Rn xs L 8 2220 0 [(0, .ref x0), (1, .int x1), (2, .int x2), (3, .int x3)] [] hp r := by
  unfold F11_risk_0 at h
  refine g_in eF11_risk_0 mx2220 ?_
  refine g_ch [(0, .ref x0), (1, .int x1), (2, .int x2), (3, .int x3)] [.int x1] (pc' := 1) rfl rfl rfl ?_
  obtain ⟨z2, e1, h⟩ := m_bd h
  rcases m_sxd h with ⟨u28, e3, h⟩ | ⟨E4, e3, h⟩
  · have q5 := (SF11_testLand (xs := xs) (L := L) e1)
    unfold m_xV at q5
    rw [e3] at q5
    refine g_call (v := none) (h := z2.2) (st' := []) (D1 := 7) (as := [.int x1]) (Or.inl rfl) q11_m182 (m_cs (as := [.int x1]) (rest := []) q11_m182 jv2252 rfl rfl rfl rfl rfl) (by decide) q5 rfl ?_
    refine g_ch [(0, .ref x0), (1, .int x1), (2, .int x2), (3, .int x3)] [.int x1] (pc' := 5) rfl rfl rfl ?_
    obtain ⟨z7, e6, h⟩ := m_bd h
    rcases m_sxd h with ⟨u27, e8, h⟩ | ⟨E9, e8, h⟩
    · have q10 := (SF11_testAbroad (xs := xs) (L := L) e6)
      unfold m_xV at q10
      rw [e8] at q10
      refine g_call (v := none) (h := z7.2) (st' := []) (D1 := 7) (as := [.int x1]) (Or.inl rfl) q11_m185 (m_cs (as := [.int x1]) (rest := []) q11_m185 jv2253 rfl rfl rfl rfl rfl) (by decide) q10 rfl ?_
      refine g_ch [(0, .ref x0), (1, .int x1), (2, .int x2), (3, .int x3)] [.ref x0, .int x2] (pc' := 10) rfl rfl rfl ?_
      obtain ⟨v11, e12, h⟩ := m_bd h
      refine g_gr q11_f42 e12 ?_
      obtain ⟨v13, e14, h⟩ := m_bd h
      refine g_gi q11_f76 e14 ?_
      refine g_ch [(0, .ref x0), (1, .int x1), (2, .int x2), (3, .int x3)] [.int 500, .int v13, .int x2] (pc' := 19) rfl rfl rfl ?_
      obtain ⟨v16, e15, h⟩ := m_bd h
      refine g_call (v := some (.int v16)) (h := z7.2) (st' := [.int v16]) (D1 := 0) (as := [.int x2, .int v13, .int 500]) (Or.inl rfl) q11_m79 (m_cs (as := [.int 500, .int v13, .int x2]) (rest := []) q11_m79 jv2251 rfl rfl rfl rfl rfl) (by decide) (SF11_outside e15) rfl ?_
      rcases m_ifd h with ⟨c17, h⟩ | ⟨c17, h⟩
      · refine g_ifcn (t := 35) rfl (m_neF c17) ?_
        refine g_in eF11_risk_25 mx2220 ?_
        refine g_ch [(0, .ref x0), (1, .int x1), (2, .int x2), (3, .int x3)] [.int 100, .int 0, .int x3] (pc' := 29) rfl rfl rfl ?_
        obtain ⟨v19, e18, h⟩ := m_bd h
        refine g_call (v := some (.int v19)) (h := z7.2) (st' := [.int v19]) (D1 := 0) (as := [.int x3, .int 0, .int 100]) (Or.inl rfl) q11_m79 (m_cs (as := [.int 100, .int 0, .int x3]) (rest := []) q11_m79 jv2251 rfl rfl rfl rfl rfl) (by decide) (SF11_outside e18) rfl ?_
        rcases m_ifd h with ⟨c20, h⟩ | ⟨c20, h⟩
        · refine g_ifc (t := 46) rfl (m_eqT c20) ?_
          refine g_in eF11_risk_46 mx2220 ?_
          refine g_ch [(0, .ref x0), (1, .int x1), (2, .int x2), (3, .int x3)] [.ref x0] (pc' := 47) rfl rfl rfl ?_
          obtain ⟨v21, e22, h⟩ := m_bd h
          refine g_gr q11_f42 e22 ?_
          obtain ⟨v23, e24, h⟩ := m_bd h
          refine g_gr q11_f286 e24 ?_
          refine g_ch [(0, .ref x0), (1, .int x1), (2, .int x2), (3, .int x3)] [.int x3, .int x2, .int x1, .ref v23] (pc' := 56) rfl rfl rfl ?_
          obtain ⟨z26, e25, h⟩ := m_bd h
          refine g_call (v := some (.int z26.1)) (h := z26.2) (st' := [.int z26.1]) (D1 := 3) (as := [.ref v23, .int x1, .int x2, .int x3]) (Or.inl rfl) q11_m138 (m_cs (as := [.int x3, .int x2, .int x1, .ref v23]) (rest := []) q11_m138 jv604 rfl rfl rfl rfl rfl) (by decide) (SF3_tell e25) rfl ?_
          cases h
          rw [k0 _ hK]
          exact g_iret rfl rfl
        · refine g_ifcn (t := 46) rfl (m_eqF c20) ?_
          refine g_in eF11_risk_35 mx2220 ?_
          cases h
          rw [k0 _ hK]
          exact g_thr (by decide +kernel) (by decide) rfl
      · refine g_ifc (t := 35) rfl (m_neT c17) ?_
        refine g_in eF11_risk_35 mx2220 ?_
        cases h
        rw [k0 _ hK]
        exact g_thr (by decide +kernel) (by decide) rfl
    · have q10 := (SF11_testAbroad (xs := xs) (L := L) e6)
      unfold m_xV at q10
      rw [e8] at q10
      cases h
      rw [k0 _ hK]
      exact g_callX (D1 := 7) (as := [.int x1]) (Or.inl rfl) q11_m185 (m_cs (as := [.int x1]) (rest := []) q11_m185 jv2253 rfl rfl rfl rfl rfl) (by decide) q10 rfl
  · have q5 := (SF11_testLand (xs := xs) (L := L) e1)
    unfold m_xV at q5
    rw [e3] at q5
    cases h
    rw [k0 _ hK]
    exact g_callX (D1 := 7) (as := [.int x1]) (Or.inl rfl) q11_m182 (m_cs (as := [.int x1]) (rest := []) q11_m182 jv2252 rfl rfl rfl rfl rfl) (by decide) q5 rfl
theorem OF11_risk {x0 : Nat} {x1 : Int32} {x2 : Int32} {x3 : Int32} {hp : m_H} {x : (Int32 ⊕ Nat) × m_H} (h : F11_risk x0 x1 x2 x3 hp = some x) : m_isO hp 8 x0 = true := (m_gdd h).1
theorem SF11_risk {xs : Nat → Int32} {L : Nat} {x0 : Nat} {x1 : Int32} {x2 : Int32} {x3 : Int32} {hp : m_H} {x : (Int32 ⊕ Nat) × m_H} (h : F11_risk x0 x1 x2 x3 hp = some x) : m_Rn xs L 8 2220 0 (lv_args 0 [.ref x0, .int x1, .int x2, .int x3]) [] hp (m_xI x) :=
  r_lv (SF11_risk_0 x0 x1 x2 x3 hp (K := fun y => y = x) (fun y e => by rw [e]) (m_gdd h).2 rfl) rfl ⟨rfl, rfl, rfl, rfl, trivial⟩
-- F11_testShip: LendHouse.testShip(I)V
theorem eF11_testShip_0 : m_Fe mi11_57 0 (m_ap [(.aload_n 0, 1)] ((.getfield 42, 3) :: ((.getfield 274, 3) :: (m_ap [(.iload_n 1, 1)] ((.invokevirtual 203, 3) :: ([(.ifCond .ne 14, 3)])))))) := m_Fe_of nd2257 0 6 rfl
theorem eF11_testShip_25 : m_Fe mi11_57 25 ([(.return_, 1)]) := m_Fe_of nd2257 11 1 rfl
theorem eF11_testShip_14 : m_Fe mi11_57 14 ([(.new 207, 3)]) := m_Fe_of nd2257 6 1 rfl
theorem SF11_testShip_0 {xs : Nat → Int32} {L : Nat} (x0 : Nat) (x1 : Int32) (hp : m_H) {r : m_O × m_H} {K : ((Unit ⊕ Nat) × m_H) → Prop} (k0 : ∀ x, K x → r = (m_xV x)) {t : (Unit ⊕ Nat) × m_H} (h : F11_testShip_0 x0 x1 hp = some t) (hK : K t) : m_Rn xs L 7 2257 0 [(0, .ref x0), (1, .int x1)] [] hp r := by
  unfold F11_testShip_0 at h
  refine g_in eF11_testShip_0 mx2257 ?_
  refine g_ch [(0, .ref x0), (1, .int x1)] [.ref x0] (pc' := 1) rfl rfl rfl ?_
  obtain ⟨v1, e2, h⟩ := m_bd h
  refine g_gr q11_f42 e2 ?_
  obtain ⟨v3, e4, h⟩ := m_bd h
  refine g_gr q11_f274 e4 ?_
  refine g_ch [(0, .ref x0), (1, .int x1)] [.int x1, .ref v3] (pc' := 8) rfl rfl rfl ?_
  obtain ⟨v6, e5, h⟩ := m_bd h
  refine g_call (v := some (.int v6)) (h := hp) (st' := [.int v6]) (D1 := 0) (as := [.ref v3, .int x1]) (Or.inr (Or.inl rfl)) q11_m203 (m_cv (as := [.int x1]) (rest := []) (Or.inl rfl) q11_m203 jv1601 (OF8_has e5) rfl rfl rfl rfl) (by decide) (SF8_has e5) rfl ?_
  rcases m_ifd h with ⟨c7, h⟩ | ⟨c7, h⟩
  · refine g_ifcn (t := 25) rfl (m_neF c7) ?_
    refine g_in eF11_testShip_14 mx2257 ?_
    cases h
    rw [k0 _ hK]
    exact g_thr (by decide +kernel) (by decide) rfl
  · refine g_ifc (t := 25) rfl (m_neT c7) ?_
    refine g_in eF11_testShip_25 mx2257 ?_
    cases h
    rw [k0 _ hK]
    exact g_vret rfl
theorem OF11_testShip {x0 : Nat} {x1 : Int32} {hp : m_H} {x : (Unit ⊕ Nat) × m_H} (h : F11_testShip x0 x1 hp = some x) : m_isO hp 8 x0 = true := (m_gdd h).1
theorem SF11_testShip {xs : Nat → Int32} {L : Nat} {x0 : Nat} {x1 : Int32} {hp : m_H} {x : (Unit ⊕ Nat) × m_H} (h : F11_testShip x0 x1 hp = some x) : m_Rn xs L 7 2257 0 (lv_args 0 [.ref x0, .int x1]) [] hp (m_xV x) :=
  r_lv (SF11_testShip_0 x0 x1 hp (K := fun y => y = x) (fun y e => by rw [e]) (m_gdd h).2 rfl) rfl ⟨rfl, rfl, trivial⟩
-- F11_load: LendHouse.load(III)Z
theorem eF11_load_0 : m_Fe mi11_21 0 (m_ap [(.aload_n 0, 1), (.iload_n 1, 1)] ((.invokevirtual 289, 3) :: (m_ap [(.aload_n 0, 1), (.iload_n 2, 1)] ((.invokevirtual 168, 3) :: (m_ap [(.aload_n 0, 1)] ((.invokevirtual 161, 3) :: (m_ap [(.aload_n 0, 1)] ((.getfield 42, 3) :: (m_ap [(.iload_n 1, 1), (.iload_n 2, 1), (.iload_n 3, 1)] ((.invokevirtual 292, 3) :: ([(.ifCond .ne 5, 3)]))))))))))) := m_Fe_of nd2221 0 15 rfl
theorem eF11_load_29 : m_Fe mi11_21 29 (m_ap [(.aload_n 0, 1)] ((.invokevirtual 250, 3) :: (m_ap [(.aload_n 0, 1)] ((.getfield 42, 3) :: (m_ap [(.iload_n 1, 1), (.iload_n 2, 1), (.iload_n 3, 1)] ((.invokevirtual 295, 3) :: (m_ap [(.iconst 1, 1)] ([(.ireturn, 1)])))))))) := m_Fe_of nd2221 17 10 rfl
theorem eF11_load_27 : m_Fe mi11_21 27 (m_ap [(.iconst 0, 1)] ([(.ireturn, 1)])) := m_Fe_of nd2221 15 2 rfl
theorem SF11_load_0 {xs : Nat → Int32} {L : Nat} (x0 : Nat) (x1 : Int32) (x2 : Int32) (x3 : Int32) (hp : m_H) {r : m_O × m_H} {K : ((Int32 ⊕ Nat) × m_H) → Prop} (k0 : ∀ x, K x → r = (m_xI x)) {t : (Int32 ⊕ Nat) × m_H} (h : F11_load_0 x0 x1 x2 x3 hp = some t) (hK : K t) : m_Rn xs L 10 2221 0 [(0, .ref x0), (1, .int x1), (2, .int x2), (3, .int x3)] [] hp r := by
  unfold F11_load_0 at h
  refine g_in eF11_load_0 mx2221 ?_
  refine g_ch [(0, .ref x0), (1, .int x1), (2, .int x2), (3, .int x3)] [.int x1, .ref x0] (pc' := 2) rfl rfl rfl ?_
  obtain ⟨z2, e1, h⟩ := m_bd h
  rcases m_sxd h with ⟨u29, e3, h⟩ | ⟨E4, e3, h⟩
  · have q5 := (SF11_testShip (xs := xs) (L := L) e1)
    unfold m_xV at q5
    rw [e3] at q5
    refine g_call (v := none) (h := z2.2) (st' := []) (D1 := 7) (as := [.ref x0, .int x1]) (Or.inr (Or.inl rfl)) q11_m289 (m_cv (as := [.int x1]) (rest := []) (Or.inl rfl) q11_m289 jv2257 (OF11_testShip e1) rfl rfl rfl rfl) (by decide) q5 rfl ?_
    refine g_ch [(0, .ref x0), (1, .int x1), (2, .int x2), (3, .int x3)] [.int x2, .ref x0] (pc' := 7) rfl rfl rfl ?_
    obtain ⟨z7, e6, h⟩ := m_bd h
    rcases m_sxd h with ⟨u28, e8, h⟩ | ⟨E9, e8, h⟩
    · have q10 := (SF11_testLot (xs := xs) (L := L) e6)
      unfold m_xV at q10
      rw [e8] at q10
      refine g_call (v := none) (h := z7.2) (st' := []) (D1 := 7) (as := [.ref x0, .int x2]) (Or.inr (Or.inl rfl)) q11_m168 (m_cv (as := [.int x2]) (rest := []) (Or.inl rfl) q11_m168 jv2256 (OF11_testLot e6) rfl rfl rfl rfl) (by decide) q10 rfl ?_
      refine g_ch [(0, .ref x0), (1, .int x1), (2, .int x2), (3, .int x3)] [.ref x0] (pc' := 11) rfl rfl rfl ?_
      obtain ⟨z12, e11, h⟩ := m_bd h
      rcases m_sxd h with ⟨u27, e13, h⟩ | ⟨E14, e13, h⟩
      · have q15 := (SF11_testNotEnded (xs := xs) (L := L) e11)
        unfold m_xV at q15
        rw [e13] at q15
        refine g_call (v := none) (h := z12.2) (st' := []) (D1 := 7) (as := [.ref x0]) (Or.inr (Or.inl rfl)) q11_m161 (m_cv (as := []) (rest := []) (Or.inl rfl) q11_m161 jv2259 (OF11_testNotEnded e11) rfl rfl rfl rfl) (by decide) q15 rfl ?_
        refine g_ch [(0, .ref x0), (1, .int x1), (2, .int x2), (3, .int x3)] [.ref x0] (pc' := 15) rfl rfl rfl ?_
        obtain ⟨v16, e17, h⟩ := m_bd h
        refine g_gr q11_f42 e17 ?_
        refine g_ch [(0, .ref x0), (1, .int x1), (2, .int x2), (3, .int x3)] [.int x3, .int x2, .int x1, .ref v16] (pc' := 21) rfl rfl rfl ?_
        obtain ⟨v19, e18, h⟩ := m_bd h
        refine g_call (v := some (.int v19)) (h := z12.2) (st' := [.int v19]) (D1 := 8) (as := [.ref v16, .int x1, .int x2, .int x3]) (Or.inr (Or.inl rfl)) q11_m292 (m_cv (as := [.int x3, .int x2, .int x1]) (rest := []) (Or.inl rfl) q11_m292 jv633 (OF3_mayLoad e18) rfl rfl rfl rfl) (by decide) (SF3_mayLoad e18) rfl ?_
        rcases m_ifd h with ⟨c20, h⟩ | ⟨c20, h⟩
        · refine g_ifcn (t := 29) rfl (m_neF c20) ?_
          refine g_in eF11_load_27 mx2221 ?_
          refine g_ch [(0, .ref x0), (1, .int x1), (2, .int x2), (3, .int x3)] [.int 0] (pc' := 28) rfl rfl rfl ?_
          cases h
          rw [k0 _ hK]
          exact g_iret rfl (by decide +kernel)
        · refine g_ifc (t := 29) rfl (m_neT c20) ?_
          refine g_in eF11_load_29 mx2221 ?_
          refine g_ch [(0, .ref x0), (1, .int x1), (2, .int x2), (3, .int x3)] [.ref x0] (pc' := 30) rfl rfl rfl ?_
          obtain ⟨h22, e21, h⟩ := m_bd h
          refine g_call (v := none) (h := h22) (st' := []) (D1 := 9) (as := [.ref x0]) (Or.inr (Or.inl rfl)) q11_m250 (m_cv (as := []) (rest := []) (Or.inl rfl) q11_m250 jv2250 (OF11_remember e21) rfl rfl rfl rfl) (by decide) (SF11_remember e21) rfl ?_
          refine g_ch [(0, .ref x0), (1, .int x1), (2, .int x2), (3, .int x3)] [.ref x0] (pc' := 34) rfl rfl rfl ?_
          obtain ⟨v23, e24, h⟩ := m_bd h
          refine g_gr q11_f42 e24 ?_
          refine g_ch [(0, .ref x0), (1, .int x1), (2, .int x2), (3, .int x3)] [.int x3, .int x2, .int x1, .ref v23] (pc' := 40) rfl rfl rfl ?_
          obtain ⟨h26, e25, h⟩ := m_bd h
          refine g_call (v := none) (h := h26) (st' := []) (D1 := 8) (as := [.ref v23, .int x1, .int x2, .int x3]) (Or.inr (Or.inl rfl)) q11_m295 (m_cv (as := [.int x3, .int x2, .int x1]) (rest := []) (Or.inl rfl) q11_m295 jv636 (OF3_putAboard e25) rfl rfl rfl rfl) (by decide) (SF3_putAboard e25) rfl ?_
          refine g_ch [(0, .ref x0), (1, .int x1), (2, .int x2), (3, .int x3)] [.int 1] (pc' := 44) rfl rfl rfl ?_
          cases h
          rw [k0 _ hK]
          exact g_iret rfl (by decide +kernel)
      · have q15 := (SF11_testNotEnded (xs := xs) (L := L) e11)
        unfold m_xV at q15
        rw [e13] at q15
        cases h
        rw [k0 _ hK]
        exact g_callX (D1 := 7) (as := [.ref x0]) (Or.inr (Or.inl rfl)) q11_m161 (m_cv (as := []) (rest := []) (Or.inl rfl) q11_m161 jv2259 (OF11_testNotEnded e11) rfl rfl rfl rfl) (by decide) q15 rfl
    · have q10 := (SF11_testLot (xs := xs) (L := L) e6)
      unfold m_xV at q10
      rw [e8] at q10
      cases h
      rw [k0 _ hK]
      exact g_callX (D1 := 7) (as := [.ref x0, .int x2]) (Or.inr (Or.inl rfl)) q11_m168 (m_cv (as := [.int x2]) (rest := []) (Or.inl rfl) q11_m168 jv2256 (OF11_testLot e6) rfl rfl rfl rfl) (by decide) q10 rfl
  · have q5 := (SF11_testShip (xs := xs) (L := L) e1)
    unfold m_xV at q5
    rw [e3] at q5
    cases h
    rw [k0 _ hK]
    exact g_callX (D1 := 7) (as := [.ref x0, .int x1]) (Or.inr (Or.inl rfl)) q11_m289 (m_cv (as := [.int x1]) (rest := []) (Or.inl rfl) q11_m289 jv2257 (OF11_testShip e1) rfl rfl rfl rfl) (by decide) q5 rfl
theorem OF11_load {x0 : Nat} {x1 : Int32} {x2 : Int32} {x3 : Int32} {hp : m_H} {x : (Int32 ⊕ Nat) × m_H} (h : F11_load x0 x1 x2 x3 hp = some x) : m_isO hp 8 x0 = true := (m_gdd h).1
theorem SF11_load {xs : Nat → Int32} {L : Nat} {x0 : Nat} {x1 : Int32} {x2 : Int32} {x3 : Int32} {hp : m_H} {x : (Int32 ⊕ Nat) × m_H} (h : F11_load x0 x1 x2 x3 hp = some x) : m_Rn xs L 10 2221 0 (lv_args 0 [.ref x0, .int x1, .int x2, .int x3]) [] hp (m_xI x) :=
  r_lv (SF11_load_0 x0 x1 x2 x3 hp (K := fun y => y = x) (fun y e => by rw [e]) (m_gdd h).2 rfl) rfl ⟨rfl, rfl, rfl, rfl, trivial⟩
-- F11_sail: LendHouse.sail(II)Z
theorem eF11_sail_0 : m_Fe mi11_22 0 (m_ap [(.aload_n 0, 1), (.iload_n 1, 1)] ((.invokevirtual 289, 3) :: (m_ap [(.iload_n 2, 1)] ((.invokestatic 182, 3) :: (m_ap [(.aload_n 0, 1)] ((.invokevirtual 161, 3) :: (m_ap [(.aload_n 0, 1)] ((.getfield 42, 3) :: (m_ap [(.iload_n 1, 1), (.iload_n 2, 1)] ((.invokevirtual 298, 3) :: ([(.ifCond .ne 5, 3)]))))))))))) := m_Fe_of nd2222 0 13 rfl
theorem eF11_sail_27 : m_Fe mi11_22 27 (m_ap [(.aload_n 0, 1)] ((.invokevirtual 250, 3) :: (m_ap [(.aload_n 0, 1)] ((.getfield 42, 3) :: (m_ap [(.iload_n 1, 1), (.iload_n 2, 1)] ((.invokevirtual 302, 3) :: (m_ap [(.iconst 1, 1)] ([(.ireturn, 1)])))))))) := m_Fe_of nd2222 15 9 rfl
theorem eF11_sail_25 : m_Fe mi11_22 25 (m_ap [(.iconst 0, 1)] ([(.ireturn, 1)])) := m_Fe_of nd2222 13 2 rfl
theorem SF11_sail_0 {xs : Nat → Int32} {L : Nat} (x0 : Nat) (x1 : Int32) (x2 : Int32) (hp : m_H) {r : m_O × m_H} {K : ((Int32 ⊕ Nat) × m_H) → Prop} (k0 : ∀ x, K x → r = (m_xI x)) {t : (Int32 ⊕ Nat) × m_H} (h : F11_sail_0 x0 x1 x2 hp = some t) (hK : K t) : m_Rn xs L 10 2222 0 [(0, .ref x0), (1, .int x1), (2, .int x2)] [] hp r := by
  unfold F11_sail_0 at h
  refine g_in eF11_sail_0 mx2222 ?_
  refine g_ch [(0, .ref x0), (1, .int x1), (2, .int x2)] [.int x1, .ref x0] (pc' := 2) rfl rfl rfl ?_
  obtain ⟨z2, e1, h⟩ := m_bd h
  rcases m_sxd h with ⟨u29, e3, h⟩ | ⟨E4, e3, h⟩
  · have q5 := (SF11_testShip (xs := xs) (L := L) e1)
    unfold m_xV at q5
    rw [e3] at q5
    refine g_call (v := none) (h := z2.2) (st' := []) (D1 := 7) (as := [.ref x0, .int x1]) (Or.inr (Or.inl rfl)) q11_m289 (m_cv (as := [.int x1]) (rest := []) (Or.inl rfl) q11_m289 jv2257 (OF11_testShip e1) rfl rfl rfl rfl) (by decide) q5 rfl ?_
    refine g_ch [(0, .ref x0), (1, .int x1), (2, .int x2)] [.int x2] (pc' := 6) rfl rfl rfl ?_
    obtain ⟨z7, e6, h⟩ := m_bd h
    rcases m_sxd h with ⟨u28, e8, h⟩ | ⟨E9, e8, h⟩
    · have q10 := (SF11_testLand (xs := xs) (L := L) e6)
      unfold m_xV at q10
      rw [e8] at q10
      refine g_call (v := none) (h := z7.2) (st' := []) (D1 := 7) (as := [.int x2]) (Or.inl rfl) q11_m182 (m_cs (as := [.int x2]) (rest := []) q11_m182 jv2252 rfl rfl rfl rfl rfl) (by decide) q10 rfl ?_
      refine g_ch [(0, .ref x0), (1, .int x1), (2, .int x2)] [.ref x0] (pc' := 10) rfl rfl rfl ?_
      obtain ⟨z12, e11, h⟩ := m_bd h
      rcases m_sxd h with ⟨u27, e13, h⟩ | ⟨E14, e13, h⟩
      · have q15 := (SF11_testNotEnded (xs := xs) (L := L) e11)
        unfold m_xV at q15
        rw [e13] at q15
        refine g_call (v := none) (h := z12.2) (st' := []) (D1 := 7) (as := [.ref x0]) (Or.inr (Or.inl rfl)) q11_m161 (m_cv (as := []) (rest := []) (Or.inl rfl) q11_m161 jv2259 (OF11_testNotEnded e11) rfl rfl rfl rfl) (by decide) q15 rfl ?_
        refine g_ch [(0, .ref x0), (1, .int x1), (2, .int x2)] [.ref x0] (pc' := 14) rfl rfl rfl ?_
        obtain ⟨v16, e17, h⟩ := m_bd h
        refine g_gr q11_f42 e17 ?_
        refine g_ch [(0, .ref x0), (1, .int x1), (2, .int x2)] [.int x2, .int x1, .ref v16] (pc' := 19) rfl rfl rfl ?_
        obtain ⟨v19, e18, h⟩ := m_bd h
        refine g_call (v := some (.int v19)) (h := z12.2) (st' := [.int v19]) (D1 := 4) (as := [.ref v16, .int x1, .int x2]) (Or.inr (Or.inl rfl)) q11_m298 (m_cv (as := [.int x2, .int x1]) (rest := []) (Or.inl rfl) q11_m298 jv637 (OF3_maySail e18) rfl rfl rfl rfl) (by decide) (SF3_maySail e18) rfl ?_
        rcases m_ifd h with ⟨c20, h⟩ | ⟨c20, h⟩
        · refine g_ifcn (t := 27) rfl (m_neF c20) ?_
          refine g_in eF11_sail_25 mx2222 ?_
          refine g_ch [(0, .ref x0), (1, .int x1), (2, .int x2)] [.int 0] (pc' := 26) rfl rfl rfl ?_
          cases h
          rw [k0 _ hK]
          exact g_iret rfl (by decide +kernel)
        · refine g_ifc (t := 27) rfl (m_neT c20) ?_
          refine g_in eF11_sail_27 mx2222 ?_
          refine g_ch [(0, .ref x0), (1, .int x1), (2, .int x2)] [.ref x0] (pc' := 28) rfl rfl rfl ?_
          obtain ⟨h22, e21, h⟩ := m_bd h
          refine g_call (v := none) (h := h22) (st' := []) (D1 := 9) (as := [.ref x0]) (Or.inr (Or.inl rfl)) q11_m250 (m_cv (as := []) (rest := []) (Or.inl rfl) q11_m250 jv2250 (OF11_remember e21) rfl rfl rfl rfl) (by decide) (SF11_remember e21) rfl ?_
          refine g_ch [(0, .ref x0), (1, .int x1), (2, .int x2)] [.ref x0] (pc' := 32) rfl rfl rfl ?_
          obtain ⟨v23, e24, h⟩ := m_bd h
          refine g_gr q11_f42 e24 ?_
          refine g_ch [(0, .ref x0), (1, .int x1), (2, .int x2)] [.int x2, .int x1, .ref v23] (pc' := 37) rfl rfl rfl ?_
          obtain ⟨h26, e25, h⟩ := m_bd h
          refine g_call (v := none) (h := h26) (st' := []) (D1 := 2) (as := [.ref v23, .int x1, .int x2]) (Or.inr (Or.inl rfl)) q11_m302 (m_cv (as := [.int x2, .int x1]) (rest := []) (Or.inl rfl) q11_m302 jv638 (OF3_putToSea e25) rfl rfl rfl rfl) (by decide) (SF3_putToSea e25) rfl ?_
          refine g_ch [(0, .ref x0), (1, .int x1), (2, .int x2)] [.int 1] (pc' := 41) rfl rfl rfl ?_
          cases h
          rw [k0 _ hK]
          exact g_iret rfl (by decide +kernel)
      · have q15 := (SF11_testNotEnded (xs := xs) (L := L) e11)
        unfold m_xV at q15
        rw [e13] at q15
        cases h
        rw [k0 _ hK]
        exact g_callX (D1 := 7) (as := [.ref x0]) (Or.inr (Or.inl rfl)) q11_m161 (m_cv (as := []) (rest := []) (Or.inl rfl) q11_m161 jv2259 (OF11_testNotEnded e11) rfl rfl rfl rfl) (by decide) q15 rfl
    · have q10 := (SF11_testLand (xs := xs) (L := L) e6)
      unfold m_xV at q10
      rw [e8] at q10
      cases h
      rw [k0 _ hK]
      exact g_callX (D1 := 7) (as := [.int x2]) (Or.inl rfl) q11_m182 (m_cs (as := [.int x2]) (rest := []) q11_m182 jv2252 rfl rfl rfl rfl rfl) (by decide) q10 rfl
  · have q5 := (SF11_testShip (xs := xs) (L := L) e1)
    unfold m_xV at q5
    rw [e3] at q5
    cases h
    rw [k0 _ hK]
    exact g_callX (D1 := 7) (as := [.ref x0, .int x1]) (Or.inr (Or.inl rfl)) q11_m289 (m_cv (as := [.int x1]) (rest := []) (Or.inl rfl) q11_m289 jv2257 (OF11_testShip e1) rfl rfl rfl rfl) (by decide) q5 rfl
theorem OF11_sail {x0 : Nat} {x1 : Int32} {x2 : Int32} {hp : m_H} {x : (Int32 ⊕ Nat) × m_H} (h : F11_sail x0 x1 x2 hp = some x) : m_isO hp 8 x0 = true := (m_gdd h).1
theorem SF11_sail {xs : Nat → Int32} {L : Nat} {x0 : Nat} {x1 : Int32} {x2 : Int32} {hp : m_H} {x : (Int32 ⊕ Nat) × m_H} (h : F11_sail x0 x1 x2 hp = some x) : m_Rn xs L 10 2222 0 (lv_args 0 [.ref x0, .int x1, .int x2]) [] hp (m_xI x) :=
  r_lv (SF11_sail_0 x0 x1 x2 hp (K := fun y => y = x) (fun y e => by rw [e]) (m_gdd h).2 rfl) rfl ⟨rfl, rfl, rfl, trivial⟩
-- F11_led: LendHouse.led(II)I
theorem eF11_led_0 : m_Fe mi11_23 0 (m_ap [(.aload_n 0, 1), (.iload_n 1, 1)] ((.invokevirtual 289, 3) :: (m_ap [(.iload_n 2, 1)] ([(.tableswitch 113 0 5 #[38, 51, 64, 77, 86, 99], 38)])))) := m_Fe_of nd2223 0 5 rfl
theorem eF11_led_119 : m_Fe mi11_23 119 ([(.new 171, 3)]) := m_Fe_of nd2223 45 1 rfl
theorem eF11_led_44 : m_Fe mi11_23 44 (m_ap [(.aload_n 0, 1)] ((.getfield 42, 3) :: ((.getfield 274, 3) :: (m_ap [(.iload_n 1, 1), (.iconst 2, 1)] ((.invokevirtual 179, 3) :: ([(.ireturn, 1)])))))) := m_Fe_of nd2223 5 7 rfl
theorem eF11_led_57 : m_Fe mi11_23 57 (m_ap [(.aload_n 0, 1)] ((.getfield 42, 3) :: ((.getfield 274, 3) :: (m_ap [(.iload_n 1, 1), (.iconst 3, 1)] ((.invokevirtual 179, 3) :: ([(.ireturn, 1)])))))) := m_Fe_of nd2223 12 7 rfl
theorem eF11_led_70 : m_Fe mi11_23 70 (m_ap [(.aload_n 0, 1)] ((.getfield 42, 3) :: ((.getfield 274, 3) :: (m_ap [(.iload_n 1, 1), (.iconst 4, 1)] ((.invokevirtual 179, 3) :: ([(.ireturn, 1)])))))) := m_Fe_of nd2223 19 7 rfl
theorem eF11_led_83 : m_Fe mi11_23 83 (m_ap [(.aload_n 0, 1)] ((.getfield 42, 3) :: (m_ap [(.iload_n 1, 1)] ((.invokevirtual 306, 3) :: ([(.ireturn, 1)]))))) := m_Fe_of nd2223 26 5 rfl
theorem eF11_led_92 : m_Fe mi11_23 92 (m_ap [(.aload_n 0, 1)] ((.getfield 42, 3) :: ((.getfield 274, 3) :: (m_ap [(.iload_n 1, 1), (.iconst 5, 1)] ((.invokevirtual 179, 3) :: ([(.ireturn, 1)])))))) := m_Fe_of nd2223 31 7 rfl
theorem eF11_led_105 : m_Fe mi11_23 105 (m_ap [(.aload_n 0, 1)] ((.getfield 42, 3) :: ((.getfield 274, 3) :: (m_ap [(.iload_n 1, 1), (.bipush 6, 2)] ((.invokevirtual 179, 3) :: ([(.ireturn, 1)])))))) := m_Fe_of nd2223 38 7 rfl
theorem SF11_led_0 {xs : Nat → Int32} {L : Nat} (x0 : Nat) (x1 : Int32) (x2 : Int32) (hp : m_H) {r : m_O × m_H} {K : ((Int32 ⊕ Nat) × m_H) → Prop} (k0 : ∀ x, K x → r = (m_xI x)) {t : (Int32 ⊕ Nat) × m_H} (h : F11_led_0 x0 x1 x2 hp = some t) (hK : K t) : m_Rn xs L 8 2223 0 [(0, .ref x0), (1, .int x1), (2, .int x2)] [] hp r := by
  unfold F11_led_0 at h
  refine g_in eF11_led_0 mx2223 ?_
  refine g_ch [(0, .ref x0), (1, .int x1), (2, .int x2)] [.int x1, .ref x0] (pc' := 2) rfl rfl rfl ?_
  obtain ⟨z2, e1, h⟩ := m_bd h
  rcases m_sxd h with ⟨u48, e3, h⟩ | ⟨E4, e3, h⟩
  · have q5 := (SF11_testShip (xs := xs) (L := L) e1)
    unfold m_xV at q5
    rw [e3] at q5
    refine g_call (v := none) (h := z2.2) (st' := []) (D1 := 7) (as := [.ref x0, .int x1]) (Or.inr (Or.inl rfl)) q11_m289 (m_cv (as := [.int x1]) (rest := []) (Or.inl rfl) q11_m289 jv2257 (OF11_testShip e1) rfl rfl rfl rfl) (by decide) q5 rfl ?_
    refine g_ch [(0, .ref x0), (1, .int x1), (2, .int x2)] [.int x2] (pc' := 6) rfl rfl rfl ?_
    rcases m_swd h with ⟨e7, h⟩ | ⟨w6, e7, h⟩
    · refine g_swd e7 (t := 119) rfl ?_
      refine g_in eF11_led_119 mx2223 ?_
      cases h
      rw [k0 _ hK]
      exact g_thr (by decide +kernel) (by decide) rfl
    · rcases m_ifd h with ⟨c8, hc8⟩ | ⟨c8, h⟩
      · subst c8
        have h := hc8
        refine g_sw (o := 38) (t := 44) e7 rfl rfl ?_
        refine g_in eF11_led_44 mx2223 ?_
        refine g_ch [(0, .ref x0), (1, .int x1), (2, .int x2)] [.ref x0] (pc' := 45) rfl rfl rfl ?_
        obtain ⟨v9, e10, h⟩ := m_bd h
        refine g_gr q11_f42 e10 ?_
        obtain ⟨v11, e12, h⟩ := m_bd h
        refine g_gr q11_f274 e12 ?_
        refine g_ch [(0, .ref x0), (1, .int x1), (2, .int x2)] [.int 2, .int x1, .ref v11] (pc' := 53) rfl rfl rfl ?_
        obtain ⟨v14, e13, h⟩ := m_bd h
        refine g_call (v := some (.int v14)) (h := z2.2) (st' := [.int v14]) (D1 := 1) (as := [.ref v11, .int x1, .int 2]) (Or.inr (Or.inl rfl)) q11_m179 (m_cv (as := [.int 2, .int x1]) (rest := []) (Or.inl rfl) q11_m179 jv1604 (OF8_get e13) rfl rfl rfl rfl) (by decide) (SF8_get e13) rfl ?_
        cases h
        rw [k0 _ hK]
        exact g_iret rfl rfl
      rcases m_ifd h with ⟨c15, hc15⟩ | ⟨c15, h⟩
      · subst c15
        have h := hc15
        refine g_sw (o := 51) (t := 57) e7 rfl rfl ?_
        refine g_in eF11_led_57 mx2223 ?_
        refine g_ch [(0, .ref x0), (1, .int x1), (2, .int x2)] [.ref x0] (pc' := 58) rfl rfl rfl ?_
        obtain ⟨v16, e17, h⟩ := m_bd h
        refine g_gr q11_f42 e17 ?_
        obtain ⟨v18, e19, h⟩ := m_bd h
        refine g_gr q11_f274 e19 ?_
        refine g_ch [(0, .ref x0), (1, .int x1), (2, .int x2)] [.int 3, .int x1, .ref v18] (pc' := 66) rfl rfl rfl ?_
        obtain ⟨v21, e20, h⟩ := m_bd h
        refine g_call (v := some (.int v21)) (h := z2.2) (st' := [.int v21]) (D1 := 1) (as := [.ref v18, .int x1, .int 3]) (Or.inr (Or.inl rfl)) q11_m179 (m_cv (as := [.int 3, .int x1]) (rest := []) (Or.inl rfl) q11_m179 jv1604 (OF8_get e20) rfl rfl rfl rfl) (by decide) (SF8_get e20) rfl ?_
        cases h
        rw [k0 _ hK]
        exact g_iret rfl rfl
      rcases m_ifd h with ⟨c22, hc22⟩ | ⟨c22, h⟩
      · subst c22
        have h := hc22
        refine g_sw (o := 64) (t := 70) e7 rfl rfl ?_
        refine g_in eF11_led_70 mx2223 ?_
        refine g_ch [(0, .ref x0), (1, .int x1), (2, .int x2)] [.ref x0] (pc' := 71) rfl rfl rfl ?_
        obtain ⟨v23, e24, h⟩ := m_bd h
        refine g_gr q11_f42 e24 ?_
        obtain ⟨v25, e26, h⟩ := m_bd h
        refine g_gr q11_f274 e26 ?_
        refine g_ch [(0, .ref x0), (1, .int x1), (2, .int x2)] [.int 4, .int x1, .ref v25] (pc' := 79) rfl rfl rfl ?_
        obtain ⟨v28, e27, h⟩ := m_bd h
        refine g_call (v := some (.int v28)) (h := z2.2) (st' := [.int v28]) (D1 := 1) (as := [.ref v25, .int x1, .int 4]) (Or.inr (Or.inl rfl)) q11_m179 (m_cv (as := [.int 4, .int x1]) (rest := []) (Or.inl rfl) q11_m179 jv1604 (OF8_get e27) rfl rfl rfl rfl) (by decide) (SF8_get e27) rfl ?_
        cases h
        rw [k0 _ hK]
        exact g_iret rfl rfl
      rcases m_ifd h with ⟨c29, hc29⟩ | ⟨c29, h⟩
      · subst c29
        have h := hc29
        refine g_sw (o := 77) (t := 83) e7 rfl rfl ?_
        refine g_in eF11_led_83 mx2223 ?_
        refine g_ch [(0, .ref x0), (1, .int x1), (2, .int x2)] [.ref x0] (pc' := 84) rfl rfl rfl ?_
        obtain ⟨v30, e31, h⟩ := m_bd h
        refine g_gr q11_f42 e31 ?_
        refine g_ch [(0, .ref x0), (1, .int x1), (2, .int x2)] [.int x1, .ref v30] (pc' := 88) rfl rfl rfl ?_
        obtain ⟨v33, e32, h⟩ := m_bd h
        refine g_call (v := some (.int v33)) (h := z2.2) (st' := [.int v33]) (D1 := 3) (as := [.ref v30, .int x1]) (Or.inr (Or.inl rfl)) q11_m306 (m_cv (as := [.int x1]) (rest := []) (Or.inl rfl) q11_m306 jv630 (OF3_tonsAboard e32) rfl rfl rfl rfl) (by decide) (SF3_tonsAboard e32) rfl ?_
        cases h
        rw [k0 _ hK]
        exact g_iret rfl rfl
      rcases m_ifd h with ⟨c34, hc34⟩ | ⟨c34, h⟩
      · subst c34
        have h := hc34
        refine g_sw (o := 86) (t := 92) e7 rfl rfl ?_
        refine g_in eF11_led_92 mx2223 ?_
        refine g_ch [(0, .ref x0), (1, .int x1), (2, .int x2)] [.ref x0] (pc' := 93) rfl rfl rfl ?_
        obtain ⟨v35, e36, h⟩ := m_bd h
        refine g_gr q11_f42 e36 ?_
        obtain ⟨v37, e38, h⟩ := m_bd h
        refine g_gr q11_f274 e38 ?_
        refine g_ch [(0, .ref x0), (1, .int x1), (2, .int x2)] [.int 5, .int x1, .ref v37] (pc' := 101) rfl rfl rfl ?_
        obtain ⟨v40, e39, h⟩ := m_bd h
        refine g_call (v := some (.int v40)) (h := z2.2) (st' := [.int v40]) (D1 := 1) (as := [.ref v37, .int x1, .int 5]) (Or.inr (Or.inl rfl)) q11_m179 (m_cv (as := [.int 5, .int x1]) (rest := []) (Or.inl rfl) q11_m179 jv1604 (OF8_get e39) rfl rfl rfl rfl) (by decide) (SF8_get e39) rfl ?_
        cases h
        rw [k0 _ hK]
        exact g_iret rfl rfl
      rcases m_ifd h with ⟨c41, hc41⟩ | ⟨c41, h⟩
      · subst c41
        have h := hc41
        refine g_sw (o := 99) (t := 105) e7 rfl rfl ?_
        refine g_in eF11_led_105 mx2223 ?_
        refine g_ch [(0, .ref x0), (1, .int x1), (2, .int x2)] [.ref x0] (pc' := 106) rfl rfl rfl ?_
        obtain ⟨v42, e43, h⟩ := m_bd h
        refine g_gr q11_f42 e43 ?_
        obtain ⟨v44, e45, h⟩ := m_bd h
        refine g_gr q11_f274 e45 ?_
        refine g_ch [(0, .ref x0), (1, .int x1), (2, .int x2)] [.int 6, .int x1, .ref v44] (pc' := 115) rfl rfl rfl ?_
        obtain ⟨v47, e46, h⟩ := m_bd h
        refine g_call (v := some (.int v47)) (h := z2.2) (st' := [.int v47]) (D1 := 1) (as := [.ref v44, .int x1, .int 6]) (Or.inr (Or.inl rfl)) q11_m179 (m_cv (as := [.int 6, .int x1]) (rest := []) (Or.inl rfl) q11_m179 jv1604 (OF8_get e46) rfl rfl rfl rfl) (by decide) (SF8_get e46) rfl ?_
        cases h
        rw [k0 _ hK]
        exact g_iret rfl rfl
      cases h
  · have q5 := (SF11_testShip (xs := xs) (L := L) e1)
    unfold m_xV at q5
    rw [e3] at q5
    cases h
    rw [k0 _ hK]
    exact g_callX (D1 := 7) (as := [.ref x0, .int x1]) (Or.inr (Or.inl rfl)) q11_m289 (m_cv (as := [.int x1]) (rest := []) (Or.inl rfl) q11_m289 jv2257 (OF11_testShip e1) rfl rfl rfl rfl) (by decide) q5 rfl
theorem OF11_led {x0 : Nat} {x1 : Int32} {x2 : Int32} {hp : m_H} {x : (Int32 ⊕ Nat) × m_H} (h : F11_led x0 x1 x2 hp = some x) : m_isO hp 8 x0 = true := (m_gdd h).1
theorem SF11_led {xs : Nat → Int32} {L : Nat} {x0 : Nat} {x1 : Int32} {x2 : Int32} {hp : m_H} {x : (Int32 ⊕ Nat) × m_H} (h : F11_led x0 x1 x2 hp = some x) : m_Rn xs L 8 2223 0 (lv_args 0 [.ref x0, .int x1, .int x2]) [] hp (m_xI x) :=
  r_lv (SF11_led_0 x0 x1 x2 hp (K := fun y => y = x) (fun y e => by rw [e]) (m_gdd h).2 rfl) rfl ⟨rfl, rfl, rfl, trivial⟩
-- F11_need: LendHouse.need(III)V
theorem eF11_need_0 : m_Fe mi11_24 0 (m_ap [(.iload_n 1, 1)] ((.invokestatic 182, 3) :: (m_ap [(.iload_n 2, 1)] ((.invokestatic 118, 3) :: (m_ap [(.iload_n 1, 1)] ((.invokestatic 185, 3) :: (m_ap [(.iload_n 3, 1), (.iconst 0, 1), (.sipush 1000, 3)] ((.invokestatic 79, 3) :: ([(.ifCond .eq 14, 3)]))))))))) := m_Fe_of nd2224 0 11 rfl
theorem eF11_need_34 : m_Fe mi11_24 34 (m_ap [(.aload_n 0, 1)] ((.getfield 42, 3) :: ((.getfield 313, 3) :: (m_ap [(.iload_n 1, 1), (.iload_n 2, 1)] ((.invokestatic 316, 3) :: (m_ap [(.iconst 0, 1), (.iload_n 3, 1)] ((.invokevirtual 127, 3) :: ([(.return_, 1)])))))))) := m_Fe_of nd2224 16 10 rfl
theorem eF11_need_23 : m_Fe mi11_24 23 ([(.new 83, 3)]) := m_Fe_of nd2224 11 1 rfl
theorem SF11_need_0 {xs : Nat → Int32} {L : Nat} (x0 : Nat) (x1 : Int32) (x2 : Int32) (x3 : Int32) (hp : m_H) {r : m_O × m_H} {K : ((Unit ⊕ Nat) × m_H) → Prop} (k0 : ∀ x, K x → r = (m_xV x)) {t : (Unit ⊕ Nat) × m_H} (h : F11_need_0 x0 x1 x2 x3 hp = some t) (hK : K t) : m_Rn xs L 8 2224 0 [(0, .ref x0), (1, .int x1), (2, .int x2), (3, .int x3)] [] hp r := by
  unfold F11_need_0 at h
  refine g_in eF11_need_0 mx2224 ?_
  refine g_ch [(0, .ref x0), (1, .int x1), (2, .int x2), (3, .int x3)] [.int x1] (pc' := 1) rfl rfl rfl ?_
  obtain ⟨z2, e1, h⟩ := m_bd h
  rcases m_sxd h with ⟨u29, e3, h⟩ | ⟨E4, e3, h⟩
  · have q5 := (SF11_testLand (xs := xs) (L := L) e1)
    unfold m_xV at q5
    rw [e3] at q5
    refine g_call (v := none) (h := z2.2) (st' := []) (D1 := 7) (as := [.int x1]) (Or.inl rfl) q11_m182 (m_cs (as := [.int x1]) (rest := []) q11_m182 jv2252 rfl rfl rfl rfl rfl) (by decide) q5 rfl ?_
    refine g_ch [(0, .ref x0), (1, .int x1), (2, .int x2), (3, .int x3)] [.int x2] (pc' := 5) rfl rfl rfl ?_
    obtain ⟨z7, e6, h⟩ := m_bd h
    rcases m_sxd h with ⟨u28, e8, h⟩ | ⟨E9, e8, h⟩
    · have q10 := (SF11_testSort (xs := xs) (L := L) e6)
      unfold m_xV at q10
      rw [e8] at q10
      refine g_call (v := none) (h := z7.2) (st' := []) (D1 := 7) (as := [.int x2]) (Or.inl rfl) q11_m118 (m_cs (as := [.int x2]) (rest := []) q11_m118 jv2254 rfl rfl rfl rfl rfl) (by decide) q10 rfl ?_
      refine g_ch [(0, .ref x0), (1, .int x1), (2, .int x2), (3, .int x3)] [.int x1] (pc' := 9) rfl rfl rfl ?_
      obtain ⟨z12, e11, h⟩ := m_bd h
      rcases m_sxd h with ⟨u27, e13, h⟩ | ⟨E14, e13, h⟩
      · have q15 := (SF11_testAbroad (xs := xs) (L := L) e11)
        unfold m_xV at q15
        rw [e13] at q15
        refine g_call (v := none) (h := z12.2) (st' := []) (D1 := 7) (as := [.int x1]) (Or.inl rfl) q11_m185 (m_cs (as := [.int x1]) (rest := []) q11_m185 jv2253 rfl rfl rfl rfl rfl) (by decide) q15 rfl ?_
        refine g_ch [(0, .ref x0), (1, .int x1), (2, .int x2), (3, .int x3)] [.int 1000, .int 0, .int x3] (pc' := 17) rfl rfl rfl ?_
        obtain ⟨v17, e16, h⟩ := m_bd h
        refine g_call (v := some (.int v17)) (h := z12.2) (st' := [.int v17]) (D1 := 0) (as := [.int x3, .int 0, .int 1000]) (Or.inl rfl) q11_m79 (m_cs (as := [.int 1000, .int 0, .int x3]) (rest := []) q11_m79 jv2251 rfl rfl rfl rfl rfl) (by decide) (SF11_outside e16) rfl ?_
        rcases m_ifd h with ⟨c18, h⟩ | ⟨c18, h⟩
        · refine g_ifc (t := 34) rfl (m_eqT c18) ?_
          refine g_in eF11_need_34 mx2224 ?_
          refine g_ch [(0, .ref x0), (1, .int x1), (2, .int x2), (3, .int x3)] [.ref x0] (pc' := 35) rfl rfl rfl ?_
          obtain ⟨v19, e20, h⟩ := m_bd h
          refine g_gr q11_f42 e20 ?_
          obtain ⟨v21, e22, h⟩ := m_bd h
          refine g_gr q11_f313 e22 ?_
          refine g_ch [(0, .ref x0), (1, .int x1), (2, .int x2), (3, .int x3)] [.int x2, .int x1, .ref v21] (pc' := 43) rfl rfl rfl ?_
          obtain ⟨v24, e23, h⟩ := m_bd h
          refine g_call (v := some (.int v24)) (h := z12.2) (st' := [.int v24, .ref v21]) (D1 := 0) (as := [.int x1, .int x2]) (Or.inl rfl) q11_m316 (m_cs (as := [.int x2, .int x1]) (rest := [.ref v21]) q11_m316 jv603 rfl rfl rfl rfl rfl) (by decide) (SF3_tradeRow e23) rfl ?_
          refine g_ch [(0, .ref x0), (1, .int x1), (2, .int x2), (3, .int x3)] [.int x3, .int 0, .int v24, .ref v21] (pc' := 48) rfl rfl rfl ?_
          obtain ⟨h26, e25, h⟩ := m_bd h
          refine g_call (v := none) (h := h26) (st' := []) (D1 := 1) (as := [.ref v21, .int v24, .int 0, .int x3]) (Or.inr (Or.inl rfl)) q11_m127 (m_cv (as := [.int x3, .int 0, .int v24]) (rest := []) (Or.inl rfl) q11_m127 jv1605 (OF8_set e25) rfl rfl rfl rfl) (by decide) (SF8_set e25) rfl ?_
          cases h
          rw [k0 _ hK]
          exact g_vret rfl
        · refine g_ifcn (t := 34) rfl (m_eqF c18) ?_
          refine g_in eF11_need_23 mx2224 ?_
          cases h
          rw [k0 _ hK]
          exact g_thr (by decide +kernel) (by decide) rfl
      · have q15 := (SF11_testAbroad (xs := xs) (L := L) e11)
        unfold m_xV at q15
        rw [e13] at q15
        cases h
        rw [k0 _ hK]
        exact g_callX (D1 := 7) (as := [.int x1]) (Or.inl rfl) q11_m185 (m_cs (as := [.int x1]) (rest := []) q11_m185 jv2253 rfl rfl rfl rfl rfl) (by decide) q15 rfl
    · have q10 := (SF11_testSort (xs := xs) (L := L) e6)
      unfold m_xV at q10
      rw [e8] at q10
      cases h
      rw [k0 _ hK]
      exact g_callX (D1 := 7) (as := [.int x2]) (Or.inl rfl) q11_m118 (m_cs (as := [.int x2]) (rest := []) q11_m118 jv2254 rfl rfl rfl rfl rfl) (by decide) q10 rfl
  · have q5 := (SF11_testLand (xs := xs) (L := L) e1)
    unfold m_xV at q5
    rw [e3] at q5
    cases h
    rw [k0 _ hK]
    exact g_callX (D1 := 7) (as := [.int x1]) (Or.inl rfl) q11_m182 (m_cs (as := [.int x1]) (rest := []) q11_m182 jv2252 rfl rfl rfl rfl rfl) (by decide) q5 rfl
theorem OF11_need {x0 : Nat} {x1 : Int32} {x2 : Int32} {x3 : Int32} {hp : m_H} {x : (Unit ⊕ Nat) × m_H} (h : F11_need x0 x1 x2 x3 hp = some x) : m_isO hp 8 x0 = true := (m_gdd h).1
theorem SF11_need {xs : Nat → Int32} {L : Nat} {x0 : Nat} {x1 : Int32} {x2 : Int32} {x3 : Int32} {hp : m_H} {x : (Unit ⊕ Nat) × m_H} (h : F11_need x0 x1 x2 x3 hp = some x) : m_Rn xs L 8 2224 0 (lv_args 0 [.ref x0, .int x1, .int x2, .int x3]) [] hp (m_xV x) :=
  r_lv (SF11_need_0 x0 x1 x2 x3 hp (K := fun y => y = x) (fun y e => by rw [e]) (m_gdd h).2 rfl) rfl ⟨rfl, rfl, rfl, rfl, trivial⟩
-- F11_weeks: LendHouse.weeks(I)I
theorem eF11_weeks_0 : m_Fe mi11_25 0 (m_ap [(.iload_n 1, 1), (.iconst 0, 1), (.bipush 60, 2)] ((.invokestatic 79, 3) :: ([(.ifCond .eq 14, 3)]))) := m_Fe_of nd2225 0 5 rfl
theorem eF11_weeks_21 : m_Fe mi11_25 21 (m_ap [(.iload_n 1, 1)] ([(.ifCond .le 20, 3)])) := m_Fe_of nd2225 10 2 rfl
theorem eF11_weeks_25 : m_Fe mi11_25 25 (m_ap [(.aload_n 0, 1)] ((.getfield 42, 3) :: ((.getfield 76, 3) :: (m_ap [(.sipush 500, 3)] ([(.if_icmp .ge 7, 3)]))))) := m_Fe_of nd2225 12 5 rfl
theorem eF11_weeks_38 : m_Fe mi11_25 38 (m_ap [(.aload_n 0, 1)] ([(.invokevirtual 250, 3)])) := m_Fe_of nd2225 17 2 rfl
theorem eF11_weeks_10 : m_Fe mi11_25 10 ([(.new 83, 3)]) := m_Fe_of nd2225 5 1 rfl
theorem eF11_weeks_42 : m_Fe mi11_25 42 (m_ap [(.iconst 0, 1), (.istore_n 2, 1)] ([])) := m_Fe_of nd2225 19 2 rfl
theorem eF11_weeks_44 : m_Fe mi11_25 44 (m_ap [(.iload_n 2, 1), (.iload_n 1, 1)] ([(.if_icmp .ge 40, 3)])) := m_Fe_of nd2225 21 3 rfl
theorem eF11_weeks_86 : m_Fe mi11_25 86 (m_ap [(.aload_n 0, 1)] ((.getfield 42, 3) :: ((.getfield 76, 3) :: ([(.ireturn, 1)])))) := m_Fe_of nd2225 39 4 rfl
theorem eF11_weeks_49 : m_Fe mi11_25 49 (m_ap [(.aload_n 0, 1)] ((.getfield 42, 3) :: ((.getfield 76, 3) :: (m_ap [(.sipush 500, 3)] ([(.if_icmp .ge 27, 3)]))))) := m_Fe_of nd2225 24 5 rfl
theorem eF11_weeks_62 : m_Fe mi11_25 62 (m_ap [(.aload_n 0, 1)] ((.getfield 55, 3) :: (m_ap [(.aload_n 0, 1)] ((.getfield 42, 3) :: ((.invokevirtual 321, 3) :: (m_ap [(.aload_n 0, 1)] ((.getfield 42, 3) :: ((.invokestatic 325, 3) :: (m_ap [(.iinc 2 1, 3)] ([(.goto (-39), 3)])))))))))) := m_Fe_of nd2225 29 10 rfl
theorem SF11_weeks_44b {xs : Nat → Int32} {L : Nat} (x0 : Nat) (x1 : Int32) (s : Int32 × m_H) {r : m_O × m_H} {K : ((Int32 × m_H) ⊕ ((Int32 ⊕ Nat) × m_H)) → Prop} (k0 : ∀ x, K (.inr x) → r = (m_xI x)) (k1 : ∀ s, K (.inl s) → m_Rn xs L 10 2225 44 [(0, .ref x0), (1, .int x1), (2, .int s.1)] [] s.2 r) {t : (Int32 × m_H) ⊕ ((Int32 ⊕ Nat) × m_H)} (h : F11_weeks_44b x0 x1 s = some t) (hK : K t) : m_Rn xs L 10 2225 44 [(0, .ref x0), (1, .int x1), (2, .int s.1)] [] s.2 r := by
  unfold F11_weeks_44b at h
  refine g_in eF11_weeks_44 mx2225 ?_
  refine g_ch [(0, .ref x0), (1, .int x1), (2, .int s.1)] [.int x1, .int s.1] (pc' := 46) rfl rfl rfl ?_
  rcases m_ifd h with ⟨c1, h⟩ | ⟨c1, h⟩
  · refine g_if (t := 86) rfl (m_geT c1) ?_
    refine g_in eF11_weeks_86 mx2225 ?_
    refine g_ch [(0, .ref x0), (1, .int x1), (2, .int s.1)] [.ref x0] (pc' := 87) rfl rfl rfl ?_
    obtain ⟨v2, e3, h⟩ := m_bd h
    refine g_gr q11_f42 e3 ?_
    obtain ⟨v4, e5, h⟩ := m_bd h
    refine g_gi q11_f76 e5 ?_
    cases h
    rw [k0 _ hK]
    exact g_iret rfl rfl
  · refine g_ifn (t := 86) rfl (m_geF c1) ?_
    refine g_in eF11_weeks_49 mx2225 ?_
    refine g_ch [(0, .ref x0), (1, .int x1), (2, .int s.1)] [.ref x0] (pc' := 50) rfl rfl rfl ?_
    obtain ⟨v6, e7, h⟩ := m_bd h
    refine g_gr q11_f42 e7 ?_
    obtain ⟨v8, e9, h⟩ := m_bd h
    refine g_gi q11_f76 e9 ?_
    refine g_ch [(0, .ref x0), (1, .int x1), (2, .int s.1)] [.int 500, .int v8] (pc' := 59) rfl rfl rfl ?_
    rcases m_ifd h with ⟨c10, h⟩ | ⟨c10, h⟩
    · refine g_if (t := 86) rfl (m_geT c10) ?_
      refine g_in eF11_weeks_86 mx2225 ?_
      refine g_ch [(0, .ref x0), (1, .int x1), (2, .int s.1)] [.ref x0] (pc' := 87) rfl rfl rfl ?_
      obtain ⟨v11, e12, h⟩ := m_bd h
      refine g_gr q11_f42 e12 ?_
      obtain ⟨v13, e14, h⟩ := m_bd h
      refine g_gi q11_f76 e14 ?_
      cases h
      rw [k0 _ hK]
      exact g_iret rfl rfl
    · refine g_ifn (t := 86) rfl (m_geF c10) ?_
      refine g_in eF11_weeks_62 mx2225 ?_
      refine g_ch [(0, .ref x0), (1, .int x1), (2, .int s.1)] [.ref x0] (pc' := 63) rfl rfl rfl ?_
      obtain ⟨v15, e16, h⟩ := m_bd h
      refine g_gr q11_f55 e16 ?_
      refine g_ch [(0, .ref x0), (1, .int x1), (2, .int s.1)] [.ref x0, .ref v15] (pc' := 67) rfl rfl rfl ?_
      obtain ⟨v17, e18, h⟩ := m_bd h
      refine g_gr q11_f42 e18 ?_
      obtain ⟨h20, e19, h⟩ := m_bd h
      refine g_call (v := none) (h := h20) (st' := []) (D1 := 8) (as := [.ref v15, .ref v17]) (Or.inr (Or.inl rfl)) q11_m321 (m_cv (as := [.ref v17]) (rest := []) (Or.inl rfl) q11_m321 jv201 (OF1_write e19) rfl rfl rfl rfl) (by decide) (SF1_write e19) rfl ?_
      refine g_ch [(0, .ref x0), (1, .int x1), (2, .int s.1)] [.ref x0] (pc' := 74) rfl rfl rfl ?_
      obtain ⟨v21, e22, h⟩ := m_bd h
      refine g_gr q11_f42 e22 ?_
      obtain ⟨h24, e23, h⟩ := m_bd h
      refine g_call (v := none) (h := h24) (st' := []) (D1 := 9) (as := [.ref v21]) (Or.inl rfl) q11_m325 (m_cs (as := [.ref v21]) (rest := []) q11_m325 jv2000 rfl rfl rfl rfl rfl) (by decide) (SF10_pass e23) rfl ?_
      refine g_ch [(2, .int (s.1 + 1)), (0, .ref x0), (1, .int x1)] [] (pc' := 83) rfl rfl rfl ?_
      refine g_goto (t := 44) rfl ?_
      cases h
      exact r_lv (k1 ((s.1 + 1), h24) hK) rfl ⟨rfl, rfl, rfl, trivial⟩
theorem SF11_weeks_44 {xs : Nat → Int32} {L : Nat} (x0 : Nat) (x1 : Int32) (x2 : Int32) (hp : m_H) {r : m_O × m_H} {K : (Int32 ⊕ Nat) × m_H → Prop} (k0 : ∀ x, K x → r = (m_xI x)) {t : (Int32 ⊕ Nat) × m_H} (h : F11_weeks_44 x0 x1 x2 hp = some t) (hK : K t) : m_Rn xs L 10 2225 44 [(0, .ref x0), (1, .int x1), (2, .int x2)] [] hp r :=
  m_wh_ok (P := fun s => m_Rn xs L 10 2225 44 [(0, .ref x0), (1, .int x1), (2, .int s.1)] [] s.2 r) (Q := K) (fun s t hb hK => SF11_weeks_44b x0 x1 s (K := m_KK (fun s => m_Rn xs L 10 2225 44 [(0, .ref x0), (1, .int x1), (2, .int s.1)] [] s.2 r) K) k0 (fun _ q => q) hb hK) m_N _ _ h hK
theorem SF11_weeks_42 {xs : Nat → Int32} {L : Nat} (x0 : Nat) (x1 : Int32) (hp : m_H) {r : m_O × m_H} {K : ((Int32 ⊕ Nat) × m_H) → Prop} (k0 : ∀ x, K x → r = (m_xI x)) {t : (Int32 ⊕ Nat) × m_H} (h : F11_weeks_42 x0 x1 hp = some t) (hK : K t) : m_Rn xs L 10 2225 42 [(0, .ref x0), (1, .int x1)] [] hp r := by
  unfold F11_weeks_42 at h
  refine g_in eF11_weeks_42 mx2225 ?_
  refine g_ch [(2, .int 0), (0, .ref x0), (1, .int x1)] [] (pc' := 44) rfl rfl rfl ?_
  refine g_end ?_
  exact r_lv (SF11_weeks_44 x0 x1 0 hp (K := K) k0 h hK) rfl ⟨rfl, rfl, rfl, trivial⟩
theorem SF11_weeks_0 {xs : Nat → Int32} {L : Nat} (x0 : Nat) (x1 : Int32) (hp : m_H) {r : m_O × m_H} {K : ((Int32 ⊕ Nat) × m_H) → Prop} (k0 : ∀ x, K x → r = (m_xI x)) {t : (Int32 ⊕ Nat) × m_H} (h : F11_weeks_0 x0 x1 hp = some t) (hK : K t) : m_Rn xs L 10 2225 0 [(0, .ref x0), (1, .int x1)] [] hp r := by
  unfold F11_weeks_0 at h
  refine g_in eF11_weeks_0 mx2225 ?_
  refine g_ch [(0, .ref x0), (1, .int x1)] [.int 60, .int 0, .int x1] (pc' := 4) rfl rfl rfl ?_
  obtain ⟨v2, e1, h⟩ := m_bd h
  refine g_call (v := some (.int v2)) (h := hp) (st' := [.int v2]) (D1 := 0) (as := [.int x1, .int 0, .int 60]) (Or.inl rfl) q11_m79 (m_cs (as := [.int 60, .int 0, .int x1]) (rest := []) q11_m79 jv2251 rfl rfl rfl rfl rfl) (by decide) (SF11_outside e1) rfl ?_
  rcases m_ifd h with ⟨c3, h⟩ | ⟨c3, h⟩
  · refine g_ifc (t := 21) rfl (m_eqT c3) ?_
    refine g_in eF11_weeks_21 mx2225 ?_
    refine g_ch [(0, .ref x0), (1, .int x1)] [.int x1] (pc' := 22) rfl rfl rfl ?_
    rcases m_ifd h with ⟨c4, h⟩ | ⟨c4, h⟩
    · refine g_ifc (t := 42) rfl (m_leT c4) ?_
      exact r_lv (SF11_weeks_42 x0 x1 hp (K := K) k0 h hK) rfl ⟨rfl, rfl, trivial⟩
    · refine g_ifcn (t := 42) rfl (m_leF c4) ?_
      refine g_in eF11_weeks_25 mx2225 ?_
      refine g_ch [(0, .ref x0), (1, .int x1)] [.ref x0] (pc' := 26) rfl rfl rfl ?_
      obtain ⟨v5, e6, h⟩ := m_bd h
      refine g_gr q11_f42 e6 ?_
      obtain ⟨v7, e8, h⟩ := m_bd h
      refine g_gi q11_f76 e8 ?_
      refine g_ch [(0, .ref x0), (1, .int x1)] [.int 500, .int v7] (pc' := 35) rfl rfl rfl ?_
      rcases m_ifd h with ⟨c9, h⟩ | ⟨c9, h⟩
      · refine g_if (t := 42) rfl (m_geT c9) ?_
        exact r_lv (SF11_weeks_42 x0 x1 hp (K := K) k0 h hK) rfl ⟨rfl, rfl, trivial⟩
      · refine g_ifn (t := 42) rfl (m_geF c9) ?_
        refine g_in eF11_weeks_38 mx2225 ?_
        refine g_ch [(0, .ref x0), (1, .int x1)] [.ref x0] (pc' := 39) rfl rfl rfl ?_
        obtain ⟨h11, e10, h⟩ := m_bd h
        refine g_call (v := none) (h := h11) (st' := []) (D1 := 9) (as := [.ref x0]) (Or.inr (Or.inl rfl)) q11_m250 (m_cv (as := []) (rest := []) (Or.inl rfl) q11_m250 jv2250 (OF11_remember e10) rfl rfl rfl rfl) (by decide) (SF11_remember e10) rfl ?_
        refine g_end ?_
        exact r_lv (SF11_weeks_42 x0 x1 h11 (K := K) k0 h hK) rfl ⟨rfl, rfl, trivial⟩
  · refine g_ifcn (t := 21) rfl (m_eqF c3) ?_
    refine g_in eF11_weeks_10 mx2225 ?_
    cases h
    rw [k0 _ hK]
    exact g_thr (by decide +kernel) (by decide) rfl
theorem OF11_weeks {x0 : Nat} {x1 : Int32} {hp : m_H} {x : (Int32 ⊕ Nat) × m_H} (h : F11_weeks x0 x1 hp = some x) : m_isO hp 8 x0 = true := (m_gdd h).1
theorem SF11_weeks {xs : Nat → Int32} {L : Nat} {x0 : Nat} {x1 : Int32} {hp : m_H} {x : (Int32 ⊕ Nat) × m_H} (h : F11_weeks x0 x1 hp = some x) : m_Rn xs L 10 2225 0 (lv_args 0 [.ref x0, .int x1]) [] hp (m_xI x) :=
  r_lv (SF11_weeks_0 x0 x1 hp (K := fun y => y = x) (fun y e => by rw [e]) (m_gdd h).2 rfl) rfl ⟨rfl, rfl, trivial⟩
-- F11_land: LendHouse.land(II)J
theorem eF11_land_0 : m_Fe mi11_26 0 (m_ap [(.iload_n 1, 1)] ((.invokestatic 182, 3) :: (m_ap [(.iload_n 1, 1)] ((.invokestatic 185, 3) :: (m_ap [(.iload_n 2, 1)] ([(.tableswitch 152 0 7 #[47, 61, 75, 84, 95, 107, 117, 130], 47)])))))) := m_Fe_of nd2226 0 6 rfl
theorem eF11_land_161 : m_Fe mi11_26 161 ([(.new 171, 3)]) := m_Fe_of nd2226 66 1 rfl
theorem eF11_land_56 : m_Fe mi11_26 56 (m_ap [(.aload_n 0, 1)] ((.getfield 42, 3) :: ((.getfield 281, 3) :: (m_ap [(.iload_n 1, 1), (.iconst 0, 1)] ((.invokevirtual 179, 3) :: (m_ap [(.i2l, 1)] ([(.lreturn, 1)]))))))) := m_Fe_of nd2226 6 8 rfl
theorem eF11_land_70 : m_Fe mi11_26 70 (m_ap [(.aload_n 0, 1)] ((.getfield 42, 3) :: ((.getfield 281, 3) :: (m_ap [(.iload_n 1, 1), (.iconst 1, 1)] ((.invokevirtual 179, 3) :: (m_ap [(.i2l, 1)] ([(.lreturn, 1)]))))))) := m_Fe_of nd2226 14 8 rfl
theorem eF11_land_84 : m_Fe mi11_26 84 (m_ap [(.aload_n 0, 1)] ((.getfield 42, 3) :: (m_ap [(.iload_n 1, 1)] ((.invokestatic 330, 3) :: ([(.lreturn, 1)]))))) := m_Fe_of nd2226 22 5 rfl
theorem eF11_land_93 : m_Fe mi11_26 93 (m_ap [(.aload_n 0, 1)] ((.getfield 42, 3) :: (m_ap [(.iload_n 1, 1), (.iconst 3, 1)] ((.invokestatic 336, 3) :: (m_ap [(.i2l, 1)] ([(.lreturn, 1)])))))) := m_Fe_of nd2226 27 7 rfl
theorem eF11_land_104 : m_Fe mi11_26 104 (m_ap [(.aload_n 0, 1)] ((.getfield 42, 3) :: (m_ap [(.iload_n 1, 1), (.bipush 6, 2)] ((.invokestatic 336, 3) :: (m_ap [(.i2l, 1)] ([(.lreturn, 1)])))))) := m_Fe_of nd2226 34 7 rfl
theorem eF11_land_116 : m_Fe mi11_26 116 (m_ap [(.aload_n 0, 1)] ((.getfield 42, 3) :: (m_ap [(.iload_n 1, 1)] ((.invokevirtual 340, 3) :: (m_ap [(.i2l, 1)] ([(.lreturn, 1)])))))) := m_Fe_of nd2226 41 6 rfl
theorem eF11_land_126 : m_Fe mi11_26 126 (m_ap [(.aload_n 0, 1)] ((.getfield 42, 3) :: (m_ap [(.aload_n 0, 1)] ((.getfield 55, 3) :: (m_ap [(.iload_n 1, 1)] ((.invokestatic 343, 3) :: ([(.lreturn, 1)]))))))) := m_Fe_of nd2226 47 7 rfl
theorem eF11_land_139 : m_Fe mi11_26 139 (m_ap [(.aload_n 0, 1)] ((.getfield 42, 3) :: (m_ap [(.aload_n 0, 1)] ((.getfield 55, 3) :: (m_ap [(.iload_n 1, 1)] ((.invokestatic 343, 3) :: (m_ap [(.aload_n 0, 1)] ((.getfield 42, 3) :: (m_ap [(.iload_n 1, 1)] ((.invokestatic 347, 3) :: (m_ap [(.ladd, 1)] ([(.lreturn, 1)])))))))))))) := m_Fe_of nd2226 54 12 rfl
theorem SF11_land_0 {xs : Nat → Int32} {L : Nat} (x0 : Nat) (x1 : Int32) (x2 : Int32) (hp : m_H) {r : m_O × m_H} {K : ((Int64 ⊕ Nat) × m_H) → Prop} (k0 : ∀ x, K x → r = (m_xJ x)) {t : (Int64 ⊕ Nat) × m_H} (h : F11_land_0 x0 x1 x2 hp = some t) (hK : K t) : m_Rn xs L 8 2226 0 [(0, .ref x0), (1, .int x1), (2, .int x2)] [] hp r := by
  unfold F11_land_0 at h
  refine g_in eF11_land_0 mx2226 ?_
  refine g_ch [(0, .ref x0), (1, .int x1), (2, .int x2)] [.int x1] (pc' := 1) rfl rfl rfl ?_
  obtain ⟨z2, e1, h⟩ := m_bd h
  rcases m_sxd h with ⟨u66, e3, h⟩ | ⟨E4, e3, h⟩
  · have q5 := (SF11_testLand (xs := xs) (L := L) e1)
    unfold m_xV at q5
    rw [e3] at q5
    refine g_call (v := none) (h := z2.2) (st' := []) (D1 := 7) (as := [.int x1]) (Or.inl rfl) q11_m182 (m_cs (as := [.int x1]) (rest := []) q11_m182 jv2252 rfl rfl rfl rfl rfl) (by decide) q5 rfl ?_
    refine g_ch [(0, .ref x0), (1, .int x1), (2, .int x2)] [.int x1] (pc' := 5) rfl rfl rfl ?_
    obtain ⟨z7, e6, h⟩ := m_bd h
    rcases m_sxd h with ⟨u65, e8, h⟩ | ⟨E9, e8, h⟩
    · have q10 := (SF11_testAbroad (xs := xs) (L := L) e6)
      unfold m_xV at q10
      rw [e8] at q10
      refine g_call (v := none) (h := z7.2) (st' := []) (D1 := 7) (as := [.int x1]) (Or.inl rfl) q11_m185 (m_cs (as := [.int x1]) (rest := []) q11_m185 jv2253 rfl rfl rfl rfl rfl) (by decide) q10 rfl ?_
      refine g_ch [(0, .ref x0), (1, .int x1), (2, .int x2)] [.int x2] (pc' := 9) rfl rfl rfl ?_
      rcases m_swd h with ⟨e12, h⟩ | ⟨w11, e12, h⟩
      · refine g_swd e12 (t := 161) rfl ?_
        refine g_in eF11_land_161 mx2226 ?_
        cases h
        rw [k0 _ hK]
        exact g_thr (by decide +kernel) (by decide) rfl
      · rcases m_ifd h with ⟨c13, hc13⟩ | ⟨c13, h⟩
        · subst c13
          have h := hc13
          refine g_sw (o := 47) (t := 56) e12 rfl rfl ?_
          refine g_in eF11_land_56 mx2226 ?_
          refine g_ch [(0, .ref x0), (1, .int x1), (2, .int x2)] [.ref x0] (pc' := 57) rfl rfl rfl ?_
          obtain ⟨v14, e15, h⟩ := m_bd h
          refine g_gr q11_f42 e15 ?_
          obtain ⟨v16, e17, h⟩ := m_bd h
          refine g_gr q11_f281 e17 ?_
          refine g_ch [(0, .ref x0), (1, .int x1), (2, .int x2)] [.int 0, .int x1, .ref v16] (pc' := 65) rfl rfl rfl ?_
          obtain ⟨v19, e18, h⟩ := m_bd h
          refine g_call (v := some (.int v19)) (h := z7.2) (st' := [.int v19]) (D1 := 1) (as := [.ref v16, .int x1, .int 0]) (Or.inr (Or.inl rfl)) q11_m179 (m_cv (as := [.int 0, .int x1]) (rest := []) (Or.inl rfl) q11_m179 jv1604 (OF8_get e18) rfl rfl rfl rfl) (by decide) (SF8_get e18) rfl ?_
          refine g_ch [(0, .ref x0), (1, .int x1), (2, .int x2)] [.long (m_i2l v19)] (pc' := 69) rfl rfl rfl ?_
          cases h
          rw [k0 _ hK]
          exact g_lret rfl
        rcases m_ifd h with ⟨c20, hc20⟩ | ⟨c20, h⟩
        · subst c20
          have h := hc20
          refine g_sw (o := 61) (t := 70) e12 rfl rfl ?_
          refine g_in eF11_land_70 mx2226 ?_
          refine g_ch [(0, .ref x0), (1, .int x1), (2, .int x2)] [.ref x0] (pc' := 71) rfl rfl rfl ?_
          obtain ⟨v21, e22, h⟩ := m_bd h
          refine g_gr q11_f42 e22 ?_
          obtain ⟨v23, e24, h⟩ := m_bd h
          refine g_gr q11_f281 e24 ?_
          refine g_ch [(0, .ref x0), (1, .int x1), (2, .int x2)] [.int 1, .int x1, .ref v23] (pc' := 79) rfl rfl rfl ?_
          obtain ⟨v26, e25, h⟩ := m_bd h
          refine g_call (v := some (.int v26)) (h := z7.2) (st' := [.int v26]) (D1 := 1) (as := [.ref v23, .int x1, .int 1]) (Or.inr (Or.inl rfl)) q11_m179 (m_cv (as := [.int 1, .int x1]) (rest := []) (Or.inl rfl) q11_m179 jv1604 (OF8_get e25) rfl rfl rfl rfl) (by decide) (SF8_get e25) rfl ?_
          refine g_ch [(0, .ref x0), (1, .int x1), (2, .int x2)] [.long (m_i2l v26)] (pc' := 83) rfl rfl rfl ?_
          cases h
          rw [k0 _ hK]
          exact g_lret rfl
        rcases m_ifd h with ⟨c27, hc27⟩ | ⟨c27, h⟩
        · subst c27
          have h := hc27
          refine g_sw (o := 75) (t := 84) e12 rfl rfl ?_
          refine g_in eF11_land_84 mx2226 ?_
          refine g_ch [(0, .ref x0), (1, .int x1), (2, .int x2)] [.ref x0] (pc' := 85) rfl rfl rfl ?_
          obtain ⟨v28, e29, h⟩ := m_bd h
          refine g_gr q11_f42 e29 ?_
          refine g_ch [(0, .ref x0), (1, .int x1), (2, .int x2)] [.int x1, .ref v28] (pc' := 89) rfl rfl rfl ?_
          obtain ⟨v31, e30, h⟩ := m_bd h
          refine g_call (v := some (.long v31)) (h := z7.2) (st' := [.long v31]) (D1 := 4) (as := [.ref v28, .int x1]) (Or.inl rfl) q11_m330 (m_cs (as := [.int x1, .ref v28]) (rest := []) q11_m330 jv1001 rfl rfl rfl rfl rfl) (by decide) (SF5_owed e30) rfl ?_
          cases h
          rw [k0 _ hK]
          exact g_lret rfl
        rcases m_ifd h with ⟨c32, hc32⟩ | ⟨c32, h⟩
        · subst c32
          have h := hc32
          refine g_sw (o := 84) (t := 93) e12 rfl rfl ?_
          refine g_in eF11_land_93 mx2226 ?_
          refine g_ch [(0, .ref x0), (1, .int x1), (2, .int x2)] [.ref x0] (pc' := 94) rfl rfl rfl ?_
          obtain ⟨v33, e34, h⟩ := m_bd h
          refine g_gr q11_f42 e34 ?_
          refine g_ch [(0, .ref x0), (1, .int x1), (2, .int x2)] [.int 3, .int x1, .ref v33] (pc' := 99) rfl rfl rfl ?_
          obtain ⟨v36, e35, h⟩ := m_bd h
          refine g_call (v := some (.int v36)) (h := z7.2) (st' := [.int v36]) (D1 := 4) (as := [.ref v33, .int x1, .int 3]) (Or.inl rfl) q11_m336 (m_cs (as := [.int 3, .int x1, .ref v33]) (rest := []) q11_m336 jv1003 rfl rfl rfl rfl rfl) (by decide) (SF5_lentAt e35) rfl ?_
          refine g_ch [(0, .ref x0), (1, .int x1), (2, .int x2)] [.long (m_i2l v36)] (pc' := 103) rfl rfl rfl ?_
          cases h
          rw [k0 _ hK]
          exact g_lret rfl
        rcases m_ifd h with ⟨c37, hc37⟩ | ⟨c37, h⟩
        · subst c37
          have h := hc37
          refine g_sw (o := 95) (t := 104) e12 rfl rfl ?_
          refine g_in eF11_land_104 mx2226 ?_
          refine g_ch [(0, .ref x0), (1, .int x1), (2, .int x2)] [.ref x0] (pc' := 105) rfl rfl rfl ?_
          obtain ⟨v38, e39, h⟩ := m_bd h
          refine g_gr q11_f42 e39 ?_
          refine g_ch [(0, .ref x0), (1, .int x1), (2, .int x2)] [.int 6, .int x1, .ref v38] (pc' := 111) rfl rfl rfl ?_
          obtain ⟨v41, e40, h⟩ := m_bd h
          refine g_call (v := some (.int v41)) (h := z7.2) (st' := [.int v41]) (D1 := 4) (as := [.ref v38, .int x1, .int 6]) (Or.inl rfl) q11_m336 (m_cs (as := [.int 6, .int x1, .ref v38]) (rest := []) q11_m336 jv1003 rfl rfl rfl rfl rfl) (by decide) (SF5_lentAt e40) rfl ?_
          refine g_ch [(0, .ref x0), (1, .int x1), (2, .int x2)] [.long (m_i2l v41)] (pc' := 115) rfl rfl rfl ?_
          cases h
          rw [k0 _ hK]
          exact g_lret rfl
        rcases m_ifd h with ⟨c42, hc42⟩ | ⟨c42, h⟩
        · subst c42
          have h := hc42
          refine g_sw (o := 107) (t := 116) e12 rfl rfl ?_
          refine g_in eF11_land_116 mx2226 ?_
          refine g_ch [(0, .ref x0), (1, .int x1), (2, .int x2)] [.ref x0] (pc' := 117) rfl rfl rfl ?_
          obtain ⟨v43, e44, h⟩ := m_bd h
          refine g_gr q11_f42 e44 ?_
          refine g_ch [(0, .ref x0), (1, .int x1), (2, .int x2)] [.int x1, .ref v43] (pc' := 121) rfl rfl rfl ?_
          obtain ⟨v46, e45, h⟩ := m_bd h
          refine g_call (v := some (.int v46)) (h := z7.2) (st' := [.int v46]) (D1 := 2) (as := [.ref v43, .int x1]) (Or.inr (Or.inl rfl)) q11_m340 (m_cv (as := [.int x1]) (rest := []) (Or.inl rfl) q11_m340 jv627 (OF3_basesOf e45) rfl rfl rfl rfl) (by decide) (SF3_basesOf e45) rfl ?_
          refine g_ch [(0, .ref x0), (1, .int x1), (2, .int x2)] [.long (m_i2l v46)] (pc' := 125) rfl rfl rfl ?_
          cases h
          rw [k0 _ hK]
          exact g_lret rfl
        rcases m_ifd h with ⟨c47, hc47⟩ | ⟨c47, h⟩
        · subst c47
          have h := hc47
          refine g_sw (o := 117) (t := 126) e12 rfl rfl ?_
          refine g_in eF11_land_126 mx2226 ?_
          refine g_ch [(0, .ref x0), (1, .int x1), (2, .int x2)] [.ref x0] (pc' := 127) rfl rfl rfl ?_
          obtain ⟨v48, e49, h⟩ := m_bd h
          refine g_gr q11_f42 e49 ?_
          refine g_ch [(0, .ref x0), (1, .int x1), (2, .int x2)] [.ref x0, .ref v48] (pc' := 131) rfl rfl rfl ?_
          obtain ⟨v50, e51, h⟩ := m_bd h
          refine g_gr q11_f55 e51 ?_
          refine g_ch [(0, .ref x0), (1, .int x1), (2, .int x2)] [.int x1, .ref v50, .ref v48] (pc' := 135) rfl rfl rfl ?_
          obtain ⟨v53, e52, h⟩ := m_bd h
          refine g_call (v := some (.long v53)) (h := z7.2) (st' := [.long v53]) (D1 := 7) (as := [.ref v48, .ref v50, .int x1]) (Or.inl rfl) q11_m343 (m_cs (as := [.int x1, .ref v50, .ref v48]) (rest := []) q11_m343 jv1007 rfl rfl rfl rfl rfl) (by decide) (SF5_sure e52) rfl ?_
          cases h
          rw [k0 _ hK]
          exact g_lret rfl
        rcases m_ifd h with ⟨c54, hc54⟩ | ⟨c54, h⟩
        · subst c54
          have h := hc54
          refine g_sw (o := 130) (t := 139) e12 rfl rfl ?_
          refine g_in eF11_land_139 mx2226 ?_
          refine g_ch [(0, .ref x0), (1, .int x1), (2, .int x2)] [.ref x0] (pc' := 140) rfl rfl rfl ?_
          obtain ⟨v55, e56, h⟩ := m_bd h
          refine g_gr q11_f42 e56 ?_
          refine g_ch [(0, .ref x0), (1, .int x1), (2, .int x2)] [.ref x0, .ref v55] (pc' := 144) rfl rfl rfl ?_
          obtain ⟨v57, e58, h⟩ := m_bd h
          refine g_gr q11_f55 e58 ?_
          refine g_ch [(0, .ref x0), (1, .int x1), (2, .int x2)] [.int x1, .ref v57, .ref v55] (pc' := 148) rfl rfl rfl ?_
          obtain ⟨v60, e59, h⟩ := m_bd h
          refine g_call (v := some (.long v60)) (h := z7.2) (st' := [.long v60]) (D1 := 7) (as := [.ref v55, .ref v57, .int x1]) (Or.inl rfl) q11_m343 (m_cs (as := [.int x1, .ref v57, .ref v55]) (rest := []) q11_m343 jv1007 rfl rfl rfl rfl rfl) (by decide) (SF5_sure e59) rfl ?_
          refine g_ch [(0, .ref x0), (1, .int x1), (2, .int x2)] [.ref x0, .long v60] (pc' := 152) rfl rfl rfl ?_
          obtain ⟨v61, e62, h⟩ := m_bd h
          refine g_gr q11_f42 e62 ?_
          refine g_ch [(0, .ref x0), (1, .int x1), (2, .int x2)] [.int x1, .ref v61, .long v60] (pc' := 156) rfl rfl rfl ?_
          obtain ⟨v64, e63, h⟩ := m_bd h
          refine g_call (v := some (.long v64)) (h := z7.2) (st' := [.long v64, .long v60]) (D1 := 5) (as := [.ref v61, .int x1]) (Or.inl rfl) q11_m347 (m_cs (as := [.int x1, .ref v61]) (rest := [.long v60]) q11_m347 jv1008 rfl rfl rfl rfl rfl) (by decide) (SF5_landedWithoutReturn e63) rfl ?_
          refine g_ch [(0, .ref x0), (1, .int x1), (2, .int x2)] [.long (v60 + v64)] (pc' := 160) rfl rfl rfl ?_
          cases h
          rw [k0 _ hK]
          exact g_lret rfl
        cases h
    · have q10 := (SF11_testAbroad (xs := xs) (L := L) e6)
      unfold m_xV at q10
      rw [e8] at q10
      cases h
      rw [k0 _ hK]
      exact g_callX (D1 := 7) (as := [.int x1]) (Or.inl rfl) q11_m185 (m_cs (as := [.int x1]) (rest := []) q11_m185 jv2253 rfl rfl rfl rfl rfl) (by decide) q10 rfl
  · have q5 := (SF11_testLand (xs := xs) (L := L) e1)
    unfold m_xV at q5
    rw [e3] at q5
    cases h
    rw [k0 _ hK]
    exact g_callX (D1 := 7) (as := [.int x1]) (Or.inl rfl) q11_m182 (m_cs (as := [.int x1]) (rest := []) q11_m182 jv2252 rfl rfl rfl rfl rfl) (by decide) q5 rfl
theorem OF11_land {x0 : Nat} {x1 : Int32} {x2 : Int32} {hp : m_H} {x : (Int64 ⊕ Nat) × m_H} (h : F11_land x0 x1 x2 hp = some x) : m_isO hp 8 x0 = true := (m_gdd h).1
theorem SF11_land {xs : Nat → Int32} {L : Nat} {x0 : Nat} {x1 : Int32} {x2 : Int32} {hp : m_H} {x : (Int64 ⊕ Nat) × m_H} (h : F11_land x0 x1 x2 hp = some x) : m_Rn xs L 8 2226 0 (lv_args 0 [.ref x0, .int x1, .int x2]) [] hp (m_xJ x) :=
  r_lv (SF11_land_0 x0 x1 x2 hp (K := fun y => y = x) (fun y e => by rw [e]) (m_gdd h).2 rfl) rfl ⟨rfl, rfl, rfl, trivial⟩
-- F11_balance: LendHouse.balance(III)J
theorem eF11_balance_0 : m_Fe mi11_27 0 (m_ap [(.iload_n 1, 1)] ((.invokestatic 182, 3) :: (m_ap [(.iload_n 1, 1)] ((.invokestatic 185, 3) :: (m_ap [(.iload_n 2, 1), (.iconst 0, 1), (.iconst 2, 1)] ((.invokestatic 79, 3) :: ([(.ifCond .eq 14, 3)]))))))) := m_Fe_of nd2227 0 9 rfl
theorem eF11_balance_28 : m_Fe mi11_27 28 (m_ap [(.aload_n 0, 1)] ((.getfield 42, 3) :: (m_ap [(.iload_n 1, 1), (.iload_n 2, 1), (.iload_n 3, 1)] ((.invokestatic 354, 3) :: ([(.lreturn, 1)]))))) := m_Fe_of nd2227 14 7 rfl
theorem eF11_balance_17 : m_Fe mi11_27 17 ([(.new 171, 3)]) := m_Fe_of nd2227 9 1 rfl
theorem SF11_balance_0 {xs : Nat → Int32} {L : Nat} (x0 : Nat) (x1 : Int32) (x2 : Int32) (x3 : Int32) (hp : m_H) {r : m_O × m_H} {K : ((Int64 ⊕ Nat) × m_H) → Prop} (k0 : ∀ x, K x → r = (m_xJ x)) {t : (Int64 ⊕ Nat) × m_H} (h : F11_balance_0 x0 x1 x2 x3 hp = some t) (hK : K t) : m_Rn xs L 8 2227 0 [(0, .ref x0), (1, .int x1), (2, .int x2), (3, .int x3)] [] hp r := by
  unfold F11_balance_0 at h
  refine g_in eF11_balance_0 mx2227 ?_
  refine g_ch [(0, .ref x0), (1, .int x1), (2, .int x2), (3, .int x3)] [.int x1] (pc' := 1) rfl rfl rfl ?_
  obtain ⟨z2, e1, h⟩ := m_bd h
  rcases m_sxd h with ⟨u19, e3, h⟩ | ⟨E4, e3, h⟩
  · have q5 := (SF11_testLand (xs := xs) (L := L) e1)
    unfold m_xV at q5
    rw [e3] at q5
    refine g_call (v := none) (h := z2.2) (st' := []) (D1 := 7) (as := [.int x1]) (Or.inl rfl) q11_m182 (m_cs (as := [.int x1]) (rest := []) q11_m182 jv2252 rfl rfl rfl rfl rfl) (by decide) q5 rfl ?_
    refine g_ch [(0, .ref x0), (1, .int x1), (2, .int x2), (3, .int x3)] [.int x1] (pc' := 5) rfl rfl rfl ?_
    obtain ⟨z7, e6, h⟩ := m_bd h
    rcases m_sxd h with ⟨u18, e8, h⟩ | ⟨E9, e8, h⟩
    · have q10 := (SF11_testAbroad (xs := xs) (L := L) e6)
      unfold m_xV at q10
      rw [e8] at q10
      refine g_call (v := none) (h := z7.2) (st' := []) (D1 := 7) (as := [.int x1]) (Or.inl rfl) q11_m185 (m_cs (as := [.int x1]) (rest := []) q11_m185 jv2253 rfl rfl rfl rfl rfl) (by decide) q10 rfl ?_
      refine g_ch [(0, .ref x0), (1, .int x1), (2, .int x2), (3, .int x3)] [.int 2, .int 0, .int x2] (pc' := 11) rfl rfl rfl ?_
      obtain ⟨v12, e11, h⟩ := m_bd h
      refine g_call (v := some (.int v12)) (h := z7.2) (st' := [.int v12]) (D1 := 0) (as := [.int x2, .int 0, .int 2]) (Or.inl rfl) q11_m79 (m_cs (as := [.int 2, .int 0, .int x2]) (rest := []) q11_m79 jv2251 rfl rfl rfl rfl rfl) (by decide) (SF11_outside e11) rfl ?_
      rcases m_ifd h with ⟨c13, h⟩ | ⟨c13, h⟩
      · refine g_ifc (t := 28) rfl (m_eqT c13) ?_
        refine g_in eF11_balance_28 mx2227 ?_
        refine g_ch [(0, .ref x0), (1, .int x1), (2, .int x2), (3, .int x3)] [.ref x0] (pc' := 29) rfl rfl rfl ?_
        obtain ⟨v14, e15, h⟩ := m_bd h
        refine g_gr q11_f42 e15 ?_
        refine g_ch [(0, .ref x0), (1, .int x1), (2, .int x2), (3, .int x3)] [.int x3, .int x2, .int x1, .ref v14] (pc' := 35) rfl rfl rfl ?_
        obtain ⟨v17, e16, h⟩ := m_bd h
        refine g_call (v := some (.long v17)) (h := z7.2) (st' := [.long v17]) (D1 := 5) (as := [.ref v14, .int x1, .int x2, .int x3]) (Or.inl rfl) q11_m354 (m_cs (as := [.int x3, .int x2, .int x1, .ref v14]) (rest := []) q11_m354 jv1009 rfl rfl rfl rfl rfl) (by decide) (SF5_balanceBy e16) rfl ?_
        cases h
        rw [k0 _ hK]
        exact g_lret rfl
      · refine g_ifcn (t := 28) rfl (m_eqF c13) ?_
        refine g_in eF11_balance_17 mx2227 ?_
        cases h
        rw [k0 _ hK]
        exact g_thr (by decide +kernel) (by decide) rfl
    · have q10 := (SF11_testAbroad (xs := xs) (L := L) e6)
      unfold m_xV at q10
      rw [e8] at q10
      cases h
      rw [k0 _ hK]
      exact g_callX (D1 := 7) (as := [.int x1]) (Or.inl rfl) q11_m185 (m_cs (as := [.int x1]) (rest := []) q11_m185 jv2253 rfl rfl rfl rfl rfl) (by decide) q10 rfl
  · have q5 := (SF11_testLand (xs := xs) (L := L) e1)
    unfold m_xV at q5
    rw [e3] at q5
    cases h
    rw [k0 _ hK]
    exact g_callX (D1 := 7) (as := [.int x1]) (Or.inl rfl) q11_m182 (m_cs (as := [.int x1]) (rest := []) q11_m182 jv2252 rfl rfl rfl rfl rfl) (by decide) q5 rfl
theorem OF11_balance {x0 : Nat} {x1 : Int32} {x2 : Int32} {x3 : Int32} {hp : m_H} {x : (Int64 ⊕ Nat) × m_H} (h : F11_balance x0 x1 x2 x3 hp = some x) : m_isO hp 8 x0 = true := (m_gdd h).1
theorem SF11_balance {xs : Nat → Int32} {L : Nat} {x0 : Nat} {x1 : Int32} {x2 : Int32} {x3 : Int32} {hp : m_H} {x : (Int64 ⊕ Nat) × m_H} (h : F11_balance x0 x1 x2 x3 hp = some x) : m_Rn xs L 8 2227 0 (lv_args 0 [.ref x0, .int x1, .int x2, .int x3]) [] hp (m_xJ x) :=
  r_lv (SF11_balance_0 x0 x1 x2 x3 hp (K := fun y => y = x) (fun y e => by rw [e]) (m_gdd h).2 rfl) rfl ⟨rfl, rfl, rfl, rfl, trivial⟩
-- F11_over: LendHouse.over()I
theorem eF11_over_0 : m_Fe mi11_28 0 (m_ap [(.aload_n 0, 1)] ((.getfield 42, 3) :: ((.getfield 358, 3) :: ([(.ifCond .eq 5, 3)])))) := m_Fe_of nd2228 0 4 rfl
theorem eF11_over_12 : m_Fe mi11_28 12 (m_ap [(.aload_n 0, 1)] ((.getfield 42, 3) :: ((.invokevirtual 362, 3) :: ([(.ireturn, 1)])))) := m_Fe_of nd2228 6 4 rfl
theorem eF11_over_10 : m_Fe mi11_28 10 (m_ap [(.iconst (-1), 1)] ([(.ireturn, 1)])) := m_Fe_of nd2228 4 2 rfl
theorem SF11_over_0 {xs : Nat → Int32} {L : Nat} (x0 : Nat) (hp : m_H) {r : m_O × m_H} {K : (Int32 × m_H) → Prop} (k0 : ∀ x, K x → r = (.inl (some (.int x.1)), x.2)) {t : Int32 × m_H} (h : F11_over_0 x0 hp = some t) (hK : K t) : m_Rn xs L 4 2228 0 [(0, .ref x0)] [] hp r := by
  unfold F11_over_0 at h
  refine g_in eF11_over_0 mx2228 ?_
  refine g_ch [(0, .ref x0)] [.ref x0] (pc' := 1) rfl rfl rfl ?_
  obtain ⟨v1, e2, h⟩ := m_bd h
  refine g_gr q11_f42 e2 ?_
  obtain ⟨v3, e4, h⟩ := m_bd h
  refine g_gi q11_f358 e4 ?_
  rcases m_ifd h with ⟨c5, h⟩ | ⟨c5, h⟩
  · refine g_ifc (t := 12) rfl (m_eqT c5) ?_
    refine g_in eF11_over_12 mx2228 ?_
    refine g_ch [(0, .ref x0)] [.ref x0] (pc' := 13) rfl rfl rfl ?_
    obtain ⟨v6, e7, h⟩ := m_bd h
    refine g_gr q11_f42 e7 ?_
    obtain ⟨z9, e8, h⟩ := m_bd h
    refine g_call (v := some (.int z9.1)) (h := z9.2) (st' := [.int z9.1]) (D1 := 3) (as := [.ref v6]) (Or.inr (Or.inl rfl)) q11_m362 (m_cv (as := []) (rest := []) (Or.inl rfl) q11_m362 jv624 (OF3_close e8) rfl rfl rfl rfl) (by decide) (SF3_close e8) rfl ?_
    cases h
    rw [k0 _ hK]
    exact g_iret rfl rfl
  · refine g_ifcn (t := 12) rfl (m_eqF c5) ?_
    refine g_in eF11_over_10 mx2228 ?_
    refine g_ch [(0, .ref x0)] [.int (-1)] (pc' := 11) rfl rfl rfl ?_
    cases h
    rw [k0 _ hK]
    exact g_iret rfl rfl
theorem OF11_over {x0 : Nat} {hp : m_H} {x : Int32 × m_H} (h : F11_over x0 hp = some x) : m_isO hp 8 x0 = true := (m_gdd h).1
theorem SF11_over {xs : Nat → Int32} {L : Nat} {x0 : Nat} {hp : m_H} {x : Int32 × m_H} (h : F11_over x0 hp = some x) : m_Rn xs L 4 2228 0 (lv_args 0 [.ref x0]) [] hp (.inl (some (.int x.1)), x.2) :=
  r_lv (SF11_over_0 x0 hp (K := fun y => y = x) (fun y e => by rw [e]) (m_gdd h).2 rfl) rfl ⟨rfl, trivial⟩
-- F11_returned: LendHouse.returned(IIII)I
theorem eF11_returned_0 : m_Fe mi11_29 0 (m_ap [(.iload_n 1, 1)] ((.invokestatic 182, 3) :: (m_ap [(.iload_n 2, 1)] ((.invokestatic 118, 3) :: (m_ap [(.iload_n 1, 1)] ((.invokestatic 185, 3) :: (m_ap [(.iload_n 3, 1), (.iconst 0, 1), (.aload_n 0, 1)] ((.getfield 42, 3) :: ((.getfield 76, 3) :: ((.invokestatic 79, 3) :: ([(.ifCond .ne 15, 3)]))))))))))) := m_Fe_of nd2229 0 13 rfl
theorem eF11_returned_39 : m_Fe mi11_29 39 ([(.new 83, 3)]) := m_Fe_of nd2229 18 1 rfl
theorem eF11_returned_27 : m_Fe mi11_29 27 (m_ap [(.iload 4, 2), (.iconst 0, 1), (.ldc_w 365, 3)] ((.invokestatic 79, 3) :: ([(.ifCond .eq 14, 3)]))) := m_Fe_of nd2229 13 5 rfl
theorem eF11_returned_50 : m_Fe mi11_29 50 (m_ap [(.aload_n 0, 1)] ((.getfield 42, 3) :: ((.getfield 368, 3) :: ((.invokevirtual 193, 3) :: ([(.ifCond .eq 5, 3)]))))) := m_Fe_of nd2229 23 5 rfl
theorem eF11_returned_65 : m_Fe mi11_29 65 (m_ap [(.aload_n 0, 1)] ((.getfield 42, 3) :: ((.getfield 368, 3) :: ((.invokevirtual 199, 3) :: (m_ap [(.istore 5, 2), (.aload_n 0, 1)] ((.getfield 42, 3) :: ((.getfield 368, 3) :: (m_ap [(.iload 5, 2), (.iconst 0, 1), (.iload_n 1, 1)] ((.invokevirtual 127, 3) :: (m_ap [(.aload_n 0, 1)] ((.getfield 42, 3) :: ((.getfield 368, 3) :: (m_ap [(.iload 5, 2), (.iconst 1, 1), (.iload_n 2, 1)] ((.invokevirtual 127, 3) :: (m_ap [(.aload_n 0, 1)] ((.getfield 42, 3) :: ((.getfield 368, 3) :: (m_ap [(.iload 5, 2), (.iconst 2, 1), (.iload 4, 2)] ((.invokevirtual 127, 3) :: (m_ap [(.aload_n 0, 1)] ((.getfield 42, 3) :: ((.getfield 368, 3) :: (m_ap [(.iload 5, 2), (.iconst 3, 1), (.iload_n 3, 1)] ((.invokevirtual 127, 3) :: (m_ap [(.aload_n 0, 1)] ((.getfield 42, 3) :: ((.getfield 368, 3) :: (m_ap [(.iload 5, 2), (.iconst 4, 1), (.iload 4, 2)] ((.invokevirtual 127, 3) :: (m_ap [(.aload_n 0, 1)] ((.getfield 42, 3) :: ((.getfield 368, 3) :: ((.getfield 371, 3) :: ([(.ireturn, 1)])))))))))))))))))))))))))))))))))) := m_Fe_of nd2229 30 45 rfl
theorem eF11_returned_63 : m_Fe mi11_29 63 (m_ap [(.iconst (-1), 1)] ([(.ireturn, 1)])) := m_Fe_of nd2229 28 2 rfl
theorem SF11_returned_0 {xs : Nat → Int32} {L : Nat} (x0 : Nat) (x1 : Int32) (x2 : Int32) (x3 : Int32) (x4 : Int32) (hp : m_H) {r : m_O × m_H} {K : ((Int32 ⊕ Nat) × m_H) → Prop} (k0 : ∀ x, K x → r = (m_xI x)) {t : (Int32 ⊕ Nat) × m_H} (h : F11_returned_0 x0 x1 x2 x3 x4 hp = some t) (hK : K t) : m_Rn xs L 8 2229 0 [(0, .ref x0), (1, .int x1), (2, .int x2), (3, .int x3), (4, .int x4)] [] hp r := by
  unfold F11_returned_0 at h
  refine g_in eF11_returned_0 mx2229 ?_
  refine g_ch [(0, .ref x0), (1, .int x1), (2, .int x2), (3, .int x3), (4, .int x4)] [.int x1] (pc' := 1) rfl rfl rfl ?_
  obtain ⟨z2, e1, h⟩ := m_bd h
  rcases m_sxd h with ⟨u77, e3, h⟩ | ⟨E4, e3, h⟩
  · have q5 := (SF11_testLand (xs := xs) (L := L) e1)
    unfold m_xV at q5
    rw [e3] at q5
    refine g_call (v := none) (h := z2.2) (st' := []) (D1 := 7) (as := [.int x1]) (Or.inl rfl) q11_m182 (m_cs (as := [.int x1]) (rest := []) q11_m182 jv2252 rfl rfl rfl rfl rfl) (by decide) q5 rfl ?_
    refine g_ch [(0, .ref x0), (1, .int x1), (2, .int x2), (3, .int x3), (4, .int x4)] [.int x2] (pc' := 5) rfl rfl rfl ?_
    obtain ⟨z7, e6, h⟩ := m_bd h
    rcases m_sxd h with ⟨u76, e8, h⟩ | ⟨E9, e8, h⟩
    · have q10 := (SF11_testSort (xs := xs) (L := L) e6)
      unfold m_xV at q10
      rw [e8] at q10
      refine g_call (v := none) (h := z7.2) (st' := []) (D1 := 7) (as := [.int x2]) (Or.inl rfl) q11_m118 (m_cs (as := [.int x2]) (rest := []) q11_m118 jv2254 rfl rfl rfl rfl rfl) (by decide) q10 rfl ?_
      refine g_ch [(0, .ref x0), (1, .int x1), (2, .int x2), (3, .int x3), (4, .int x4)] [.int x1] (pc' := 9) rfl rfl rfl ?_
      obtain ⟨z12, e11, h⟩ := m_bd h
      rcases m_sxd h with ⟨u75, e13, h⟩ | ⟨E14, e13, h⟩
      · have q15 := (SF11_testAbroad (xs := xs) (L := L) e11)
        unfold m_xV at q15
        rw [e13] at q15
        refine g_call (v := none) (h := z12.2) (st' := []) (D1 := 7) (as := [.int x1]) (Or.inl rfl) q11_m185 (m_cs (as := [.int x1]) (rest := []) q11_m185 jv2253 rfl rfl rfl rfl rfl) (by decide) q15 rfl ?_
        refine g_ch [(0, .ref x0), (1, .int x1), (2, .int x2), (3, .int x3), (4, .int x4)] [.ref x0, .int 0, .int x3] (pc' := 15) rfl rfl rfl ?_
        obtain ⟨v16, e17, h⟩ := m_bd h
        refine g_gr q11_f42 e17 ?_
        obtain ⟨v18, e19, h⟩ := m_bd h
        refine g_gi q11_f76 e19 ?_
        obtain ⟨v21, e20, h⟩ := m_bd h
        refine g_call (v := some (.int v21)) (h := z12.2) (st' := [.int v21]) (D1 := 0) (as := [.int x3, .int 0, .int v18]) (Or.inl rfl) q11_m79 (m_cs (as := [.int v18, .int 0, .int x3]) (rest := []) q11_m79 jv2251 rfl rfl rfl rfl rfl) (by decide) (SF11_outside e20) rfl ?_
        rcases m_ifd h with ⟨c22, h⟩ | ⟨c22, h⟩
        · refine g_ifcn (t := 39) rfl (m_neF c22) ?_
          refine g_in eF11_returned_27 mx2229 ?_
          refine g_ch [(0, .ref x0), (1, .int x1), (2, .int x2), (3, .int x3), (4, .int x4)] [.int 100000, .int 0, .int x4] (pc' := 33) rfl rfl rfl ?_
          obtain ⟨v24, e23, h⟩ := m_bd h
          refine g_call (v := some (.int v24)) (h := z12.2) (st' := [.int v24]) (D1 := 0) (as := [.int x4, .int 0, .int 100000]) (Or.inl rfl) q11_m79 (m_cs (as := [.int 100000, .int 0, .int x4]) (rest := []) q11_m79 jv2251 rfl rfl rfl rfl rfl) (by decide) (SF11_outside e23) rfl ?_
          rcases m_ifd h with ⟨c25, h⟩ | ⟨c25, h⟩
          · refine g_ifc (t := 50) rfl (m_eqT c25) ?_
            refine g_in eF11_returned_50 mx2229 ?_
            refine g_ch [(0, .ref x0), (1, .int x1), (2, .int x2), (3, .int x3), (4, .int x4)] [.ref x0] (pc' := 51) rfl rfl rfl ?_
            obtain ⟨v26, e27, h⟩ := m_bd h
            refine g_gr q11_f42 e27 ?_
            obtain ⟨v28, e29, h⟩ := m_bd h
            refine g_gr q11_f368 e29 ?_
            obtain ⟨v31, e30, h⟩ := m_bd h
            refine g_call (v := some (.int v31)) (h := z12.2) (st' := [.int v31]) (D1 := 0) (as := [.ref v28]) (Or.inr (Or.inl rfl)) q11_m193 (m_cv (as := []) (rest := []) (Or.inl rfl) q11_m193 jv1602 (OF8_full e30) rfl rfl rfl rfl) (by decide) (SF8_full e30) rfl ?_
            rcases m_ifd h with ⟨c32, h⟩ | ⟨c32, h⟩
            · refine g_ifc (t := 65) rfl (m_eqT c32) ?_
              refine g_in eF11_returned_65 mx2229 ?_
              refine g_ch [(0, .ref x0), (1, .int x1), (2, .int x2), (3, .int x3), (4, .int x4)] [.ref x0] (pc' := 66) rfl rfl rfl ?_
              obtain ⟨v33, e34, h⟩ := m_bd h
              refine g_gr q11_f42 e34 ?_
              obtain ⟨v35, e36, h⟩ := m_bd h
              refine g_gr q11_f368 e36 ?_
              obtain ⟨z38, e37, h⟩ := m_bd h
              refine g_call (v := some (.int z38.1)) (h := z38.2) (st' := [.int z38.1]) (D1 := 2) (as := [.ref v35]) (Or.inr (Or.inl rfl)) q11_m199 (m_cv (as := []) (rest := []) (Or.inl rfl) q11_m199 jv1607 (OF8_add e37) rfl rfl rfl rfl) (by decide) (SF8_add e37) rfl ?_
              refine g_ch [(5, .int z38.1), (0, .ref x0), (1, .int x1), (2, .int x2), (3, .int x3), (4, .int x4)] [.ref x0] (pc' := 78) rfl rfl rfl ?_
              obtain ⟨v39, e40, h⟩ := m_bd h
              refine g_gr q11_f42 e40 ?_
              obtain ⟨v41, e42, h⟩ := m_bd h
              refine g_gr q11_f368 e42 ?_
              refine g_ch [(5, .int z38.1), (0, .ref x0), (1, .int x1), (2, .int x2), (3, .int x3), (4, .int x4)] [.int x1, .int 0, .int z38.1, .ref v41] (pc' := 88) rfl rfl rfl ?_
              obtain ⟨h44, e43, h⟩ := m_bd h
              refine g_call (v := none) (h := h44) (st' := []) (D1 := 1) (as := [.ref v41, .int z38.1, .int 0, .int x1]) (Or.inr (Or.inl rfl)) q11_m127 (m_cv (as := [.int x1, .int 0, .int z38.1]) (rest := []) (Or.inl rfl) q11_m127 jv1605 (OF8_set e43) rfl rfl rfl rfl) (by decide) (SF8_set e43) rfl ?_
              refine g_ch [(5, .int z38.1), (0, .ref x0), (1, .int x1), (2, .int x2), (3, .int x3), (4, .int x4)] [.ref x0] (pc' := 92) rfl rfl rfl ?_
              obtain ⟨v45, e46, h⟩ := m_bd h
              refine g_gr q11_f42 e46 ?_
              obtain ⟨v47, e48, h⟩ := m_bd h
              refine g_gr q11_f368 e48 ?_
              refine g_ch [(5, .int z38.1), (0, .ref x0), (1, .int x1), (2, .int x2), (3, .int x3), (4, .int x4)] [.int x2, .int 1, .int z38.1, .ref v47] (pc' := 102) rfl rfl rfl ?_
              obtain ⟨h50, e49, h⟩ := m_bd h
              refine g_call (v := none) (h := h50) (st' := []) (D1 := 1) (as := [.ref v47, .int z38.1, .int 1, .int x2]) (Or.inr (Or.inl rfl)) q11_m127 (m_cv (as := [.int x2, .int 1, .int z38.1]) (rest := []) (Or.inl rfl) q11_m127 jv1605 (OF8_set e49) rfl rfl rfl rfl) (by decide) (SF8_set e49) rfl ?_
              refine g_ch [(5, .int z38.1), (0, .ref x0), (1, .int x1), (2, .int x2), (3, .int x3), (4, .int x4)] [.ref x0] (pc' := 106) rfl rfl rfl ?_
              obtain ⟨v51, e52, h⟩ := m_bd h
              refine g_gr q11_f42 e52 ?_
              obtain ⟨v53, e54, h⟩ := m_bd h
              refine g_gr q11_f368 e54 ?_
              refine g_ch [(5, .int z38.1), (0, .ref x0), (1, .int x1), (2, .int x2), (3, .int x3), (4, .int x4)] [.int x4, .int 2, .int z38.1, .ref v53] (pc' := 117) rfl rfl rfl ?_
              obtain ⟨h56, e55, h⟩ := m_bd h
              refine g_call (v := none) (h := h56) (st' := []) (D1 := 1) (as := [.ref v53, .int z38.1, .int 2, .int x4]) (Or.inr (Or.inl rfl)) q11_m127 (m_cv (as := [.int x4, .int 2, .int z38.1]) (rest := []) (Or.inl rfl) q11_m127 jv1605 (OF8_set e55) rfl rfl rfl rfl) (by decide) (SF8_set e55) rfl ?_
              refine g_ch [(5, .int z38.1), (0, .ref x0), (1, .int x1), (2, .int x2), (3, .int x3), (4, .int x4)] [.ref x0] (pc' := 121) rfl rfl rfl ?_
              obtain ⟨v57, e58, h⟩ := m_bd h
              refine g_gr q11_f42 e58 ?_
              obtain ⟨v59, e60, h⟩ := m_bd h
              refine g_gr q11_f368 e60 ?_
              refine g_ch [(5, .int z38.1), (0, .ref x0), (1, .int x1), (2, .int x2), (3, .int x3), (4, .int x4)] [.int x3, .int 3, .int z38.1, .ref v59] (pc' := 131) rfl rfl rfl ?_
              obtain ⟨h62, e61, h⟩ := m_bd h
              refine g_call (v := none) (h := h62) (st' := []) (D1 := 1) (as := [.ref v59, .int z38.1, .int 3, .int x3]) (Or.inr (Or.inl rfl)) q11_m127 (m_cv (as := [.int x3, .int 3, .int z38.1]) (rest := []) (Or.inl rfl) q11_m127 jv1605 (OF8_set e61) rfl rfl rfl rfl) (by decide) (SF8_set e61) rfl ?_
              refine g_ch [(5, .int z38.1), (0, .ref x0), (1, .int x1), (2, .int x2), (3, .int x3), (4, .int x4)] [.ref x0] (pc' := 135) rfl rfl rfl ?_
              obtain ⟨v63, e64, h⟩ := m_bd h
              refine g_gr q11_f42 e64 ?_
              obtain ⟨v65, e66, h⟩ := m_bd h
              refine g_gr q11_f368 e66 ?_
              refine g_ch [(5, .int z38.1), (0, .ref x0), (1, .int x1), (2, .int x2), (3, .int x3), (4, .int x4)] [.int x4, .int 4, .int z38.1, .ref v65] (pc' := 146) rfl rfl rfl ?_
              obtain ⟨h68, e67, h⟩ := m_bd h
              refine g_call (v := none) (h := h68) (st' := []) (D1 := 1) (as := [.ref v65, .int z38.1, .int 4, .int x4]) (Or.inr (Or.inl rfl)) q11_m127 (m_cv (as := [.int x4, .int 4, .int z38.1]) (rest := []) (Or.inl rfl) q11_m127 jv1605 (OF8_set e67) rfl rfl rfl rfl) (by decide) (SF8_set e67) rfl ?_
              refine g_ch [(5, .int z38.1), (0, .ref x0), (1, .int x1), (2, .int x2), (3, .int x3), (4, .int x4)] [.ref x0] (pc' := 150) rfl rfl rfl ?_
              obtain ⟨v69, e70, h⟩ := m_bd h
              refine g_gr q11_f42 e70 ?_
              obtain ⟨v71, e72, h⟩ := m_bd h
              refine g_gr q11_f368 e72 ?_
              obtain ⟨v73, e74, h⟩ := m_bd h
              refine g_gi q11_f371 e74 ?_
              cases h
              rw [k0 _ hK]
              exact g_iret rfl rfl
            · refine g_ifcn (t := 65) rfl (m_eqF c32) ?_
              refine g_in eF11_returned_63 mx2229 ?_
              refine g_ch [(0, .ref x0), (1, .int x1), (2, .int x2), (3, .int x3), (4, .int x4)] [.int (-1)] (pc' := 64) rfl rfl rfl ?_
              cases h
              rw [k0 _ hK]
              exact g_iret rfl rfl
          · refine g_ifcn (t := 50) rfl (m_eqF c25) ?_
            refine g_in eF11_returned_39 mx2229 ?_
            cases h
            rw [k0 _ hK]
            exact g_thr (by decide +kernel) (by decide) rfl
        · refine g_ifc (t := 39) rfl (m_neT c22) ?_
          refine g_in eF11_returned_39 mx2229 ?_
          cases h
          rw [k0 _ hK]
          exact g_thr (by decide +kernel) (by decide) rfl
      · have q15 := (SF11_testAbroad (xs := xs) (L := L) e11)
        unfold m_xV at q15
        rw [e13] at q15
        cases h
        rw [k0 _ hK]
        exact g_callX (D1 := 7) (as := [.int x1]) (Or.inl rfl) q11_m185 (m_cs (as := [.int x1]) (rest := []) q11_m185 jv2253 rfl rfl rfl rfl rfl) (by decide) q15 rfl
    · have q10 := (SF11_testSort (xs := xs) (L := L) e6)
      unfold m_xV at q10
      rw [e8] at q10
      cases h
      rw [k0 _ hK]
      exact g_callX (D1 := 7) (as := [.int x2]) (Or.inl rfl) q11_m118 (m_cs (as := [.int x2]) (rest := []) q11_m118 jv2254 rfl rfl rfl rfl rfl) (by decide) q10 rfl
  · have q5 := (SF11_testLand (xs := xs) (L := L) e1)
    unfold m_xV at q5
    rw [e3] at q5
    cases h
    rw [k0 _ hK]
    exact g_callX (D1 := 7) (as := [.int x1]) (Or.inl rfl) q11_m182 (m_cs (as := [.int x1]) (rest := []) q11_m182 jv2252 rfl rfl rfl rfl rfl) (by decide) q5 rfl
theorem OF11_returned {x0 : Nat} {x1 : Int32} {x2 : Int32} {x3 : Int32} {x4 : Int32} {hp : m_H} {x : (Int32 ⊕ Nat) × m_H} (h : F11_returned x0 x1 x2 x3 x4 hp = some x) : m_isO hp 8 x0 = true := (m_gdd h).1
theorem SF11_returned {xs : Nat → Int32} {L : Nat} {x0 : Nat} {x1 : Int32} {x2 : Int32} {x3 : Int32} {x4 : Int32} {hp : m_H} {x : (Int32 ⊕ Nat) × m_H} (h : F11_returned x0 x1 x2 x3 x4 hp = some x) : m_Rn xs L 8 2229 0 (lv_args 0 [.ref x0, .int x1, .int x2, .int x3, .int x4]) [] hp (m_xI x) :=
  r_lv (SF11_returned_0 x0 x1 x2 x3 x4 hp (K := fun y => y = x) (fun y e => by rw [e]) (m_gdd h).2 rfl) rfl ⟨rfl, rfl, rfl, rfl, rfl, trivial⟩
-- F11_mustBe: LendHouse.mustBe(III)I
theorem eF11_mustBe_0 : m_Fe mi11_30 0 (m_ap [(.iload_n 1, 1)] ((.invokestatic 182, 3) :: (m_ap [(.iload_n 2, 1)] ((.invokestatic 118, 3) :: (m_ap [(.iload_n 1, 1)] ((.invokestatic 185, 3) :: (m_ap [(.iload_n 3, 1), (.iconst 0, 1), (.aload_n 0, 1)] ((.getfield 42, 3) :: ((.getfield 76, 3) :: ((.invokestatic 79, 3) :: ([(.ifCond .eq 14, 3)]))))))))))) := m_Fe_of nd2230 0 13 rfl
theorem eF11_mustBe_38 : m_Fe mi11_30 38 (m_ap [(.aload_n 0, 1)] ((.getfield 42, 3) :: (m_ap [(.aload_n 0, 1)] ((.getfield 55, 3) :: (m_ap [(.iload_n 1, 1), (.iload_n 2, 1), (.iload_n 3, 1)] ((.invokestatic 374, 3) :: ([(.ireturn, 1)]))))))) := m_Fe_of nd2230 18 9 rfl
theorem eF11_mustBe_27 : m_Fe mi11_30 27 ([(.new 83, 3)]) := m_Fe_of nd2230 13 1 rfl
theorem SF11_mustBe_0 {xs : Nat → Int32} {L : Nat} (x0 : Nat) (x1 : Int32) (x2 : Int32) (x3 : Int32) (hp : m_H) {r : m_O × m_H} {K : ((Int32 ⊕ Nat) × m_H) → Prop} (k0 : ∀ x, K x → r = (m_xI x)) {t : (Int32 ⊕ Nat) × m_H} (h : F11_mustBe_0 x0 x1 x2 x3 hp = some t) (hK : K t) : m_Rn xs L 8 2230 0 [(0, .ref x0), (1, .int x1), (2, .int x2), (3, .int x3)] [] hp r := by
  unfold F11_mustBe_0 at h
  refine g_in eF11_mustBe_0 mx2230 ?_
  refine g_ch [(0, .ref x0), (1, .int x1), (2, .int x2), (3, .int x3)] [.int x1] (pc' := 1) rfl rfl rfl ?_
  obtain ⟨z2, e1, h⟩ := m_bd h
  rcases m_sxd h with ⟨u31, e3, h⟩ | ⟨E4, e3, h⟩
  · have q5 := (SF11_testLand (xs := xs) (L := L) e1)
    unfold m_xV at q5
    rw [e3] at q5
    refine g_call (v := none) (h := z2.2) (st' := []) (D1 := 7) (as := [.int x1]) (Or.inl rfl) q11_m182 (m_cs (as := [.int x1]) (rest := []) q11_m182 jv2252 rfl rfl rfl rfl rfl) (by decide) q5 rfl ?_
    refine g_ch [(0, .ref x0), (1, .int x1), (2, .int x2), (3, .int x3)] [.int x2] (pc' := 5) rfl rfl rfl ?_
    obtain ⟨z7, e6, h⟩ := m_bd h
    rcases m_sxd h with ⟨u30, e8, h⟩ | ⟨E9, e8, h⟩
    · have q10 := (SF11_testSort (xs := xs) (L := L) e6)
      unfold m_xV at q10
      rw [e8] at q10
      refine g_call (v := none) (h := z7.2) (st' := []) (D1 := 7) (as := [.int x2]) (Or.inl rfl) q11_m118 (m_cs (as := [.int x2]) (rest := []) q11_m118 jv2254 rfl rfl rfl rfl rfl) (by decide) q10 rfl ?_
      refine g_ch [(0, .ref x0), (1, .int x1), (2, .int x2), (3, .int x3)] [.int x1] (pc' := 9) rfl rfl rfl ?_
      obtain ⟨z12, e11, h⟩ := m_bd h
      rcases m_sxd h with ⟨u29, e13, h⟩ | ⟨E14, e13, h⟩
      · have q15 := (SF11_testAbroad (xs := xs) (L := L) e11)
        unfold m_xV at q15
        rw [e13] at q15
        refine g_call (v := none) (h := z12.2) (st' := []) (D1 := 7) (as := [.int x1]) (Or.inl rfl) q11_m185 (m_cs (as := [.int x1]) (rest := []) q11_m185 jv2253 rfl rfl rfl rfl rfl) (by decide) q15 rfl ?_
        refine g_ch [(0, .ref x0), (1, .int x1), (2, .int x2), (3, .int x3)] [.ref x0, .int 0, .int x3] (pc' := 15) rfl rfl rfl ?_
        obtain ⟨v16, e17, h⟩ := m_bd h
        refine g_gr q11_f42 e17 ?_
        obtain ⟨v18, e19, h⟩ := m_bd h
        refine g_gi q11_f76 e19 ?_
        obtain ⟨v21, e20, h⟩ := m_bd h
        refine g_call (v := some (.int v21)) (h := z12.2) (st' := [.int v21]) (D1 := 0) (as := [.int x3, .int 0, .int v18]) (Or.inl rfl) q11_m79 (m_cs (as := [.int v18, .int 0, .int x3]) (rest := []) q11_m79 jv2251 rfl rfl rfl rfl rfl) (by decide) (SF11_outside e20) rfl ?_
        rcases m_ifd h with ⟨c22, h⟩ | ⟨c22, h⟩
        · refine g_ifc (t := 38) rfl (m_eqT c22) ?_
          refine g_in eF11_mustBe_38 mx2230 ?_
          refine g_ch [(0, .ref x0), (1, .int x1), (2, .int x2), (3, .int x3)] [.ref x0] (pc' := 39) rfl rfl rfl ?_
          obtain ⟨v23, e24, h⟩ := m_bd h
          refine g_gr q11_f42 e24 ?_
          refine g_ch [(0, .ref x0), (1, .int x1), (2, .int x2), (3, .int x3)] [.ref x0, .ref v23] (pc' := 43) rfl rfl rfl ?_
          obtain ⟨v25, e26, h⟩ := m_bd h
          refine g_gr q11_f55 e26 ?_
          refine g_ch [(0, .ref x0), (1, .int x1), (2, .int x2), (3, .int x3)] [.int x3, .int x2, .int x1, .ref v25, .ref v23] (pc' := 49) rfl rfl rfl ?_
          obtain ⟨v28, e27, h⟩ := m_bd h
          refine g_call (v := some (.int v28)) (h := z12.2) (st' := [.int v28]) (D1 := 5) (as := [.ref v23, .ref v25, .int x1, .int x2, .int x3]) (Or.inl rfl) q11_m374 (m_cs (as := [.int x3, .int x2, .int x1, .ref v25, .ref v23]) (rest := []) q11_m374 jv1005 rfl rfl rfl rfl rfl) (by decide) (SF5_landedAtEnd e27) rfl ?_
          cases h
          rw [k0 _ hK]
          exact g_iret rfl rfl
        · refine g_ifcn (t := 38) rfl (m_eqF c22) ?_
          refine g_in eF11_mustBe_27 mx2230 ?_
          cases h
          rw [k0 _ hK]
          exact g_thr (by decide +kernel) (by decide) rfl
      · have q15 := (SF11_testAbroad (xs := xs) (L := L) e11)
        unfold m_xV at q15
        rw [e13] at q15
        cases h
        rw [k0 _ hK]
        exact g_callX (D1 := 7) (as := [.int x1]) (Or.inl rfl) q11_m185 (m_cs (as := [.int x1]) (rest := []) q11_m185 jv2253 rfl rfl rfl rfl rfl) (by decide) q15 rfl
    · have q10 := (SF11_testSort (xs := xs) (L := L) e6)
      unfold m_xV at q10
      rw [e8] at q10
      cases h
      rw [k0 _ hK]
      exact g_callX (D1 := 7) (as := [.int x2]) (Or.inl rfl) q11_m118 (m_cs (as := [.int x2]) (rest := []) q11_m118 jv2254 rfl rfl rfl rfl rfl) (by decide) q10 rfl
  · have q5 := (SF11_testLand (xs := xs) (L := L) e1)
    unfold m_xV at q5
    rw [e3] at q5
    cases h
    rw [k0 _ hK]
    exact g_callX (D1 := 7) (as := [.int x1]) (Or.inl rfl) q11_m182 (m_cs (as := [.int x1]) (rest := []) q11_m182 jv2252 rfl rfl rfl rfl rfl) (by decide) q5 rfl
theorem OF11_mustBe {x0 : Nat} {x1 : Int32} {x2 : Int32} {x3 : Int32} {hp : m_H} {x : (Int32 ⊕ Nat) × m_H} (h : F11_mustBe x0 x1 x2 x3 hp = some x) : m_isO hp 8 x0 = true := (m_gdd h).1
theorem SF11_mustBe {xs : Nat → Int32} {L : Nat} {x0 : Nat} {x1 : Int32} {x2 : Int32} {x3 : Int32} {hp : m_H} {x : (Int32 ⊕ Nat) × m_H} (h : F11_mustBe x0 x1 x2 x3 hp = some x) : m_Rn xs L 8 2230 0 (lv_args 0 [.ref x0, .int x1, .int x2, .int x3]) [] hp (m_xI x) :=
  r_lv (SF11_mustBe_0 x0 x1 x2 x3 hp (K := fun y => y = x) (fun y e => by rw [e]) (m_gdd h).2 rfl) rfl ⟨rfl, rfl, rfl, rfl, trivial⟩
-- F11_seen: LendHouse.seen(III)I
theorem eF11_seen_0 : m_Fe mi11_31 0 (m_ap [(.iload_n 1, 1)] ((.invokestatic 182, 3) :: (m_ap [(.iload_n 2, 1)] ((.invokestatic 118, 3) :: (m_ap [(.iload_n 1, 1)] ((.invokestatic 185, 3) :: (m_ap [(.iload_n 3, 1), (.iconst 1, 1), (.ldc_w 365, 3)] ((.invokestatic 79, 3) :: ([(.ifCond .eq 14, 3)]))))))))) := m_Fe_of nd2231 0 11 rfl
theorem eF11_seen_34 : m_Fe mi11_31 34 (m_ap [(.aload_n 0, 1)] ((.getfield 42, 3) :: ((.getfield 380, 3) :: ((.invokevirtual 193, 3) :: ([(.ifCond .eq 5, 3)]))))) := m_Fe_of nd2231 16 5 rfl
theorem eF11_seen_49 : m_Fe mi11_31 49 (m_ap [(.aload_n 0, 1)] ((.getfield 42, 3) :: ((.getfield 380, 3) :: ((.invokevirtual 199, 3) :: (m_ap [(.istore 4, 2), (.aload_n 0, 1)] ((.getfield 42, 3) :: ((.getfield 380, 3) :: (m_ap [(.iload 4, 2), (.iconst 0, 1), (.iload_n 1, 1)] ((.invokevirtual 127, 3) :: (m_ap [(.aload_n 0, 1)] ((.getfield 42, 3) :: ((.getfield 380, 3) :: (m_ap [(.iload 4, 2), (.iconst 1, 1), (.iload_n 2, 1)] ((.invokevirtual 127, 3) :: (m_ap [(.aload_n 0, 1)] ((.getfield 42, 3) :: ((.getfield 380, 3) :: (m_ap [(.iload 4, 2), (.iconst 2, 1), (.iload_n 3, 1)] ((.invokevirtual 127, 3) :: (m_ap [(.aload_n 0, 1)] ((.getfield 42, 3) :: ((.getfield 380, 3) :: ((.getfield 371, 3) :: ([(.ireturn, 1)])))))))))))))))))))))))) := m_Fe_of nd2231 23 31 rfl
theorem eF11_seen_47 : m_Fe mi11_31 47 (m_ap [(.iconst (-1), 1)] ([(.ireturn, 1)])) := m_Fe_of nd2231 21 2 rfl
theorem eF11_seen_23 : m_Fe mi11_31 23 ([(.new 83, 3)]) := m_Fe_of nd2231 11 1 rfl
theorem SF11_seen_0 {xs : Nat → Int32} {L : Nat} (x0 : Nat) (x1 : Int32) (x2 : Int32) (x3 : Int32) (hp : m_H) {r : m_O × m_H} {K : ((Int32 ⊕ Nat) × m_H) → Prop} (k0 : ∀ x, K x → r = (m_xI x)) {t : (Int32 ⊕ Nat) × m_H} (h : F11_seen_0 x0 x1 x2 x3 hp = some t) (hK : K t) : m_Rn xs L 8 2231 0 [(0, .ref x0), (1, .int x1), (2, .int x2), (3, .int x3)] [] hp r := by
  unfold F11_seen_0 at h
  refine g_in eF11_seen_0 mx2231 ?_
  refine g_ch [(0, .ref x0), (1, .int x1), (2, .int x2), (3, .int x3)] [.int x1] (pc' := 1) rfl rfl rfl ?_
  obtain ⟨z2, e1, h⟩ := m_bd h
  rcases m_sxd h with ⟨u58, e3, h⟩ | ⟨E4, e3, h⟩
  · have q5 := (SF11_testLand (xs := xs) (L := L) e1)
    unfold m_xV at q5
    rw [e3] at q5
    refine g_call (v := none) (h := z2.2) (st' := []) (D1 := 7) (as := [.int x1]) (Or.inl rfl) q11_m182 (m_cs (as := [.int x1]) (rest := []) q11_m182 jv2252 rfl rfl rfl rfl rfl) (by decide) q5 rfl ?_
    refine g_ch [(0, .ref x0), (1, .int x1), (2, .int x2), (3, .int x3)] [.int x2] (pc' := 5) rfl rfl rfl ?_
    obtain ⟨z7, e6, h⟩ := m_bd h
    rcases m_sxd h with ⟨u57, e8, h⟩ | ⟨E9, e8, h⟩
    · have q10 := (SF11_testSort (xs := xs) (L := L) e6)
      unfold m_xV at q10
      rw [e8] at q10
      refine g_call (v := none) (h := z7.2) (st' := []) (D1 := 7) (as := [.int x2]) (Or.inl rfl) q11_m118 (m_cs (as := [.int x2]) (rest := []) q11_m118 jv2254 rfl rfl rfl rfl rfl) (by decide) q10 rfl ?_
      refine g_ch [(0, .ref x0), (1, .int x1), (2, .int x2), (3, .int x3)] [.int x1] (pc' := 9) rfl rfl rfl ?_
      obtain ⟨z12, e11, h⟩ := m_bd h
      rcases m_sxd h with ⟨u56, e13, h⟩ | ⟨E14, e13, h⟩
      · have q15 := (SF11_testAbroad (xs := xs) (L := L) e11)
        unfold m_xV at q15
        rw [e13] at q15
        refine g_call (v := none) (h := z12.2) (st' := []) (D1 := 7) (as := [.int x1]) (Or.inl rfl) q11_m185 (m_cs (as := [.int x1]) (rest := []) q11_m185 jv2253 rfl rfl rfl rfl rfl) (by decide) q15 rfl ?_
        refine g_ch [(0, .ref x0), (1, .int x1), (2, .int x2), (3, .int x3)] [.int 100000, .int 1, .int x3] (pc' := 17) rfl rfl rfl ?_
        obtain ⟨v17, e16, h⟩ := m_bd h
        refine g_call (v := some (.int v17)) (h := z12.2) (st' := [.int v17]) (D1 := 0) (as := [.int x3, .int 1, .int 100000]) (Or.inl rfl) q11_m79 (m_cs (as := [.int 100000, .int 1, .int x3]) (rest := []) q11_m79 jv2251 rfl rfl rfl rfl rfl) (by decide) (SF11_outside e16) rfl ?_
        rcases m_ifd h with ⟨c18, h⟩ | ⟨c18, h⟩
        · refine g_ifc (t := 34) rfl (m_eqT c18) ?_
          refine g_in eF11_seen_34 mx2231 ?_
          refine g_ch [(0, .ref x0), (1, .int x1), (2, .int x2), (3, .int x3)] [.ref x0] (pc' := 35) rfl rfl rfl ?_
          obtain ⟨v19, e20, h⟩ := m_bd h
          refine g_gr q11_f42 e20 ?_
          obtain ⟨v21, e22, h⟩ := m_bd h
          refine g_gr q11_f380 e22 ?_
          obtain ⟨v24, e23, h⟩ := m_bd h
          refine g_call (v := some (.int v24)) (h := z12.2) (st' := [.int v24]) (D1 := 0) (as := [.ref v21]) (Or.inr (Or.inl rfl)) q11_m193 (m_cv (as := []) (rest := []) (Or.inl rfl) q11_m193 jv1602 (OF8_full e23) rfl rfl rfl rfl) (by decide) (SF8_full e23) rfl ?_
          rcases m_ifd h with ⟨c25, h⟩ | ⟨c25, h⟩
          · refine g_ifc (t := 49) rfl (m_eqT c25) ?_
            refine g_in eF11_seen_49 mx2231 ?_
            refine g_ch [(0, .ref x0), (1, .int x1), (2, .int x2), (3, .int x3)] [.ref x0] (pc' := 50) rfl rfl rfl ?_
            obtain ⟨v26, e27, h⟩ := m_bd h
            refine g_gr q11_f42 e27 ?_
            obtain ⟨v28, e29, h⟩ := m_bd h
            refine g_gr q11_f380 e29 ?_
            obtain ⟨z31, e30, h⟩ := m_bd h
            refine g_call (v := some (.int z31.1)) (h := z31.2) (st' := [.int z31.1]) (D1 := 2) (as := [.ref v28]) (Or.inr (Or.inl rfl)) q11_m199 (m_cv (as := []) (rest := []) (Or.inl rfl) q11_m199 jv1607 (OF8_add e30) rfl rfl rfl rfl) (by decide) (SF8_add e30) rfl ?_
            refine g_ch [(4, .int z31.1), (0, .ref x0), (1, .int x1), (2, .int x2), (3, .int x3)] [.ref x0] (pc' := 62) rfl rfl rfl ?_
            obtain ⟨v32, e33, h⟩ := m_bd h
            refine g_gr q11_f42 e33 ?_
            obtain ⟨v34, e35, h⟩ := m_bd h
            refine g_gr q11_f380 e35 ?_
            refine g_ch [(4, .int z31.1), (0, .ref x0), (1, .int x1), (2, .int x2), (3, .int x3)] [.int x1, .int 0, .int z31.1, .ref v34] (pc' := 72) rfl rfl rfl ?_
            obtain ⟨h37, e36, h⟩ := m_bd h
            refine g_call (v := none) (h := h37) (st' := []) (D1 := 1) (as := [.ref v34, .int z31.1, .int 0, .int x1]) (Or.inr (Or.inl rfl)) q11_m127 (m_cv (as := [.int x1, .int 0, .int z31.1]) (rest := []) (Or.inl rfl) q11_m127 jv1605 (OF8_set e36) rfl rfl rfl rfl) (by decide) (SF8_set e36) rfl ?_
            refine g_ch [(4, .int z31.1), (0, .ref x0), (1, .int x1), (2, .int x2), (3, .int x3)] [.ref x0] (pc' := 76) rfl rfl rfl ?_
            obtain ⟨v38, e39, h⟩ := m_bd h
            refine g_gr q11_f42 e39 ?_
            obtain ⟨v40, e41, h⟩ := m_bd h
            refine g_gr q11_f380 e41 ?_
            refine g_ch [(4, .int z31.1), (0, .ref x0), (1, .int x1), (2, .int x2), (3, .int x3)] [.int x2, .int 1, .int z31.1, .ref v40] (pc' := 86) rfl rfl rfl ?_
            obtain ⟨h43, e42, h⟩ := m_bd h
            refine g_call (v := none) (h := h43) (st' := []) (D1 := 1) (as := [.ref v40, .int z31.1, .int 1, .int x2]) (Or.inr (Or.inl rfl)) q11_m127 (m_cv (as := [.int x2, .int 1, .int z31.1]) (rest := []) (Or.inl rfl) q11_m127 jv1605 (OF8_set e42) rfl rfl rfl rfl) (by decide) (SF8_set e42) rfl ?_
            refine g_ch [(4, .int z31.1), (0, .ref x0), (1, .int x1), (2, .int x2), (3, .int x3)] [.ref x0] (pc' := 90) rfl rfl rfl ?_
            obtain ⟨v44, e45, h⟩ := m_bd h
            refine g_gr q11_f42 e45 ?_
            obtain ⟨v46, e47, h⟩ := m_bd h
            refine g_gr q11_f380 e47 ?_
            refine g_ch [(4, .int z31.1), (0, .ref x0), (1, .int x1), (2, .int x2), (3, .int x3)] [.int x3, .int 2, .int z31.1, .ref v46] (pc' := 100) rfl rfl rfl ?_
            obtain ⟨h49, e48, h⟩ := m_bd h
            refine g_call (v := none) (h := h49) (st' := []) (D1 := 1) (as := [.ref v46, .int z31.1, .int 2, .int x3]) (Or.inr (Or.inl rfl)) q11_m127 (m_cv (as := [.int x3, .int 2, .int z31.1]) (rest := []) (Or.inl rfl) q11_m127 jv1605 (OF8_set e48) rfl rfl rfl rfl) (by decide) (SF8_set e48) rfl ?_
            refine g_ch [(4, .int z31.1), (0, .ref x0), (1, .int x1), (2, .int x2), (3, .int x3)] [.ref x0] (pc' := 104) rfl rfl rfl ?_
            obtain ⟨v50, e51, h⟩ := m_bd h
            refine g_gr q11_f42 e51 ?_
            obtain ⟨v52, e53, h⟩ := m_bd h
            refine g_gr q11_f380 e53 ?_
            obtain ⟨v54, e55, h⟩ := m_bd h
            refine g_gi q11_f371 e55 ?_
            cases h
            rw [k0 _ hK]
            exact g_iret rfl rfl
          · refine g_ifcn (t := 49) rfl (m_eqF c25) ?_
            refine g_in eF11_seen_47 mx2231 ?_
            refine g_ch [(0, .ref x0), (1, .int x1), (2, .int x2), (3, .int x3)] [.int (-1)] (pc' := 48) rfl rfl rfl ?_
            cases h
            rw [k0 _ hK]
            exact g_iret rfl rfl
        · refine g_ifcn (t := 34) rfl (m_eqF c18) ?_
          refine g_in eF11_seen_23 mx2231 ?_
          cases h
          rw [k0 _ hK]
          exact g_thr (by decide +kernel) (by decide) rfl
      · have q15 := (SF11_testAbroad (xs := xs) (L := L) e11)
        unfold m_xV at q15
        rw [e13] at q15
        cases h
        rw [k0 _ hK]
        exact g_callX (D1 := 7) (as := [.int x1]) (Or.inl rfl) q11_m185 (m_cs (as := [.int x1]) (rest := []) q11_m185 jv2253 rfl rfl rfl rfl rfl) (by decide) q15 rfl
    · have q10 := (SF11_testSort (xs := xs) (L := L) e6)
      unfold m_xV at q10
      rw [e8] at q10
      cases h
      rw [k0 _ hK]
      exact g_callX (D1 := 7) (as := [.int x2]) (Or.inl rfl) q11_m118 (m_cs (as := [.int x2]) (rest := []) q11_m118 jv2254 rfl rfl rfl rfl rfl) (by decide) q10 rfl
  · have q5 := (SF11_testLand (xs := xs) (L := L) e1)
    unfold m_xV at q5
    rw [e3] at q5
    cases h
    rw [k0 _ hK]
    exact g_callX (D1 := 7) (as := [.int x1]) (Or.inl rfl) q11_m182 (m_cs (as := [.int x1]) (rest := []) q11_m182 jv2252 rfl rfl rfl rfl rfl) (by decide) q5 rfl
theorem OF11_seen {x0 : Nat} {x1 : Int32} {x2 : Int32} {x3 : Int32} {hp : m_H} {x : (Int32 ⊕ Nat) × m_H} (h : F11_seen x0 x1 x2 x3 hp = some x) : m_isO hp 8 x0 = true := (m_gdd h).1
theorem SF11_seen {xs : Nat → Int32} {L : Nat} {x0 : Nat} {x1 : Int32} {x2 : Int32} {x3 : Int32} {hp : m_H} {x : (Int32 ⊕ Nat) × m_H} (h : F11_seen x0 x1 x2 x3 hp = some x) : m_Rn xs L 8 2231 0 (lv_args 0 [.ref x0, .int x1, .int x2, .int x3]) [] hp (m_xI x) :=
  r_lv (SF11_seen_0 x0 x1 x2 x3 hp (K := fun y => y = x) (fun y e => by rw [e]) (m_gdd h).2 rfl) rfl ⟨rfl, rfl, rfl, rfl, trivial⟩
-- F11_whence: LendHouse.whence(IIZ)I
theorem eF11_whence_0 : m_Fe mi11_32 0 (m_ap [(.iload_n 1, 1)] ((.invokestatic 182, 3) :: (m_ap [(.iload_n 2, 1)] ((.invokestatic 118, 3) :: (m_ap [(.iload_n 1, 1)] ((.invokestatic 185, 3) :: (m_ap [(.iload_n 3, 1)] ([(.ifCond .eq 14, 3)])))))))) := m_Fe_of nd2232 0 8 rfl
theorem eF11_whence_27 : m_Fe mi11_32 27 (m_ap [(.aload_n 0, 1)] ((.getfield 42, 3) :: (m_ap [(.iload_n 1, 1), (.iload_n 2, 1)] ([(.invokestatic 387, 3)])))) := m_Fe_of nd2232 13 5 rfl
theorem eF11_whence_36 : m_Fe mi11_32 36 ([(.ireturn, 1)]) := m_Fe_of nd2232 18 1 rfl
theorem eF11_whence_16 : m_Fe mi11_32 16 (m_ap [(.aload_n 0, 1)] ((.getfield 42, 3) :: (m_ap [(.iload_n 2, 1)] ((.invokestatic 383, 3) :: ([(.goto 12, 3)]))))) := m_Fe_of nd2232 8 5 rfl
theorem SF11_whence_0 {xs : Nat → Int32} {L : Nat} (x0 : Nat) (x1 : Int32) (x2 : Int32) (x3 : Int32) (hp : m_H) {r : m_O × m_H} {K : ((Int32 ⊕ Nat) × m_H) → Prop} (k0 : ∀ x, K x → r = (m_xI x)) {t : (Int32 ⊕ Nat) × m_H} (h : F11_whence_0 x0 x1 x2 x3 hp = some t) (hK : K t) : m_Rn xs L 8 2232 0 [(0, .ref x0), (1, .int x1), (2, .int x2), (3, .int x3)] [] hp r := by
  unfold F11_whence_0 at h
  refine g_in eF11_whence_0 mx2232 ?_
  refine g_ch [(0, .ref x0), (1, .int x1), (2, .int x2), (3, .int x3)] [.int x1] (pc' := 1) rfl rfl rfl ?_
  obtain ⟨z2, e1, h⟩ := m_bd h
  rcases m_sxd h with ⟨u27, e3, h⟩ | ⟨E4, e3, h⟩
  · have q5 := (SF11_testLand (xs := xs) (L := L) e1)
    unfold m_xV at q5
    rw [e3] at q5
    refine g_call (v := none) (h := z2.2) (st' := []) (D1 := 7) (as := [.int x1]) (Or.inl rfl) q11_m182 (m_cs (as := [.int x1]) (rest := []) q11_m182 jv2252 rfl rfl rfl rfl rfl) (by decide) q5 rfl ?_
    refine g_ch [(0, .ref x0), (1, .int x1), (2, .int x2), (3, .int x3)] [.int x2] (pc' := 5) rfl rfl rfl ?_
    obtain ⟨z7, e6, h⟩ := m_bd h
    rcases m_sxd h with ⟨u26, e8, h⟩ | ⟨E9, e8, h⟩
    · have q10 := (SF11_testSort (xs := xs) (L := L) e6)
      unfold m_xV at q10
      rw [e8] at q10
      refine g_call (v := none) (h := z7.2) (st' := []) (D1 := 7) (as := [.int x2]) (Or.inl rfl) q11_m118 (m_cs (as := [.int x2]) (rest := []) q11_m118 jv2254 rfl rfl rfl rfl rfl) (by decide) q10 rfl ?_
      refine g_ch [(0, .ref x0), (1, .int x1), (2, .int x2), (3, .int x3)] [.int x1] (pc' := 9) rfl rfl rfl ?_
      obtain ⟨z12, e11, h⟩ := m_bd h
      rcases m_sxd h with ⟨u25, e13, h⟩ | ⟨E14, e13, h⟩
      · have q15 := (SF11_testAbroad (xs := xs) (L := L) e11)
        unfold m_xV at q15
        rw [e13] at q15
        refine g_call (v := none) (h := z12.2) (st' := []) (D1 := 7) (as := [.int x1]) (Or.inl rfl) q11_m185 (m_cs (as := [.int x1]) (rest := []) q11_m185 jv2253 rfl rfl rfl rfl rfl) (by decide) q15 rfl ?_
        refine g_ch [(0, .ref x0), (1, .int x1), (2, .int x2), (3, .int x3)] [.int x3] (pc' := 13) rfl rfl rfl ?_
        rcases m_ifd h with ⟨c16, h⟩ | ⟨c16, h⟩
        · refine g_ifc (t := 27) rfl (m_eqT c16) ?_
          refine g_in eF11_whence_27 mx2232 ?_
          refine g_ch [(0, .ref x0), (1, .int x1), (2, .int x2), (3, .int x3)] [.ref x0] (pc' := 28) rfl rfl rfl ?_
          obtain ⟨v17, e18, h⟩ := m_bd h
          refine g_gr q11_f42 e18 ?_
          refine g_ch [(0, .ref x0), (1, .int x1), (2, .int x2), (3, .int x3)] [.int x2, .int x1, .ref v17] (pc' := 33) rfl rfl rfl ?_
          obtain ⟨v20, e19, h⟩ := m_bd h
          refine g_call (v := some (.int v20)) (h := z12.2) (st' := [.int v20]) (D1 := 7) (as := [.ref v17, .int x1, .int x2]) (Or.inl rfl) q11_m387 (m_cs (as := [.int x2, .int x1, .ref v17]) (rest := []) q11_m387 jv1012 rfl rfl rfl rfl rfl) (by decide) (SF5_unexplained e19) rfl ?_
          refine g_end ?_
          refine g_in eF11_whence_36 mx2232 ?_
          cases h
          rw [k0 _ hK]
          exact g_iret rfl rfl
        · refine g_ifcn (t := 27) rfl (m_eqF c16) ?_
          refine g_in eF11_whence_16 mx2232 ?_
          refine g_ch [(0, .ref x0), (1, .int x1), (2, .int x2), (3, .int x3)] [.ref x0] (pc' := 17) rfl rfl rfl ?_
          obtain ⟨v21, e22, h⟩ := m_bd h
          refine g_gr q11_f42 e22 ?_
          refine g_ch [(0, .ref x0), (1, .int x1), (2, .int x2), (3, .int x3)] [.int x2, .ref v21] (pc' := 21) rfl rfl rfl ?_
          obtain ⟨v24, e23, h⟩ := m_bd h
          refine g_call (v := some (.int v24)) (h := z12.2) (st' := [.int v24]) (D1 := 2) (as := [.ref v21, .int x2]) (Or.inl rfl) q11_m383 (m_cs (as := [.int x2, .ref v21]) (rest := []) q11_m383 jv1013 rfl rfl rfl rfl rfl) (by decide) (SF5_landsWith e23) rfl ?_
          refine g_goto (t := 36) rfl ?_
          refine g_in eF11_whence_36 mx2232 ?_
          cases h
          rw [k0 _ hK]
          exact g_iret rfl rfl
      · have q15 := (SF11_testAbroad (xs := xs) (L := L) e11)
        unfold m_xV at q15
        rw [e13] at q15
        cases h
        rw [k0 _ hK]
        exact g_callX (D1 := 7) (as := [.int x1]) (Or.inl rfl) q11_m185 (m_cs (as := [.int x1]) (rest := []) q11_m185 jv2253 rfl rfl rfl rfl rfl) (by decide) q15 rfl
    · have q10 := (SF11_testSort (xs := xs) (L := L) e6)
      unfold m_xV at q10
      rw [e8] at q10
      cases h
      rw [k0 _ hK]
      exact g_callX (D1 := 7) (as := [.int x2]) (Or.inl rfl) q11_m118 (m_cs (as := [.int x2]) (rest := []) q11_m118 jv2254 rfl rfl rfl rfl rfl) (by decide) q10 rfl
  · have q5 := (SF11_testLand (xs := xs) (L := L) e1)
    unfold m_xV at q5
    rw [e3] at q5
    cases h
    rw [k0 _ hK]
    exact g_callX (D1 := 7) (as := [.int x1]) (Or.inl rfl) q11_m182 (m_cs (as := [.int x1]) (rest := []) q11_m182 jv2252 rfl rfl rfl rfl rfl) (by decide) q5 rfl
theorem OF11_whence {x0 : Nat} {x1 : Int32} {x2 : Int32} {x3 : Int32} {hp : m_H} {x : (Int32 ⊕ Nat) × m_H} (h : F11_whence x0 x1 x2 x3 hp = some x) : m_isO hp 8 x0 = true := (m_gdd h).1
theorem SF11_whence {xs : Nat → Int32} {L : Nat} {x0 : Nat} {x1 : Int32} {x2 : Int32} {x3 : Int32} {hp : m_H} {x : (Int32 ⊕ Nat) × m_H} (h : F11_whence x0 x1 x2 x3 hp = some x) : m_Rn xs L 8 2232 0 (lv_args 0 [.ref x0, .int x1, .int x2, .int x3]) [] hp (m_xI x) :=
  r_lv (SF11_whence_0 x0 x1 x2 x3 hp (K := fun y => y = x) (fun y e => by rw [e]) (m_gdd h).2 rfl) rfl ⟨rfl, rfl, rfl, rfl, trivial⟩
-- F11_tear: LendHouse.tear(II)I
theorem eF11_tear_0 : m_Fe mi11_33 0 (m_ap [(.bipush 6, 2), (.aload_n 0, 1)] ((.getfield 42, 3) :: ((.getfield 368, 3) :: ((.getfield 371, 3) :: ((.invokestatic 245, 3) :: (m_ap [(.istore_n 3, 1), (.iload_n 1, 1), (.iconst 0, 1), (.iload_n 3, 1), (.iconst 1, 1), (.isub, 1)] ((.invokestatic 79, 3) :: ([(.ifCond .eq 14, 3)])))))))) := m_Fe_of nd2233 0 14 rfl
theorem eF11_tear_38 : m_Fe mi11_33 38 (m_ap [(.aload_n 0, 1)] ((.getfield 42, 3) :: ((.getfield 368, 3) :: ((.getfield 371, 3) :: (m_ap [(.iload_n 3, 1), (.isub, 1), (.iload_n 1, 1), (.iadd, 1), (.istore 4, 2), (.aload_n 0, 1)] ((.getfield 42, 3) :: ((.getfield 368, 3) :: (m_ap [(.iload 4, 2), (.iconst 2, 1)] ((.invokevirtual 179, 3) :: (m_ap [(.iload_n 2, 1), (.ixor, 1), (.istore 5, 2), (.aload_n 0, 1)] ((.getfield 42, 3) :: ((.getfield 368, 3) :: (m_ap [(.iload 4, 2), (.iconst 2, 1), (.iload 5, 2)] ((.invokevirtual 127, 3) :: (m_ap [(.iload 5, 2)] ([(.ireturn, 1)])))))))))))))))) := m_Fe_of nd2233 19 27 rfl
theorem eF11_tear_27 : m_Fe mi11_33 27 ([(.new 171, 3)]) := m_Fe_of nd2233 14 1 rfl
theorem SF11_tear_0 {xs : Nat → Int32} {L : Nat} (x0 : Nat) (x1 : Int32) (x2 : Int32) (hp : m_H) {r : m_O × m_H} {K : ((Int32 ⊕ Nat) × m_H) → Prop} (k0 : ∀ x, K x → r = (m_xI x)) {t : (Int32 ⊕ Nat) × m_H} (h : F11_tear_0 x0 x1 x2 hp = some t) (hK : K t) : m_Rn xs L 7 2233 0 [(0, .ref x0), (1, .int x1), (2, .int x2)] [] hp r := by
  unfold F11_tear_0 at h
  refine g_in eF11_tear_0 mx2233 ?_
  refine g_ch [(0, .ref x0), (1, .int x1), (2, .int x2)] [.ref x0, .int 6] (pc' := 3) rfl rfl rfl ?_
  obtain ⟨v1, e2, h⟩ := m_bd h
  refine g_gr q11_f42 e2 ?_
  obtain ⟨v3, e4, h⟩ := m_bd h
  refine g_gr q11_f368 e4 ?_
  obtain ⟨v5, e6, h⟩ := m_bd h
  refine g_gi q11_f371 e6 ?_
  refine g_nat (Or.inl rfl) q11_m245 rfl (z := ([.int (m_min 6 v5)], hp)) rfl (by decide) ?_
  refine g_ch [(3, .int (m_min 6 v5)), (0, .ref x0), (1, .int x1), (2, .int x2)] [.int ((m_min 6 v5) - 1), .int 0, .int x1] (pc' := 21) rfl rfl rfl ?_
  obtain ⟨v8, e7, h⟩ := m_bd h
  refine g_call (v := some (.int v8)) (h := hp) (st' := [.int v8]) (D1 := 0) (as := [.int x1, .int 0, .int ((m_min 6 v5) - 1)]) (Or.inl rfl) q11_m79 (m_cs (as := [.int ((m_min 6 v5) - 1), .int 0, .int x1]) (rest := []) q11_m79 jv2251 rfl rfl rfl rfl rfl) (by decide) (SF11_outside e7) rfl ?_
  rcases m_ifd h with ⟨c9, h⟩ | ⟨c9, h⟩
  · refine g_ifc (t := 38) rfl (m_eqT c9) ?_
    refine g_in eF11_tear_38 mx2233 ?_
    refine g_ch [(3, .int (m_min 6 v5)), (0, .ref x0), (1, .int x1), (2, .int x2)] [.ref x0] (pc' := 39) rfl rfl rfl ?_
    obtain ⟨v10, e11, h⟩ := m_bd h
    refine g_gr q11_f42 e11 ?_
    obtain ⟨v12, e13, h⟩ := m_bd h
    refine g_gr q11_f368 e13 ?_
    obtain ⟨v14, e15, h⟩ := m_bd h
    refine g_gi q11_f371 e15 ?_
    refine g_ch [(4, .int ((v14 - (m_min 6 v5)) + x1)), (3, .int (m_min 6 v5)), (0, .ref x0), (1, .int x1), (2, .int x2)] [.ref x0] (pc' := 55) rfl rfl rfl ?_
    obtain ⟨v16, e17, h⟩ := m_bd h
    refine g_gr q11_f42 e17 ?_
    obtain ⟨v18, e19, h⟩ := m_bd h
    refine g_gr q11_f368 e19 ?_
    refine g_ch [(4, .int ((v14 - (m_min 6 v5)) + x1)), (3, .int (m_min 6 v5)), (0, .ref x0), (1, .int x1), (2, .int x2)] [.int 2, .int ((v14 - (m_min 6 v5)) + x1), .ref v18] (pc' := 64) rfl rfl rfl ?_
    obtain ⟨v21, e20, h⟩ := m_bd h
    refine g_call (v := some (.int v21)) (h := hp) (st' := [.int v21]) (D1 := 1) (as := [.ref v18, .int ((v14 - (m_min 6 v5)) + x1), .int 2]) (Or.inr (Or.inl rfl)) q11_m179 (m_cv (as := [.int 2, .int ((v14 - (m_min 6 v5)) + x1)]) (rest := []) (Or.inl rfl) q11_m179 jv1604 (OF8_get e20) rfl rfl rfl rfl) (by decide) (SF8_get e20) rfl ?_
    refine g_ch [(5, .int (v21 ^^^ x2)), (4, .int ((v14 - (m_min 6 v5)) + x1)), (3, .int (m_min 6 v5)), (0, .ref x0), (1, .int x1), (2, .int x2)] [.ref x0] (pc' := 72) rfl rfl rfl ?_
    obtain ⟨v22, e23, h⟩ := m_bd h
    refine g_gr q11_f42 e23 ?_
    obtain ⟨v24, e25, h⟩ := m_bd h
    refine g_gr q11_f368 e25 ?_
    refine g_ch [(5, .int (v21 ^^^ x2)), (4, .int ((v14 - (m_min 6 v5)) + x1)), (3, .int (m_min 6 v5)), (0, .ref x0), (1, .int x1), (2, .int x2)] [.int (v21 ^^^ x2), .int 2, .int ((v14 - (m_min 6 v5)) + x1), .ref v24] (pc' := 83) rfl rfl rfl ?_
    obtain ⟨h27, e26, h⟩ := m_bd h
    refine g_call (v := none) (h := h27) (st' := []) (D1 := 1) (as := [.ref v24, .int ((v14 - (m_min 6 v5)) + x1), .int 2, .int (v21 ^^^ x2)]) (Or.inr (Or.inl rfl)) q11_m127 (m_cv (as := [.int (v21 ^^^ x2), .int 2, .int ((v14 - (m_min 6 v5)) + x1)]) (rest := []) (Or.inl rfl) q11_m127 jv1605 (OF8_set e26) rfl rfl rfl rfl) (by decide) (SF8_set e26) rfl ?_
    refine g_ch [(5, .int (v21 ^^^ x2)), (4, .int ((v14 - (m_min 6 v5)) + x1)), (3, .int (m_min 6 v5)), (0, .ref x0), (1, .int x1), (2, .int x2)] [.int (v21 ^^^ x2)] (pc' := 88) rfl rfl rfl ?_
    cases h
    rw [k0 _ hK]
    exact g_iret rfl rfl
  · refine g_ifcn (t := 38) rfl (m_eqF c9) ?_
    refine g_in eF11_tear_27 mx2233 ?_
    cases h
    rw [k0 _ hK]
    exact g_thr (by decide +kernel) (by decide) rfl
theorem OF11_tear {x0 : Nat} {x1 : Int32} {x2 : Int32} {hp : m_H} {x : (Int32 ⊕ Nat) × m_H} (h : F11_tear x0 x1 x2 hp = some x) : m_isO hp 8 x0 = true := (m_gdd h).1
theorem SF11_tear {xs : Nat → Int32} {L : Nat} {x0 : Nat} {x1 : Int32} {x2 : Int32} {hp : m_H} {x : (Int32 ⊕ Nat) × m_H} (h : F11_tear x0 x1 x2 hp = some x) : m_Rn xs L 7 2233 0 (lv_args 0 [.ref x0, .int x1, .int x2]) [] hp (m_xI x) :=
  r_lv (SF11_tear_0 x0 x1 x2 hp (K := fun y => y = x) (fun y e => by rw [e]) (m_gdd h).2 rfl) rfl ⟨rfl, rfl, rfl, trivial⟩
-- F11_check: LendHouse.check()I
theorem eF11_check_0 : m_Fe mi11_34 0 (m_ap [(.bipush 6, 2), (.aload_n 0, 1)] ((.getfield 42, 3) :: ((.getfield 368, 3) :: ((.getfield 371, 3) :: ((.invokestatic 245, 3) :: (m_ap [(.istore_n 1, 1), (.iconst 0, 1), (.istore_n 2, 1)] ([]))))))) := m_Fe_of nd2234 0 9 rfl
theorem eF11_check_18 : m_Fe mi11_34 18 (m_ap [(.iload_n 2, 1), (.iload_n 1, 1)] ([(.if_icmp .ge 53, 3)])) := m_Fe_of nd2234 9 3 rfl
theorem eF11_check_73 : m_Fe mi11_34 73 (m_ap [(.iconst (-1), 1)] ([(.ireturn, 1)])) := m_Fe_of nd2234 38 2 rfl
theorem eF11_check_23 : m_Fe mi11_34 23 (m_ap [(.aload_n 0, 1)] ((.getfield 42, 3) :: ((.getfield 368, 3) :: ((.getfield 371, 3) :: (m_ap [(.iload_n 1, 1), (.isub, 1), (.iload_n 2, 1), (.iadd, 1), (.istore_n 3, 1), (.aload_n 0, 1)] ((.getfield 42, 3) :: ((.getfield 368, 3) :: (m_ap [(.iload_n 3, 1), (.iconst 2, 1)] ((.invokevirtual 179, 3) :: (m_ap [(.aload_n 0, 1)] ((.getfield 42, 3) :: ((.getfield 368, 3) :: (m_ap [(.iload_n 3, 1), (.iconst 4, 1)] ((.invokevirtual 179, 3) :: ([(.if_icmp .eq 5, 3)]))))))))))))))) := m_Fe_of nd2234 12 22 rfl
theorem eF11_check_67 : m_Fe mi11_34 67 (m_ap [(.iinc 2 1, 3)] ([(.goto (-52), 3)])) := m_Fe_of nd2234 36 2 rfl
theorem eF11_check_65 : m_Fe mi11_34 65 (m_ap [(.iload_n 2, 1)] ([(.ireturn, 1)])) := m_Fe_of nd2234 34 2 rfl
theorem SF11_check_18b {xs : Nat → Int32} {L : Nat} (x0 : Nat) (x1 : Int32) (hp : m_H) (s : Int32) {r : m_O × m_H} {K : (Int32 ⊕ Int32) → Prop} (k0 : ∀ x, K (.inr x) → r = (.inl (some (.int x)), hp)) (k1 : ∀ s, K (.inl s) → m_Rn xs L 7 2234 18 [(0, .ref x0), (1, .int x1), (2, .int s)] [] hp r) {t : Int32 ⊕ Int32} (h : F11_check_18b x0 x1 hp s = some t) (hK : K t) : m_Rn xs L 7 2234 18 [(0, .ref x0), (1, .int x1), (2, .int s)] [] hp r := by
  unfold F11_check_18b at h
  refine g_in eF11_check_18 mx2234 ?_
  refine g_ch [(0, .ref x0), (1, .int x1), (2, .int s)] [.int x1, .int s] (pc' := 20) rfl rfl rfl ?_
  rcases m_ifd h with ⟨c1, h⟩ | ⟨c1, h⟩
  · refine g_if (t := 73) rfl (m_geT c1) ?_
    refine g_in eF11_check_73 mx2234 ?_
    refine g_ch [(0, .ref x0), (1, .int x1), (2, .int s)] [.int (-1)] (pc' := 74) rfl rfl rfl ?_
    cases h
    rw [k0 _ hK]
    exact g_iret rfl rfl
  · refine g_ifn (t := 73) rfl (m_geF c1) ?_
    refine g_in eF11_check_23 mx2234 ?_
    refine g_ch [(0, .ref x0), (1, .int x1), (2, .int s)] [.ref x0] (pc' := 24) rfl rfl rfl ?_
    obtain ⟨v2, e3, h⟩ := m_bd h
    refine g_gr q11_f42 e3 ?_
    obtain ⟨v4, e5, h⟩ := m_bd h
    refine g_gr q11_f368 e5 ?_
    obtain ⟨v6, e7, h⟩ := m_bd h
    refine g_gi q11_f371 e7 ?_
    refine g_ch [(3, .int ((v6 - x1) + s)), (0, .ref x0), (1, .int x1), (2, .int s)] [.ref x0] (pc' := 39) rfl rfl rfl ?_
    obtain ⟨v8, e9, h⟩ := m_bd h
    refine g_gr q11_f42 e9 ?_
    obtain ⟨v10, e11, h⟩ := m_bd h
    refine g_gr q11_f368 e11 ?_
    refine g_ch [(3, .int ((v6 - x1) + s)), (0, .ref x0), (1, .int x1), (2, .int s)] [.int 2, .int ((v6 - x1) + s), .ref v10] (pc' := 47) rfl rfl rfl ?_
    obtain ⟨v13, e12, h⟩ := m_bd h
    refine g_call (v := some (.int v13)) (h := hp) (st' := [.int v13]) (D1 := 1) (as := [.ref v10, .int ((v6 - x1) + s), .int 2]) (Or.inr (Or.inl rfl)) q11_m179 (m_cv (as := [.int 2, .int ((v6 - x1) + s)]) (rest := []) (Or.inl rfl) q11_m179 jv1604 (OF8_get e12) rfl rfl rfl rfl) (by decide) (SF8_get e12) rfl ?_
    refine g_ch [(3, .int ((v6 - x1) + s)), (0, .ref x0), (1, .int x1), (2, .int s)] [.ref x0, .int v13] (pc' := 51) rfl rfl rfl ?_
    obtain ⟨v14, e15, h⟩ := m_bd h
    refine g_gr q11_f42 e15 ?_
    obtain ⟨v16, e17, h⟩ := m_bd h
    refine g_gr q11_f368 e17 ?_
    refine g_ch [(3, .int ((v6 - x1) + s)), (0, .ref x0), (1, .int x1), (2, .int s)] [.int 4, .int ((v6 - x1) + s), .ref v16, .int v13] (pc' := 59) rfl rfl rfl ?_
    obtain ⟨v19, e18, h⟩ := m_bd h
    refine g_call (v := some (.int v19)) (h := hp) (st' := [.int v19, .int v13]) (D1 := 1) (as := [.ref v16, .int ((v6 - x1) + s), .int 4]) (Or.inr (Or.inl rfl)) q11_m179 (m_cv (as := [.int 4, .int ((v6 - x1) + s)]) (rest := [.int v13]) (Or.inl rfl) q11_m179 jv1604 (OF8_get e18) rfl rfl rfl rfl) (by decide) (SF8_get e18) rfl ?_
    rcases m_ifd h with ⟨c20, h⟩ | ⟨c20, h⟩
    · refine g_if (t := 67) rfl (m_eqT c20) ?_
      refine g_in eF11_check_67 mx2234 ?_
      refine g_ch [(2, .int (s + 1)), (3, .int ((v6 - x1) + s)), (0, .ref x0), (1, .int x1)] [] (pc' := 70) rfl rfl rfl ?_
      refine g_goto (t := 18) rfl ?_
      cases h
      exact r_lv (k1 (s + 1) hK) rfl ⟨rfl, rfl, rfl, trivial⟩
    · refine g_ifn (t := 67) rfl (m_eqF c20) ?_
      refine g_in eF11_check_65 mx2234 ?_
      refine g_ch [(3, .int ((v6 - x1) + s)), (0, .ref x0), (1, .int x1), (2, .int s)] [.int s] (pc' := 66) rfl rfl rfl ?_
      cases h
      rw [k0 _ hK]
      exact g_iret rfl rfl
theorem SF11_check_18 {xs : Nat → Int32} {L : Nat} (x0 : Nat) (x1 : Int32) (x2 : Int32) (hp : m_H) {r : m_O × m_H} {K : Int32 → Prop} (k0 : ∀ x, K x → r = (.inl (some (.int x)), hp)) {t : Int32} (h : F11_check_18 x0 x1 x2 hp = some t) (hK : K t) : m_Rn xs L 7 2234 18 [(0, .ref x0), (1, .int x1), (2, .int x2)] [] hp r :=
  m_wh_ok (P := fun s => m_Rn xs L 7 2234 18 [(0, .ref x0), (1, .int x1), (2, .int s)] [] hp r) (Q := K) (fun s t hb hK => SF11_check_18b x0 x1 hp s (K := m_KK (fun s => m_Rn xs L 7 2234 18 [(0, .ref x0), (1, .int x1), (2, .int s)] [] hp r) K) k0 (fun _ q => q) hb hK) m_N _ _ h hK
theorem SF11_check_0 {xs : Nat → Int32} {L : Nat} (x0 : Nat) (hp : m_H) {r : m_O × m_H} {K : Int32 → Prop} (k0 : ∀ x, K x → r = (.inl (some (.int x)), hp)) {t : Int32} (h : F11_check_0 x0 hp = some t) (hK : K t) : m_Rn xs L 7 2234 0 [(0, .ref x0)] [] hp r := by
  unfold F11_check_0 at h
  refine g_in eF11_check_0 mx2234 ?_
  refine g_ch [(0, .ref x0)] [.ref x0, .int 6] (pc' := 3) rfl rfl rfl ?_
  obtain ⟨v1, e2, h⟩ := m_bd h
  refine g_gr q11_f42 e2 ?_
  obtain ⟨v3, e4, h⟩ := m_bd h
  refine g_gr q11_f368 e4 ?_
  obtain ⟨v5, e6, h⟩ := m_bd h
  refine g_gi q11_f371 e6 ?_
  refine g_nat (Or.inl rfl) q11_m245 rfl (z := ([.int (m_min 6 v5)], hp)) rfl (by decide) ?_
  refine g_ch [(2, .int 0), (1, .int (m_min 6 v5)), (0, .ref x0)] [] (pc' := 18) rfl rfl rfl ?_
  refine g_end ?_
  exact r_lv (SF11_check_18 x0 (m_min 6 v5) 0 hp (K := K) k0 h hK) rfl ⟨rfl, rfl, rfl, trivial⟩
theorem OF11_check {x0 : Nat} {hp : m_H} {x : Int32} (h : F11_check x0 hp = some x) : m_isO hp 8 x0 = true := (m_gdd h).1
theorem SF11_check {xs : Nat → Int32} {L : Nat} {x0 : Nat} {hp : m_H} {x : Int32} (h : F11_check x0 hp = some x) : m_Rn xs L 7 2234 0 (lv_args 0 [.ref x0]) [] hp (.inl (some (.int x)), hp) :=
  r_lv (SF11_check_0 x0 hp (K := fun y => y = x) (fun y e => by rw [e]) (m_gdd h).2 rfl) rfl ⟨rfl, trivial⟩
-- F11_rock: LendHouse.rock(IIII)I
theorem eF11_rock_0 : m_Fe mi11_35 0 (m_ap [(.iload_n 1, 1)] ((.invokestatic 182, 3) :: (m_ap [(.iload_n 1, 1)] ((.invokestatic 185, 3) :: (m_ap [(.iload_n 2, 1), (.iconst 1, 1), (.sipush 500, 3)] ((.invokestatic 79, 3) :: ([(.ifCond .ne 26, 3)]))))))) := m_Fe_of nd2235 0 9 rfl
theorem eF11_rock_42 : m_Fe mi11_35 42 ([(.new 83, 3)]) := m_Fe_of nd2235 19 1 rfl
theorem eF11_rock_19 : m_Fe mi11_35 19 (m_ap [(.iload_n 3, 1), (.iconst 0, 1), (.sipush 10000, 3)] ((.invokestatic 79, 3) :: ([(.ifCond .ne 15, 3)]))) := m_Fe_of nd2235 9 5 rfl
theorem eF11_rock_30 : m_Fe mi11_35 30 (m_ap [(.iload 4, 2), (.iconst 0, 1), (.sipush 1000, 3)] ((.invokestatic 79, 3) :: ([(.ifCond .eq 14, 3)]))) := m_Fe_of nd2235 14 5 rfl
theorem eF11_rock_53 : m_Fe mi11_35 53 (m_ap [(.aload_n 0, 1)] ((.getfield 42, 3) :: ((.getfield 394, 3) :: ((.invokevirtual 193, 3) :: ([(.ifCond .eq 14, 3)]))))) := m_Fe_of nd2235 24 5 rfl
theorem eF11_rock_77 : m_Fe mi11_35 77 (m_ap [(.aload_n 0, 1)] ((.getfield 42, 3) :: ((.getfield 394, 3) :: ((.invokevirtual 199, 3) :: (m_ap [(.istore 5, 2), (.aload_n 0, 1)] ((.getfield 42, 3) :: ((.getfield 394, 3) :: (m_ap [(.iload 5, 2), (.iconst 0, 1), (.iload_n 1, 1)] ((.invokevirtual 127, 3) :: (m_ap [(.aload_n 0, 1)] ((.getfield 42, 3) :: ((.getfield 394, 3) :: (m_ap [(.iload 5, 2), (.iconst 1, 1), (.aload_n 0, 1)] ((.getfield 42, 3) :: ((.getfield 76, 3) :: ((.invokevirtual 127, 3) :: (m_ap [(.aload_n 0, 1)] ((.getfield 42, 3) :: ((.getfield 394, 3) :: (m_ap [(.iload 5, 2), (.iconst 2, 1), (.iload_n 2, 1)] ((.invokevirtual 127, 3) :: (m_ap [(.aload_n 0, 1)] ((.getfield 42, 3) :: ((.getfield 394, 3) :: (m_ap [(.iload 5, 2), (.iconst 3, 1), (.iload_n 3, 1)] ((.invokevirtual 127, 3) :: (m_ap [(.aload_n 0, 1)] ((.getfield 42, 3) :: ((.getfield 394, 3) :: (m_ap [(.iload 5, 2), (.iconst 4, 1), (.iload 4, 2)] ((.invokevirtual 127, 3) :: (m_ap [(.iload 5, 2)] ([(.ireturn, 1)]))))))))))))))))))))))))))))))))) := m_Fe_of nd2235 34 44 rfl
theorem eF11_rock_66 : m_Fe mi11_35 66 ([(.new 101, 3)]) := m_Fe_of nd2235 29 1 rfl
theorem SF11_rock_0 {xs : Nat → Int32} {L : Nat} (x0 : Nat) (x1 : Int32) (x2 : Int32) (x3 : Int32) (x4 : Int32) (hp : m_H) {r : m_O × m_H} {K : ((Int32 ⊕ Nat) × m_H) → Prop} (k0 : ∀ x, K x → r = (m_xI x)) {t : (Int32 ⊕ Nat) × m_H} (h : F11_rock_0 x0 x1 x2 x3 x4 hp = some t) (hK : K t) : m_Rn xs L 8 2235 0 [(0, .ref x0), (1, .int x1), (2, .int x2), (3, .int x3), (4, .int x4)] [] hp r := by
  unfold F11_rock_0 at h
  refine g_in eF11_rock_0 mx2235 ?_
  refine g_ch [(0, .ref x0), (1, .int x1), (2, .int x2), (3, .int x3), (4, .int x4)] [.int x1] (pc' := 1) rfl rfl rfl ?_
  obtain ⟨z2, e1, h⟩ := m_bd h
  rcases m_sxd h with ⟨u68, e3, h⟩ | ⟨E4, e3, h⟩
  · have q5 := (SF11_testLand (xs := xs) (L := L) e1)
    unfold m_xV at q5
    rw [e3] at q5
    refine g_call (v := none) (h := z2.2) (st' := []) (D1 := 7) (as := [.int x1]) (Or.inl rfl) q11_m182 (m_cs (as := [.int x1]) (rest := []) q11_m182 jv2252 rfl rfl rfl rfl rfl) (by decide) q5 rfl ?_
    refine g_ch [(0, .ref x0), (1, .int x1), (2, .int x2), (3, .int x3), (4, .int x4)] [.int x1] (pc' := 5) rfl rfl rfl ?_
    obtain ⟨z7, e6, h⟩ := m_bd h
    rcases m_sxd h with ⟨u67, e8, h⟩ | ⟨E9, e8, h⟩
    · have q10 := (SF11_testAbroad (xs := xs) (L := L) e6)
      unfold m_xV at q10
      rw [e8] at q10
      refine g_call (v := none) (h := z7.2) (st' := []) (D1 := 7) (as := [.int x1]) (Or.inl rfl) q11_m185 (m_cs (as := [.int x1]) (rest := []) q11_m185 jv2253 rfl rfl rfl rfl rfl) (by decide) q10 rfl ?_
      refine g_ch [(0, .ref x0), (1, .int x1), (2, .int x2), (3, .int x3), (4, .int x4)] [.int 500, .int 1, .int x2] (pc' := 13) rfl rfl rfl ?_
      obtain ⟨v12, e11, h⟩ := m_bd h
      refine g_call (v := some (.int v12)) (h := z7.2) (st' := [.int v12]) (D1 := 0) (as := [.int x2, .int 1, .int 500]) (Or.inl rfl) q11_m79 (m_cs (as := [.int 500, .int 1, .int x2]) (rest := []) q11_m79 jv2251 rfl rfl rfl rfl rfl) (by decide) (SF11_outside e11) rfl ?_
      rcases m_ifd h with ⟨c13, h⟩ | ⟨c13, h⟩
      · refine g_ifcn (t := 42) rfl (m_neF c13) ?_
        refine g_in eF11_rock_19 mx2235 ?_
        refine g_ch [(0, .ref x0), (1, .int x1), (2, .int x2), (3, .int x3), (4, .int x4)] [.int 10000, .int 0, .int x3] (pc' := 24) rfl rfl rfl ?_
        obtain ⟨v15, e14, h⟩ := m_bd h
        refine g_call (v := some (.int v15)) (h := z7.2) (st' := [.int v15]) (D1 := 0) (as := [.int x3, .int 0, .int 10000]) (Or.inl rfl) q11_m79 (m_cs (as := [.int 10000, .int 0, .int x3]) (rest := []) q11_m79 jv2251 rfl rfl rfl rfl rfl) (by decide) (SF11_outside e14) rfl ?_
        rcases m_ifd h with ⟨c16, h⟩ | ⟨c16, h⟩
        · refine g_ifcn (t := 42) rfl (m_neF c16) ?_
          refine g_in eF11_rock_30 mx2235 ?_
          refine g_ch [(0, .ref x0), (1, .int x1), (2, .int x2), (3, .int x3), (4, .int x4)] [.int 1000, .int 0, .int x4] (pc' := 36) rfl rfl rfl ?_
          obtain ⟨v18, e17, h⟩ := m_bd h
          refine g_call (v := some (.int v18)) (h := z7.2) (st' := [.int v18]) (D1 := 0) (as := [.int x4, .int 0, .int 1000]) (Or.inl rfl) q11_m79 (m_cs (as := [.int 1000, .int 0, .int x4]) (rest := []) q11_m79 jv2251 rfl rfl rfl rfl rfl) (by decide) (SF11_outside e17) rfl ?_
          rcases m_ifd h with ⟨c19, h⟩ | ⟨c19, h⟩
          · refine g_ifc (t := 53) rfl (m_eqT c19) ?_
            refine g_in eF11_rock_53 mx2235 ?_
            refine g_ch [(0, .ref x0), (1, .int x1), (2, .int x2), (3, .int x3), (4, .int x4)] [.ref x0] (pc' := 54) rfl rfl rfl ?_
            obtain ⟨v20, e21, h⟩ := m_bd h
            refine g_gr q11_f42 e21 ?_
            obtain ⟨v22, e23, h⟩ := m_bd h
            refine g_gr q11_f394 e23 ?_
            obtain ⟨v25, e24, h⟩ := m_bd h
            refine g_call (v := some (.int v25)) (h := z7.2) (st' := [.int v25]) (D1 := 0) (as := [.ref v22]) (Or.inr (Or.inl rfl)) q11_m193 (m_cv (as := []) (rest := []) (Or.inl rfl) q11_m193 jv1602 (OF8_full e24) rfl rfl rfl rfl) (by decide) (SF8_full e24) rfl ?_
            rcases m_ifd h with ⟨c26, h⟩ | ⟨c26, h⟩
            · refine g_ifc (t := 77) rfl (m_eqT c26) ?_
              refine g_in eF11_rock_77 mx2235 ?_
              refine g_ch [(0, .ref x0), (1, .int x1), (2, .int x2), (3, .int x3), (4, .int x4)] [.ref x0] (pc' := 78) rfl rfl rfl ?_
              obtain ⟨v27, e28, h⟩ := m_bd h
              refine g_gr q11_f42 e28 ?_
              obtain ⟨v29, e30, h⟩ := m_bd h
              refine g_gr q11_f394 e30 ?_
              obtain ⟨z32, e31, h⟩ := m_bd h
              refine g_call (v := some (.int z32.1)) (h := z32.2) (st' := [.int z32.1]) (D1 := 2) (as := [.ref v29]) (Or.inr (Or.inl rfl)) q11_m199 (m_cv (as := []) (rest := []) (Or.inl rfl) q11_m199 jv1607 (OF8_add e31) rfl rfl rfl rfl) (by decide) (SF8_add e31) rfl ?_
              refine g_ch [(5, .int z32.1), (0, .ref x0), (1, .int x1), (2, .int x2), (3, .int x3), (4, .int x4)] [.ref x0] (pc' := 90) rfl rfl rfl ?_
              obtain ⟨v33, e34, h⟩ := m_bd h
              refine g_gr q11_f42 e34 ?_
              obtain ⟨v35, e36, h⟩ := m_bd h
              refine g_gr q11_f394 e36 ?_
              refine g_ch [(5, .int z32.1), (0, .ref x0), (1, .int x1), (2, .int x2), (3, .int x3), (4, .int x4)] [.int x1, .int 0, .int z32.1, .ref v35] (pc' := 100) rfl rfl rfl ?_
              obtain ⟨h38, e37, h⟩ := m_bd h
              refine g_call (v := none) (h := h38) (st' := []) (D1 := 1) (as := [.ref v35, .int z32.1, .int 0, .int x1]) (Or.inr (Or.inl rfl)) q11_m127 (m_cv (as := [.int x1, .int 0, .int z32.1]) (rest := []) (Or.inl rfl) q11_m127 jv1605 (OF8_set e37) rfl rfl rfl rfl) (by decide) (SF8_set e37) rfl ?_
              refine g_ch [(5, .int z32.1), (0, .ref x0), (1, .int x1), (2, .int x2), (3, .int x3), (4, .int x4)] [.ref x0] (pc' := 104) rfl rfl rfl ?_
              obtain ⟨v39, e40, h⟩ := m_bd h
              refine g_gr q11_f42 e40 ?_
              obtain ⟨v41, e42, h⟩ := m_bd h
              refine g_gr q11_f394 e42 ?_
              refine g_ch [(5, .int z32.1), (0, .ref x0), (1, .int x1), (2, .int x2), (3, .int x3), (4, .int x4)] [.ref x0, .int 1, .int z32.1, .ref v41] (pc' := 114) rfl rfl rfl ?_
              obtain ⟨v43, e44, h⟩ := m_bd h
              refine g_gr q11_f42 e44 ?_
              obtain ⟨v45, e46, h⟩ := m_bd h
              refine g_gi q11_f76 e46 ?_
              obtain ⟨h48, e47, h⟩ := m_bd h
              refine g_call (v := none) (h := h48) (st' := []) (D1 := 1) (as := [.ref v41, .int z32.1, .int 1, .int v45]) (Or.inr (Or.inl rfl)) q11_m127 (m_cv (as := [.int v45, .int 1, .int z32.1]) (rest := []) (Or.inl rfl) q11_m127 jv1605 (OF8_set e47) rfl rfl rfl rfl) (by decide) (SF8_set e47) rfl ?_
              refine g_ch [(5, .int z32.1), (0, .ref x0), (1, .int x1), (2, .int x2), (3, .int x3), (4, .int x4)] [.ref x0] (pc' := 124) rfl rfl rfl ?_
              obtain ⟨v49, e50, h⟩ := m_bd h
              refine g_gr q11_f42 e50 ?_
              obtain ⟨v51, e52, h⟩ := m_bd h
              refine g_gr q11_f394 e52 ?_
              refine g_ch [(5, .int z32.1), (0, .ref x0), (1, .int x1), (2, .int x2), (3, .int x3), (4, .int x4)] [.int x2, .int 2, .int z32.1, .ref v51] (pc' := 134) rfl rfl rfl ?_
              obtain ⟨h54, e53, h⟩ := m_bd h
              refine g_call (v := none) (h := h54) (st' := []) (D1 := 1) (as := [.ref v51, .int z32.1, .int 2, .int x2]) (Or.inr (Or.inl rfl)) q11_m127 (m_cv (as := [.int x2, .int 2, .int z32.1]) (rest := []) (Or.inl rfl) q11_m127 jv1605 (OF8_set e53) rfl rfl rfl rfl) (by decide) (SF8_set e53) rfl ?_
              refine g_ch [(5, .int z32.1), (0, .ref x0), (1, .int x1), (2, .int x2), (3, .int x3), (4, .int x4)] [.ref x0] (pc' := 138) rfl rfl rfl ?_
              obtain ⟨v55, e56, h⟩ := m_bd h
              refine g_gr q11_f42 e56 ?_
              obtain ⟨v57, e58, h⟩ := m_bd h
              refine g_gr q11_f394 e58 ?_
              refine g_ch [(5, .int z32.1), (0, .ref x0), (1, .int x1), (2, .int x2), (3, .int x3), (4, .int x4)] [.int x3, .int 3, .int z32.1, .ref v57] (pc' := 148) rfl rfl rfl ?_
              obtain ⟨h60, e59, h⟩ := m_bd h
              refine g_call (v := none) (h := h60) (st' := []) (D1 := 1) (as := [.ref v57, .int z32.1, .int 3, .int x3]) (Or.inr (Or.inl rfl)) q11_m127 (m_cv (as := [.int x3, .int 3, .int z32.1]) (rest := []) (Or.inl rfl) q11_m127 jv1605 (OF8_set e59) rfl rfl rfl rfl) (by decide) (SF8_set e59) rfl ?_
              refine g_ch [(5, .int z32.1), (0, .ref x0), (1, .int x1), (2, .int x2), (3, .int x3), (4, .int x4)] [.ref x0] (pc' := 152) rfl rfl rfl ?_
              obtain ⟨v61, e62, h⟩ := m_bd h
              refine g_gr q11_f42 e62 ?_
              obtain ⟨v63, e64, h⟩ := m_bd h
              refine g_gr q11_f394 e64 ?_
              refine g_ch [(5, .int z32.1), (0, .ref x0), (1, .int x1), (2, .int x2), (3, .int x3), (4, .int x4)] [.int x4, .int 4, .int z32.1, .ref v63] (pc' := 163) rfl rfl rfl ?_
              obtain ⟨h66, e65, h⟩ := m_bd h
              refine g_call (v := none) (h := h66) (st' := []) (D1 := 1) (as := [.ref v63, .int z32.1, .int 4, .int x4]) (Or.inr (Or.inl rfl)) q11_m127 (m_cv (as := [.int x4, .int 4, .int z32.1]) (rest := []) (Or.inl rfl) q11_m127 jv1605 (OF8_set e65) rfl rfl rfl rfl) (by decide) (SF8_set e65) rfl ?_
              refine g_ch [(5, .int z32.1), (0, .ref x0), (1, .int x1), (2, .int x2), (3, .int x3), (4, .int x4)] [.int z32.1] (pc' := 168) rfl rfl rfl ?_
              cases h
              rw [k0 _ hK]
              exact g_iret rfl rfl
            · refine g_ifcn (t := 77) rfl (m_eqF c26) ?_
              refine g_in eF11_rock_66 mx2235 ?_
              cases h
              rw [k0 _ hK]
              exact g_thr (by decide +kernel) (by decide) rfl
          · refine g_ifcn (t := 53) rfl (m_eqF c19) ?_
            refine g_in eF11_rock_42 mx2235 ?_
            cases h
            rw [k0 _ hK]
            exact g_thr (by decide +kernel) (by decide) rfl
        · refine g_ifc (t := 42) rfl (m_neT c16) ?_
          refine g_in eF11_rock_42 mx2235 ?_
          cases h
          rw [k0 _ hK]
          exact g_thr (by decide +kernel) (by decide) rfl
      · refine g_ifc (t := 42) rfl (m_neT c13) ?_
        refine g_in eF11_rock_42 mx2235 ?_
        cases h
        rw [k0 _ hK]
        exact g_thr (by decide +kernel) (by decide) rfl
    · have q10 := (SF11_testAbroad (xs := xs) (L := L) e6)
      unfold m_xV at q10
      rw [e8] at q10
      cases h
      rw [k0 _ hK]
      exact g_callX (D1 := 7) (as := [.int x1]) (Or.inl rfl) q11_m185 (m_cs (as := [.int x1]) (rest := []) q11_m185 jv2253 rfl rfl rfl rfl rfl) (by decide) q10 rfl
  · have q5 := (SF11_testLand (xs := xs) (L := L) e1)
    unfold m_xV at q5
    rw [e3] at q5
    cases h
    rw [k0 _ hK]
    exact g_callX (D1 := 7) (as := [.int x1]) (Or.inl rfl) q11_m182 (m_cs (as := [.int x1]) (rest := []) q11_m182 jv2252 rfl rfl rfl rfl rfl) (by decide) q5 rfl
theorem OF11_rock {x0 : Nat} {x1 : Int32} {x2 : Int32} {x3 : Int32} {x4 : Int32} {hp : m_H} {x : (Int32 ⊕ Nat) × m_H} (h : F11_rock x0 x1 x2 x3 x4 hp = some x) : m_isO hp 8 x0 = true := (m_gdd h).1
theorem SF11_rock {xs : Nat → Int32} {L : Nat} {x0 : Nat} {x1 : Int32} {x2 : Int32} {x3 : Int32} {x4 : Int32} {hp : m_H} {x : (Int32 ⊕ Nat) × m_H} (h : F11_rock x0 x1 x2 x3 x4 hp = some x) : m_Rn xs L 8 2235 0 (lv_args 0 [.ref x0, .int x1, .int x2, .int x3, .int x4]) [] hp (m_xI x) :=
  r_lv (SF11_rock_0 x0 x1 x2 x3 x4 hp (K := fun y => y = x) (fun y e => by rw [e]) (m_gdd h).2 rfl) rfl ⟨rfl, rfl, rfl, rfl, rfl, trivial⟩
-- F11_net: LendHouse.net(I)I
theorem eF11_net_0 : m_Fe mi11_36 0 (m_ap [(.aload_n 0, 1)] ((.getfield 42, 3) :: ((.getfield 394, 3) :: (m_ap [(.iload_n 1, 1)] ((.invokevirtual 203, 3) :: ([(.ifCond .ne 14, 3)])))))) := m_Fe_of nd2236 0 6 rfl
theorem eF11_net_25 : m_Fe mi11_36 25 (m_ap [(.aload_n 0, 1)] ((.getfield 42, 3) :: ((.getfield 394, 3) :: (m_ap [(.iload_n 1, 1), (.iconst 5, 1)] ((.invokevirtual 179, 3) :: (m_ap [(.aload_n 0, 1)] ((.getfield 42, 3) :: ((.getfield 394, 3) :: (m_ap [(.iload_n 1, 1), (.iconst 3, 1)] ((.invokevirtual 179, 3) :: (m_ap [(.isub, 1)] ([(.ireturn, 1)])))))))))))) := m_Fe_of nd2236 11 14 rfl
theorem eF11_net_14 : m_Fe mi11_36 14 ([(.new 207, 3)]) := m_Fe_of nd2236 6 1 rfl
theorem SF11_net_0 {xs : Nat → Int32} {L : Nat} (x0 : Nat) (x1 : Int32) (hp : m_H) {r : m_O × m_H} {K : ((Int32 ⊕ Nat) × m_H) → Prop} (k0 : ∀ x, K x → r = (m_xI x)) {t : (Int32 ⊕ Nat) × m_H} (h : F11_net_0 x0 x1 hp = some t) (hK : K t) : m_Rn xs L 7 2236 0 [(0, .ref x0), (1, .int x1)] [] hp r := by
  unfold F11_net_0 at h
  refine g_in eF11_net_0 mx2236 ?_
  refine g_ch [(0, .ref x0), (1, .int x1)] [.ref x0] (pc' := 1) rfl rfl rfl ?_
  obtain ⟨v1, e2, h⟩ := m_bd h
  refine g_gr q11_f42 e2 ?_
  obtain ⟨v3, e4, h⟩ := m_bd h
  refine g_gr q11_f394 e4 ?_
  refine g_ch [(0, .ref x0), (1, .int x1)] [.int x1, .ref v3] (pc' := 8) rfl rfl rfl ?_
  obtain ⟨v6, e5, h⟩ := m_bd h
  refine g_call (v := some (.int v6)) (h := hp) (st' := [.int v6]) (D1 := 0) (as := [.ref v3, .int x1]) (Or.inr (Or.inl rfl)) q11_m203 (m_cv (as := [.int x1]) (rest := []) (Or.inl rfl) q11_m203 jv1601 (OF8_has e5) rfl rfl rfl rfl) (by decide) (SF8_has e5) rfl ?_
  rcases m_ifd h with ⟨c7, h⟩ | ⟨c7, h⟩
  · refine g_ifcn (t := 25) rfl (m_neF c7) ?_
    refine g_in eF11_net_14 mx2236 ?_
    cases h
    rw [k0 _ hK]
    exact g_thr (by decide +kernel) (by decide) rfl
  · refine g_ifc (t := 25) rfl (m_neT c7) ?_
    refine g_in eF11_net_25 mx2236 ?_
    refine g_ch [(0, .ref x0), (1, .int x1)] [.ref x0] (pc' := 26) rfl rfl rfl ?_
    obtain ⟨v8, e9, h⟩ := m_bd h
    refine g_gr q11_f42 e9 ?_
    obtain ⟨v10, e11, h⟩ := m_bd h
    refine g_gr q11_f394 e11 ?_
    refine g_ch [(0, .ref x0), (1, .int x1)] [.int 5, .int x1, .ref v10] (pc' := 34) rfl rfl rfl ?_
    obtain ⟨v13, e12, h⟩ := m_bd h
    refine g_call (v := some (.int v13)) (h := hp) (st' := [.int v13]) (D1 := 1) (as := [.ref v10, .int x1, .int 5]) (Or.inr (Or.inl rfl)) q11_m179 (m_cv (as := [.int 5, .int x1]) (rest := []) (Or.inl rfl) q11_m179 jv1604 (OF8_get e12) rfl rfl rfl rfl) (by decide) (SF8_get e12) rfl ?_
    refine g_ch [(0, .ref x0), (1, .int x1)] [.ref x0, .int v13] (pc' := 38) rfl rfl rfl ?_
    obtain ⟨v14, e15, h⟩ := m_bd h
    refine g_gr q11_f42 e15 ?_
    obtain ⟨v16, e17, h⟩ := m_bd h
    refine g_gr q11_f394 e17 ?_
    refine g_ch [(0, .ref x0), (1, .int x1)] [.int 3, .int x1, .ref v16, .int v13] (pc' := 46) rfl rfl rfl ?_
    obtain ⟨v19, e18, h⟩ := m_bd h
    refine g_call (v := some (.int v19)) (h := hp) (st' := [.int v19, .int v13]) (D1 := 1) (as := [.ref v16, .int x1, .int 3]) (Or.inr (Or.inl rfl)) q11_m179 (m_cv (as := [.int 3, .int x1]) (rest := [.int v13]) (Or.inl rfl) q11_m179 jv1604 (OF8_get e18) rfl rfl rfl rfl) (by decide) (SF8_get e18) rfl ?_
    refine g_ch [(0, .ref x0), (1, .int x1)] [.int (v13 - v19)] (pc' := 50) rfl rfl rfl ?_
    cases h
    rw [k0 _ hK]
    exact g_iret rfl rfl
theorem OF11_net {x0 : Nat} {x1 : Int32} {hp : m_H} {x : (Int32 ⊕ Nat) × m_H} (h : F11_net x0 x1 hp = some x) : m_isO hp 8 x0 = true := (m_gdd h).1
theorem SF11_net {xs : Nat → Int32} {L : Nat} {x0 : Nat} {x1 : Int32} {hp : m_H} {x : (Int32 ⊕ Nat) × m_H} (h : F11_net x0 x1 hp = some x) : m_Rn xs L 7 2236 0 (lv_args 0 [.ref x0, .int x1]) [] hp (m_xI x) :=
  r_lv (SF11_net_0 x0 x1 hp (K := fun y => y = x) (fun y e => by rw [e]) (m_gdd h).2 rfl) rfl ⟨rfl, rfl, trivial⟩
-- F11_tons: LendHouse.tons(II)V
theorem eF11_tons_0 : m_Fe mi11_37 0 (m_ap [(.iload_n 1, 1)] ((.invokestatic 182, 3) :: (m_ap [(.iload_n 1, 1)] ((.invokestatic 185, 3) :: (m_ap [(.iload_n 2, 1), (.iconst 0, 1), (.ldc_w 365, 3)] ((.invokestatic 79, 3) :: ([(.ifCond .eq 14, 3)]))))))) := m_Fe_of nd2237 0 9 rfl
theorem eF11_tons_30 : m_Fe mi11_37 30 (m_ap [(.aload_n 0, 1)] ((.getfield 42, 3) :: ((.getfield 281, 3) :: (m_ap [(.iload_n 1, 1), (.iconst 3, 1), (.iload_n 2, 1)] ((.invokevirtual 127, 3) :: ([(.return_, 1)])))))) := m_Fe_of nd2237 14 8 rfl
theorem eF11_tons_19 : m_Fe mi11_37 19 ([(.new 83, 3)]) := m_Fe_of nd2237 9 1 rfl
theorem SF11_tons_0 {xs : Nat → Int32} {L : Nat} (x0 : Nat) (x1 : Int32) (x2 : Int32) (hp : m_H) {r : m_O × m_H} {K : ((Unit ⊕ Nat) × m_H) → Prop} (k0 : ∀ x, K x → r = (m_xV x)) {t : (Unit ⊕ Nat) × m_H} (h : F11_tons_0 x0 x1 x2 hp = some t) (hK : K t) : m_Rn xs L 8 2237 0 [(0, .ref x0), (1, .int x1), (2, .int x2)] [] hp r := by
  unfold F11_tons_0 at h
  refine g_in eF11_tons_0 mx2237 ?_
  refine g_ch [(0, .ref x0), (1, .int x1), (2, .int x2)] [.int x1] (pc' := 1) rfl rfl rfl ?_
  obtain ⟨z2, e1, h⟩ := m_bd h
  rcases m_sxd h with ⟨u21, e3, h⟩ | ⟨E4, e3, h⟩
  · have q5 := (SF11_testLand (xs := xs) (L := L) e1)
    unfold m_xV at q5
    rw [e3] at q5
    refine g_call (v := none) (h := z2.2) (st' := []) (D1 := 7) (as := [.int x1]) (Or.inl rfl) q11_m182 (m_cs (as := [.int x1]) (rest := []) q11_m182 jv2252 rfl rfl rfl rfl rfl) (by decide) q5 rfl ?_
    refine g_ch [(0, .ref x0), (1, .int x1), (2, .int x2)] [.int x1] (pc' := 5) rfl rfl rfl ?_
    obtain ⟨z7, e6, h⟩ := m_bd h
    rcases m_sxd h with ⟨u20, e8, h⟩ | ⟨E9, e8, h⟩
    · have q10 := (SF11_testAbroad (xs := xs) (L := L) e6)
      unfold m_xV at q10
      rw [e8] at q10
      refine g_call (v := none) (h := z7.2) (st' := []) (D1 := 7) (as := [.int x1]) (Or.inl rfl) q11_m185 (m_cs (as := [.int x1]) (rest := []) q11_m185 jv2253 rfl rfl rfl rfl rfl) (by decide) q10 rfl ?_
      refine g_ch [(0, .ref x0), (1, .int x1), (2, .int x2)] [.int 100000, .int 0, .int x2] (pc' := 13) rfl rfl rfl ?_
      obtain ⟨v12, e11, h⟩ := m_bd h
      refine g_call (v := some (.int v12)) (h := z7.2) (st' := [.int v12]) (D1 := 0) (as := [.int x2, .int 0, .int 100000]) (Or.inl rfl) q11_m79 (m_cs (as := [.int 100000, .int 0, .int x2]) (rest := []) q11_m79 jv2251 rfl rfl rfl rfl rfl) (by decide) (SF11_outside e11) rfl ?_
      rcases m_ifd h with ⟨c13, h⟩ | ⟨c13, h⟩
      · refine g_ifc (t := 30) rfl (m_eqT c13) ?_
        refine g_in eF11_tons_30 mx2237 ?_
        refine g_ch [(0, .ref x0), (1, .int x1), (2, .int x2)] [.ref x0] (pc' := 31) rfl rfl rfl ?_
        obtain ⟨v14, e15, h⟩ := m_bd h
        refine g_gr q11_f42 e15 ?_
        obtain ⟨v16, e17, h⟩ := m_bd h
        refine g_gr q11_f281 e17 ?_
        refine g_ch [(0, .ref x0), (1, .int x1), (2, .int x2)] [.int x2, .int 3, .int x1, .ref v16] (pc' := 40) rfl rfl rfl ?_
        obtain ⟨h19, e18, h⟩ := m_bd h
        refine g_call (v := none) (h := h19) (st' := []) (D1 := 1) (as := [.ref v16, .int x1, .int 3, .int x2]) (Or.inr (Or.inl rfl)) q11_m127 (m_cv (as := [.int x2, .int 3, .int x1]) (rest := []) (Or.inl rfl) q11_m127 jv1605 (OF8_set e18) rfl rfl rfl rfl) (by decide) (SF8_set e18) rfl ?_
        cases h
        rw [k0 _ hK]
        exact g_vret rfl
      · refine g_ifcn (t := 30) rfl (m_eqF c13) ?_
        refine g_in eF11_tons_19 mx2237 ?_
        cases h
        rw [k0 _ hK]
        exact g_thr (by decide +kernel) (by decide) rfl
    · have q10 := (SF11_testAbroad (xs := xs) (L := L) e6)
      unfold m_xV at q10
      rw [e8] at q10
      cases h
      rw [k0 _ hK]
      exact g_callX (D1 := 7) (as := [.int x1]) (Or.inl rfl) q11_m185 (m_cs (as := [.int x1]) (rest := []) q11_m185 jv2253 rfl rfl rfl rfl rfl) (by decide) q10 rfl
  · have q5 := (SF11_testLand (xs := xs) (L := L) e1)
    unfold m_xV at q5
    rw [e3] at q5
    cases h
    rw [k0 _ hK]
    exact g_callX (D1 := 7) (as := [.int x1]) (Or.inl rfl) q11_m182 (m_cs (as := [.int x1]) (rest := []) q11_m182 jv2252 rfl rfl rfl rfl rfl) (by decide) q5 rfl
theorem OF11_tons {x0 : Nat} {x1 : Int32} {x2 : Int32} {hp : m_H} {x : (Unit ⊕ Nat) × m_H} (h : F11_tons x0 x1 x2 hp = some x) : m_isO hp 8 x0 = true := (m_gdd h).1
theorem SF11_tons {xs : Nat → Int32} {L : Nat} {x0 : Nat} {x1 : Int32} {x2 : Int32} {hp : m_H} {x : (Unit ⊕ Nat) × m_H} (h : F11_tons x0 x1 x2 hp = some x) : m_Rn xs L 8 2237 0 (lv_args 0 [.ref x0, .int x1, .int x2]) [] hp (m_xV x) :=
  r_lv (SF11_tons_0 x0 x1 x2 hp (K := fun y => y = x) (fun y e => by rw [e]) (m_gdd h).2 rfl) rfl ⟨rfl, rfl, rfl, trivial⟩
-- F11_hulls: LendHouse.hulls(I)I
theorem eF11_hulls_0 : m_Fe mi11_38 0 (m_ap [(.aload_n 0, 1)] ((.getfield 35, 3) :: (m_ap [(.aload_n 0, 1)] ((.getfield 42, 3) :: ((.invokevirtual 403, 3) :: (m_ap [(.iload_n 1, 1), (.iconst (-1), 1)] ([(.if_icmp .ne 13, 3)]))))))) := m_Fe_of nd2238 0 8 rfl
theorem eF11_hulls_26 : m_Fe mi11_38 26 (m_ap [(.aload_n 0, 1)] ((.getfield 35, 3) :: (m_ap [(.iload_n 1, 1)] ([(.invokevirtual 409, 3)])))) := m_Fe_of nd2238 12 4 rfl
theorem eF11_hulls_34 : m_Fe mi11_38 34 ([(.ireturn, 1)]) := m_Fe_of nd2238 16 1 rfl
theorem eF11_hulls_16 : m_Fe mi11_38 16 (m_ap [(.aload_n 0, 1)] ((.getfield 35, 3) :: ((.invokevirtual 406, 3) :: ([(.goto 11, 3)])))) := m_Fe_of nd2238 8 4 rfl
theorem SF11_hulls_0 {xs : Nat → Int32} {L : Nat} (x0 : Nat) (x1 : Int32) (hp : m_H) {r : m_O × m_H} {K : (Int32 × m_H) → Prop} (k0 : ∀ x, K x → r = (.inl (some (.int x.1)), x.2)) {t : Int32 × m_H} (h : F11_hulls_0 x0 x1 hp = some t) (hK : K t) : m_Rn xs L 402 2238 0 [(0, .ref x0), (1, .int x1)] [] hp r := by
  unfold F11_hulls_0 at h
  refine g_in eF11_hulls_0 mx2238 ?_
  refine g_ch [(0, .ref x0), (1, .int x1)] [.ref x0] (pc' := 1) rfl rfl rfl ?_
  obtain ⟨v1, e2, h⟩ := m_bd h
  refine g_gr q11_f35 e2 ?_
  refine g_ch [(0, .ref x0), (1, .int x1)] [.ref x0, .ref v1] (pc' := 5) rfl rfl rfl ?_
  obtain ⟨v3, e4, h⟩ := m_bd h
  refine g_gr q11_f42 e4 ?_
  obtain ⟨h6, e5, h⟩ := m_bd h
  refine g_call (v := none) (h := h6) (st' := []) (D1 := 401) (as := [.ref v1, .ref v3]) (Or.inr (Or.inl rfl)) q11_m403 (m_cv (as := [.ref v3]) (rest := []) (Or.inl rfl) q11_m403 jv801 (OF4_plan e5) rfl rfl rfl rfl) (by decide) (SF4_plan e5) rfl ?_
  refine g_ch [(0, .ref x0), (1, .int x1)] [.int (-1), .int x1] (pc' := 13) rfl rfl rfl ?_
  rcases m_ifd h with ⟨c7, h⟩ | ⟨c7, h⟩
  · refine g_ifn (t := 26) rfl (m_neF c7) ?_
    refine g_in eF11_hulls_16 mx2238 ?_
    refine g_ch [(0, .ref x0), (1, .int x1)] [.ref x0] (pc' := 17) rfl rfl rfl ?_
    obtain ⟨v12, e13, h⟩ := m_bd h
    refine g_gr q11_f35 e13 ?_
    obtain ⟨v15, e14, h⟩ := m_bd h
    refine g_call (v := some (.int v15)) (h := h6) (st' := [.int v15]) (D1 := 0) (as := [.ref v12]) (Or.inr (Or.inl rfl)) q11_m406 (m_cv (as := []) (rest := []) (Or.inl rfl) q11_m406 jv804 (OF4_leastLost e14) rfl rfl rfl rfl) (by decide) (SF4_leastLost e14) rfl ?_
    refine g_goto (t := 34) rfl ?_
    refine g_in eF11_hulls_34 mx2238 ?_
    cases h
    rw [k0 _ hK]
    exact g_iret rfl rfl
  · refine g_if (t := 26) rfl (m_neT c7) ?_
    refine g_in eF11_hulls_26 mx2238 ?_
    refine g_ch [(0, .ref x0), (1, .int x1)] [.ref x0] (pc' := 27) rfl rfl rfl ?_
    obtain ⟨v8, e9, h⟩ := m_bd h
    refine g_gr q11_f35 e9 ?_
    refine g_ch [(0, .ref x0), (1, .int x1)] [.int x1, .ref v8] (pc' := 31) rfl rfl rfl ?_
    obtain ⟨v11, e10, h⟩ := m_bd h
    refine g_call (v := some (.int v11)) (h := h6) (st' := [.int v11]) (D1 := 0) (as := [.ref v8, .int x1]) (Or.inr (Or.inl rfl)) q11_m409 (m_cv (as := [.int x1]) (rest := []) (Or.inl rfl) q11_m409 jv805 (OF4_landOf e10) rfl rfl rfl rfl) (by decide) (SF4_landOf e10) rfl ?_
    refine g_end ?_
    refine g_in eF11_hulls_34 mx2238 ?_
    cases h
    rw [k0 _ hK]
    exact g_iret rfl rfl
theorem OF11_hulls {x0 : Nat} {x1 : Int32} {hp : m_H} {x : Int32 × m_H} (h : F11_hulls x0 x1 hp = some x) : m_isO hp 8 x0 = true := (m_gdd h).1
theorem SF11_hulls {xs : Nat → Int32} {L : Nat} {x0 : Nat} {x1 : Int32} {hp : m_H} {x : Int32 × m_H} (h : F11_hulls x0 x1 hp = some x) : m_Rn xs L 402 2238 0 (lv_args 0 [.ref x0, .int x1]) [] hp (.inl (some (.int x.1)), x.2) :=
  r_lv (SF11_hulls_0 x0 x1 hp (K := fun y => y = x) (fun y e => by rw [e]) (m_gdd h).2 rfl) rfl ⟨rfl, rfl, trivial⟩
-- F11_bestOrders: LendHouse.bestOrders()I
theorem eF11_bestOrders_0 : m_Fe mi11_39 0 (m_ap [(.aload_n 0, 1)] ((.getfield 42, 3) :: ((.invokestatic 412, 3) :: ([(.ireturn, 1)])))) := m_Fe_of nd2239 0 4 rfl
theorem SF11_bestOrders_0 {xs : Nat → Int32} {L : Nat} (x0 : Nat) (hp : m_H) {r : m_O × m_H} {K : (Int32 × m_H) → Prop} (k0 : ∀ x, K x → r = (.inl (some (.int x.1)), x.2)) {t : Int32 × m_H} (h : F11_bestOrders_0 x0 hp = some t) (hK : K t) : m_Rn xs L 8 2239 0 [(0, .ref x0)] [] hp r := by
  unfold F11_bestOrders_0 at h
  refine g_in eF11_bestOrders_0 mx2239 ?_
  refine g_ch [(0, .ref x0)] [.ref x0] (pc' := 1) rfl rfl rfl ?_
  obtain ⟨v1, e2, h⟩ := m_bd h
  refine g_gr q11_f42 e2 ?_
  obtain ⟨z4, e3, h⟩ := m_bd h
  refine g_call (v := some (.int z4.1)) (h := z4.2) (st' := [.int z4.1]) (D1 := 7) (as := [.ref v1]) (Or.inl rfl) q11_m412 (m_cs (as := [.ref v1]) (rest := []) q11_m412 jv1202 rfl rfl rfl rfl rfl) (by decide) (SF6_bestOrdersOf e3) rfl ?_
  cases h
  rw [k0 _ hK]
  exact g_iret rfl rfl
theorem OF11_bestOrders {x0 : Nat} {hp : m_H} {x : Int32 × m_H} (h : F11_bestOrders x0 hp = some x) : m_isO hp 8 x0 = true := (m_gdd h).1
theorem SF11_bestOrders {xs : Nat → Int32} {L : Nat} {x0 : Nat} {hp : m_H} {x : Int32 × m_H} (h : F11_bestOrders x0 hp = some x) : m_Rn xs L 8 2239 0 (lv_args 0 [.ref x0]) [] hp (.inl (some (.int x.1)), x.2) :=
  r_lv (SF11_bestOrders_0 x0 hp (K := fun y => y = x) (fun y e => by rw [e]) (m_gdd h).2 rfl) rfl ⟨rfl, trivial⟩
-- F11_page: LendHouse.page(II)I
theorem eF11_page_0 : m_Fe mi11_40 0 (m_ap [(.iload_n 1, 1), (.sipush (-10000), 3), (.sipush 10000, 3)] ((.invokestatic 79, 3) :: ([(.ifCond .ne 16, 3)]))) := m_Fe_of nd2240 0 5 rfl
theorem eF11_page_26 : m_Fe mi11_40 26 ([(.new 83, 3)]) := m_Fe_of nd2240 10 1 rfl
theorem eF11_page_13 : m_Fe mi11_40 13 (m_ap [(.iload_n 2, 1), (.sipush (-10000), 3), (.sipush 10000, 3)] ((.invokestatic 79, 3) :: ([(.ifCond .eq 14, 3)]))) := m_Fe_of nd2240 5 5 rfl
theorem eF11_page_37 : m_Fe mi11_40 37 (m_ap [(.aload_n 0, 1)] ((.getfield 42, 3) :: ((.getfield 419, 3) :: ((.invokevirtual 199, 3) :: (m_ap [(.istore_n 3, 1), (.aload_n 0, 1)] ((.getfield 42, 3) :: ((.getfield 419, 3) :: (m_ap [(.iload_n 3, 1), (.iconst 0, 1), (.iload_n 1, 1)] ((.invokevirtual 127, 3) :: (m_ap [(.aload_n 0, 1)] ((.getfield 42, 3) :: ((.getfield 419, 3) :: (m_ap [(.iload_n 3, 1), (.iconst 1, 1), (.iload_n 2, 1)] ((.invokevirtual 127, 3) :: (m_ap [(.iload_n 3, 1)] ([(.ireturn, 1)])))))))))))))))) := m_Fe_of nd2240 15 21 rfl
theorem SF11_page_0 {xs : Nat → Int32} {L : Nat} (x0 : Nat) (x1 : Int32) (x2 : Int32) (hp : m_H) {r : m_O × m_H} {K : ((Int32 ⊕ Nat) × m_H) → Prop} (k0 : ∀ x, K x → r = (m_xI x)) {t : (Int32 ⊕ Nat) × m_H} (h : F11_page_0 x0 x1 x2 hp = some t) (hK : K t) : m_Rn xs L 7 2240 0 [(0, .ref x0), (1, .int x1), (2, .int x2)] [] hp r := by
  unfold F11_page_0 at h
  refine g_in eF11_page_0 mx2240 ?_
  refine g_ch [(0, .ref x0), (1, .int x1), (2, .int x2)] [.int 10000, .int (-10000), .int x1] (pc' := 7) rfl rfl rfl ?_
  obtain ⟨v2, e1, h⟩ := m_bd h
  refine g_call (v := some (.int v2)) (h := hp) (st' := [.int v2]) (D1 := 0) (as := [.int x1, .int (-10000), .int 10000]) (Or.inl rfl) q11_m79 (m_cs (as := [.int 10000, .int (-10000), .int x1]) (rest := []) q11_m79 jv2251 rfl rfl rfl rfl rfl) (by decide) (SF11_outside e1) rfl ?_
  rcases m_ifd h with ⟨c3, h⟩ | ⟨c3, h⟩
  · refine g_ifcn (t := 26) rfl (m_neF c3) ?_
    refine g_in eF11_page_13 mx2240 ?_
    refine g_ch [(0, .ref x0), (1, .int x1), (2, .int x2)] [.int 10000, .int (-10000), .int x2] (pc' := 20) rfl rfl rfl ?_
    obtain ⟨v5, e4, h⟩ := m_bd h
    refine g_call (v := some (.int v5)) (h := hp) (st' := [.int v5]) (D1 := 0) (as := [.int x2, .int (-10000), .int 10000]) (Or.inl rfl) q11_m79 (m_cs (as := [.int 10000, .int (-10000), .int x2]) (rest := []) q11_m79 jv2251 rfl rfl rfl rfl rfl) (by decide) (SF11_outside e4) rfl ?_
    rcases m_ifd h with ⟨c6, h⟩ | ⟨c6, h⟩
    · refine g_ifc (t := 37) rfl (m_eqT c6) ?_
      refine g_in eF11_page_37 mx2240 ?_
      refine g_ch [(0, .ref x0), (1, .int x1), (2, .int x2)] [.ref x0] (pc' := 38) rfl rfl rfl ?_
      obtain ⟨v7, e8, h⟩ := m_bd h
      refine g_gr q11_f42 e8 ?_
      obtain ⟨v9, e10, h⟩ := m_bd h
      refine g_gr q11_f419 e10 ?_
      obtain ⟨z12, e11, h⟩ := m_bd h
      refine g_call (v := some (.int z12.1)) (h := z12.2) (st' := [.int z12.1]) (D1 := 2) (as := [.ref v9]) (Or.inr (Or.inl rfl)) q11_m199 (m_cv (as := []) (rest := []) (Or.inl rfl) q11_m199 jv1607 (OF8_add e11) rfl rfl rfl rfl) (by decide) (SF8_add e11) rfl ?_
      refine g_ch [(3, .int z12.1), (0, .ref x0), (1, .int x1), (2, .int x2)] [.ref x0] (pc' := 49) rfl rfl rfl ?_
      obtain ⟨v13, e14, h⟩ := m_bd h
      refine g_gr q11_f42 e14 ?_
      obtain ⟨v15, e16, h⟩ := m_bd h
      refine g_gr q11_f419 e16 ?_
      refine g_ch [(3, .int z12.1), (0, .ref x0), (1, .int x1), (2, .int x2)] [.int x1, .int 0, .int z12.1, .ref v15] (pc' := 58) rfl rfl rfl ?_
      obtain ⟨h18, e17, h⟩ := m_bd h
      refine g_call (v := none) (h := h18) (st' := []) (D1 := 1) (as := [.ref v15, .int z12.1, .int 0, .int x1]) (Or.inr (Or.inl rfl)) q11_m127 (m_cv (as := [.int x1, .int 0, .int z12.1]) (rest := []) (Or.inl rfl) q11_m127 jv1605 (OF8_set e17) rfl rfl rfl rfl) (by decide) (SF8_set e17) rfl ?_
      refine g_ch [(3, .int z12.1), (0, .ref x0), (1, .int x1), (2, .int x2)] [.ref x0] (pc' := 62) rfl rfl rfl ?_
      obtain ⟨v19, e20, h⟩ := m_bd h
      refine g_gr q11_f42 e20 ?_
      obtain ⟨v21, e22, h⟩ := m_bd h
      refine g_gr q11_f419 e22 ?_
      refine g_ch [(3, .int z12.1), (0, .ref x0), (1, .int x1), (2, .int x2)] [.int x2, .int 1, .int z12.1, .ref v21] (pc' := 71) rfl rfl rfl ?_
      obtain ⟨h24, e23, h⟩ := m_bd h
      refine g_call (v := none) (h := h24) (st' := []) (D1 := 1) (as := [.ref v21, .int z12.1, .int 1, .int x2]) (Or.inr (Or.inl rfl)) q11_m127 (m_cv (as := [.int x2, .int 1, .int z12.1]) (rest := []) (Or.inl rfl) q11_m127 jv1605 (OF8_set e23) rfl rfl rfl rfl) (by decide) (SF8_set e23) rfl ?_
      refine g_ch [(3, .int z12.1), (0, .ref x0), (1, .int x1), (2, .int x2)] [.int z12.1] (pc' := 75) rfl rfl rfl ?_
      cases h
      rw [k0 _ hK]
      exact g_iret rfl rfl
    · refine g_ifcn (t := 37) rfl (m_eqF c6) ?_
      refine g_in eF11_page_26 mx2240 ?_
      cases h
      rw [k0 _ hK]
      exact g_thr (by decide +kernel) (by decide) rfl
  · refine g_ifc (t := 26) rfl (m_neT c3) ?_
    refine g_in eF11_page_26 mx2240 ?_
    cases h
    rw [k0 _ hK]
    exact g_thr (by decide +kernel) (by decide) rfl
theorem OF11_page {x0 : Nat} {x1 : Int32} {x2 : Int32} {hp : m_H} {x : (Int32 ⊕ Nat) × m_H} (h : F11_page x0 x1 x2 hp = some x) : m_isO hp 8 x0 = true := (m_gdd h).1
theorem SF11_page {xs : Nat → Int32} {L : Nat} {x0 : Nat} {x1 : Int32} {x2 : Int32} {hp : m_H} {x : (Int32 ⊕ Nat) × m_H} (h : F11_page x0 x1 x2 hp = some x) : m_Rn xs L 7 2240 0 (lv_args 0 [.ref x0, .int x1, .int x2]) [] hp (m_xI x) :=
  r_lv (SF11_page_0 x0 x1 x2 hp (K := fun y => y = x) (fun y e => by rw [e]) (m_gdd h).2 rfl) rfl ⟨rfl, rfl, rfl, trivial⟩
-- F11_signed: LendHouse.signed(II)I
theorem eF11_signed_0 : m_Fe mi11_41 0 (m_ap [(.aload_n 0, 1)] ((.getfield 42, 3) :: ((.getfield 419, 3) :: (m_ap [(.iload_n 1, 1), (.iload_n 2, 1)] ((.invokestatic 422, 3) :: ([(.ireturn, 1)])))))) := m_Fe_of nd2241 0 7 rfl
theorem SF11_signed_0 {xs : Nat → Int32} {L : Nat} (x0 : Nat) (x1 : Int32) (x2 : Int32) (hp : m_H) {r : m_O × m_H} {K : Int32 → Prop} (k0 : ∀ x, K x → r = (.inl (some (.int x)), hp)) {t : Int32} (h : F11_signed_0 x0 x1 x2 hp = some t) (hK : K t) : m_Rn xs L 4 2241 0 [(0, .ref x0), (1, .int x1), (2, .int x2)] [] hp r := by
  unfold F11_signed_0 at h
  refine g_in eF11_signed_0 mx2241 ?_
  refine g_ch [(0, .ref x0), (1, .int x1), (2, .int x2)] [.ref x0] (pc' := 1) rfl rfl rfl ?_
  obtain ⟨v1, e2, h⟩ := m_bd h
  refine g_gr q11_f42 e2 ?_
  obtain ⟨v3, e4, h⟩ := m_bd h
  refine g_gr q11_f419 e4 ?_
  refine g_ch [(0, .ref x0), (1, .int x1), (2, .int x2)] [.int x2, .int x1, .ref v3] (pc' := 9) rfl rfl rfl ?_
  obtain ⟨v6, e5, h⟩ := m_bd h
  refine g_call (v := some (.int v6)) (h := hp) (st' := [.int v6]) (D1 := 3) (as := [.ref v3, .int x1, .int x2]) (Or.inl rfl) q11_m422 (m_cs (as := [.int x2, .int x1, .ref v3]) (rest := []) q11_m422 jv1204 rfl rfl rfl rfl rfl) (by decide) (SF6_pagesSigned e5) rfl ?_
  cases h
  rw [k0 _ hK]
  exact g_iret rfl rfl
theorem OF11_signed {x0 : Nat} {x1 : Int32} {x2 : Int32} {hp : m_H} {x : Int32} (h : F11_signed x0 x1 x2 hp = some x) : m_isO hp 8 x0 = true := (m_gdd h).1
theorem SF11_signed {xs : Nat → Int32} {L : Nat} {x0 : Nat} {x1 : Int32} {x2 : Int32} {hp : m_H} {x : Int32} (h : F11_signed x0 x1 x2 hp = some x) : m_Rn xs L 4 2241 0 (lv_args 0 [.ref x0, .int x1, .int x2]) [] hp (.inl (some (.int x)), hp) :=
  r_lv (SF11_signed_0 x0 x1 x2 hp (K := fun y => y = x) (fun y e => by rw [e]) (m_gdd h).2 rfl) rfl ⟨rfl, rfl, rfl, trivial⟩
-- F11_choice: LendHouse.choice(IIII)I
theorem eF11_choice_0 : m_Fe mi11_42 0 (m_ap [(.iload_n 1, 1), (.iconst 0, 1), (.sipush 10000, 3)] ((.invokestatic 79, 3) :: ([(.ifCond .ne 35, 3)]))) := m_Fe_of nd2242 0 5 rfl
theorem eF11_choice_43 : m_Fe mi11_42 43 ([(.new 83, 3)]) := m_Fe_of nd2242 20 1 rfl
theorem eF11_choice_11 : m_Fe mi11_42 11 (m_ap [(.iload_n 2, 1), (.iconst 0, 1), (.iconst 4, 1)] ((.invokestatic 79, 3) :: ([(.ifCond .ne 26, 3)]))) := m_Fe_of nd2242 5 5 rfl
theorem eF11_choice_20 : m_Fe mi11_42 20 (m_ap [(.iload_n 3, 1), (.iconst 0, 1), (.sipush 10000, 3)] ((.invokestatic 79, 3) :: ([(.ifCond .ne 15, 3)]))) := m_Fe_of nd2242 10 5 rfl
theorem eF11_choice_31 : m_Fe mi11_42 31 (m_ap [(.iload 4, 2), (.iconst 0, 1), (.sipush 10000, 3)] ((.invokestatic 79, 3) :: ([(.ifCond .eq 14, 3)]))) := m_Fe_of nd2242 15 5 rfl
theorem eF11_choice_54 : m_Fe mi11_42 54 (m_ap [(.aload_n 0, 1)] ((.getfield 42, 3) :: ((.getfield 428, 3) :: ((.invokevirtual 193, 3) :: ([(.ifCond .eq 5, 3)]))))) := m_Fe_of nd2242 25 5 rfl
theorem eF11_choice_69 : m_Fe mi11_42 69 (m_ap [(.aload_n 0, 1)] ((.getfield 42, 3) :: ((.getfield 428, 3) :: ((.invokevirtual 199, 3) :: (m_ap [(.istore 5, 2), (.aload_n 0, 1)] ((.getfield 42, 3) :: ((.getfield 428, 3) :: (m_ap [(.iload 5, 2), (.iconst 0, 1), (.iload_n 1, 1)] ((.invokevirtual 127, 3) :: (m_ap [(.aload_n 0, 1)] ((.getfield 42, 3) :: ((.getfield 428, 3) :: (m_ap [(.iload 5, 2), (.iconst 1, 1), (.iload_n 3, 1)] ((.invokevirtual 127, 3) :: (m_ap [(.aload_n 0, 1)] ((.getfield 42, 3) :: ((.getfield 428, 3) :: (m_ap [(.iload 5, 2), (.iconst 2, 1), (.iload 4, 2)] ((.invokevirtual 127, 3) :: (m_ap [(.aload_n 0, 1)] ((.getfield 42, 3) :: ((.getfield 428, 3) :: (m_ap [(.iload 5, 2), (.iconst 3, 1), (.iload_n 2, 1)] ((.invokevirtual 127, 3) :: (m_ap [(.aload_n 0, 1)] ((.getfield 42, 3) :: ((.getfield 428, 3) :: ((.getfield 371, 3) :: ([(.ireturn, 1)]))))))))))))))))))))))))))))) := m_Fe_of nd2242 32 38 rfl
theorem eF11_choice_67 : m_Fe mi11_42 67 (m_ap [(.iconst (-1), 1)] ([(.ireturn, 1)])) := m_Fe_of nd2242 30 2 rfl
theorem SF11_choice_0 {xs : Nat → Int32} {L : Nat} (x0 : Nat) (x1 : Int32) (x2 : Int32) (x3 : Int32) (x4 : Int32) (hp : m_H) {r : m_O × m_H} {K : ((Int32 ⊕ Nat) × m_H) → Prop} (k0 : ∀ x, K x → r = (m_xI x)) {t : (Int32 ⊕ Nat) × m_H} (h : F11_choice_0 x0 x1 x2 x3 x4 hp = some t) (hK : K t) : m_Rn xs L 7 2242 0 [(0, .ref x0), (1, .int x1), (2, .int x2), (3, .int x3), (4, .int x4)] [] hp r := by
  unfold F11_choice_0 at h
  refine g_in eF11_choice_0 mx2242 ?_
  refine g_ch [(0, .ref x0), (1, .int x1), (2, .int x2), (3, .int x3), (4, .int x4)] [.int 10000, .int 0, .int x1] (pc' := 5) rfl rfl rfl ?_
  obtain ⟨v2, e1, h⟩ := m_bd h
  refine g_call (v := some (.int v2)) (h := hp) (st' := [.int v2]) (D1 := 0) (as := [.int x1, .int 0, .int 10000]) (Or.inl rfl) q11_m79 (m_cs (as := [.int 10000, .int 0, .int x1]) (rest := []) q11_m79 jv2251 rfl rfl rfl rfl rfl) (by decide) (SF11_outside e1) rfl ?_
  rcases m_ifd h with ⟨c3, h⟩ | ⟨c3, h⟩
  · refine g_ifcn (t := 43) rfl (m_neF c3) ?_
    refine g_in eF11_choice_11 mx2242 ?_
    refine g_ch [(0, .ref x0), (1, .int x1), (2, .int x2), (3, .int x3), (4, .int x4)] [.int 4, .int 0, .int x2] (pc' := 14) rfl rfl rfl ?_
    obtain ⟨v5, e4, h⟩ := m_bd h
    refine g_call (v := some (.int v5)) (h := hp) (st' := [.int v5]) (D1 := 0) (as := [.int x2, .int 0, .int 4]) (Or.inl rfl) q11_m79 (m_cs (as := [.int 4, .int 0, .int x2]) (rest := []) q11_m79 jv2251 rfl rfl rfl rfl rfl) (by decide) (SF11_outside e4) rfl ?_
    rcases m_ifd h with ⟨c6, h⟩ | ⟨c6, h⟩
    · refine g_ifcn (t := 43) rfl (m_neF c6) ?_
      refine g_in eF11_choice_20 mx2242 ?_
      refine g_ch [(0, .ref x0), (1, .int x1), (2, .int x2), (3, .int x3), (4, .int x4)] [.int 10000, .int 0, .int x3] (pc' := 25) rfl rfl rfl ?_
      obtain ⟨v8, e7, h⟩ := m_bd h
      refine g_call (v := some (.int v8)) (h := hp) (st' := [.int v8]) (D1 := 0) (as := [.int x3, .int 0, .int 10000]) (Or.inl rfl) q11_m79 (m_cs (as := [.int 10000, .int 0, .int x3]) (rest := []) q11_m79 jv2251 rfl rfl rfl rfl rfl) (by decide) (SF11_outside e7) rfl ?_
      rcases m_ifd h with ⟨c9, h⟩ | ⟨c9, h⟩
      · refine g_ifcn (t := 43) rfl (m_neF c9) ?_
        refine g_in eF11_choice_31 mx2242 ?_
        refine g_ch [(0, .ref x0), (1, .int x1), (2, .int x2), (3, .int x3), (4, .int x4)] [.int 10000, .int 0, .int x4] (pc' := 37) rfl rfl rfl ?_
        obtain ⟨v11, e10, h⟩ := m_bd h
        refine g_call (v := some (.int v11)) (h := hp) (st' := [.int v11]) (D1 := 0) (as := [.int x4, .int 0, .int 10000]) (Or.inl rfl) q11_m79 (m_cs (as := [.int 10000, .int 0, .int x4]) (rest := []) q11_m79 jv2251 rfl rfl rfl rfl rfl) (by decide) (SF11_outside e10) rfl ?_
        rcases m_ifd h with ⟨c12, h⟩ | ⟨c12, h⟩
        · refine g_ifc (t := 54) rfl (m_eqT c12) ?_
          refine g_in eF11_choice_54 mx2242 ?_
          refine g_ch [(0, .ref x0), (1, .int x1), (2, .int x2), (3, .int x3), (4, .int x4)] [.ref x0] (pc' := 55) rfl rfl rfl ?_
          obtain ⟨v13, e14, h⟩ := m_bd h
          refine g_gr q11_f42 e14 ?_
          obtain ⟨v15, e16, h⟩ := m_bd h
          refine g_gr q11_f428 e16 ?_
          obtain ⟨v18, e17, h⟩ := m_bd h
          refine g_call (v := some (.int v18)) (h := hp) (st' := [.int v18]) (D1 := 0) (as := [.ref v15]) (Or.inr (Or.inl rfl)) q11_m193 (m_cv (as := []) (rest := []) (Or.inl rfl) q11_m193 jv1602 (OF8_full e17) rfl rfl rfl rfl) (by decide) (SF8_full e17) rfl ?_
          rcases m_ifd h with ⟨c19, h⟩ | ⟨c19, h⟩
          · refine g_ifc (t := 69) rfl (m_eqT c19) ?_
            refine g_in eF11_choice_69 mx2242 ?_
            refine g_ch [(0, .ref x0), (1, .int x1), (2, .int x2), (3, .int x3), (4, .int x4)] [.ref x0] (pc' := 70) rfl rfl rfl ?_
            obtain ⟨v20, e21, h⟩ := m_bd h
            refine g_gr q11_f42 e21 ?_
            obtain ⟨v22, e23, h⟩ := m_bd h
            refine g_gr q11_f428 e23 ?_
            obtain ⟨z25, e24, h⟩ := m_bd h
            refine g_call (v := some (.int z25.1)) (h := z25.2) (st' := [.int z25.1]) (D1 := 2) (as := [.ref v22]) (Or.inr (Or.inl rfl)) q11_m199 (m_cv (as := []) (rest := []) (Or.inl rfl) q11_m199 jv1607 (OF8_add e24) rfl rfl rfl rfl) (by decide) (SF8_add e24) rfl ?_
            refine g_ch [(5, .int z25.1), (0, .ref x0), (1, .int x1), (2, .int x2), (3, .int x3), (4, .int x4)] [.ref x0] (pc' := 82) rfl rfl rfl ?_
            obtain ⟨v26, e27, h⟩ := m_bd h
            refine g_gr q11_f42 e27 ?_
            obtain ⟨v28, e29, h⟩ := m_bd h
            refine g_gr q11_f428 e29 ?_
            refine g_ch [(5, .int z25.1), (0, .ref x0), (1, .int x1), (2, .int x2), (3, .int x3), (4, .int x4)] [.int x1, .int 0, .int z25.1, .ref v28] (pc' := 92) rfl rfl rfl ?_
            obtain ⟨h31, e30, h⟩ := m_bd h
            refine g_call (v := none) (h := h31) (st' := []) (D1 := 1) (as := [.ref v28, .int z25.1, .int 0, .int x1]) (Or.inr (Or.inl rfl)) q11_m127 (m_cv (as := [.int x1, .int 0, .int z25.1]) (rest := []) (Or.inl rfl) q11_m127 jv1605 (OF8_set e30) rfl rfl rfl rfl) (by decide) (SF8_set e30) rfl ?_
            refine g_ch [(5, .int z25.1), (0, .ref x0), (1, .int x1), (2, .int x2), (3, .int x3), (4, .int x4)] [.ref x0] (pc' := 96) rfl rfl rfl ?_
            obtain ⟨v32, e33, h⟩ := m_bd h
            refine g_gr q11_f42 e33 ?_
            obtain ⟨v34, e35, h⟩ := m_bd h
            refine g_gr q11_f428 e35 ?_
            refine g_ch [(5, .int z25.1), (0, .ref x0), (1, .int x1), (2, .int x2), (3, .int x3), (4, .int x4)] [.int x3, .int 1, .int z25.1, .ref v34] (pc' := 106) rfl rfl rfl ?_
            obtain ⟨h37, e36, h⟩ := m_bd h
            refine g_call (v := none) (h := h37) (st' := []) (D1 := 1) (as := [.ref v34, .int z25.1, .int 1, .int x3]) (Or.inr (Or.inl rfl)) q11_m127 (m_cv (as := [.int x3, .int 1, .int z25.1]) (rest := []) (Or.inl rfl) q11_m127 jv1605 (OF8_set e36) rfl rfl rfl rfl) (by decide) (SF8_set e36) rfl ?_
            refine g_ch [(5, .int z25.1), (0, .ref x0), (1, .int x1), (2, .int x2), (3, .int x3), (4, .int x4)] [.ref x0] (pc' := 110) rfl rfl rfl ?_
            obtain ⟨v38, e39, h⟩ := m_bd h
            refine g_gr q11_f42 e39 ?_
            obtain ⟨v40, e41, h⟩ := m_bd h
            refine g_gr q11_f428 e41 ?_
            refine g_ch [(5, .int z25.1), (0, .ref x0), (1, .int x1), (2, .int x2), (3, .int x3), (4, .int x4)] [.int x4, .int 2, .int z25.1, .ref v40] (pc' := 121) rfl rfl rfl ?_
            obtain ⟨h43, e42, h⟩ := m_bd h
            refine g_call (v := none) (h := h43) (st' := []) (D1 := 1) (as := [.ref v40, .int z25.1, .int 2, .int x4]) (Or.inr (Or.inl rfl)) q11_m127 (m_cv (as := [.int x4, .int 2, .int z25.1]) (rest := []) (Or.inl rfl) q11_m127 jv1605 (OF8_set e42) rfl rfl rfl rfl) (by decide) (SF8_set e42) rfl ?_
            refine g_ch [(5, .int z25.1), (0, .ref x0), (1, .int x1), (2, .int x2), (3, .int x3), (4, .int x4)] [.ref x0] (pc' := 125) rfl rfl rfl ?_
            obtain ⟨v44, e45, h⟩ := m_bd h
            refine g_gr q11_f42 e45 ?_
            obtain ⟨v46, e47, h⟩ := m_bd h
            refine g_gr q11_f428 e47 ?_
            refine g_ch [(5, .int z25.1), (0, .ref x0), (1, .int x1), (2, .int x2), (3, .int x3), (4, .int x4)] [.int x2, .int 3, .int z25.1, .ref v46] (pc' := 135) rfl rfl rfl ?_
            obtain ⟨h49, e48, h⟩ := m_bd h
            refine g_call (v := none) (h := h49) (st' := []) (D1 := 1) (as := [.ref v46, .int z25.1, .int 3, .int x2]) (Or.inr (Or.inl rfl)) q11_m127 (m_cv (as := [.int x2, .int 3, .int z25.1]) (rest := []) (Or.inl rfl) q11_m127 jv1605 (OF8_set e48) rfl rfl rfl rfl) (by decide) (SF8_set e48) rfl ?_
            refine g_ch [(5, .int z25.1), (0, .ref x0), (1, .int x1), (2, .int x2), (3, .int x3), (4, .int x4)] [.ref x0] (pc' := 139) rfl rfl rfl ?_
            obtain ⟨v50, e51, h⟩ := m_bd h
            refine g_gr q11_f42 e51 ?_
            obtain ⟨v52, e53, h⟩ := m_bd h
            refine g_gr q11_f428 e53 ?_
            obtain ⟨v54, e55, h⟩ := m_bd h
            refine g_gi q11_f371 e55 ?_
            cases h
            rw [k0 _ hK]
            exact g_iret rfl rfl
          · refine g_ifcn (t := 69) rfl (m_eqF c19) ?_
            refine g_in eF11_choice_67 mx2242 ?_
            refine g_ch [(0, .ref x0), (1, .int x1), (2, .int x2), (3, .int x3), (4, .int x4)] [.int (-1)] (pc' := 68) rfl rfl rfl ?_
            cases h
            rw [k0 _ hK]
            exact g_iret rfl rfl
        · refine g_ifcn (t := 54) rfl (m_eqF c12) ?_
          refine g_in eF11_choice_43 mx2242 ?_
          cases h
          rw [k0 _ hK]
          exact g_thr (by decide +kernel) (by decide) rfl
      · refine g_ifc (t := 43) rfl (m_neT c9) ?_
        refine g_in eF11_choice_43 mx2242 ?_
        cases h
        rw [k0 _ hK]
        exact g_thr (by decide +kernel) (by decide) rfl
    · refine g_ifc (t := 43) rfl (m_neT c6) ?_
      refine g_in eF11_choice_43 mx2242 ?_
      cases h
      rw [k0 _ hK]
      exact g_thr (by decide +kernel) (by decide) rfl
  · refine g_ifc (t := 43) rfl (m_neT c3) ?_
    refine g_in eF11_choice_43 mx2242 ?_
    cases h
    rw [k0 _ hK]
    exact g_thr (by decide +kernel) (by decide) rfl
theorem OF11_choice {x0 : Nat} {x1 : Int32} {x2 : Int32} {x3 : Int32} {x4 : Int32} {hp : m_H} {x : (Int32 ⊕ Nat) × m_H} (h : F11_choice x0 x1 x2 x3 x4 hp = some x) : m_isO hp 8 x0 = true := (m_gdd h).1
theorem SF11_choice {xs : Nat → Int32} {L : Nat} {x0 : Nat} {x1 : Int32} {x2 : Int32} {x3 : Int32} {x4 : Int32} {hp : m_H} {x : (Int32 ⊕ Nat) × m_H} (h : F11_choice x0 x1 x2 x3 x4 hp = some x) : m_Rn xs L 7 2242 0 (lv_args 0 [.ref x0, .int x1, .int x2, .int x3, .int x4]) [] hp (m_xI x) :=
  r_lv (SF11_choice_0 x0 x1 x2 x3 x4 hp (K := fun y => y = x) (fun y e => by rw [e]) (m_gdd h).2 rfl) rfl ⟨rfl, rfl, rfl, rfl, rfl, trivial⟩
-- F11_row: LendHouse.row(IIIII)V
theorem eF11_row_0 : m_Fe mi11_43 0 (m_ap [(.iload_n 1, 1), (.iconst 0, 1), (.iconst 2, 1)] ((.invokestatic 79, 3) :: ([(.ifCond .ne 47, 3)]))) := m_Fe_of nd2243 0 5 rfl
theorem eF11_row_53 : m_Fe mi11_43 53 ([(.new 83, 3)]) := m_Fe_of nd2243 25 1 rfl
theorem eF11_row_9 : m_Fe mi11_43 9 (m_ap [(.iload_n 2, 1), (.iconst 0, 1), (.iconst 4, 1)] ((.invokestatic 79, 3) :: ([(.ifCond .ne 38, 3)]))) := m_Fe_of nd2243 5 5 rfl
theorem eF11_row_18 : m_Fe mi11_43 18 (m_ap [(.iload_n 3, 1), (.iconst 0, 1), (.ldc_w 365, 3)] ((.invokestatic 79, 3) :: ([(.ifCond .ne 27, 3)]))) := m_Fe_of nd2243 10 5 rfl
theorem eF11_row_29 : m_Fe mi11_43 29 (m_ap [(.iload 4, 2), (.iconst 0, 1), (.ldc_w 365, 3)] ((.invokestatic 79, 3) :: ([(.ifCond .ne 15, 3)]))) := m_Fe_of nd2243 15 5 rfl
theorem eF11_row_41 : m_Fe mi11_43 41 (m_ap [(.iload 5, 2), (.iconst 0, 1), (.ldc_w 365, 3)] ((.invokestatic 79, 3) :: ([(.ifCond .eq 14, 3)]))) := m_Fe_of nd2243 20 5 rfl
theorem eF11_row_64 : m_Fe mi11_43 64 (m_ap [(.iload_n 1, 1), (.iconst 5, 1), (.imul, 1), (.iload_n 2, 1), (.iadd, 1), (.istore 6, 2), (.aload_n 0, 1)] ((.getfield 42, 3) :: ((.getfield 433, 3) :: (m_ap [(.iload 6, 2), (.iconst 0, 1), (.iload_n 3, 1)] ((.invokevirtual 127, 3) :: (m_ap [(.aload_n 0, 1)] ((.getfield 42, 3) :: ((.getfield 433, 3) :: (m_ap [(.iload 6, 2), (.iconst 1, 1), (.iload 4, 2)] ((.invokevirtual 127, 3) :: (m_ap [(.aload_n 0, 1)] ((.getfield 42, 3) :: ((.getfield 433, 3) :: (m_ap [(.iload 6, 2), (.iconst 2, 1), (.iload 5, 2)] ((.invokevirtual 127, 3) :: ([(.return_, 1)])))))))))))))))) := m_Fe_of nd2243 30 28 rfl
theorem SF11_row_0 {xs : Nat → Int32} {L : Nat} (x0 : Nat) (x1 : Int32) (x2 : Int32) (x3 : Int32) (x4 : Int32) (x5 : Int32) (hp : m_H) {r : m_O × m_H} {K : ((Unit ⊕ Nat) × m_H) → Prop} (k0 : ∀ x, K x → r = (m_xV x)) {t : (Unit ⊕ Nat) × m_H} (h : F11_row_0 x0 x1 x2 x3 x4 x5 hp = some t) (hK : K t) : m_Rn xs L 7 2243 0 [(0, .ref x0), (1, .int x1), (2, .int x2), (3, .int x3), (4, .int x4), (5, .int x5)] [] hp r := by
  unfold F11_row_0 at h
  refine g_in eF11_row_0 mx2243 ?_
  refine g_ch [(0, .ref x0), (1, .int x1), (2, .int x2), (3, .int x3), (4, .int x4), (5, .int x5)] [.int 2, .int 0, .int x1] (pc' := 3) rfl rfl rfl ?_
  obtain ⟨v2, e1, h⟩ := m_bd h
  refine g_call (v := some (.int v2)) (h := hp) (st' := [.int v2]) (D1 := 0) (as := [.int x1, .int 0, .int 2]) (Or.inl rfl) q11_m79 (m_cs (as := [.int 2, .int 0, .int x1]) (rest := []) q11_m79 jv2251 rfl rfl rfl rfl rfl) (by decide) (SF11_outside e1) rfl ?_
  rcases m_ifd h with ⟨c3, h⟩ | ⟨c3, h⟩
  · refine g_ifcn (t := 53) rfl (m_neF c3) ?_
    refine g_in eF11_row_9 mx2243 ?_
    refine g_ch [(0, .ref x0), (1, .int x1), (2, .int x2), (3, .int x3), (4, .int x4), (5, .int x5)] [.int 4, .int 0, .int x2] (pc' := 12) rfl rfl rfl ?_
    obtain ⟨v5, e4, h⟩ := m_bd h
    refine g_call (v := some (.int v5)) (h := hp) (st' := [.int v5]) (D1 := 0) (as := [.int x2, .int 0, .int 4]) (Or.inl rfl) q11_m79 (m_cs (as := [.int 4, .int 0, .int x2]) (rest := []) q11_m79 jv2251 rfl rfl rfl rfl rfl) (by decide) (SF11_outside e4) rfl ?_
    rcases m_ifd h with ⟨c6, h⟩ | ⟨c6, h⟩
    · refine g_ifcn (t := 53) rfl (m_neF c6) ?_
      refine g_in eF11_row_18 mx2243 ?_
      refine g_ch [(0, .ref x0), (1, .int x1), (2, .int x2), (3, .int x3), (4, .int x4), (5, .int x5)] [.int 100000, .int 0, .int x3] (pc' := 23) rfl rfl rfl ?_
      obtain ⟨v8, e7, h⟩ := m_bd h
      refine g_call (v := some (.int v8)) (h := hp) (st' := [.int v8]) (D1 := 0) (as := [.int x3, .int 0, .int 100000]) (Or.inl rfl) q11_m79 (m_cs (as := [.int 100000, .int 0, .int x3]) (rest := []) q11_m79 jv2251 rfl rfl rfl rfl rfl) (by decide) (SF11_outside e7) rfl ?_
      rcases m_ifd h with ⟨c9, h⟩ | ⟨c9, h⟩
      · refine g_ifcn (t := 53) rfl (m_neF c9) ?_
        refine g_in eF11_row_29 mx2243 ?_
        refine g_ch [(0, .ref x0), (1, .int x1), (2, .int x2), (3, .int x3), (4, .int x4), (5, .int x5)] [.int 100000, .int 0, .int x4] (pc' := 35) rfl rfl rfl ?_
        obtain ⟨v11, e10, h⟩ := m_bd h
        refine g_call (v := some (.int v11)) (h := hp) (st' := [.int v11]) (D1 := 0) (as := [.int x4, .int 0, .int 100000]) (Or.inl rfl) q11_m79 (m_cs (as := [.int 100000, .int 0, .int x4]) (rest := []) q11_m79 jv2251 rfl rfl rfl rfl rfl) (by decide) (SF11_outside e10) rfl ?_
        rcases m_ifd h with ⟨c12, h⟩ | ⟨c12, h⟩
        · refine g_ifcn (t := 53) rfl (m_neF c12) ?_
          refine g_in eF11_row_41 mx2243 ?_
          refine g_ch [(0, .ref x0), (1, .int x1), (2, .int x2), (3, .int x3), (4, .int x4), (5, .int x5)] [.int 100000, .int 0, .int x5] (pc' := 47) rfl rfl rfl ?_
          obtain ⟨v14, e13, h⟩ := m_bd h
          refine g_call (v := some (.int v14)) (h := hp) (st' := [.int v14]) (D1 := 0) (as := [.int x5, .int 0, .int 100000]) (Or.inl rfl) q11_m79 (m_cs (as := [.int 100000, .int 0, .int x5]) (rest := []) q11_m79 jv2251 rfl rfl rfl rfl rfl) (by decide) (SF11_outside e13) rfl ?_
          rcases m_ifd h with ⟨c15, h⟩ | ⟨c15, h⟩
          · refine g_ifc (t := 64) rfl (m_eqT c15) ?_
            refine g_in eF11_row_64 mx2243 ?_
            refine g_ch [(6, .int ((x1 * 5) + x2)), (0, .ref x0), (1, .int x1), (2, .int x2), (3, .int x3), (4, .int x4), (5, .int x5)] [.ref x0] (pc' := 72) rfl rfl rfl ?_
            obtain ⟨v16, e17, h⟩ := m_bd h
            refine g_gr q11_f42 e17 ?_
            obtain ⟨v18, e19, h⟩ := m_bd h
            refine g_gr q11_f433 e19 ?_
            refine g_ch [(6, .int ((x1 * 5) + x2)), (0, .ref x0), (1, .int x1), (2, .int x2), (3, .int x3), (4, .int x4), (5, .int x5)] [.int x3, .int 0, .int ((x1 * 5) + x2), .ref v18] (pc' := 82) rfl rfl rfl ?_
            obtain ⟨h21, e20, h⟩ := m_bd h
            refine g_call (v := none) (h := h21) (st' := []) (D1 := 1) (as := [.ref v18, .int ((x1 * 5) + x2), .int 0, .int x3]) (Or.inr (Or.inl rfl)) q11_m127 (m_cv (as := [.int x3, .int 0, .int ((x1 * 5) + x2)]) (rest := []) (Or.inl rfl) q11_m127 jv1605 (OF8_set e20) rfl rfl rfl rfl) (by decide) (SF8_set e20) rfl ?_
            refine g_ch [(6, .int ((x1 * 5) + x2)), (0, .ref x0), (1, .int x1), (2, .int x2), (3, .int x3), (4, .int x4), (5, .int x5)] [.ref x0] (pc' := 86) rfl rfl rfl ?_
            obtain ⟨v22, e23, h⟩ := m_bd h
            refine g_gr q11_f42 e23 ?_
            obtain ⟨v24, e25, h⟩ := m_bd h
            refine g_gr q11_f433 e25 ?_
            refine g_ch [(6, .int ((x1 * 5) + x2)), (0, .ref x0), (1, .int x1), (2, .int x2), (3, .int x3), (4, .int x4), (5, .int x5)] [.int x4, .int 1, .int ((x1 * 5) + x2), .ref v24] (pc' := 97) rfl rfl rfl ?_
            obtain ⟨h27, e26, h⟩ := m_bd h
            refine g_call (v := none) (h := h27) (st' := []) (D1 := 1) (as := [.ref v24, .int ((x1 * 5) + x2), .int 1, .int x4]) (Or.inr (Or.inl rfl)) q11_m127 (m_cv (as := [.int x4, .int 1, .int ((x1 * 5) + x2)]) (rest := []) (Or.inl rfl) q11_m127 jv1605 (OF8_set e26) rfl rfl rfl rfl) (by decide) (SF8_set e26) rfl ?_
            refine g_ch [(6, .int ((x1 * 5) + x2)), (0, .ref x0), (1, .int x1), (2, .int x2), (3, .int x3), (4, .int x4), (5, .int x5)] [.ref x0] (pc' := 101) rfl rfl rfl ?_
            obtain ⟨v28, e29, h⟩ := m_bd h
            refine g_gr q11_f42 e29 ?_
            obtain ⟨v30, e31, h⟩ := m_bd h
            refine g_gr q11_f433 e31 ?_
            refine g_ch [(6, .int ((x1 * 5) + x2)), (0, .ref x0), (1, .int x1), (2, .int x2), (3, .int x3), (4, .int x4), (5, .int x5)] [.int x5, .int 2, .int ((x1 * 5) + x2), .ref v30] (pc' := 112) rfl rfl rfl ?_
            obtain ⟨h33, e32, h⟩ := m_bd h
            refine g_call (v := none) (h := h33) (st' := []) (D1 := 1) (as := [.ref v30, .int ((x1 * 5) + x2), .int 2, .int x5]) (Or.inr (Or.inl rfl)) q11_m127 (m_cv (as := [.int x5, .int 2, .int ((x1 * 5) + x2)]) (rest := []) (Or.inl rfl) q11_m127 jv1605 (OF8_set e32) rfl rfl rfl rfl) (by decide) (SF8_set e32) rfl ?_
            cases h
            rw [k0 _ hK]
            exact g_vret rfl
          · refine g_ifcn (t := 64) rfl (m_eqF c15) ?_
            refine g_in eF11_row_53 mx2243 ?_
            cases h
            rw [k0 _ hK]
            exact g_thr (by decide +kernel) (by decide) rfl
        · refine g_ifc (t := 53) rfl (m_neT c12) ?_
          refine g_in eF11_row_53 mx2243 ?_
          cases h
          rw [k0 _ hK]
          exact g_thr (by decide +kernel) (by decide) rfl
      · refine g_ifc (t := 53) rfl (m_neT c9) ?_
        refine g_in eF11_row_53 mx2243 ?_
        cases h
        rw [k0 _ hK]
        exact g_thr (by decide +kernel) (by decide) rfl
    · refine g_ifc (t := 53) rfl (m_neT c6) ?_
      refine g_in eF11_row_53 mx2243 ?_
      cases h
      rw [k0 _ hK]
      exact g_thr (by decide +kernel) (by decide) rfl
  · refine g_ifc (t := 53) rfl (m_neT c3) ?_
    refine g_in eF11_row_53 mx2243 ?_
    cases h
    rw [k0 _ hK]
    exact g_thr (by decide +kernel) (by decide) rfl
theorem OF11_row {x0 : Nat} {x1 : Int32} {x2 : Int32} {x3 : Int32} {x4 : Int32} {x5 : Int32} {hp : m_H} {x : (Unit ⊕ Nat) × m_H} (h : F11_row x0 x1 x2 x3 x4 x5 hp = some x) : m_isO hp 8 x0 = true := (m_gdd h).1
theorem SF11_row {xs : Nat → Int32} {L : Nat} {x0 : Nat} {x1 : Int32} {x2 : Int32} {x3 : Int32} {x4 : Int32} {x5 : Int32} {hp : m_H} {x : (Unit ⊕ Nat) × m_H} (h : F11_row x0 x1 x2 x3 x4 x5 hp = some x) : m_Rn xs L 7 2243 0 (lv_args 0 [.ref x0, .int x1, .int x2, .int x3, .int x4, .int x5]) [] hp (m_xV x) :=
  r_lv (SF11_row_0 x0 x1 x2 x3 x4 x5 hp (K := fun y => y = x) (fun y e => by rw [e]) (m_gdd h).2 rfl) rfl ⟨rfl, rfl, rfl, rfl, rfl, rfl, trivial⟩
-- F11_lasts: LendHouse.lasts()I
theorem eF11_lasts_0 : m_Fe mi11_44 0 (m_ap [(.aload_n 0, 1)] ((.getfield 42, 3) :: ((.invokestatic 436, 3) :: ([(.ireturn, 1)])))) := m_Fe_of nd2244 0 4 rfl
theorem SF11_lasts_0 {xs : Nat → Int32} {L : Nat} (x0 : Nat) (hp : m_H) {r : m_O × m_H} {K : Int32 → Prop} (k0 : ∀ x, K x → r = (.inl (some (.int x)), hp)) {t : Int32} (h : F11_lasts_0 x0 hp = some t) (hK : K t) : m_Rn xs L 5 2244 0 [(0, .ref x0)] [] hp r := by
  unfold F11_lasts_0 at h
  refine g_in eF11_lasts_0 mx2244 ?_
  refine g_ch [(0, .ref x0)] [.ref x0] (pc' := 1) rfl rfl rfl ?_
  obtain ⟨v1, e2, h⟩ := m_bd h
  refine g_gr q11_f42 e2 ?_
  obtain ⟨v4, e3, h⟩ := m_bd h
  refine g_call (v := some (.int v4)) (h := hp) (st' := [.int v4]) (D1 := 4) (as := [.ref v1]) (Or.inl rfl) q11_m436 (m_cs (as := [.ref v1]) (rest := []) q11_m436 jv1205 rfl rfl rfl rfl rfl) (by decide) (SF6_choicesThatLast e3) rfl ?_
  cases h
  rw [k0 _ hK]
  exact g_iret rfl rfl
theorem OF11_lasts {x0 : Nat} {hp : m_H} {x : Int32} (h : F11_lasts x0 hp = some x) : m_isO hp 8 x0 = true := (m_gdd h).1
theorem SF11_lasts {xs : Nat → Int32} {L : Nat} {x0 : Nat} {hp : m_H} {x : Int32} (h : F11_lasts x0 hp = some x) : m_Rn xs L 5 2244 0 (lv_args 0 [.ref x0]) [] hp (.inl (some (.int x)), hp) :=
  r_lv (SF11_lasts_0 x0 hp (K := fun y => y = x) (fun y e => by rw [e]) (m_gdd h).2 rfl) rfl ⟨rfl, trivial⟩
-- F11_cash: LendHouse.cash(IIIII)I
theorem eF11_cash_0 : m_Fe mi11_45 0 (m_ap [(.iload_n 1, 1)] ([(.ifCond .lt 21, 3)])) := m_Fe_of nd2245 0 2 rfl
theorem eF11_cash_22 : m_Fe mi11_45 22 ([(.new 83, 3)]) := m_Fe_of nd2245 10 1 rfl
theorem eF11_cash_4 : m_Fe mi11_45 4 (m_ap [(.iload_n 2, 1)] ([(.ifCond .lt 17, 3)])) := m_Fe_of nd2245 2 2 rfl
theorem eF11_cash_8 : m_Fe mi11_45 8 (m_ap [(.iload_n 3, 1)] ([(.ifCond .lt 13, 3)])) := m_Fe_of nd2245 4 2 rfl
theorem eF11_cash_12 : m_Fe mi11_45 12 (m_ap [(.iload 4, 2)] ([(.ifCond .lt 8, 3)])) := m_Fe_of nd2245 6 2 rfl
theorem eF11_cash_17 : m_Fe mi11_45 17 (m_ap [(.iload 5, 2)] ([(.ifCond .ge 14, 3)])) := m_Fe_of nd2245 8 2 rfl
theorem eF11_cash_33 : m_Fe mi11_45 33 (m_ap [(.bipush 6, 2)] ((.newarray .int, 2) :: (m_ap [(.dup, 1), (.iconst 0, 1), (.iconst 0, 1)] ((.iastore, 1) :: (m_ap [(.dup, 1), (.iconst 1, 1), (.iload_n 1, 1)] ((.iastore, 1) :: (m_ap [(.dup, 1), (.iconst 2, 1), (.iload_n 2, 1)] ((.iastore, 1) :: (m_ap [(.dup, 1), (.iconst 3, 1), (.iload_n 3, 1)] ((.iastore, 1) :: (m_ap [(.dup, 1), (.iconst 4, 1), (.iload 4, 2)] ((.iastore, 1) :: (m_ap [(.dup, 1), (.iconst 5, 1), (.iload 5, 2)] ((.iastore, 1) :: (m_ap [(.astore 6, 2), (.aload_n 0, 1)] ((.getfield 42, 3) :: (m_ap [(.aload 6, 2)] ((.invokestatic 441, 3) :: ([(.ireturn, 1)]))))))))))))))))))) := m_Fe_of nd2245 15 32 rfl
theorem SF11_cash_0 {xs : Nat → Int32} {L : Nat} (x0 : Nat) (x1 : Int32) (x2 : Int32) (x3 : Int32) (x4 : Int32) (x5 : Int32) (hp : m_H) {r : m_O × m_H} {K : ((Int32 ⊕ Nat) × m_H) → Prop} (k0 : ∀ x, K x → r = (m_xI x)) {t : (Int32 ⊕ Nat) × m_H} (h : F11_cash_0 x0 x1 x2 x3 x4 x5 hp = some t) (hK : K t) : m_Rn xs L 7 2245 0 [(0, .ref x0), (1, .int x1), (2, .int x2), (3, .int x3), (4, .int x4), (5, .int x5)] [] hp r := by
  unfold F11_cash_0 at h
  refine g_in eF11_cash_0 mx2245 ?_
  refine g_ch [(0, .ref x0), (1, .int x1), (2, .int x2), (3, .int x3), (4, .int x4), (5, .int x5)] [.int x1] (pc' := 1) rfl rfl rfl ?_
  rcases m_ifd h with ⟨c1, h⟩ | ⟨c1, h⟩
  · refine g_ifc (t := 22) rfl (m_ltT c1) ?_
    refine g_in eF11_cash_22 mx2245 ?_
    cases h
    rw [k0 _ hK]
    exact g_thr (by decide +kernel) (by decide) rfl
  · refine g_ifcn (t := 22) rfl (m_ltF c1) ?_
    refine g_in eF11_cash_4 mx2245 ?_
    refine g_ch [(0, .ref x0), (1, .int x1), (2, .int x2), (3, .int x3), (4, .int x4), (5, .int x5)] [.int x2] (pc' := 5) rfl rfl rfl ?_
    rcases m_ifd h with ⟨c2, h⟩ | ⟨c2, h⟩
    · refine g_ifc (t := 22) rfl (m_ltT c2) ?_
      refine g_in eF11_cash_22 mx2245 ?_
      cases h
      rw [k0 _ hK]
      exact g_thr (by decide +kernel) (by decide) rfl
    · refine g_ifcn (t := 22) rfl (m_ltF c2) ?_
      refine g_in eF11_cash_8 mx2245 ?_
      refine g_ch [(0, .ref x0), (1, .int x1), (2, .int x2), (3, .int x3), (4, .int x4), (5, .int x5)] [.int x3] (pc' := 9) rfl rfl rfl ?_
      rcases m_ifd h with ⟨c3, h⟩ | ⟨c3, h⟩
      · refine g_ifc (t := 22) rfl (m_ltT c3) ?_
        refine g_in eF11_cash_22 mx2245 ?_
        cases h
        rw [k0 _ hK]
        exact g_thr (by decide +kernel) (by decide) rfl
      · refine g_ifcn (t := 22) rfl (m_ltF c3) ?_
        refine g_in eF11_cash_12 mx2245 ?_
        refine g_ch [(0, .ref x0), (1, .int x1), (2, .int x2), (3, .int x3), (4, .int x4), (5, .int x5)] [.int x4] (pc' := 14) rfl rfl rfl ?_
        rcases m_ifd h with ⟨c4, h⟩ | ⟨c4, h⟩
        · refine g_ifc (t := 22) rfl (m_ltT c4) ?_
          refine g_in eF11_cash_22 mx2245 ?_
          cases h
          rw [k0 _ hK]
          exact g_thr (by decide +kernel) (by decide) rfl
        · refine g_ifcn (t := 22) rfl (m_ltF c4) ?_
          refine g_in eF11_cash_17 mx2245 ?_
          refine g_ch [(0, .ref x0), (1, .int x1), (2, .int x2), (3, .int x3), (4, .int x4), (5, .int x5)] [.int x5] (pc' := 19) rfl rfl rfl ?_
          rcases m_ifd h with ⟨c5, h⟩ | ⟨c5, h⟩
          · refine g_ifc (t := 33) rfl (m_geT c5) ?_
            refine g_in eF11_cash_33 mx2245 ?_
            refine g_ch [(0, .ref x0), (1, .int x1), (2, .int x2), (3, .int x3), (4, .int x4), (5, .int x5)] [.int 6] (pc' := 35) rfl rfl rfl ?_
            obtain ⟨h6, e7, h⟩ := m_bd h
            refine g_na rfl e7 ?_
            refine g_ch [(0, .ref x0), (1, .int x1), (2, .int x2), (3, .int x3), (4, .int x4), (5, .int x5)] [.int 0, .int 0, .ref (m_id hp), .ref (m_id hp)] (pc' := 40) rfl rfl rfl ?_
            obtain ⟨h8, e9, h⟩ := m_bd h
            refine g_is e9 ?_
            refine g_ch [(0, .ref x0), (1, .int x1), (2, .int x2), (3, .int x3), (4, .int x4), (5, .int x5)] [.int x1, .int 1, .ref (m_id hp), .ref (m_id hp)] (pc' := 44) rfl rfl rfl ?_
            obtain ⟨h10, e11, h⟩ := m_bd h
            refine g_is e11 ?_
            refine g_ch [(0, .ref x0), (1, .int x1), (2, .int x2), (3, .int x3), (4, .int x4), (5, .int x5)] [.int x2, .int 2, .ref (m_id hp), .ref (m_id hp)] (pc' := 48) rfl rfl rfl ?_
            obtain ⟨h12, e13, h⟩ := m_bd h
            refine g_is e13 ?_
            refine g_ch [(0, .ref x0), (1, .int x1), (2, .int x2), (3, .int x3), (4, .int x4), (5, .int x5)] [.int x3, .int 3, .ref (m_id hp), .ref (m_id hp)] (pc' := 52) rfl rfl rfl ?_
            obtain ⟨h14, e15, h⟩ := m_bd h
            refine g_is e15 ?_
            refine g_ch [(0, .ref x0), (1, .int x1), (2, .int x2), (3, .int x3), (4, .int x4), (5, .int x5)] [.int x4, .int 4, .ref (m_id hp), .ref (m_id hp)] (pc' := 57) rfl rfl rfl ?_
            obtain ⟨h16, e17, h⟩ := m_bd h
            refine g_is e17 ?_
            refine g_ch [(0, .ref x0), (1, .int x1), (2, .int x2), (3, .int x3), (4, .int x4), (5, .int x5)] [.int x5, .int 5, .ref (m_id hp), .ref (m_id hp)] (pc' := 62) rfl rfl rfl ?_
            obtain ⟨h18, e19, h⟩ := m_bd h
            refine g_is e19 ?_
            refine g_ch [(6, .ref (m_id hp)), (0, .ref x0), (1, .int x1), (2, .int x2), (3, .int x3), (4, .int x4), (5, .int x5)] [.ref x0] (pc' := 66) rfl rfl rfl ?_
            obtain ⟨v20, e21, h⟩ := m_bd h
            refine g_gr q11_f42 e21 ?_
            refine g_ch [(6, .ref (m_id hp)), (0, .ref x0), (1, .int x1), (2, .int x2), (3, .int x3), (4, .int x4), (5, .int x5)] [.ref (m_id hp), .ref v20] (pc' := 71) rfl rfl rfl ?_
            obtain ⟨z23, e22, h⟩ := m_bd h
            refine g_call (v := some (.int z23.1)) (h := z23.2) (st' := [.int z23.1]) (D1 := 2) (as := [.ref v20, .ref (m_id hp)]) (Or.inl rfl) q11_m441 (m_cs (as := [.ref (m_id hp), .ref v20]) (rest := []) q11_m441 jv1014 rfl rfl rfl rfl rfl) (by decide) (SF5_firstNotPaid e22) rfl ?_
            cases h
            rw [k0 _ hK]
            exact g_iret rfl rfl
          · refine g_ifcn (t := 33) rfl (m_geF c5) ?_
            refine g_in eF11_cash_22 mx2245 ?_
            cases h
            rw [k0 _ hK]
            exact g_thr (by decide +kernel) (by decide) rfl
theorem OF11_cash {x0 : Nat} {x1 : Int32} {x2 : Int32} {x3 : Int32} {x4 : Int32} {x5 : Int32} {hp : m_H} {x : (Int32 ⊕ Nat) × m_H} (h : F11_cash x0 x1 x2 x3 x4 x5 hp = some x) : m_isO hp 8 x0 = true := (m_gdd h).1
theorem SF11_cash {xs : Nat → Int32} {L : Nat} {x0 : Nat} {x1 : Int32} {x2 : Int32} {x3 : Int32} {x4 : Int32} {x5 : Int32} {hp : m_H} {x : (Int32 ⊕ Nat) × m_H} (h : F11_cash x0 x1 x2 x3 x4 x5 hp = some x) : m_Rn xs L 7 2245 0 (lv_args 0 [.ref x0, .int x1, .int x2, .int x3, .int x4, .int x5]) [] hp (m_xI x) :=
  r_lv (SF11_cash_0 x0 x1 x2 x3 x4 x5 hp (K := fun y => y = x) (fun y e => by rw [e]) (m_gdd h).2 rfl) rfl ⟨rfl, rfl, rfl, rfl, rfl, rfl, trivial⟩
-- F11_undo: LendHouse.undo()Z
theorem eF11_undo_0 : m_Fe mi11_46 0 (m_ap [(.aload_n 0, 1)] ((.getfield 445, 3) :: ([(.ifCond .ne 5, 3)]))) := m_Fe_of nd2246 0 3 rfl
theorem eF11_undo_9 : m_Fe mi11_46 9 (m_ap [(.aload_n 0, 1)] ((.getfield 42, 3) :: (m_ap [(.aload_n 0, 1)] ((.getfield 46, 3) :: ((.invokevirtual 448, 3) :: (m_ap [(.aload_n 0, 1), (.iconst 0, 1)] ((.putfield 445, 3) :: (m_ap [(.iconst 1, 1)] ([(.ireturn, 1)]))))))))) := m_Fe_of nd2246 5 10 rfl
theorem eF11_undo_7 : m_Fe mi11_46 7 (m_ap [(.iconst 0, 1)] ([(.ireturn, 1)])) := m_Fe_of nd2246 3 2 rfl
theorem SF11_undo_0 {xs : Nat → Int32} {L : Nat} (x0 : Nat) (hp : m_H) {r : m_O × m_H} {K : (Int32 × m_H) → Prop} (k0 : ∀ x, K x → r = (.inl (some (.int x.1)), x.2)) {t : Int32 × m_H} (h : F11_undo_0 x0 hp = some t) (hK : K t) : m_Rn xs L 9 2246 0 [(0, .ref x0)] [] hp r := by
  unfold F11_undo_0 at h
  refine g_in eF11_undo_0 mx2246 ?_
  refine g_ch [(0, .ref x0)] [.ref x0] (pc' := 1) rfl rfl rfl ?_
  obtain ⟨v1, e2, h⟩ := m_bd h
  refine g_gi q11_f445 e2 ?_
  rcases m_ifd h with ⟨c3, h⟩ | ⟨c3, h⟩
  · refine g_ifcn (t := 9) rfl (m_neF c3) ?_
    refine g_in eF11_undo_7 mx2246 ?_
    refine g_ch [(0, .ref x0)] [.int 0] (pc' := 8) rfl rfl rfl ?_
    cases h
    rw [k0 _ hK]
    exact g_iret rfl (by decide +kernel)
  · refine g_ifc (t := 9) rfl (m_neT c3) ?_
    refine g_in eF11_undo_9 mx2246 ?_
    refine g_ch [(0, .ref x0)] [.ref x0] (pc' := 10) rfl rfl rfl ?_
    obtain ⟨v4, e5, h⟩ := m_bd h
    refine g_gr q11_f42 e5 ?_
    refine g_ch [(0, .ref x0)] [.ref x0, .ref v4] (pc' := 14) rfl rfl rfl ?_
    obtain ⟨v6, e7, h⟩ := m_bd h
    refine g_gr q11_f46 e7 ?_
    obtain ⟨h9, e8, h⟩ := m_bd h
    refine g_call (v := none) (h := h9) (st' := []) (D1 := 8) (as := [.ref v4, .ref v6]) (Or.inr (Or.inl rfl)) q11_m448 (m_cv (as := [.ref v6]) (rest := []) (Or.inl rfl) q11_m448 jv602 (OF3_copyFrom e8) rfl rfl rfl rfl) (by decide) (SF3_copyFrom e8) rfl ?_
    refine g_ch [(0, .ref x0)] [.int 0, .ref x0] (pc' := 22) rfl rfl rfl ?_
    obtain ⟨h10, e11, h⟩ := m_bd h
    refine g_pf q11_f445 e11 ?_
    refine g_ch [(0, .ref x0)] [.int 1] (pc' := 26) rfl rfl rfl ?_
    cases h
    rw [k0 _ hK]
    exact g_iret rfl (by decide +kernel)
theorem OF11_undo {x0 : Nat} {hp : m_H} {x : Int32 × m_H} (h : F11_undo x0 hp = some x) : m_isO hp 8 x0 = true := (m_gdd h).1
theorem SF11_undo {xs : Nat → Int32} {L : Nat} {x0 : Nat} {hp : m_H} {x : Int32 × m_H} (h : F11_undo x0 hp = some x) : m_Rn xs L 9 2246 0 (lv_args 0 [.ref x0]) [] hp (.inl (some (.int x.1)), x.2) :=
  r_lv (SF11_undo_0 x0 hp (K := fun y => y = x) (fun y e => by rw [e]) (m_gdd h).2 rfl) rfl ⟨rfl, trivial⟩
-- F11_keep: LendHouse.keep()V
theorem eF11_keep_0 : m_Fe mi11_47 0 (m_ap [(.aload_n 0, 1)] ((.getfield 49, 3) :: (m_ap [(.aload_n 0, 1)] ((.getfield 42, 3) :: ((.invokevirtual 448, 3) :: (m_ap [(.aload_n 0, 1)] ((.getfield 59, 3) :: (m_ap [(.aload_n 0, 1)] ((.getfield 55, 3) :: (m_ap [(.aload_n 0, 1)] ((.getfield 42, 3) :: ((.getfield 76, 3) :: ((.invokevirtual 451, 3) :: (m_ap [(.aload_n 0, 1), (.iconst 1, 1)] ((.putfield 454, 3) :: ([(.return_, 1)])))))))))))))))) := m_Fe_of nd2247 0 17 rfl
theorem SF11_keep_0 {xs : Nat → Int32} {L : Nat} (x0 : Nat) (hp : m_H) {r : m_O × m_H} {K : m_H → Prop} (k0 : ∀ x, K x → r = (.inl none, x)) {t : m_H} (h : F11_keep_0 x0 hp = some t) (hK : K t) : m_Rn xs L 9 2247 0 [(0, .ref x0)] [] hp r := by
  unfold F11_keep_0 at h
  refine g_in eF11_keep_0 mx2247 ?_
  refine g_ch [(0, .ref x0)] [.ref x0] (pc' := 1) rfl rfl rfl ?_
  obtain ⟨v1, e2, h⟩ := m_bd h
  refine g_gr q11_f49 e2 ?_
  refine g_ch [(0, .ref x0)] [.ref x0, .ref v1] (pc' := 5) rfl rfl rfl ?_
  obtain ⟨v3, e4, h⟩ := m_bd h
  refine g_gr q11_f42 e4 ?_
  obtain ⟨h6, e5, h⟩ := m_bd h
  refine g_call (v := none) (h := h6) (st' := []) (D1 := 8) (as := [.ref v1, .ref v3]) (Or.inr (Or.inl rfl)) q11_m448 (m_cv (as := [.ref v3]) (rest := []) (Or.inl rfl) q11_m448 jv602 (OF3_copyFrom e5) rfl rfl rfl rfl) (by decide) (SF3_copyFrom e5) rfl ?_
  refine g_ch [(0, .ref x0)] [.ref x0] (pc' := 12) rfl rfl rfl ?_
  obtain ⟨v7, e8, h⟩ := m_bd h
  refine g_gr q11_f59 e8 ?_
  refine g_ch [(0, .ref x0)] [.ref x0, .ref v7] (pc' := 16) rfl rfl rfl ?_
  obtain ⟨v9, e10, h⟩ := m_bd h
  refine g_gr q11_f55 e10 ?_
  refine g_ch [(0, .ref x0)] [.ref x0, .ref v9, .ref v7] (pc' := 20) rfl rfl rfl ?_
  obtain ⟨v11, e12, h⟩ := m_bd h
  refine g_gr q11_f42 e12 ?_
  obtain ⟨v13, e14, h⟩ := m_bd h
  refine g_gi q11_f76 e14 ?_
  obtain ⟨h16, e15, h⟩ := m_bd h
  refine g_call (v := none) (h := h16) (st' := []) (D1 := 8) (as := [.ref v7, .ref v9, .int v13]) (Or.inr (Or.inl rfl)) q11_m451 (m_cv (as := [.int v13, .ref v9]) (rest := []) (Or.inl rfl) q11_m451 jv205 (OF1_copyFrom e15) rfl rfl rfl rfl) (by decide) (SF1_copyFrom e15) rfl ?_
  refine g_ch [(0, .ref x0)] [.int 1, .ref x0] (pc' := 31) rfl rfl rfl ?_
  obtain ⟨h17, e18, h⟩ := m_bd h
  refine g_pf q11_f454 e18 ?_
  cases h
  rw [k0 _ hK]
  exact g_vret rfl
theorem OF11_keep {x0 : Nat} {hp : m_H} {x : m_H} (h : F11_keep x0 hp = some x) : m_isO hp 8 x0 = true := (m_gdd h).1
theorem SF11_keep {xs : Nat → Int32} {L : Nat} {x0 : Nat} {hp : m_H} {x : m_H} (h : F11_keep x0 hp = some x) : m_Rn xs L 9 2247 0 (lv_args 0 [.ref x0]) [] hp (.inl none, x) :=
  r_lv (SF11_keep_0 x0 hp (K := fun y => y = x) (fun y e => by rw [e]) (m_gdd h).2 rfl) rfl ⟨rfl, trivial⟩
-- F11_again: LendHouse.again()Z
theorem eF11_again_0 : m_Fe mi11_48 0 (m_ap [(.aload_n 0, 1)] ((.getfield 454, 3) :: ([(.ifCond .ne 5, 3)]))) := m_Fe_of nd2248 0 3 rfl
theorem eF11_again_9 : m_Fe mi11_48 9 (m_ap [(.aload_n 0, 1)] ((.getfield 42, 3) :: (m_ap [(.aload_n 0, 1)] ((.getfield 49, 3) :: ((.invokevirtual 448, 3) :: (m_ap [(.aload_n 0, 1)] ((.getfield 55, 3) :: (m_ap [(.aload_n 0, 1)] ((.getfield 59, 3) :: (m_ap [(.aload_n 0, 1)] ((.getfield 49, 3) :: ((.getfield 76, 3) :: ((.invokevirtual 451, 3) :: (m_ap [(.aload_n 0, 1), (.iconst 0, 1)] ((.putfield 445, 3) :: (m_ap [(.iconst 1, 1)] ([(.ireturn, 1)]))))))))))))))))) := m_Fe_of nd2248 5 18 rfl
theorem eF11_again_7 : m_Fe mi11_48 7 (m_ap [(.iconst 0, 1)] ([(.ireturn, 1)])) := m_Fe_of nd2248 3 2 rfl
theorem SF11_again_0 {xs : Nat → Int32} {L : Nat} (x0 : Nat) (hp : m_H) {r : m_O × m_H} {K : (Int32 × m_H) → Prop} (k0 : ∀ x, K x → r = (.inl (some (.int x.1)), x.2)) {t : Int32 × m_H} (h : F11_again_0 x0 hp = some t) (hK : K t) : m_Rn xs L 9 2248 0 [(0, .ref x0)] [] hp r := by
  unfold F11_again_0 at h
  refine g_in eF11_again_0 mx2248 ?_
  refine g_ch [(0, .ref x0)] [.ref x0] (pc' := 1) rfl rfl rfl ?_
  obtain ⟨v1, e2, h⟩ := m_bd h
  refine g_gi q11_f454 e2 ?_
  rcases m_ifd h with ⟨c3, h⟩ | ⟨c3, h⟩
  · refine g_ifcn (t := 9) rfl (m_neF c3) ?_
    refine g_in eF11_again_7 mx2248 ?_
    refine g_ch [(0, .ref x0)] [.int 0] (pc' := 8) rfl rfl rfl ?_
    cases h
    rw [k0 _ hK]
    exact g_iret rfl (by decide +kernel)
  · refine g_ifc (t := 9) rfl (m_neT c3) ?_
    refine g_in eF11_again_9 mx2248 ?_
    refine g_ch [(0, .ref x0)] [.ref x0] (pc' := 10) rfl rfl rfl ?_
    obtain ⟨v4, e5, h⟩ := m_bd h
    refine g_gr q11_f42 e5 ?_
    refine g_ch [(0, .ref x0)] [.ref x0, .ref v4] (pc' := 14) rfl rfl rfl ?_
    obtain ⟨v6, e7, h⟩ := m_bd h
    refine g_gr q11_f49 e7 ?_
    obtain ⟨h9, e8, h⟩ := m_bd h
    refine g_call (v := none) (h := h9) (st' := []) (D1 := 8) (as := [.ref v4, .ref v6]) (Or.inr (Or.inl rfl)) q11_m448 (m_cv (as := [.ref v6]) (rest := []) (Or.inl rfl) q11_m448 jv602 (OF3_copyFrom e8) rfl rfl rfl rfl) (by decide) (SF3_copyFrom e8) rfl ?_
    refine g_ch [(0, .ref x0)] [.ref x0] (pc' := 21) rfl rfl rfl ?_
    obtain ⟨v10, e11, h⟩ := m_bd h
    refine g_gr q11_f55 e11 ?_
    refine g_ch [(0, .ref x0)] [.ref x0, .ref v10] (pc' := 25) rfl rfl rfl ?_
    obtain ⟨v12, e13, h⟩ := m_bd h
    refine g_gr q11_f59 e13 ?_
    refine g_ch [(0, .ref x0)] [.ref x0, .ref v12, .ref v10] (pc' := 29) rfl rfl rfl ?_
    obtain ⟨v14, e15, h⟩ := m_bd h
    refine g_gr q11_f49 e15 ?_
    obtain ⟨v16, e17, h⟩ := m_bd h
    refine g_gi q11_f76 e17 ?_
    obtain ⟨h19, e18, h⟩ := m_bd h
    refine g_call (v := none) (h := h19) (st' := []) (D1 := 8) (as := [.ref v10, .ref v12, .int v16]) (Or.inr (Or.inl rfl)) q11_m451 (m_cv (as := [.int v16, .ref v12]) (rest := []) (Or.inl rfl) q11_m451 jv205 (OF1_copyFrom e18) rfl rfl rfl rfl) (by decide) (SF1_copyFrom e18) rfl ?_
    refine g_ch [(0, .ref x0)] [.int 0, .ref x0] (pc' := 40) rfl rfl rfl ?_
    obtain ⟨h20, e21, h⟩ := m_bd h
    refine g_pf q11_f445 e21 ?_
    refine g_ch [(0, .ref x0)] [.int 1] (pc' := 44) rfl rfl rfl ?_
    cases h
    rw [k0 _ hK]
    exact g_iret rfl (by decide +kernel)
theorem OF11_again {x0 : Nat} {hp : m_H} {x : Int32 × m_H} (h : F11_again x0 hp = some x) : m_isO hp 8 x0 = true := (m_gdd h).1
theorem SF11_again {xs : Nat → Int32} {L : Nat} {x0 : Nat} {hp : m_H} {x : Int32 × m_H} (h : F11_again x0 hp = some x) : m_Rn xs L 9 2248 0 (lv_args 0 [.ref x0]) [] hp (.inl (some (.int x.1)), x.2) :=
  r_lv (SF11_again_0 x0 hp (K := fun y => y = x) (fun y e => by rw [e]) (m_gdd h).2 rfl) rfl ⟨rfl, trivial⟩
-- F11_count: LendHouse.count(I)I
theorem eF11_count_0 : m_Fe mi11_49 0 (m_ap [(.iload_n 1, 1), (.bipush 12, 2)] ([(.if_icmp .lt 21, 3)])) := m_Fe_of nd2249 0 3 rfl
theorem eF11_count_6 : m_Fe mi11_49 6 (m_ap [(.iload_n 1, 1), (.bipush 21, 2)] ([(.if_icmp .ge 15, 3)])) := m_Fe_of nd2249 3 3 rfl
theorem eF11_count_12 : m_Fe mi11_49 12 (m_ap [(.aload_n 0, 1)] ((.getfield 42, 3) :: (m_ap [(.iload_n 1, 1), (.bipush 12, 2), (.isub, 1)] ((.invokevirtual 457, 3) :: ([(.ireturn, 1)]))))) := m_Fe_of nd2249 6 7 rfl
theorem eF11_count_24 : m_Fe mi11_49 24 (m_ap [(.iload_n 1, 1)] ([(.tableswitch 191 0 11 #[63, 71, 82, 90, 98, 106, 114, 125, 138, 152, 163, 175], 63)])) := m_Fe_of nd2249 13 2 rfl
theorem eF11_count_216 : m_Fe mi11_49 216 (m_ap [(.iconst (-1), 1)] ([(.ireturn, 1)])) := m_Fe_of nd2249 78 2 rfl
theorem eF11_count_88 : m_Fe mi11_49 88 (m_ap [(.aload_n 0, 1)] ((.getfield 42, 3) :: ((.getfield 76, 3) :: ([(.ireturn, 1)])))) := m_Fe_of nd2249 15 4 rfl
theorem eF11_count_96 : m_Fe mi11_49 96 (m_ap [(.aload_n 0, 1)] ((.getfield 42, 3) :: ((.getfield 176, 3) :: ((.getfield 371, 3) :: ([(.ireturn, 1)]))))) := m_Fe_of nd2249 19 5 rfl
theorem eF11_count_107 : m_Fe mi11_49 107 (m_ap [(.aload_n 0, 1)] ((.getfield 42, 3) :: ((.getfield 147, 3) :: ([(.ireturn, 1)])))) := m_Fe_of nd2249 24 4 rfl
theorem eF11_count_115 : m_Fe mi11_49 115 (m_ap [(.aload_n 0, 1)] ((.getfield 42, 3) :: ((.getfield 98, 3) :: ([(.ireturn, 1)])))) := m_Fe_of nd2249 28 4 rfl
theorem eF11_count_123 : m_Fe mi11_49 123 (m_ap [(.aload_n 0, 1)] ((.getfield 42, 3) :: ((.invokevirtual 460, 3) :: ([(.ireturn, 1)])))) := m_Fe_of nd2249 32 4 rfl
theorem eF11_count_131 : m_Fe mi11_49 131 (m_ap [(.aload_n 0, 1)] ((.getfield 42, 3) :: ((.invokevirtual 463, 3) :: ([(.ireturn, 1)])))) := m_Fe_of nd2249 36 4 rfl
theorem eF11_count_139 : m_Fe mi11_49 139 (m_ap [(.aload_n 0, 1)] ((.getfield 42, 3) :: ((.getfield 274, 3) :: ((.getfield 371, 3) :: ([(.ireturn, 1)]))))) := m_Fe_of nd2249 40 5 rfl
theorem eF11_count_150 : m_Fe mi11_49 150 (m_ap [(.aload_n 0, 1)] ((.getfield 42, 3) :: ((.getfield 274, 3) :: (m_ap [(.iconst 2, 1), (.iconst 4, 1)] ((.invokevirtual 466, 3) :: ([(.ireturn, 1)])))))) := m_Fe_of nd2249 45 7 rfl
theorem eF11_count_163 : m_Fe mi11_49 163 (m_ap [(.aload_n 0, 1)] ((.getfield 42, 3) :: ((.getfield 176, 3) :: (m_ap [(.bipush 9, 2), (.iconst 1, 1)] ((.invokevirtual 466, 3) :: ([(.ireturn, 1)])))))) := m_Fe_of nd2249 52 7 rfl
theorem eF11_count_177 : m_Fe mi11_49 177 (m_ap [(.aload_n 0, 1)] ((.getfield 42, 3) :: ((.getfield 394, 3) :: ((.getfield 371, 3) :: ([(.ireturn, 1)]))))) := m_Fe_of nd2249 59 5 rfl
theorem eF11_count_188 : m_Fe mi11_49 188 (m_ap [(.aload_n 0, 1)] ((.getfield 42, 3) :: ((.getfield 394, 3) :: (m_ap [(.iconst 5, 1)] ((.invokevirtual 469, 3) :: ([(.ireturn, 1)])))))) := m_Fe_of nd2249 64 6 rfl
theorem eF11_count_200 : m_Fe mi11_49 200 (m_ap [(.aload_n 0, 1)] ((.getfield 42, 3) :: ((.getfield 358, 3) :: ([(.ifCond .eq 7, 3)])))) := m_Fe_of nd2249 70 4 rfl
theorem eF11_count_214 : m_Fe mi11_49 214 (m_ap [(.iconst 0, 1)] ([])) := m_Fe_of nd2249 76 1 rfl
theorem eF11_count_215 : m_Fe mi11_49 215 ([(.ireturn, 1)]) := m_Fe_of nd2249 77 1 rfl
theorem eF11_count_210 : m_Fe mi11_49 210 (m_ap [(.iconst 1, 1)] ([(.goto 4, 3)])) := m_Fe_of nd2249 74 2 rfl
theorem SF11_count_24 {xs : Nat → Int32} {L : Nat} (x0 : Nat) (x1 : Int32) (hp : m_H) {r : m_O × m_H} {K : Int32 → Prop} (k0 : ∀ x, K x → r = (.inl (some (.int x)), hp)) {t : Int32} (h : F11_count_24 x0 x1 hp = some t) (hK : K t) : m_Rn xs L 4 2249 24 [(0, .ref x0), (1, .int x1)] [] hp r := by
  unfold F11_count_24 at h
  refine g_in eF11_count_24 mx2249 ?_
  refine g_ch [(0, .ref x0), (1, .int x1)] [.int x1] (pc' := 25) rfl rfl rfl ?_
  rcases m_swd h with ⟨e2, h⟩ | ⟨w1, e2, h⟩
  · refine g_swd e2 (t := 216) rfl ?_
    refine g_in eF11_count_216 mx2249 ?_
    refine g_ch [(0, .ref x0), (1, .int x1)] [.int (-1)] (pc' := 217) rfl rfl rfl ?_
    cases h
    rw [k0 _ hK]
    exact g_iret rfl rfl
  · rcases m_ifd h with ⟨c3, hc3⟩ | ⟨c3, h⟩
    · subst c3
      have h := hc3
      refine g_sw (o := 63) (t := 88) e2 rfl rfl ?_
      refine g_in eF11_count_88 mx2249 ?_
      refine g_ch [(0, .ref x0), (1, .int x1)] [.ref x0] (pc' := 89) rfl rfl rfl ?_
      obtain ⟨v4, e5, h⟩ := m_bd h
      refine g_gr q11_f42 e5 ?_
      obtain ⟨v6, e7, h⟩ := m_bd h
      refine g_gi q11_f76 e7 ?_
      cases h
      rw [k0 _ hK]
      exact g_iret rfl rfl
    rcases m_ifd h with ⟨c8, hc8⟩ | ⟨c8, h⟩
    · subst c8
      have h := hc8
      refine g_sw (o := 71) (t := 96) e2 rfl rfl ?_
      refine g_in eF11_count_96 mx2249 ?_
      refine g_ch [(0, .ref x0), (1, .int x1)] [.ref x0] (pc' := 97) rfl rfl rfl ?_
      obtain ⟨v9, e10, h⟩ := m_bd h
      refine g_gr q11_f42 e10 ?_
      obtain ⟨v11, e12, h⟩ := m_bd h
      refine g_gr q11_f176 e12 ?_
      obtain ⟨v13, e14, h⟩ := m_bd h
      refine g_gi q11_f371 e14 ?_
      cases h
      rw [k0 _ hK]
      exact g_iret rfl rfl
    rcases m_ifd h with ⟨c15, hc15⟩ | ⟨c15, h⟩
    · subst c15
      have h := hc15
      refine g_sw (o := 82) (t := 107) e2 rfl rfl ?_
      refine g_in eF11_count_107 mx2249 ?_
      refine g_ch [(0, .ref x0), (1, .int x1)] [.ref x0] (pc' := 108) rfl rfl rfl ?_
      obtain ⟨v16, e17, h⟩ := m_bd h
      refine g_gr q11_f42 e17 ?_
      obtain ⟨v18, e19, h⟩ := m_bd h
      refine g_gi q11_f147 e19 ?_
      cases h
      rw [k0 _ hK]
      exact g_iret rfl rfl
    rcases m_ifd h with ⟨c20, hc20⟩ | ⟨c20, h⟩
    · subst c20
      have h := hc20
      refine g_sw (o := 90) (t := 115) e2 rfl rfl ?_
      refine g_in eF11_count_115 mx2249 ?_
      refine g_ch [(0, .ref x0), (1, .int x1)] [.ref x0] (pc' := 116) rfl rfl rfl ?_
      obtain ⟨v21, e22, h⟩ := m_bd h
      refine g_gr q11_f42 e22 ?_
      obtain ⟨v23, e24, h⟩ := m_bd h
      refine g_gi q11_f98 e24 ?_
      cases h
      rw [k0 _ hK]
      exact g_iret rfl rfl
    rcases m_ifd h with ⟨c25, hc25⟩ | ⟨c25, h⟩
    · subst c25
      have h := hc25
      refine g_sw (o := 98) (t := 123) e2 rfl rfl ?_
      refine g_in eF11_count_123 mx2249 ?_
      refine g_ch [(0, .ref x0), (1, .int x1)] [.ref x0] (pc' := 124) rfl rfl rfl ?_
      obtain ⟨v26, e27, h⟩ := m_bd h
      refine g_gr q11_f42 e27 ?_
      obtain ⟨v29, e28, h⟩ := m_bd h
      refine g_call (v := some (.int v29)) (h := hp) (st' := [.int v29]) (D1 := 1) (as := [.ref v26]) (Or.inr (Or.inl rfl)) q11_m460 (m_cv (as := []) (rest := []) (Or.inl rfl) q11_m460 jv610 (OF3_linesOfWeek e28) rfl rfl rfl rfl) (by decide) (SF3_linesOfWeek e28) rfl ?_
      cases h
      rw [k0 _ hK]
      exact g_iret rfl rfl
    rcases m_ifd h with ⟨c30, hc30⟩ | ⟨c30, h⟩
    · subst c30
      have h := hc30
      refine g_sw (o := 106) (t := 131) e2 rfl rfl ?_
      refine g_in eF11_count_131 mx2249 ?_
      refine g_ch [(0, .ref x0), (1, .int x1)] [.ref x0] (pc' := 132) rfl rfl rfl ?_
      obtain ⟨v31, e32, h⟩ := m_bd h
      refine g_gr q11_f42 e32 ?_
      obtain ⟨v34, e33, h⟩ := m_bd h
      refine g_call (v := some (.int v34)) (h := hp) (st' := [.int v34]) (D1 := 3) (as := [.ref v31]) (Or.inr (Or.inl rfl)) q11_m463 (m_cv (as := []) (rest := []) (Or.inl rfl) q11_m463 jv626 (OF3_openRequests e33) rfl rfl rfl rfl) (by decide) (SF3_openRequests e33) rfl ?_
      cases h
      rw [k0 _ hK]
      exact g_iret rfl rfl
    rcases m_ifd h with ⟨c35, hc35⟩ | ⟨c35, h⟩
    · subst c35
      have h := hc35
      refine g_sw (o := 114) (t := 139) e2 rfl rfl ?_
      refine g_in eF11_count_139 mx2249 ?_
      refine g_ch [(0, .ref x0), (1, .int x1)] [.ref x0] (pc' := 140) rfl rfl rfl ?_
      obtain ⟨v36, e37, h⟩ := m_bd h
      refine g_gr q11_f42 e37 ?_
      obtain ⟨v38, e39, h⟩ := m_bd h
      refine g_gr q11_f274 e39 ?_
      obtain ⟨v40, e41, h⟩ := m_bd h
      refine g_gi q11_f371 e41 ?_
      cases h
      rw [k0 _ hK]
      exact g_iret rfl rfl
    rcases m_ifd h with ⟨c42, hc42⟩ | ⟨c42, h⟩
    · subst c42
      have h := hc42
      refine g_sw (o := 125) (t := 150) e2 rfl rfl ?_
      refine g_in eF11_count_150 mx2249 ?_
      refine g_ch [(0, .ref x0), (1, .int x1)] [.ref x0] (pc' := 151) rfl rfl rfl ?_
      obtain ⟨v43, e44, h⟩ := m_bd h
      refine g_gr q11_f42 e44 ?_
      obtain ⟨v45, e46, h⟩ := m_bd h
      refine g_gr q11_f274 e46 ?_
      refine g_ch [(0, .ref x0), (1, .int x1)] [.int 4, .int 2, .ref v45] (pc' := 159) rfl rfl rfl ?_
      obtain ⟨v48, e47, h⟩ := m_bd h
      refine g_call (v := some (.int v48)) (h := hp) (st' := [.int v48]) (D1 := 2) (as := [.ref v45, .int 2, .int 4]) (Or.inr (Or.inl rfl)) q11_m466 (m_cv (as := [.int 4, .int 2]) (rest := []) (Or.inl rfl) q11_m466 jv1608 (OF8_rowsWith e47) rfl rfl rfl rfl) (by decide) (SF8_rowsWith e47) rfl ?_
      cases h
      rw [k0 _ hK]
      exact g_iret rfl rfl
    rcases m_ifd h with ⟨c49, hc49⟩ | ⟨c49, h⟩
    · subst c49
      have h := hc49
      refine g_sw (o := 138) (t := 163) e2 rfl rfl ?_
      refine g_in eF11_count_163 mx2249 ?_
      refine g_ch [(0, .ref x0), (1, .int x1)] [.ref x0] (pc' := 164) rfl rfl rfl ?_
      obtain ⟨v50, e51, h⟩ := m_bd h
      refine g_gr q11_f42 e51 ?_
      obtain ⟨v52, e53, h⟩ := m_bd h
      refine g_gr q11_f176 e53 ?_
      refine g_ch [(0, .ref x0), (1, .int x1)] [.int 1, .int 9, .ref v52] (pc' := 173) rfl rfl rfl ?_
      obtain ⟨v55, e54, h⟩ := m_bd h
      refine g_call (v := some (.int v55)) (h := hp) (st' := [.int v55]) (D1 := 2) (as := [.ref v52, .int 9, .int 1]) (Or.inr (Or.inl rfl)) q11_m466 (m_cv (as := [.int 1, .int 9]) (rest := []) (Or.inl rfl) q11_m466 jv1608 (OF8_rowsWith e54) rfl rfl rfl rfl) (by decide) (SF8_rowsWith e54) rfl ?_
      cases h
      rw [k0 _ hK]
      exact g_iret rfl rfl
    rcases m_ifd h with ⟨c56, hc56⟩ | ⟨c56, h⟩
    · subst c56
      have h := hc56
      refine g_sw (o := 152) (t := 177) e2 rfl rfl ?_
      refine g_in eF11_count_177 mx2249 ?_
      refine g_ch [(0, .ref x0), (1, .int x1)] [.ref x0] (pc' := 178) rfl rfl rfl ?_
      obtain ⟨v57, e58, h⟩ := m_bd h
      refine g_gr q11_f42 e58 ?_
      obtain ⟨v59, e60, h⟩ := m_bd h
      refine g_gr q11_f394 e60 ?_
      obtain ⟨v61, e62, h⟩ := m_bd h
      refine g_gi q11_f371 e62 ?_
      cases h
      rw [k0 _ hK]
      exact g_iret rfl rfl
    rcases m_ifd h with ⟨c63, hc63⟩ | ⟨c63, h⟩
    · subst c63
      have h := hc63
      refine g_sw (o := 163) (t := 188) e2 rfl rfl ?_
      refine g_in eF11_count_188 mx2249 ?_
      refine g_ch [(0, .ref x0), (1, .int x1)] [.ref x0] (pc' := 189) rfl rfl rfl ?_
      obtain ⟨v64, e65, h⟩ := m_bd h
      refine g_gr q11_f42 e65 ?_
      obtain ⟨v66, e67, h⟩ := m_bd h
      refine g_gr q11_f394 e67 ?_
      refine g_ch [(0, .ref x0), (1, .int x1)] [.int 5, .ref v66] (pc' := 196) rfl rfl rfl ?_
      obtain ⟨v69, e68, h⟩ := m_bd h
      refine g_call (v := some (.int v69)) (h := hp) (st' := [.int v69]) (D1 := 2) (as := [.ref v66, .int 5]) (Or.inr (Or.inl rfl)) q11_m469 (m_cv (as := [.int 5]) (rest := []) (Or.inl rfl) q11_m469 jv1609 (OF8_sumOf e68) rfl rfl rfl rfl) (by decide) (SF8_sumOf e68) rfl ?_
      cases h
      rw [k0 _ hK]
      exact g_iret rfl rfl
    rcases m_ifd h with ⟨c70, hc70⟩ | ⟨c70, h⟩
    · subst c70
      have h := hc70
      refine g_sw (o := 175) (t := 200) e2 rfl rfl ?_
      refine g_in eF11_count_200 mx2249 ?_
      refine g_ch [(0, .ref x0), (1, .int x1)] [.ref x0] (pc' := 201) rfl rfl rfl ?_
      obtain ⟨v71, e72, h⟩ := m_bd h
      refine g_gr q11_f42 e72 ?_
      obtain ⟨v73, e74, h⟩ := m_bd h
      refine g_gi q11_f358 e74 ?_
      rcases m_ifd h with ⟨c75, h⟩ | ⟨c75, h⟩
      · refine g_ifc (t := 214) rfl (m_eqT c75) ?_
        refine g_in eF11_count_214 mx2249 ?_
        refine g_ch [(0, .ref x0), (1, .int x1)] [.int 0] (pc' := 215) rfl rfl rfl ?_
        refine g_end ?_
        refine g_in eF11_count_215 mx2249 ?_
        cases h
        rw [k0 _ hK]
        exact g_iret rfl rfl
      · refine g_ifcn (t := 214) rfl (m_eqF c75) ?_
        refine g_in eF11_count_210 mx2249 ?_
        refine g_ch [(0, .ref x0), (1, .int x1)] [.int 1] (pc' := 211) rfl rfl rfl ?_
        refine g_goto (t := 215) rfl ?_
        refine g_in eF11_count_215 mx2249 ?_
        cases h
        rw [k0 _ hK]
        exact g_iret rfl rfl
    cases h
theorem SF11_count_0 {xs : Nat → Int32} {L : Nat} (x0 : Nat) (x1 : Int32) (hp : m_H) {r : m_O × m_H} {K : Int32 → Prop} (k0 : ∀ x, K x → r = (.inl (some (.int x)), hp)) {t : Int32} (h : F11_count_0 x0 x1 hp = some t) (hK : K t) : m_Rn xs L 4 2249 0 [(0, .ref x0), (1, .int x1)] [] hp r := by
  unfold F11_count_0 at h
  refine g_in eF11_count_0 mx2249 ?_
  refine g_ch [(0, .ref x0), (1, .int x1)] [.int 12, .int x1] (pc' := 3) rfl rfl rfl ?_
  rcases m_ifd h with ⟨c1, h⟩ | ⟨c1, h⟩
  · refine g_if (t := 24) rfl (m_ltT c1) ?_
    exact r_lv (SF11_count_24 x0 x1 hp (K := K) k0 h hK) rfl ⟨rfl, rfl, trivial⟩
  · refine g_ifn (t := 24) rfl (m_ltF c1) ?_
    refine g_in eF11_count_6 mx2249 ?_
    refine g_ch [(0, .ref x0), (1, .int x1)] [.int 21, .int x1] (pc' := 9) rfl rfl rfl ?_
    rcases m_ifd h with ⟨c2, h⟩ | ⟨c2, h⟩
    · refine g_if (t := 24) rfl (m_geT c2) ?_
      exact r_lv (SF11_count_24 x0 x1 hp (K := K) k0 h hK) rfl ⟨rfl, rfl, trivial⟩
    · refine g_ifn (t := 24) rfl (m_geF c2) ?_
      refine g_in eF11_count_12 mx2249 ?_
      refine g_ch [(0, .ref x0), (1, .int x1)] [.ref x0] (pc' := 13) rfl rfl rfl ?_
      obtain ⟨v3, e4, h⟩ := m_bd h
      refine g_gr q11_f42 e4 ?_
      refine g_ch [(0, .ref x0), (1, .int x1)] [.int (x1 - 12), .ref v3] (pc' := 20) rfl rfl rfl ?_
      obtain ⟨v6, e5, h⟩ := m_bd h
      refine g_call (v := some (.int v6)) (h := hp) (st' := [.int v6]) (D1 := 3) (as := [.ref v3, .int (x1 - 12)]) (Or.inr (Or.inl rfl)) q11_m457 (m_cv (as := [.int (x1 - 12)]) (rest := []) (Or.inl rfl) q11_m457 jv618 (OF3_cratesAt e5) rfl rfl rfl rfl) (by decide) (SF3_cratesAt e5) rfl ?_
      cases h
      rw [k0 _ hK]
      exact g_iret rfl rfl
theorem OF11_count {x0 : Nat} {x1 : Int32} {hp : m_H} {x : Int32} (h : F11_count x0 x1 hp = some x) : m_isO hp 8 x0 = true := (m_gdd h).1
theorem SF11_count {xs : Nat → Int32} {L : Nat} {x0 : Nat} {x1 : Int32} {hp : m_H} {x : Int32} (h : F11_count x0 x1 hp = some x) : m_Rn xs L 4 2249 0 (lv_args 0 [.ref x0, .int x1]) [] hp (.inl (some (.int x)), hp) :=
  r_lv (SF11_count_0 x0 x1 hp (K := fun y => y = x) (fun y e => by rw [e]) (m_gdd h).2 rfl) rfl ⟨rfl, rfl, trivial⟩
-- F12_thrown: LendHouseModel.thrown()I
theorem eF12_thrown_0 : m_Fe mi12_0 0 (m_ap [(.aload_n 0, 1)] ((.getfield 3, 3) :: ([(.ireturn, 1)]))) := m_Fe_of nd2400 0 3 rfl
theorem SF12_thrown_0 {xs : Nat → Int32} {L : Nat} (x0 : Nat) (hp : m_H) {r : m_O × m_H} {K : Int32 → Prop} (k0 : ∀ x, K x → r = (.inl (some (.int x)), hp)) {t : Int32} (h : F12_thrown_0 x0 hp = some t) (hK : K t) : m_Rn xs L 0 2400 0 [(0, .ref x0)] [] hp r := by
  unfold F12_thrown_0 at h
  refine g_in eF12_thrown_0 mx2400 ?_
  refine g_ch [(0, .ref x0)] [.ref x0] (pc' := 1) rfl rfl rfl ?_
  obtain ⟨v1, e2, h⟩ := m_bd h
  refine g_gi q12_f3 e2 ?_
  cases h
  rw [k0 _ hK]
  exact g_iret rfl rfl
theorem OF12_thrown {x0 : Nat} {hp : m_H} {x : Int32} (h : F12_thrown x0 hp = some x) : m_isO hp 9 x0 = true := (m_gdd h).1
theorem SF12_thrown {xs : Nat → Int32} {L : Nat} {x0 : Nat} {hp : m_H} {x : Int32} (h : F12_thrown x0 hp = some x) : m_Rn xs L 0 2400 0 (lv_args 0 [.ref x0]) [] hp (.inl (some (.int x)), hp) :=
  r_lv (SF12_thrown_0 x0 hp (K := fun y => y = x) (fun y e => by rw [e]) (m_gdd h).2 rfl) rfl ⟨rfl, trivial⟩
