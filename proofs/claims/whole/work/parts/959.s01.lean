/-! ===== m_: the small machine does what the functions say, piece 1 (printed) ===== -/
-- F3_copyFrom: LendHouse$House.copyFrom(LLendHouse$House;)V
theorem eF3_copyFrom_0 : m_Fe mi3_2 0 (m_ap [(.aload_n 0, 1), (.aload_n 1, 1)] ((.getfield 76, 3) :: ((.putfield 76, 3) :: (m_ap [(.aload_n 0, 1), (.aload_n 1, 1)] ((.getfield 80, 3) :: ((.putfield 80, 3) :: (m_ap [(.aload_n 0, 1), (.aload_n 1, 1)] ((.getfield 83, 3) :: ((.putfield 83, 3) :: (m_ap [(.aload_n 0, 1), (.aload_n 1, 1)] ((.getfield 86, 3) :: ((.putfield 86, 3) :: (m_ap [(.aload_n 0, 1), (.aload_n 1, 1)] ((.getfield 90, 3) :: ((.putfield 90, 3) :: (m_ap [(.iconst 0, 1), (.istore_n 2, 1)] ([]))))))))))))))))) := m_Fe_of nd602 0 22 rfl
theorem eF3_copyFrom_42 : m_Fe mi3_2 42 (m_ap [(.iload_n 2, 1), (.aload_n 0, 1)] ((.getfield 13, 3) :: ((.arraylength, 1) :: ([(.if_icmp .ge 30, 3)])))) := m_Fe_of nd602 22 5 rfl
theorem eF3_copyFrom_51 : m_Fe mi3_2 51 (m_ap [(.iload_n 2, 1), (.aload_n 1, 1)] ((.getfield 13, 3) :: ((.arraylength, 1) :: ([(.if_icmp .ge 21, 3)])))) := m_Fe_of nd602 27 5 rfl
theorem eF3_copyFrom_60 : m_Fe mi3_2 60 (m_ap [(.aload_n 0, 1)] ((.getfield 13, 3) :: (m_ap [(.iload_n 2, 1), (.aload_n 1, 1)] ((.getfield 13, 3) :: (m_ap [(.iload_n 2, 1)] ((.aaload, 1) :: ((.aastore, 1) :: (m_ap [(.iinc 2 1, 3)] ([(.goto (-33), 3)]))))))))) := m_Fe_of nd602 32 10 rfl
theorem eF3_copyFrom_78 : m_Fe mi3_2 78 (m_ap [(.aload_n 0, 1)] ((.getfield 22, 3) :: (m_ap [(.aload_n 1, 1)] ((.getfield 22, 3) :: ((.invokevirtual 93, 3) :: (m_ap [(.aload_n 0, 1)] ((.getfield 26, 3) :: (m_ap [(.aload_n 1, 1)] ((.getfield 26, 3) :: ((.invokevirtual 93, 3) :: (m_ap [(.aload_n 0, 1)] ((.getfield 29, 3) :: (m_ap [(.aload_n 1, 1)] ((.getfield 29, 3) :: ((.invokevirtual 93, 3) :: (m_ap [(.aload_n 0, 1)] ((.getfield 32, 3) :: (m_ap [(.aload_n 1, 1)] ((.getfield 32, 3) :: ((.invokevirtual 93, 3) :: (m_ap [(.aload_n 0, 1)] ((.getfield 35, 3) :: (m_ap [(.aload_n 1, 1)] ((.getfield 35, 3) :: ((.invokevirtual 93, 3) :: (m_ap [(.aload_n 0, 1)] ((.getfield 38, 3) :: (m_ap [(.aload_n 1, 1)] ((.getfield 38, 3) :: ((.invokevirtual 93, 3) :: (m_ap [(.aload_n 0, 1)] ((.getfield 41, 3) :: (m_ap [(.aload_n 1, 1)] ((.getfield 41, 3) :: ((.invokevirtual 93, 3) :: (m_ap [(.aload_n 0, 1)] ((.getfield 44, 3) :: (m_ap [(.aload_n 1, 1)] ((.getfield 44, 3) :: ((.invokevirtual 93, 3) :: (m_ap [(.aload_n 0, 1)] ((.getfield 47, 3) :: (m_ap [(.aload_n 1, 1)] ((.getfield 47, 3) :: ((.invokevirtual 93, 3) :: (m_ap [(.aload_n 0, 1)] ((.getfield 50, 3) :: (m_ap [(.aload_n 1, 1)] ((.getfield 50, 3) :: ((.invokevirtual 93, 3) :: (m_ap [(.aload_n 0, 1)] ((.getfield 53, 3) :: (m_ap [(.aload_n 1, 1)] ((.getfield 53, 3) :: ((.invokevirtual 93, 3) :: (m_ap [(.aload_n 0, 1)] ((.getfield 56, 3) :: (m_ap [(.aload_n 1, 1)] ((.getfield 56, 3) :: ((.invokevirtual 93, 3) :: (m_ap [(.aload_n 0, 1)] ((.getfield 59, 3) :: (m_ap [(.aload_n 1, 1)] ((.getfield 59, 3) :: ((.invokevirtual 93, 3) :: (m_ap [(.aload_n 0, 1)] ((.getfield 62, 3) :: (m_ap [(.aload_n 1, 1)] ((.getfield 62, 3) :: ((.invokevirtual 93, 3) :: ([(.return_, 1)]))))))))))))))))))))))))))))))))))))))))))))))))))))))))))))))))))))))) := m_Fe_of nd602 42 71 rfl
theorem SF3_copyFrom_78 {xs : Nat → Int32} {L : Nat} (x0 : Nat) (x1 : Nat) (hp : m_H) {r : m_O × m_H} {K : m_H → Prop} (k0 : ∀ x, K x → r = (.inl none, x)) {t : m_H} (h : F3_copyFrom_78 x0 x1 hp = some t) (hK : K t) : m_Rn xs L 8 602 78 [(0, .ref x0), (1, .ref x1)] [] hp r := by
  unfold F3_copyFrom_78 at h
  refine g_in eF3_copyFrom_78 mx602 ?_
  refine g_ch [(0, .ref x0), (1, .ref x1)] [.ref x0] (pc' := 79) rfl rfl rfl ?_
  obtain ⟨v1, e2, h⟩ := m_bd h
  refine g_gr q3_f22 e2 ?_
  refine g_ch [(0, .ref x0), (1, .ref x1)] [.ref x1, .ref v1] (pc' := 83) rfl rfl rfl ?_
  obtain ⟨v3, e4, h⟩ := m_bd h
  refine g_gr q3_f22 e4 ?_
  obtain ⟨h6, e5, h⟩ := m_bd h
  refine g_call (v := none) (h := h6) (st' := []) (D1 := 7) (as := [.ref v1, .ref v3]) (Or.inr (Or.inl rfl)) q3_m93 (m_cv (as := [.ref v3]) (rest := []) (Or.inl rfl) q3_m93 jv1610 (OF8_copyFrom e5) rfl rfl rfl rfl) (by decide) (SF8_copyFrom e5) rfl ?_
  refine g_ch [(0, .ref x0), (1, .ref x1)] [.ref x0] (pc' := 90) rfl rfl rfl ?_
  obtain ⟨v7, e8, h⟩ := m_bd h
  refine g_gr q3_f26 e8 ?_
  refine g_ch [(0, .ref x0), (1, .ref x1)] [.ref x1, .ref v7] (pc' := 94) rfl rfl rfl ?_
  obtain ⟨v9, e10, h⟩ := m_bd h
  refine g_gr q3_f26 e10 ?_
  obtain ⟨h12, e11, h⟩ := m_bd h
  refine g_call (v := none) (h := h12) (st' := []) (D1 := 7) (as := [.ref v7, .ref v9]) (Or.inr (Or.inl rfl)) q3_m93 (m_cv (as := [.ref v9]) (rest := []) (Or.inl rfl) q3_m93 jv1610 (OF8_copyFrom e11) rfl rfl rfl rfl) (by decide) (SF8_copyFrom e11) rfl ?_
  refine g_ch [(0, .ref x0), (1, .ref x1)] [.ref x0] (pc' := 101) rfl rfl rfl ?_
  obtain ⟨v13, e14, h⟩ := m_bd h
  refine g_gr q3_f29 e14 ?_
  refine g_ch [(0, .ref x0), (1, .ref x1)] [.ref x1, .ref v13] (pc' := 105) rfl rfl rfl ?_
  obtain ⟨v15, e16, h⟩ := m_bd h
  refine g_gr q3_f29 e16 ?_
  obtain ⟨h18, e17, h⟩ := m_bd h
  refine g_call (v := none) (h := h18) (st' := []) (D1 := 7) (as := [.ref v13, .ref v15]) (Or.inr (Or.inl rfl)) q3_m93 (m_cv (as := [.ref v15]) (rest := []) (Or.inl rfl) q3_m93 jv1610 (OF8_copyFrom e17) rfl rfl rfl rfl) (by decide) (SF8_copyFrom e17) rfl ?_
  refine g_ch [(0, .ref x0), (1, .ref x1)] [.ref x0] (pc' := 112) rfl rfl rfl ?_
  obtain ⟨v19, e20, h⟩ := m_bd h
  refine g_gr q3_f32 e20 ?_
  refine g_ch [(0, .ref x0), (1, .ref x1)] [.ref x1, .ref v19] (pc' := 116) rfl rfl rfl ?_
  obtain ⟨v21, e22, h⟩ := m_bd h
  refine g_gr q3_f32 e22 ?_
  obtain ⟨h24, e23, h⟩ := m_bd h
  refine g_call (v := none) (h := h24) (st' := []) (D1 := 7) (as := [.ref v19, .ref v21]) (Or.inr (Or.inl rfl)) q3_m93 (m_cv (as := [.ref v21]) (rest := []) (Or.inl rfl) q3_m93 jv1610 (OF8_copyFrom e23) rfl rfl rfl rfl) (by decide) (SF8_copyFrom e23) rfl ?_
  refine g_ch [(0, .ref x0), (1, .ref x1)] [.ref x0] (pc' := 123) rfl rfl rfl ?_
  obtain ⟨v25, e26, h⟩ := m_bd h
  refine g_gr q3_f35 e26 ?_
  refine g_ch [(0, .ref x0), (1, .ref x1)] [.ref x1, .ref v25] (pc' := 127) rfl rfl rfl ?_
  obtain ⟨v27, e28, h⟩ := m_bd h
  refine g_gr q3_f35 e28 ?_
  obtain ⟨h30, e29, h⟩ := m_bd h
  refine g_call (v := none) (h := h30) (st' := []) (D1 := 7) (as := [.ref v25, .ref v27]) (Or.inr (Or.inl rfl)) q3_m93 (m_cv (as := [.ref v27]) (rest := []) (Or.inl rfl) q3_m93 jv1610 (OF8_copyFrom e29) rfl rfl rfl rfl) (by decide) (SF8_copyFrom e29) rfl ?_
  refine g_ch [(0, .ref x0), (1, .ref x1)] [.ref x0] (pc' := 134) rfl rfl rfl ?_
  obtain ⟨v31, e32, h⟩ := m_bd h
  refine g_gr q3_f38 e32 ?_
  refine g_ch [(0, .ref x0), (1, .ref x1)] [.ref x1, .ref v31] (pc' := 138) rfl rfl rfl ?_
  obtain ⟨v33, e34, h⟩ := m_bd h
  refine g_gr q3_f38 e34 ?_
  obtain ⟨h36, e35, h⟩ := m_bd h
  refine g_call (v := none) (h := h36) (st' := []) (D1 := 7) (as := [.ref v31, .ref v33]) (Or.inr (Or.inl rfl)) q3_m93 (m_cv (as := [.ref v33]) (rest := []) (Or.inl rfl) q3_m93 jv1610 (OF8_copyFrom e35) rfl rfl rfl rfl) (by decide) (SF8_copyFrom e35) rfl ?_
  refine g_ch [(0, .ref x0), (1, .ref x1)] [.ref x0] (pc' := 145) rfl rfl rfl ?_
  obtain ⟨v37, e38, h⟩ := m_bd h
  refine g_gr q3_f41 e38 ?_
  refine g_ch [(0, .ref x0), (1, .ref x1)] [.ref x1, .ref v37] (pc' := 149) rfl rfl rfl ?_
  obtain ⟨v39, e40, h⟩ := m_bd h
  refine g_gr q3_f41 e40 ?_
  obtain ⟨h42, e41, h⟩ := m_bd h
  refine g_call (v := none) (h := h42) (st' := []) (D1 := 7) (as := [.ref v37, .ref v39]) (Or.inr (Or.inl rfl)) q3_m93 (m_cv (as := [.ref v39]) (rest := []) (Or.inl rfl) q3_m93 jv1610 (OF8_copyFrom e41) rfl rfl rfl rfl) (by decide) (SF8_copyFrom e41) rfl ?_
  refine g_ch [(0, .ref x0), (1, .ref x1)] [.ref x0] (pc' := 156) rfl rfl rfl ?_
  obtain ⟨v43, e44, h⟩ := m_bd h
  refine g_gr q3_f44 e44 ?_
  refine g_ch [(0, .ref x0), (1, .ref x1)] [.ref x1, .ref v43] (pc' := 160) rfl rfl rfl ?_
  obtain ⟨v45, e46, h⟩ := m_bd h
  refine g_gr q3_f44 e46 ?_
  obtain ⟨h48, e47, h⟩ := m_bd h
  refine g_call (v := none) (h := h48) (st' := []) (D1 := 7) (as := [.ref v43, .ref v45]) (Or.inr (Or.inl rfl)) q3_m93 (m_cv (as := [.ref v45]) (rest := []) (Or.inl rfl) q3_m93 jv1610 (OF8_copyFrom e47) rfl rfl rfl rfl) (by decide) (SF8_copyFrom e47) rfl ?_
  refine g_ch [(0, .ref x0), (1, .ref x1)] [.ref x0] (pc' := 167) rfl rfl rfl ?_
  obtain ⟨v49, e50, h⟩ := m_bd h
  refine g_gr q3_f47 e50 ?_
  refine g_ch [(0, .ref x0), (1, .ref x1)] [.ref x1, .ref v49] (pc' := 171) rfl rfl rfl ?_
  obtain ⟨v51, e52, h⟩ := m_bd h
  refine g_gr q3_f47 e52 ?_
  obtain ⟨h54, e53, h⟩ := m_bd h
  refine g_call (v := none) (h := h54) (st' := []) (D1 := 7) (as := [.ref v49, .ref v51]) (Or.inr (Or.inl rfl)) q3_m93 (m_cv (as := [.ref v51]) (rest := []) (Or.inl rfl) q3_m93 jv1610 (OF8_copyFrom e53) rfl rfl rfl rfl) (by decide) (SF8_copyFrom e53) rfl ?_
  refine g_ch [(0, .ref x0), (1, .ref x1)] [.ref x0] (pc' := 178) rfl rfl rfl ?_
  obtain ⟨v55, e56, h⟩ := m_bd h
  refine g_gr q3_f50 e56 ?_
  refine g_ch [(0, .ref x0), (1, .ref x1)] [.ref x1, .ref v55] (pc' := 182) rfl rfl rfl ?_
  obtain ⟨v57, e58, h⟩ := m_bd h
  refine g_gr q3_f50 e58 ?_
  obtain ⟨h60, e59, h⟩ := m_bd h
  refine g_call (v := none) (h := h60) (st' := []) (D1 := 7) (as := [.ref v55, .ref v57]) (Or.inr (Or.inl rfl)) q3_m93 (m_cv (as := [.ref v57]) (rest := []) (Or.inl rfl) q3_m93 jv1610 (OF8_copyFrom e59) rfl rfl rfl rfl) (by decide) (SF8_copyFrom e59) rfl ?_
  refine g_ch [(0, .ref x0), (1, .ref x1)] [.ref x0] (pc' := 189) rfl rfl rfl ?_
  obtain ⟨v61, e62, h⟩ := m_bd h
  refine g_gr q3_f53 e62 ?_
  refine g_ch [(0, .ref x0), (1, .ref x1)] [.ref x1, .ref v61] (pc' := 193) rfl rfl rfl ?_
  obtain ⟨v63, e64, h⟩ := m_bd h
  refine g_gr q3_f53 e64 ?_
  obtain ⟨h66, e65, h⟩ := m_bd h
  refine g_call (v := none) (h := h66) (st' := []) (D1 := 7) (as := [.ref v61, .ref v63]) (Or.inr (Or.inl rfl)) q3_m93 (m_cv (as := [.ref v63]) (rest := []) (Or.inl rfl) q3_m93 jv1610 (OF8_copyFrom e65) rfl rfl rfl rfl) (by decide) (SF8_copyFrom e65) rfl ?_
  refine g_ch [(0, .ref x0), (1, .ref x1)] [.ref x0] (pc' := 200) rfl rfl rfl ?_
  obtain ⟨v67, e68, h⟩ := m_bd h
  refine g_gr q3_f56 e68 ?_
  refine g_ch [(0, .ref x0), (1, .ref x1)] [.ref x1, .ref v67] (pc' := 204) rfl rfl rfl ?_
  obtain ⟨v69, e70, h⟩ := m_bd h
  refine g_gr q3_f56 e70 ?_
  obtain ⟨h72, e71, h⟩ := m_bd h
  refine g_call (v := none) (h := h72) (st' := []) (D1 := 7) (as := [.ref v67, .ref v69]) (Or.inr (Or.inl rfl)) q3_m93 (m_cv (as := [.ref v69]) (rest := []) (Or.inl rfl) q3_m93 jv1610 (OF8_copyFrom e71) rfl rfl rfl rfl) (by decide) (SF8_copyFrom e71) rfl ?_
  refine g_ch [(0, .ref x0), (1, .ref x1)] [.ref x0] (pc' := 211) rfl rfl rfl ?_
  obtain ⟨v73, e74, h⟩ := m_bd h
  refine g_gr q3_f59 e74 ?_
  refine g_ch [(0, .ref x0), (1, .ref x1)] [.ref x1, .ref v73] (pc' := 215) rfl rfl rfl ?_
  obtain ⟨v75, e76, h⟩ := m_bd h
  refine g_gr q3_f59 e76 ?_
  obtain ⟨h78, e77, h⟩ := m_bd h
  refine g_call (v := none) (h := h78) (st' := []) (D1 := 7) (as := [.ref v73, .ref v75]) (Or.inr (Or.inl rfl)) q3_m93 (m_cv (as := [.ref v75]) (rest := []) (Or.inl rfl) q3_m93 jv1610 (OF8_copyFrom e77) rfl rfl rfl rfl) (by decide) (SF8_copyFrom e77) rfl ?_
  refine g_ch [(0, .ref x0), (1, .ref x1)] [.ref x0] (pc' := 222) rfl rfl rfl ?_
  obtain ⟨v79, e80, h⟩ := m_bd h
  refine g_gr q3_f62 e80 ?_
  refine g_ch [(0, .ref x0), (1, .ref x1)] [.ref x1, .ref v79] (pc' := 226) rfl rfl rfl ?_
  obtain ⟨v81, e82, h⟩ := m_bd h
  refine g_gr q3_f62 e82 ?_
  obtain ⟨h84, e83, h⟩ := m_bd h
  refine g_call (v := none) (h := h84) (st' := []) (D1 := 7) (as := [.ref v79, .ref v81]) (Or.inr (Or.inl rfl)) q3_m93 (m_cv (as := [.ref v81]) (rest := []) (Or.inl rfl) q3_m93 jv1610 (OF8_copyFrom e83) rfl rfl rfl rfl) (by decide) (SF8_copyFrom e83) rfl ?_
  cases h
  rw [k0 _ hK]
  exact g_vret rfl
theorem SF3_copyFrom_42b {xs : Nat → Int32} {L : Nat} (x0 : Nat) (x1 : Nat) (s : Int32 × m_H) {r : m_O × m_H} {K : ((Int32 × m_H) ⊕ m_H) → Prop} (k0 : ∀ x, K (.inr x) → r = (.inl none, x)) (k1 : ∀ s, K (.inl s) → m_Rn xs L 8 602 42 [(0, .ref x0), (1, .ref x1), (2, .int s.1)] [] s.2 r) {t : (Int32 × m_H) ⊕ m_H} (h : F3_copyFrom_42b x0 x1 s = some t) (hK : K t) : m_Rn xs L 8 602 42 [(0, .ref x0), (1, .ref x1), (2, .int s.1)] [] s.2 r := by
  unfold F3_copyFrom_42b at h
  refine g_in eF3_copyFrom_42 mx602 ?_
  refine g_ch [(0, .ref x0), (1, .ref x1), (2, .int s.1)] [.ref x0, .int s.1] (pc' := 44) rfl rfl rfl ?_
  obtain ⟨v1, e2, h⟩ := m_bd h
  refine g_gr q3_f13 e2 ?_
  obtain ⟨v3, e4, h⟩ := m_bd h
  refine g_len e4 ?_
  rcases m_ifd h with ⟨c5, h⟩ | ⟨c5, h⟩
  · refine g_if (t := 78) rfl (m_geT c5) ?_
    obtain ⟨t', h2, rfl⟩ := Option.map_eq_some_iff.mp h
    exact r_lv (SF3_copyFrom_78 x0 x1 s.2 (K := fun t => K (.inr t)) k0 h2 hK) rfl ⟨rfl, rfl, trivial⟩
  · refine g_ifn (t := 78) rfl (m_geF c5) ?_
    refine g_in eF3_copyFrom_51 mx602 ?_
    refine g_ch [(0, .ref x0), (1, .ref x1), (2, .int s.1)] [.ref x1, .int s.1] (pc' := 53) rfl rfl rfl ?_
    obtain ⟨v6, e7, h⟩ := m_bd h
    refine g_gr q3_f13 e7 ?_
    obtain ⟨v8, e9, h⟩ := m_bd h
    refine g_len e9 ?_
    rcases m_ifd h with ⟨c10, h⟩ | ⟨c10, h⟩
    · refine g_if (t := 78) rfl (m_geT c10) ?_
      obtain ⟨t', h2, rfl⟩ := Option.map_eq_some_iff.mp h
      exact r_lv (SF3_copyFrom_78 x0 x1 s.2 (K := fun t => K (.inr t)) k0 h2 hK) rfl ⟨rfl, rfl, trivial⟩
    · refine g_ifn (t := 78) rfl (m_geF c10) ?_
      refine g_in eF3_copyFrom_60 mx602 ?_
      refine g_ch [(0, .ref x0), (1, .ref x1), (2, .int s.1)] [.ref x0] (pc' := 61) rfl rfl rfl ?_
      obtain ⟨v11, e12, h⟩ := m_bd h
      refine g_gr q3_f13 e12 ?_
      refine g_ch [(0, .ref x0), (1, .ref x1), (2, .int s.1)] [.ref x1, .int s.1, .ref v11] (pc' := 66) rfl rfl rfl ?_
      obtain ⟨v13, e14, h⟩ := m_bd h
      refine g_gr q3_f13 e14 ?_
      refine g_ch [(0, .ref x0), (1, .ref x1), (2, .int s.1)] [.int s.1, .ref v13, .int s.1, .ref v11] (pc' := 70) rfl rfl rfl ?_
      obtain ⟨v15, e16, h⟩ := m_bd h
      refine g_aa e16 ?_
      obtain ⟨h17, e18, h⟩ := m_bd h
      refine g_as (x := v15) e18 ?_
      refine g_ch [(2, .int (s.1 + 1)), (0, .ref x0), (1, .ref x1)] [] (pc' := 75) rfl rfl rfl ?_
      refine g_goto (t := 42) rfl ?_
      cases h
      exact r_lv (k1 ((s.1 + 1), h17) hK) rfl ⟨rfl, rfl, rfl, trivial⟩
theorem SF3_copyFrom_42 {xs : Nat → Int32} {L : Nat} (x0 : Nat) (x1 : Nat) (x2 : Int32) (hp : m_H) {r : m_O × m_H} {K : m_H → Prop} (k0 : ∀ x, K x → r = (.inl none, x)) {t : m_H} (h : F3_copyFrom_42 x0 x1 x2 hp = some t) (hK : K t) : m_Rn xs L 8 602 42 [(0, .ref x0), (1, .ref x1), (2, .int x2)] [] hp r :=
  m_wh_ok (P := fun s => m_Rn xs L 8 602 42 [(0, .ref x0), (1, .ref x1), (2, .int s.1)] [] s.2 r) (Q := K) (fun s t hb hK => SF3_copyFrom_42b x0 x1 s (K := m_KK (fun s => m_Rn xs L 8 602 42 [(0, .ref x0), (1, .ref x1), (2, .int s.1)] [] s.2 r) K) k0 (fun _ q => q) hb hK) m_N _ _ h hK
theorem SF3_copyFrom_0 {xs : Nat → Int32} {L : Nat} (x0 : Nat) (x1 : Nat) (hp : m_H) {r : m_O × m_H} {K : m_H → Prop} (k0 : ∀ x, K x → r = (.inl none, x)) {t : m_H} (h : F3_copyFrom_0 x0 x1 hp = some t) (hK : K t) : m_Rn xs L 8 602 0 [(0, .ref x0), (1, .ref x1)] [] hp r := by
  unfold F3_copyFrom_0 at h
  refine g_in eF3_copyFrom_0 mx602 ?_
  refine g_ch [(0, .ref x0), (1, .ref x1)] [.ref x1, .ref x0] (pc' := 2) rfl rfl rfl ?_
  obtain ⟨v1, e2, h⟩ := m_bd h
  refine g_gi q3_f76 e2 ?_
  obtain ⟨h3, e4, h⟩ := m_bd h
  refine g_pf q3_f76 e4 ?_
  refine g_ch [(0, .ref x0), (1, .ref x1)] [.ref x1, .ref x0] (pc' := 10) rfl rfl rfl ?_
  obtain ⟨v5, e6, h⟩ := m_bd h
  refine g_gi q3_f80 e6 ?_
  obtain ⟨h7, e8, h⟩ := m_bd h
  refine g_pf q3_f80 e8 ?_
  refine g_ch [(0, .ref x0), (1, .ref x1)] [.ref x1, .ref x0] (pc' := 18) rfl rfl rfl ?_
  obtain ⟨v9, e10, h⟩ := m_bd h
  refine g_gi q3_f83 e10 ?_
  obtain ⟨h11, e12, h⟩ := m_bd h
  refine g_pf q3_f83 e12 ?_
  refine g_ch [(0, .ref x0), (1, .ref x1)] [.ref x1, .ref x0] (pc' := 26) rfl rfl rfl ?_
  obtain ⟨v13, e14, h⟩ := m_bd h
  refine g_gi q3_f86 e14 ?_
  obtain ⟨h15, e16, h⟩ := m_bd h
  refine g_pf q3_f86 e16 ?_
  refine g_ch [(0, .ref x0), (1, .ref x1)] [.ref x1, .ref x0] (pc' := 34) rfl rfl rfl ?_
  obtain ⟨v17, e18, h⟩ := m_bd h
  refine g_gi q3_f90 e18 ?_
  obtain ⟨h19, e20, h⟩ := m_bd h
  refine g_pf q3_f90 e20 ?_
  refine g_ch [(2, .int 0), (0, .ref x0), (1, .ref x1)] [] (pc' := 42) rfl rfl rfl ?_
  refine g_end ?_
  exact r_lv (SF3_copyFrom_42 x0 x1 0 h19 (K := K) k0 h hK) rfl ⟨rfl, rfl, rfl, trivial⟩
theorem OF3_copyFrom {x0 : Nat} {x1 : Nat} {hp : m_H} {x : m_H} (h : F3_copyFrom x0 x1 hp = some x) : m_isO hp 3 x0 = true := (m_gdd h).1
theorem SF3_copyFrom {xs : Nat → Int32} {L : Nat} {x0 : Nat} {x1 : Nat} {hp : m_H} {x : m_H} (h : F3_copyFrom x0 x1 hp = some x) : m_Rn xs L 8 602 0 (lv_args 0 [.ref x0, .ref x1]) [] hp (.inl none, x) :=
  r_lv (SF3_copyFrom_0 x0 x1 hp (K := fun y => y = x) (fun y e => by rw [e]) (m_gdd h).2 rfl) rfl ⟨rfl, rfl, trivial⟩
-- F3_tell: LendHouse$House.tell(LLendHouse$Table;III)I
theorem eF3_tell_0 : m_Fe mi3_4 0 (m_ap [(.aload_n 0, 1)] ((.invokevirtual 68, 3) :: (m_ap [(.istore 4, 2), (.iload 4, 2), (.iconst (-1), 1)] ([(.if_icmp .ne 5, 3)])))) := m_Fe_of nd604 0 6 rfl
theorem eF3_tell_14 : m_Fe mi3_4 14 (m_ap [(.aload_n 0, 1), (.iload 4, 2), (.iconst 0, 1), (.iload_n 1, 1)] ((.invokevirtual 72, 3) :: (m_ap [(.aload_n 0, 1), (.iload 4, 2), (.iconst 1, 1), (.iload_n 2, 1)] ((.invokevirtual 72, 3) :: (m_ap [(.aload_n 0, 1), (.iload 4, 2), (.iconst 2, 1), (.iload_n 3, 1)] ((.invokevirtual 72, 3) :: (m_ap [(.aload_n 0, 1)] ((.getfield 97, 3) :: ([(.ireturn, 1)]))))))))) := m_Fe_of nd604 8 18 rfl
theorem eF3_tell_12 : m_Fe mi3_4 12 (m_ap [(.iconst (-1), 1)] ([(.ireturn, 1)])) := m_Fe_of nd604 6 2 rfl
theorem SF3_tell_0 {xs : Nat → Int32} {L : Nat} (x0 : Nat) (x1 : Int32) (x2 : Int32) (x3 : Int32) (hp : m_H) {r : m_O × m_H} {K : (Int32 × m_H) → Prop} (k0 : ∀ x, K x → r = (.inl (some (.int x.1)), x.2)) {t : Int32 × m_H} (h : F3_tell_0 x0 x1 x2 x3 hp = some t) (hK : K t) : m_Rn xs L 3 604 0 [(0, .ref x0), (1, .int x1), (2, .int x2), (3, .int x3)] [] hp r := by
  unfold F3_tell_0 at h
  refine g_in eF3_tell_0 mx604 ?_
  refine g_ch [(0, .ref x0), (1, .int x1), (2, .int x2), (3, .int x3)] [.ref x0] (pc' := 1) rfl rfl rfl ?_
  obtain ⟨z2, e1, h⟩ := m_bd h
  refine g_call (v := some (.int z2.1)) (h := z2.2) (st' := [.int z2.1]) (D1 := 2) (as := [.ref x0]) (Or.inr (Or.inl rfl)) q3_m68 (m_cv (as := []) (rest := []) (Or.inl rfl) q3_m68 jv1607 (OF8_add e1) rfl rfl rfl rfl) (by decide) (SF8_add e1) rfl ?_
  refine g_ch [(4, .int z2.1), (0, .ref x0), (1, .int x1), (2, .int x2), (3, .int x3)] [.int (-1), .int z2.1] (pc' := 9) rfl rfl rfl ?_
  rcases m_ifd h with ⟨c3, h⟩ | ⟨c3, h⟩
  · refine g_ifn (t := 14) rfl (m_neF c3) ?_
    refine g_in eF3_tell_12 mx604 ?_
    refine g_ch [(4, .int z2.1), (0, .ref x0), (1, .int x1), (2, .int x2), (3, .int x3)] [.int (-1)] (pc' := 13) rfl rfl rfl ?_
    cases h
    rw [k0 _ hK]
    exact g_iret rfl rfl
  · refine g_if (t := 14) rfl (m_neT c3) ?_
    refine g_in eF3_tell_14 mx604 ?_
    refine g_ch [(4, .int z2.1), (0, .ref x0), (1, .int x1), (2, .int x2), (3, .int x3)] [.int x1, .int 0, .int z2.1, .ref x0] (pc' := 19) rfl rfl rfl ?_
    obtain ⟨h5, e4, h⟩ := m_bd h
    refine g_call (v := none) (h := h5) (st' := []) (D1 := 1) (as := [.ref x0, .int z2.1, .int 0, .int x1]) (Or.inr (Or.inl rfl)) q3_m72 (m_cv (as := [.int x1, .int 0, .int z2.1]) (rest := []) (Or.inl rfl) q3_m72 jv1605 (OF8_set e4) rfl rfl rfl rfl) (by decide) (SF8_set e4) rfl ?_
    refine g_ch [(4, .int z2.1), (0, .ref x0), (1, .int x1), (2, .int x2), (3, .int x3)] [.int x2, .int 1, .int z2.1, .ref x0] (pc' := 27) rfl rfl rfl ?_
    obtain ⟨h7, e6, h⟩ := m_bd h
    refine g_call (v := none) (h := h7) (st' := []) (D1 := 1) (as := [.ref x0, .int z2.1, .int 1, .int x2]) (Or.inr (Or.inl rfl)) q3_m72 (m_cv (as := [.int x2, .int 1, .int z2.1]) (rest := []) (Or.inl rfl) q3_m72 jv1605 (OF8_set e6) rfl rfl rfl rfl) (by decide) (SF8_set e6) rfl ?_
    refine g_ch [(4, .int z2.1), (0, .ref x0), (1, .int x1), (2, .int x2), (3, .int x3)] [.int x3, .int 2, .int z2.1, .ref x0] (pc' := 35) rfl rfl rfl ?_
    obtain ⟨h9, e8, h⟩ := m_bd h
    refine g_call (v := none) (h := h9) (st' := []) (D1 := 1) (as := [.ref x0, .int z2.1, .int 2, .int x3]) (Or.inr (Or.inl rfl)) q3_m72 (m_cv (as := [.int x3, .int 2, .int z2.1]) (rest := []) (Or.inl rfl) q3_m72 jv1605 (OF8_set e8) rfl rfl rfl rfl) (by decide) (SF8_set e8) rfl ?_
    refine g_ch [(4, .int z2.1), (0, .ref x0), (1, .int x1), (2, .int x2), (3, .int x3)] [.ref x0] (pc' := 39) rfl rfl rfl ?_
    obtain ⟨v10, e11, h⟩ := m_bd h
    refine g_gi q3_f97 e11 ?_
    cases h
    rw [k0 _ hK]
    exact g_iret rfl rfl
theorem SF3_tell {xs : Nat → Int32} {L : Nat} {x0 : Nat} {x1 : Int32} {x2 : Int32} {x3 : Int32} {hp : m_H} {x : Int32 × m_H} (h : F3_tell x0 x1 x2 x3 hp = some x) : m_Rn xs L 3 604 0 (lv_args 0 [.ref x0, .int x1, .int x2, .int x3]) [] hp (.inl (some (.int x.1)), x.2) :=
  r_lv (SF3_tell_0 x0 x1 x2 x3 hp (K := fun y => y = x) (fun y e => by rw [e]) h rfl) rfl ⟨rfl, rfl, rfl, rfl, trivial⟩
-- F3_riskIn: LendHouse$House.riskIn(II)I
theorem eF3_riskIn_0 : m_Fe mi3_7 0 (m_ap [(.aload_n 0, 1)] ((.getfield 44, 3) :: (m_ap [(.iload_n 1, 1), (.iload_n 2, 1)] ((.invokestatic 104, 3) :: ([(.ireturn, 1)]))))) := m_Fe_of nd607 0 6 rfl
theorem SF3_riskIn_0 {xs : Nat → Int32} {L : Nat} (x0 : Nat) (x1 : Int32) (x2 : Int32) (hp : m_H) {r : m_O × m_H} {K : Int32 → Prop} (k0 : ∀ x, K x → r = (.inl (some (.int x)), hp)) {t : Int32} (h : F3_riskIn_0 x0 x1 x2 hp = some t) (hK : K t) : m_Rn xs L 3 607 0 [(0, .ref x0), (1, .int x1), (2, .int x2)] [] hp r := by
  unfold F3_riskIn_0 at h
  refine g_in eF3_riskIn_0 mx607 ?_
  refine g_ch [(0, .ref x0), (1, .int x1), (2, .int x2)] [.ref x0] (pc' := 1) rfl rfl rfl ?_
  obtain ⟨v1, e2, h⟩ := m_bd h
  refine g_gr q3_f44 e2 ?_
  refine g_ch [(0, .ref x0), (1, .int x1), (2, .int x2)] [.int x2, .int x1, .ref v1] (pc' := 6) rfl rfl rfl ?_
  obtain ⟨v4, e3, h⟩ := m_bd h
  refine g_call (v := some (.int v4)) (h := hp) (st' := [.int v4]) (D1 := 2) (as := [.ref v1, .int x1, .int x2]) (Or.inl rfl) q3_m104 (m_cs (as := [.int x2, .int x1, .ref v1]) (rest := []) q3_m104 jv605 rfl rfl rfl rfl rfl) (by decide) (SF3_toldFor e3) rfl ?_
  cases h
  rw [k0 _ hK]
  exact g_iret rfl rfl
theorem OF3_riskIn {x0 : Nat} {x1 : Int32} {x2 : Int32} {hp : m_H} {x : Int32} (h : F3_riskIn x0 x1 x2 hp = some x) : m_isO hp 3 x0 = true := (m_gdd h).1
theorem SF3_riskIn {xs : Nat → Int32} {L : Nat} {x0 : Nat} {x1 : Int32} {x2 : Int32} {hp : m_H} {x : Int32} (h : F3_riskIn x0 x1 x2 hp = some x) : m_Rn xs L 3 607 0 (lv_args 0 [.ref x0, .int x1, .int x2]) [] hp (.inl (some (.int x)), hp) :=
  r_lv (SF3_riskIn_0 x0 x1 x2 hp (K := fun y => y = x) (fun y e => by rw [e]) (m_gdd h).2 rfl) rfl ⟨rfl, rfl, rfl, trivial⟩
-- F3_addAct: LendHouse$House.addAct(LLendHouse$Act;)V
theorem eF3_addAct_0 : m_Fe mi3_8 0 (m_ap [(.aload_n 0, 1)] ((.getfield 90, 3) :: ([(.ifCond .lt 35, 3)]))) := m_Fe_of nd608 0 3 rfl
theorem eF3_addAct_39 : m_Fe mi3_8 39 ([(.return_, 1)]) := m_Fe_of nd608 21 1 rfl
theorem eF3_addAct_7 : m_Fe mi3_8 7 (m_ap [(.aload_n 0, 1)] ((.getfield 90, 3) :: (m_ap [(.aload_n 0, 1)] ((.getfield 13, 3) :: ((.arraylength, 1) :: ([(.if_icmp .ge 23, 3)])))))) := m_Fe_of nd608 3 6 rfl
theorem eF3_addAct_19 : m_Fe mi3_8 19 (m_ap [(.aload_n 0, 1)] ((.getfield 13, 3) :: (m_ap [(.aload_n 0, 1)] ((.getfield 90, 3) :: (m_ap [(.aload_n 1, 1)] ((.aastore, 1) :: (m_ap [(.aload_n 0, 1), (.dup, 1)] ((.getfield 90, 3) :: (m_ap [(.iconst 1, 1), (.iadd, 1)] ([(.putfield 90, 3)])))))))))) := m_Fe_of nd608 9 12 rfl
theorem SF3_addAct_0 {xs : Nat → Int32} {L : Nat} (x0 : Nat) (x1 : Nat) (hp : m_H) {r : m_O × m_H} {K : m_H → Prop} (k0 : ∀ x, K x → r = (.inl none, x)) {t : m_H} (h : F3_addAct_0 x0 x1 hp = some t) (hK : K t) : m_Rn xs L 0 608 0 [(0, .ref x0), (1, .ref x1)] [] hp r := by
  unfold F3_addAct_0 at h
  refine g_in eF3_addAct_0 mx608 ?_
  refine g_ch [(0, .ref x0), (1, .ref x1)] [.ref x0] (pc' := 1) rfl rfl rfl ?_
  obtain ⟨v1, e2, h⟩ := m_bd h
  refine g_gi q3_f90 e2 ?_
  rcases m_ifd h with ⟨c3, h⟩ | ⟨c3, h⟩
  · refine g_ifc (t := 39) rfl (m_ltT c3) ?_
    refine g_in eF3_addAct_39 mx608 ?_
    cases h
    rw [k0 _ hK]
    exact g_vret rfl
  · refine g_ifcn (t := 39) rfl (m_ltF c3) ?_
    refine g_in eF3_addAct_7 mx608 ?_
    refine g_ch [(0, .ref x0), (1, .ref x1)] [.ref x0] (pc' := 8) rfl rfl rfl ?_
    obtain ⟨v4, e5, h⟩ := m_bd h
    refine g_gi q3_f90 e5 ?_
    refine g_ch [(0, .ref x0), (1, .ref x1)] [.ref x0, .int v4] (pc' := 12) rfl rfl rfl ?_
    obtain ⟨v6, e7, h⟩ := m_bd h
    refine g_gr q3_f13 e7 ?_
    obtain ⟨v8, e9, h⟩ := m_bd h
    refine g_len e9 ?_
    rcases m_ifd h with ⟨c10, h⟩ | ⟨c10, h⟩
    · refine g_if (t := 39) rfl (m_geT c10) ?_
      refine g_in eF3_addAct_39 mx608 ?_
      cases h
      rw [k0 _ hK]
      exact g_vret rfl
    · refine g_ifn (t := 39) rfl (m_geF c10) ?_
      refine g_in eF3_addAct_19 mx608 ?_
      refine g_ch [(0, .ref x0), (1, .ref x1)] [.ref x0] (pc' := 20) rfl rfl rfl ?_
      obtain ⟨v11, e12, h⟩ := m_bd h
      refine g_gr q3_f13 e12 ?_
      refine g_ch [(0, .ref x0), (1, .ref x1)] [.ref x0, .ref v11] (pc' := 24) rfl rfl rfl ?_
      obtain ⟨v13, e14, h⟩ := m_bd h
      refine g_gi q3_f90 e14 ?_
      refine g_ch [(0, .ref x0), (1, .ref x1)] [.ref x1, .int v13, .ref v11] (pc' := 28) rfl rfl rfl ?_
      obtain ⟨h15, e16, h⟩ := m_bd h
      refine g_as (x := (some x1)) e16 ?_
      refine g_ch [(0, .ref x0), (1, .ref x1)] [.ref x0, .ref x0] (pc' := 31) rfl rfl rfl ?_
      obtain ⟨v17, e18, h⟩ := m_bd h
      refine g_gi q3_f90 e18 ?_
      refine g_ch [(0, .ref x0), (1, .ref x1)] [.int (v17 + 1), .ref x0] (pc' := 36) rfl rfl rfl ?_
      obtain ⟨h19, e20, h⟩ := m_bd h
      refine g_pf q3_f90 e20 ?_
      refine g_end ?_
      refine g_in eF3_addAct_39 mx608 ?_
      cases h
      rw [k0 _ hK]
      exact g_vret rfl
theorem OF3_addAct {x0 : Nat} {x1 : Nat} {hp : m_H} {x : m_H} (h : F3_addAct x0 x1 hp = some x) : m_isO hp 3 x0 = true := (m_gdd h).1
theorem SF3_addAct {xs : Nat → Int32} {L : Nat} {x0 : Nat} {x1 : Nat} {hp : m_H} {x : m_H} (h : F3_addAct x0 x1 hp = some x) : m_Rn xs L 0 608 0 (lv_args 0 [.ref x0, .ref x1]) [] hp (.inl none, x) :=
  r_lv (SF3_addAct_0 x0 x1 hp (K := fun y => y = x) (fun y e => by rw [e]) (m_gdd h).2 rfl) rfl ⟨rfl, rfl, trivial⟩
-- F3_linesOfWeek: LendHouse$House.linesOfWeek()I
theorem eF3_linesOfWeek_0 : m_Fe mi3_10 0 (m_ap [(.aload_n 0, 1)] ((.invokevirtual 111, 3) :: (m_ap [(.astore_n 1, 1), (.aload_n 1, 1)] ([(.ifnonnull 7, 3)])))) := m_Fe_of nd610 0 5 rfl
theorem eF3_linesOfWeek_9 : m_Fe mi3_10 9 (m_ap [(.iconst 0, 1)] ([(.goto 7, 3)])) := m_Fe_of nd610 5 2 rfl
theorem eF3_linesOfWeek_17 : m_Fe mi3_10 17 ([(.ireturn, 1)]) := m_Fe_of nd610 9 1 rfl
theorem eF3_linesOfWeek_13 : m_Fe mi3_10 13 (m_ap [(.aload_n 1, 1)] ([(.getfield 115, 3)])) := m_Fe_of nd610 7 2 rfl
theorem SF3_linesOfWeek_0 {xs : Nat → Int32} {L : Nat} (x0 : Nat) (hp : m_H) {r : m_O × m_H} {K : Int32 → Prop} (k0 : ∀ x, K x → r = (.inl (some (.int x)), hp)) {t : Int32} (h : F3_linesOfWeek_0 x0 hp = some t) (hK : K t) : m_Rn xs L 1 610 0 [(0, .ref x0)] [] hp r := by
  unfold F3_linesOfWeek_0 at h
  refine g_in eF3_linesOfWeek_0 mx610 ?_
  refine g_ch [(0, .ref x0)] [.ref x0] (pc' := 1) rfl rfl rfl ?_
  obtain ⟨v2, e1, h⟩ := m_bd h
  refine g_call (v := some (va_rf v2)) (h := hp) (st' := [va_rf v2]) (D1 := 0) (as := [.ref x0]) (Or.inr (Or.inl rfl)) q3_m111 (m_cv (as := []) (rest := []) (Or.inl rfl) q3_m111 jv609 (OF3_actInForce e1) rfl rfl rfl rfl) (by decide) (SF3_actInForce e1) rfl ?_
  refine g_ch [(1, va_rf v2), (0, .ref x0)] [va_rf v2] (pc' := 6) rfl (by cases hN0 : v2 <;> rfl) rfl ?_
  rcases m_ond h with ⟨e4, h⟩ | ⟨a3, e4, h⟩
  · rw [e4]
    refine g_nnln ?_
    refine g_in eF3_linesOfWeek_9 mx610 ?_
    refine g_ch [(1, .null), (0, .ref x0)] [.int 0] (pc' := 10) rfl rfl rfl ?_
    refine g_goto (t := 17) rfl ?_
    refine g_in eF3_linesOfWeek_17 mx610 ?_
    cases h
    rw [k0 _ hK]
    exact g_iret rfl rfl
  · rw [e4]
    refine g_nnl (t := 13) rfl ?_
    refine g_in eF3_linesOfWeek_13 mx610 ?_
    refine g_ch [(1, va_rf (some a3)), (0, .ref x0)] [va_rf (some a3)] (pc' := 14) rfl rfl rfl ?_
    obtain ⟨v5, e6, h⟩ := m_bd h
    refine g_gi q3_f115 e6 ?_
    refine g_end ?_
    refine g_in eF3_linesOfWeek_17 mx610 ?_
    cases h
    rw [k0 _ hK]
    exact g_iret rfl rfl
theorem OF3_linesOfWeek {x0 : Nat} {hp : m_H} {x : Int32} (h : F3_linesOfWeek x0 hp = some x) : m_isO hp 3 x0 = true := (m_gdd h).1
theorem SF3_linesOfWeek {xs : Nat → Int32} {L : Nat} {x0 : Nat} {hp : m_H} {x : Int32} (h : F3_linesOfWeek x0 hp = some x) : m_Rn xs L 1 610 0 (lv_args 0 [.ref x0]) [] hp (.inl (some (.int x)), hp) :=
  r_lv (SF3_linesOfWeek_0 x0 hp (K := fun y => y = x) (fun y e => by rw [e]) (m_gdd h).2 rfl) rfl ⟨rfl, trivial⟩
-- F3_addLot: LendHouse$House.addLot(IIII)I
theorem eF3_addLot_0 : m_Fe mi3_11 0 (m_ap [(.aload_n 0, 1)] ((.getfield 29, 3) :: ((.invokevirtual 68, 3) :: (m_ap [(.istore 5, 2), (.aload_n 0, 1)] ((.getfield 29, 3) :: (m_ap [(.iload 5, 2), (.iconst 0, 1), (.iload_n 1, 1)] ((.invokevirtual 72, 3) :: (m_ap [(.aload_n 0, 1)] ((.getfield 29, 3) :: (m_ap [(.iload 5, 2), (.iconst 1, 1), (.iload_n 2, 1)] ((.invokevirtual 72, 3) :: (m_ap [(.aload_n 0, 1)] ((.getfield 29, 3) :: (m_ap [(.iload 5, 2), (.iconst 2, 1), (.iload_n 3, 1)] ((.invokevirtual 72, 3) :: (m_ap [(.aload_n 0, 1)] ((.getfield 29, 3) :: (m_ap [(.iload 5, 2), (.bipush 6, 2), (.iconst (-1), 1)] ((.invokevirtual 72, 3) :: (m_ap [(.aload_n 0, 1)] ((.getfield 29, 3) :: (m_ap [(.iload 5, 2), (.bipush 8, 2), (.iconst (-1), 1)] ((.invokevirtual 72, 3) :: (m_ap [(.aload_n 0, 1)] ((.getfield 29, 3) :: (m_ap [(.iload 5, 2), (.bipush 10, 2), (.iload 4, 2), (.iadd, 1), (.iload_n 2, 1)] ((.invokevirtual 72, 3) :: (m_ap [(.iload 5, 2)] ([(.ireturn, 1)]))))))))))))))))))))))))))))) := m_Fe_of nd611 0 44 rfl
theorem SF3_addLot_0 {xs : Nat → Int32} {L : Nat} (x0 : Nat) (x1 : Int32) (x2 : Int32) (x3 : Int32) (x4 : Int32) (hp : m_H) {r : m_O × m_H} {K : (Int32 × m_H) → Prop} (k0 : ∀ x, K x → r = (.inl (some (.int x.1)), x.2)) {t : Int32 × m_H} (h : F3_addLot_0 x0 x1 x2 x3 x4 hp = some t) (hK : K t) : m_Rn xs L 3 611 0 [(0, .ref x0), (1, .int x1), (2, .int x2), (3, .int x3), (4, .int x4)] [] hp r := by
  unfold F3_addLot_0 at h
  refine g_in eF3_addLot_0 mx611 ?_
  refine g_ch [(0, .ref x0), (1, .int x1), (2, .int x2), (3, .int x3), (4, .int x4)] [.ref x0] (pc' := 1) rfl rfl rfl ?_
  obtain ⟨v1, e2, h⟩ := m_bd h
  refine g_gr q3_f29 e2 ?_
  obtain ⟨z4, e3, h⟩ := m_bd h
  refine g_call (v := some (.int z4.1)) (h := z4.2) (st' := [.int z4.1]) (D1 := 2) (as := [.ref v1]) (Or.inr (Or.inl rfl)) q3_m68 (m_cv (as := []) (rest := []) (Or.inl rfl) q3_m68 jv1607 (OF8_add e3) rfl rfl rfl rfl) (by decide) (SF8_add e3) rfl ?_
  refine g_ch [(5, .int z4.1), (0, .ref x0), (1, .int x1), (2, .int x2), (3, .int x3), (4, .int x4)] [.ref x0] (pc' := 10) rfl rfl rfl ?_
  obtain ⟨v5, e6, h⟩ := m_bd h
  refine g_gr q3_f29 e6 ?_
  refine g_ch [(5, .int z4.1), (0, .ref x0), (1, .int x1), (2, .int x2), (3, .int x3), (4, .int x4)] [.int x1, .int 0, .int z4.1, .ref v5] (pc' := 17) rfl rfl rfl ?_
  obtain ⟨h8, e7, h⟩ := m_bd h
  refine g_call (v := none) (h := h8) (st' := []) (D1 := 1) (as := [.ref v5, .int z4.1, .int 0, .int x1]) (Or.inr (Or.inl rfl)) q3_m72 (m_cv (as := [.int x1, .int 0, .int z4.1]) (rest := []) (Or.inl rfl) q3_m72 jv1605 (OF8_set e7) rfl rfl rfl rfl) (by decide) (SF8_set e7) rfl ?_
  refine g_ch [(5, .int z4.1), (0, .ref x0), (1, .int x1), (2, .int x2), (3, .int x3), (4, .int x4)] [.ref x0] (pc' := 21) rfl rfl rfl ?_
  obtain ⟨v9, e10, h⟩ := m_bd h
  refine g_gr q3_f29 e10 ?_
  refine g_ch [(5, .int z4.1), (0, .ref x0), (1, .int x1), (2, .int x2), (3, .int x3), (4, .int x4)] [.int x2, .int 1, .int z4.1, .ref v9] (pc' := 28) rfl rfl rfl ?_
  obtain ⟨h12, e11, h⟩ := m_bd h
  refine g_call (v := none) (h := h12) (st' := []) (D1 := 1) (as := [.ref v9, .int z4.1, .int 1, .int x2]) (Or.inr (Or.inl rfl)) q3_m72 (m_cv (as := [.int x2, .int 1, .int z4.1]) (rest := []) (Or.inl rfl) q3_m72 jv1605 (OF8_set e11) rfl rfl rfl rfl) (by decide) (SF8_set e11) rfl ?_
  refine g_ch [(5, .int z4.1), (0, .ref x0), (1, .int x1), (2, .int x2), (3, .int x3), (4, .int x4)] [.ref x0] (pc' := 32) rfl rfl rfl ?_
  obtain ⟨v13, e14, h⟩ := m_bd h
  refine g_gr q3_f29 e14 ?_
  refine g_ch [(5, .int z4.1), (0, .ref x0), (1, .int x1), (2, .int x2), (3, .int x3), (4, .int x4)] [.int x3, .int 2, .int z4.1, .ref v13] (pc' := 39) rfl rfl rfl ?_
  obtain ⟨h16, e15, h⟩ := m_bd h
  refine g_call (v := none) (h := h16) (st' := []) (D1 := 1) (as := [.ref v13, .int z4.1, .int 2, .int x3]) (Or.inr (Or.inl rfl)) q3_m72 (m_cv (as := [.int x3, .int 2, .int z4.1]) (rest := []) (Or.inl rfl) q3_m72 jv1605 (OF8_set e15) rfl rfl rfl rfl) (by decide) (SF8_set e15) rfl ?_
  refine g_ch [(5, .int z4.1), (0, .ref x0), (1, .int x1), (2, .int x2), (3, .int x3), (4, .int x4)] [.ref x0] (pc' := 43) rfl rfl rfl ?_
  obtain ⟨v17, e18, h⟩ := m_bd h
  refine g_gr q3_f29 e18 ?_
  refine g_ch [(5, .int z4.1), (0, .ref x0), (1, .int x1), (2, .int x2), (3, .int x3), (4, .int x4)] [.int (-1), .int 6, .int z4.1, .ref v17] (pc' := 51) rfl rfl rfl ?_
  obtain ⟨h20, e19, h⟩ := m_bd h
  refine g_call (v := none) (h := h20) (st' := []) (D1 := 1) (as := [.ref v17, .int z4.1, .int 6, .int (-1)]) (Or.inr (Or.inl rfl)) q3_m72 (m_cv (as := [.int (-1), .int 6, .int z4.1]) (rest := []) (Or.inl rfl) q3_m72 jv1605 (OF8_set e19) rfl rfl rfl rfl) (by decide) (SF8_set e19) rfl ?_
  refine g_ch [(5, .int z4.1), (0, .ref x0), (1, .int x1), (2, .int x2), (3, .int x3), (4, .int x4)] [.ref x0] (pc' := 55) rfl rfl rfl ?_
  obtain ⟨v21, e22, h⟩ := m_bd h
  refine g_gr q3_f29 e22 ?_
  refine g_ch [(5, .int z4.1), (0, .ref x0), (1, .int x1), (2, .int x2), (3, .int x3), (4, .int x4)] [.int (-1), .int 8, .int z4.1, .ref v21] (pc' := 63) rfl rfl rfl ?_
  obtain ⟨h24, e23, h⟩ := m_bd h
  refine g_call (v := none) (h := h24) (st' := []) (D1 := 1) (as := [.ref v21, .int z4.1, .int 8, .int (-1)]) (Or.inr (Or.inl rfl)) q3_m72 (m_cv (as := [.int (-1), .int 8, .int z4.1]) (rest := []) (Or.inl rfl) q3_m72 jv1605 (OF8_set e23) rfl rfl rfl rfl) (by decide) (SF8_set e23) rfl ?_
  refine g_ch [(5, .int z4.1), (0, .ref x0), (1, .int x1), (2, .int x2), (3, .int x3), (4, .int x4)] [.ref x0] (pc' := 67) rfl rfl rfl ?_
  obtain ⟨v25, e26, h⟩ := m_bd h
  refine g_gr q3_f29 e26 ?_
  refine g_ch [(5, .int z4.1), (0, .ref x0), (1, .int x1), (2, .int x2), (3, .int x3), (4, .int x4)] [.int x2, .int (10 + x4), .int z4.1, .ref v25] (pc' := 78) rfl rfl rfl ?_
  obtain ⟨h28, e27, h⟩ := m_bd h
  refine g_call (v := none) (h := h28) (st' := []) (D1 := 1) (as := [.ref v25, .int z4.1, .int (10 + x4), .int x2]) (Or.inr (Or.inl rfl)) q3_m72 (m_cv (as := [.int x2, .int (10 + x4), .int z4.1]) (rest := []) (Or.inl rfl) q3_m72 jv1605 (OF8_set e27) rfl rfl rfl rfl) (by decide) (SF8_set e27) rfl ?_
  refine g_ch [(5, .int z4.1), (0, .ref x0), (1, .int x1), (2, .int x2), (3, .int x3), (4, .int x4)] [.int z4.1] (pc' := 83) rfl rfl rfl ?_
  cases h
  rw [k0 _ hK]
  exact g_iret rfl rfl
theorem OF3_addLot {x0 : Nat} {x1 : Int32} {x2 : Int32} {x3 : Int32} {x4 : Int32} {hp : m_H} {x : Int32 × m_H} (h : F3_addLot x0 x1 x2 x3 x4 hp = some x) : m_isO hp 3 x0 = true := (m_gdd h).1
theorem SF3_addLot {xs : Nat → Int32} {L : Nat} {x0 : Nat} {x1 : Int32} {x2 : Int32} {x3 : Int32} {x4 : Int32} {hp : m_H} {x : Int32 × m_H} (h : F3_addLot x0 x1 x2 x3 x4 hp = some x) : m_Rn xs L 3 611 0 (lv_args 0 [.ref x0, .int x1, .int x2, .int x3, .int x4]) [] hp (.inl (some (.int x.1)), x.2) :=
  r_lv (SF3_addLot_0 x0 x1 x2 x3 x4 hp (K := fun y => y = x) (fun y e => by rw [e]) (m_gdd h).2 rfl) rfl ⟨rfl, rfl, rfl, rfl, rfl, trivial⟩
-- F3_isStock: LendHouse$House.isStock(I)Z
theorem eF3_isStock_0 : m_Fe mi3_12 0 (m_ap [(.aload_n 0, 1)] ((.getfield 29, 3) :: (m_ap [(.iload_n 1, 1), (.iconst 2, 1)] ((.invokevirtual 100, 3) :: ([(.ifCond .ne 7, 3)]))))) := m_Fe_of nd612 0 6 rfl
theorem eF3_isStock_16 : m_Fe mi3_12 16 (m_ap [(.iconst 0, 1)] ([])) := m_Fe_of nd612 8 1 rfl
theorem eF3_isStock_17 : m_Fe mi3_12 17 ([(.ireturn, 1)]) := m_Fe_of nd612 9 1 rfl
theorem eF3_isStock_12 : m_Fe mi3_12 12 (m_ap [(.iconst 1, 1)] ([(.goto 4, 3)])) := m_Fe_of nd612 6 2 rfl
theorem SF3_isStock_0 {xs : Nat → Int32} {L : Nat} (x0 : Nat) (x1 : Int32) (hp : m_H) {r : m_O × m_H} {K : Int32 → Prop} (k0 : ∀ x, K x → r = (.inl (some (.int x)), hp)) {t : Int32} (h : F3_isStock_0 x0 x1 hp = some t) (hK : K t) : m_Rn xs L 2 612 0 [(0, .ref x0), (1, .int x1)] [] hp r := by
  unfold F3_isStock_0 at h
  refine g_in eF3_isStock_0 mx612 ?_
  refine g_ch [(0, .ref x0), (1, .int x1)] [.ref x0] (pc' := 1) rfl rfl rfl ?_
  obtain ⟨v1, e2, h⟩ := m_bd h
  refine g_gr q3_f29 e2 ?_
  refine g_ch [(0, .ref x0), (1, .int x1)] [.int 2, .int x1, .ref v1] (pc' := 6) rfl rfl rfl ?_
  obtain ⟨v4, e3, h⟩ := m_bd h
  refine g_call (v := some (.int v4)) (h := hp) (st' := [.int v4]) (D1 := 1) (as := [.ref v1, .int x1, .int 2]) (Or.inr (Or.inl rfl)) q3_m100 (m_cv (as := [.int 2, .int x1]) (rest := []) (Or.inl rfl) q3_m100 jv1604 (OF8_get e3) rfl rfl rfl rfl) (by decide) (SF8_get e3) rfl ?_
  rcases m_ifd h with ⟨c5, h⟩ | ⟨c5, h⟩
  · refine g_ifcn (t := 16) rfl (m_neF c5) ?_
    refine g_in eF3_isStock_12 mx612 ?_
    refine g_ch [(0, .ref x0), (1, .int x1)] [.int 1] (pc' := 13) rfl rfl rfl ?_
    refine g_goto (t := 17) rfl ?_
    refine g_in eF3_isStock_17 mx612 ?_
    cases h
    rw [k0 _ hK]
    exact g_iret rfl (by decide +kernel)
  · refine g_ifc (t := 16) rfl (m_neT c5) ?_
    refine g_in eF3_isStock_16 mx612 ?_
    refine g_ch [(0, .ref x0), (1, .int x1)] [.int 0] (pc' := 17) rfl rfl rfl ?_
    refine g_end ?_
    refine g_in eF3_isStock_17 mx612 ?_
    cases h
    rw [k0 _ hK]
    exact g_iret rfl (by decide +kernel)
theorem OF3_isStock {x0 : Nat} {x1 : Int32} {hp : m_H} {x : Int32} (h : F3_isStock x0 x1 hp = some x) : m_isO hp 3 x0 = true := (m_gdd h).1
theorem SF3_isStock {xs : Nat → Int32} {L : Nat} {x0 : Nat} {x1 : Int32} {hp : m_H} {x : Int32} (h : F3_isStock x0 x1 hp = some x) : m_Rn xs L 2 612 0 (lv_args 0 [.ref x0, .int x1]) [] hp (.inl (some (.int x)), hp) :=
  r_lv (SF3_isStock_0 x0 x1 hp (K := fun y => y = x) (fun y e => by rw [e]) (m_gdd h).2 rfl) rfl ⟨rfl, rfl, trivial⟩
-- F3_isBack: LendHouse$House.isBack(I)Z
theorem eF3_isBack_0 : m_Fe mi3_13 0 (m_ap [(.aload_n 0, 1)] ((.getfield 29, 3) :: (m_ap [(.iload_n 1, 1), (.iconst 3, 1)] ((.invokevirtual 100, 3) :: (m_ap [(.iconst 1, 1)] ([(.if_icmp .ne 7, 3)])))))) := m_Fe_of nd613 0 7 rfl
theorem eF3_isBack_17 : m_Fe mi3_13 17 (m_ap [(.iconst 0, 1)] ([])) := m_Fe_of nd613 9 1 rfl
theorem eF3_isBack_18 : m_Fe mi3_13 18 ([(.ireturn, 1)]) := m_Fe_of nd613 10 1 rfl
theorem eF3_isBack_13 : m_Fe mi3_13 13 (m_ap [(.iconst 1, 1)] ([(.goto 4, 3)])) := m_Fe_of nd613 7 2 rfl
theorem SF3_isBack_0 {xs : Nat → Int32} {L : Nat} (x0 : Nat) (x1 : Int32) (hp : m_H) {r : m_O × m_H} {K : Int32 → Prop} (k0 : ∀ x, K x → r = (.inl (some (.int x)), hp)) {t : Int32} (h : F3_isBack_0 x0 x1 hp = some t) (hK : K t) : m_Rn xs L 2 613 0 [(0, .ref x0), (1, .int x1)] [] hp r := by
  unfold F3_isBack_0 at h
  refine g_in eF3_isBack_0 mx613 ?_
  refine g_ch [(0, .ref x0), (1, .int x1)] [.ref x0] (pc' := 1) rfl rfl rfl ?_
  obtain ⟨v1, e2, h⟩ := m_bd h
  refine g_gr q3_f29 e2 ?_
  refine g_ch [(0, .ref x0), (1, .int x1)] [.int 3, .int x1, .ref v1] (pc' := 6) rfl rfl rfl ?_
  obtain ⟨v4, e3, h⟩ := m_bd h
  refine g_call (v := some (.int v4)) (h := hp) (st' := [.int v4]) (D1 := 1) (as := [.ref v1, .int x1, .int 3]) (Or.inr (Or.inl rfl)) q3_m100 (m_cv (as := [.int 3, .int x1]) (rest := []) (Or.inl rfl) q3_m100 jv1604 (OF8_get e3) rfl rfl rfl rfl) (by decide) (SF8_get e3) rfl ?_
  refine g_ch [(0, .ref x0), (1, .int x1)] [.int 1, .int v4] (pc' := 10) rfl rfl rfl ?_
  rcases m_ifd h with ⟨c5, h⟩ | ⟨c5, h⟩
  · refine g_ifn (t := 17) rfl (m_neF c5) ?_
    refine g_in eF3_isBack_13 mx613 ?_
    refine g_ch [(0, .ref x0), (1, .int x1)] [.int 1] (pc' := 14) rfl rfl rfl ?_
    refine g_goto (t := 18) rfl ?_
    refine g_in eF3_isBack_18 mx613 ?_
    cases h
    rw [k0 _ hK]
    exact g_iret rfl (by decide +kernel)
  · refine g_if (t := 17) rfl (m_neT c5) ?_
    refine g_in eF3_isBack_17 mx613 ?_
    refine g_ch [(0, .ref x0), (1, .int x1)] [.int 0] (pc' := 18) rfl rfl rfl ?_
    refine g_end ?_
    refine g_in eF3_isBack_18 mx613 ?_
    cases h
    rw [k0 _ hK]
    exact g_iret rfl (by decide +kernel)
theorem OF3_isBack {x0 : Nat} {x1 : Int32} {hp : m_H} {x : Int32} (h : F3_isBack x0 x1 hp = some x) : m_isO hp 3 x0 = true := (m_gdd h).1
theorem SF3_isBack {xs : Nat → Int32} {L : Nat} {x0 : Nat} {x1 : Int32} {hp : m_H} {x : Int32} (h : F3_isBack x0 x1 hp = some x) : m_Rn xs L 2 613 0 (lv_args 0 [.ref x0, .int x1]) [] hp (.inl (some (.int x)), hp) :=
  r_lv (SF3_isBack_0 x0 x1 hp (K := fun y => y = x) (fun y e => by rw [e]) (m_gdd h).2 rfl) rfl ⟨rfl, rfl, trivial⟩
-- F3_isOrderNotBegun: LendHouse$House.isOrderNotBegun(I)Z
theorem eF3_isOrderNotBegun_0 : m_Fe mi3_15 0 (m_ap [(.aload_n 0, 1), (.iload_n 1, 1)] ((.invokevirtual 118, 3) :: ([(.ifCond .eq 19, 3)]))) := m_Fe_of nd615 0 4 rfl
theorem eF3_isOrderNotBegun_24 : m_Fe mi3_15 24 (m_ap [(.iconst 0, 1)] ([])) := m_Fe_of nd615 12 1 rfl
theorem eF3_isOrderNotBegun_25 : m_Fe mi3_15 25 ([(.ireturn, 1)]) := m_Fe_of nd615 13 1 rfl
theorem eF3_isOrderNotBegun_8 : m_Fe mi3_15 8 (m_ap [(.aload_n 0, 1)] ((.getfield 29, 3) :: (m_ap [(.iload_n 1, 1), (.iconst 5, 1)] ((.invokevirtual 100, 3) :: ([(.ifCond .ne 7, 3)]))))) := m_Fe_of nd615 4 6 rfl
theorem eF3_isOrderNotBegun_20 : m_Fe mi3_15 20 (m_ap [(.iconst 1, 1)] ([(.goto 4, 3)])) := m_Fe_of nd615 10 2 rfl
theorem SF3_isOrderNotBegun_0 {xs : Nat → Int32} {L : Nat} (x0 : Nat) (x1 : Int32) (hp : m_H) {r : m_O × m_H} {K : Int32 → Prop} (k0 : ∀ x, K x → r = (.inl (some (.int x)), hp)) {t : Int32} (h : F3_isOrderNotBegun_0 x0 x1 hp = some t) (hK : K t) : m_Rn xs L 3 615 0 [(0, .ref x0), (1, .int x1)] [] hp r := by
  unfold F3_isOrderNotBegun_0 at h
  refine g_in eF3_isOrderNotBegun_0 mx615 ?_
  refine g_ch [(0, .ref x0), (1, .int x1)] [.int x1, .ref x0] (pc' := 2) rfl rfl rfl ?_
  obtain ⟨v2, e1, h⟩ := m_bd h
  refine g_call (v := some (.int v2)) (h := hp) (st' := [.int v2]) (D1 := 2) (as := [.ref x0, .int x1]) (Or.inr (Or.inl rfl)) q3_m118 (m_cv (as := [.int x1]) (rest := []) (Or.inl rfl) q3_m118 jv612 (OF3_isStock e1) rfl rfl rfl rfl) (by decide) (SF3_isStock e1) rfl ?_
  rcases m_ifd h with ⟨c3, h⟩ | ⟨c3, h⟩
  · refine g_ifc (t := 24) rfl (m_eqT c3) ?_
    refine g_in eF3_isOrderNotBegun_24 mx615 ?_
    refine g_ch [(0, .ref x0), (1, .int x1)] [.int 0] (pc' := 25) rfl rfl rfl ?_
    refine g_end ?_
    refine g_in eF3_isOrderNotBegun_25 mx615 ?_
    cases h
    rw [k0 _ hK]
    exact g_iret rfl (by decide +kernel)
  · refine g_ifcn (t := 24) rfl (m_eqF c3) ?_
    refine g_in eF3_isOrderNotBegun_8 mx615 ?_
    refine g_ch [(0, .ref x0), (1, .int x1)] [.ref x0] (pc' := 9) rfl rfl rfl ?_
    obtain ⟨v4, e5, h⟩ := m_bd h
    refine g_gr q3_f29 e5 ?_
    refine g_ch [(0, .ref x0), (1, .int x1)] [.int 5, .int x1, .ref v4] (pc' := 14) rfl rfl rfl ?_
    obtain ⟨v7, e6, h⟩ := m_bd h
    refine g_call (v := some (.int v7)) (h := hp) (st' := [.int v7]) (D1 := 1) (as := [.ref v4, .int x1, .int 5]) (Or.inr (Or.inl rfl)) q3_m100 (m_cv (as := [.int 5, .int x1]) (rest := []) (Or.inl rfl) q3_m100 jv1604 (OF8_get e6) rfl rfl rfl rfl) (by decide) (SF8_get e6) rfl ?_
    rcases m_ifd h with ⟨c8, h⟩ | ⟨c8, h⟩
    · refine g_ifcn (t := 24) rfl (m_neF c8) ?_
      refine g_in eF3_isOrderNotBegun_20 mx615 ?_
      refine g_ch [(0, .ref x0), (1, .int x1)] [.int 1] (pc' := 21) rfl rfl rfl ?_
      refine g_goto (t := 25) rfl ?_
      refine g_in eF3_isOrderNotBegun_25 mx615 ?_
      cases h
      rw [k0 _ hK]
      exact g_iret rfl (by decide +kernel)
    · refine g_ifc (t := 24) rfl (m_neT c8) ?_
      refine g_in eF3_isOrderNotBegun_24 mx615 ?_
      refine g_ch [(0, .ref x0), (1, .int x1)] [.int 0] (pc' := 25) rfl rfl rfl ?_
      refine g_end ?_
      refine g_in eF3_isOrderNotBegun_25 mx615 ?_
      cases h
      rw [k0 _ hK]
      exact g_iret rfl (by decide +kernel)
theorem OF3_isOrderNotBegun {x0 : Nat} {x1 : Int32} {hp : m_H} {x : Int32} (h : F3_isOrderNotBegun x0 x1 hp = some x) : m_isO hp 3 x0 = true := (m_gdd h).1
theorem SF3_isOrderNotBegun {xs : Nat → Int32} {L : Nat} {x0 : Nat} {x1 : Int32} {hp : m_H} {x : Int32} (h : F3_isOrderNotBegun x0 x1 hp = some x) : m_Rn xs L 3 615 0 (lv_args 0 [.ref x0, .int x1]) [] hp (.inl (some (.int x)), hp) :=
  r_lv (SF3_isOrderNotBegun_0 x0 x1 hp (K := fun y => y = x) (fun y e => by rw [e]) (m_gdd h).2 rfl) rfl ⟨rfl, rfl, trivial⟩
-- F8_raise: LendHouse$Table.raise(III)V
theorem eF8_raise_0 : m_Fe mi8_6 0 (m_ap [(.aload_n 0, 1), (.iload_n 1, 1), (.iload_n 2, 1)] ((.invokevirtual 28, 3) :: ([(.ifCond .eq 20, 3)]))) := m_Fe_of nd1606 0 5 rfl
theorem eF8_raise_26 : m_Fe mi8_6 26 ([(.return_, 1)]) := m_Fe_of nd1606 18 1 rfl
theorem eF8_raise_9 : m_Fe mi8_6 9 (m_ap [(.aload_n 0, 1)] ((.getfield 21, 3) :: (m_ap [(.iload_n 1, 1), (.aload_n 0, 1)] ((.getfield 15, 3) :: (m_ap [(.imul, 1), (.iload_n 2, 1), (.iadd, 1), (.dup2, 1)] ((.iaload, 1) :: (m_ap [(.iload_n 3, 1), (.iadd, 1)] ([(.iastore, 1)])))))))) := m_Fe_of nd1606 5 13 rfl
theorem SF8_raise_0 {xs : Nat → Int32} {L : Nat} (x0 : Nat) (x1 : Int32) (x2 : Int32) (x3 : Int32) (hp : m_H) {r : m_O × m_H} {K : m_H → Prop} (k0 : ∀ x, K x → r = (.inl none, x)) {t : m_H} (h : F8_raise_0 x0 x1 x2 x3 hp = some t) (hK : K t) : m_Rn xs L 1 1606 0 [(0, .ref x0), (1, .int x1), (2, .int x2), (3, .int x3)] [] hp r := by
  unfold F8_raise_0 at h
  refine g_in eF8_raise_0 mx1606 ?_
  refine g_ch [(0, .ref x0), (1, .int x1), (2, .int x2), (3, .int x3)] [.int x2, .int x1, .ref x0] (pc' := 3) rfl rfl rfl ?_
  obtain ⟨v2, e1, h⟩ := m_bd h
  refine g_call (v := some (.int v2)) (h := hp) (st' := [.int v2]) (D1 := 0) (as := [.ref x0, .int x1, .int x2]) (Or.inr (Or.inl rfl)) q8_m28 (m_cv (as := [.int x2, .int x1]) (rest := []) (Or.inl rfl) q8_m28 jv1603 (OF8_reaches e1) rfl rfl rfl rfl) (by decide) (SF8_reaches e1) rfl ?_
  rcases m_ifd h with ⟨c3, h⟩ | ⟨c3, h⟩
  · refine g_ifc (t := 26) rfl (m_eqT c3) ?_
    refine g_in eF8_raise_26 mx1606 ?_
    cases h
    rw [k0 _ hK]
    exact g_vret rfl
  · refine g_ifcn (t := 26) rfl (m_eqF c3) ?_
    refine g_in eF8_raise_9 mx1606 ?_
    refine g_ch [(0, .ref x0), (1, .int x1), (2, .int x2), (3, .int x3)] [.ref x0] (pc' := 10) rfl rfl rfl ?_
    obtain ⟨v4, e5, h⟩ := m_bd h
    refine g_gr q8_f21 e5 ?_
    refine g_ch [(0, .ref x0), (1, .int x1), (2, .int x2), (3, .int x3)] [.ref x0, .int x1, .ref v4] (pc' := 15) rfl rfl rfl ?_
    obtain ⟨v6, e7, h⟩ := m_bd h
    refine g_gi q8_f15 e7 ?_
    refine g_ch [(0, .ref x0), (1, .int x1), (2, .int x2), (3, .int x3)] [.int ((x1 * v6) + x2), .ref v4, .int ((x1 * v6) + x2), .ref v4] (pc' := 22) rfl rfl rfl ?_
    obtain ⟨v8, e9, h⟩ := m_bd h
    refine g_ia e9 ?_
    refine g_ch [(0, .ref x0), (1, .int x1), (2, .int x2), (3, .int x3)] [.int (v8 + x3), .int ((x1 * v6) + x2), .ref v4] (pc' := 25) rfl rfl rfl ?_
    obtain ⟨h10, e11, h⟩ := m_bd h
    refine g_is e11 ?_
    refine g_end ?_
    refine g_in eF8_raise_26 mx1606 ?_
    cases h
    rw [k0 _ hK]
    exact g_vret rfl
theorem OF8_raise {x0 : Nat} {x1 : Int32} {x2 : Int32} {x3 : Int32} {hp : m_H} {x : m_H} (h : F8_raise x0 x1 x2 x3 hp = some x) : m_isO hp 6 x0 = true := (m_gdd h).1
theorem SF8_raise {xs : Nat → Int32} {L : Nat} {x0 : Nat} {x1 : Int32} {x2 : Int32} {x3 : Int32} {hp : m_H} {x : m_H} (h : F8_raise x0 x1 x2 x3 hp = some x) : m_Rn xs L 1 1606 0 (lv_args 0 [.ref x0, .int x1, .int x2, .int x3]) [] hp (.inl none, x) :=
  r_lv (SF8_raise_0 x0 x1 x2 x3 hp (K := fun y => y = x) (fun y e => by rw [e]) (m_gdd h).2 rfl) rfl ⟨rfl, rfl, rfl, rfl, trivial⟩
-- F3_move: LendHouse$House.move(IIII)V
theorem eF3_move_0 : m_Fe mi3_17 0 (m_ap [(.aload_n 0, 1)] ((.getfield 29, 3) :: (m_ap [(.iload_n 1, 1), (.bipush 10, 2), (.iload_n 3, 1), (.iadd, 1), (.iload_n 2, 1), (.ineg, 1)] ((.invokevirtual 122, 3) :: (m_ap [(.aload_n 0, 1)] ((.getfield 29, 3) :: (m_ap [(.iload_n 1, 1), (.bipush 10, 2), (.iload 4, 2), (.iadd, 1), (.iload_n 2, 1)] ((.invokevirtual 122, 3) :: ([(.return_, 1)]))))))))) := m_Fe_of nd617 0 18 rfl
theorem SF3_move_0 {xs : Nat → Int32} {L : Nat} (x0 : Nat) (x1 : Int32) (x2 : Int32) (x3 : Int32) (x4 : Int32) (hp : m_H) {r : m_O × m_H} {K : m_H → Prop} (k0 : ∀ x, K x → r = (.inl none, x)) {t : m_H} (h : F3_move_0 x0 x1 x2 x3 x4 hp = some t) (hK : K t) : m_Rn xs L 2 617 0 [(0, .ref x0), (1, .int x1), (2, .int x2), (3, .int x3), (4, .int x4)] [] hp r := by
  unfold F3_move_0 at h
  refine g_in eF3_move_0 mx617 ?_
  refine g_ch [(0, .ref x0), (1, .int x1), (2, .int x2), (3, .int x3), (4, .int x4)] [.ref x0] (pc' := 1) rfl rfl rfl ?_
  obtain ⟨v1, e2, h⟩ := m_bd h
  refine g_gr q3_f29 e2 ?_
  refine g_ch [(0, .ref x0), (1, .int x1), (2, .int x2), (3, .int x3), (4, .int x4)] [.int (-x2), .int (10 + x3), .int x1, .ref v1] (pc' := 11) rfl rfl rfl ?_
  obtain ⟨h4, e3, h⟩ := m_bd h
  refine g_call (v := none) (h := h4) (st' := []) (D1 := 1) (as := [.ref v1, .int x1, .int (10 + x3), .int (-x2)]) (Or.inr (Or.inl rfl)) q3_m122 (m_cv (as := [.int (-x2), .int (10 + x3), .int x1]) (rest := []) (Or.inl rfl) q3_m122 jv1606 (OF8_raise e3) rfl rfl rfl rfl) (by decide) (SF8_raise e3) rfl ?_
  refine g_ch [(0, .ref x0), (1, .int x1), (2, .int x2), (3, .int x3), (4, .int x4)] [.ref x0] (pc' := 15) rfl rfl rfl ?_
  obtain ⟨v5, e6, h⟩ := m_bd h
  refine g_gr q3_f29 e6 ?_
  refine g_ch [(0, .ref x0), (1, .int x1), (2, .int x2), (3, .int x3), (4, .int x4)] [.int x2, .int (10 + x4), .int x1, .ref v5] (pc' := 25) rfl rfl rfl ?_
  obtain ⟨h8, e7, h⟩ := m_bd h
  refine g_call (v := none) (h := h8) (st' := []) (D1 := 1) (as := [.ref v5, .int x1, .int (10 + x4), .int x2]) (Or.inr (Or.inl rfl)) q3_m122 (m_cv (as := [.int x2, .int (10 + x4), .int x1]) (rest := []) (Or.inl rfl) q3_m122 jv1606 (OF8_raise e7) rfl rfl rfl rfl) (by decide) (SF8_raise e7) rfl ?_
  cases h
  rw [k0 _ hK]
  exact g_vret rfl
theorem OF3_move {x0 : Nat} {x1 : Int32} {x2 : Int32} {x3 : Int32} {x4 : Int32} {hp : m_H} {x : m_H} (h : F3_move x0 x1 x2 x3 x4 hp = some x) : m_isO hp 3 x0 = true := (m_gdd h).1
theorem SF3_move {xs : Nat → Int32} {L : Nat} {x0 : Nat} {x1 : Int32} {x2 : Int32} {x3 : Int32} {x4 : Int32} {hp : m_H} {x : m_H} (h : F3_move x0 x1 x2 x3 x4 hp = some x) : m_Rn xs L 2 617 0 (lv_args 0 [.ref x0, .int x1, .int x2, .int x3, .int x4]) [] hp (.inl none, x) :=
  r_lv (SF3_move_0 x0 x1 x2 x3 x4 hp (K := fun y => y = x) (fun y e => by rw [e]) (m_gdd h).2 rfl) rfl ⟨rfl, rfl, rfl, rfl, rfl, trivial⟩
-- F8_sumOf: LendHouse$Table.sumOf(I)I
theorem eF8_sumOf_0 : m_Fe mi8_9 0 (m_ap [(.iconst 0, 1), (.istore_n 2, 1), (.iconst 0, 1), (.istore_n 3, 1)] ([])) := m_Fe_of nd1609 0 4 rfl
theorem eF8_sumOf_4 : m_Fe mi8_9 4 (m_ap [(.iload_n 3, 1), (.aload_n 0, 1)] ((.getfield 25, 3) :: ([(.if_icmp .ge 18, 3)]))) := m_Fe_of nd1609 4 4 rfl
theorem eF8_sumOf_27 : m_Fe mi8_9 27 (m_ap [(.iload_n 2, 1)] ([(.ireturn, 1)])) := m_Fe_of nd1609 17 2 rfl
theorem eF8_sumOf_12 : m_Fe mi8_9 12 (m_ap [(.iload_n 2, 1), (.aload_n 0, 1), (.iload_n 3, 1), (.iload_n 1, 1)] ((.invokevirtual 40, 3) :: (m_ap [(.iadd, 1), (.istore_n 2, 1), (.iinc 3 1, 3)] ([(.goto (-20), 3)])))) := m_Fe_of nd1609 8 9 rfl
theorem SF8_sumOf_4b {xs : Nat → Int32} {L : Nat} (x0 : Nat) (x1 : Int32) (hp : m_H) (s : Int32 × Int32) {r : m_O × m_H} {K : ((Int32 × Int32) ⊕ Int32) → Prop} (k0 : ∀ x, K (.inr x) → r = (.inl (some (.int x)), hp)) (k1 : ∀ s, K (.inl s) → m_Rn xs L 2 1609 4 [(0, .ref x0), (1, .int x1), (2, .int s.1), (3, .int s.2)] [] hp r) {t : (Int32 × Int32) ⊕ Int32} (h : F8_sumOf_4b x0 x1 hp s = some t) (hK : K t) : m_Rn xs L 2 1609 4 [(0, .ref x0), (1, .int x1), (2, .int s.1), (3, .int s.2)] [] hp r := by
  unfold F8_sumOf_4b at h
  refine g_in eF8_sumOf_4 mx1609 ?_
  refine g_ch [(0, .ref x0), (1, .int x1), (2, .int s.1), (3, .int s.2)] [.ref x0, .int s.2] (pc' := 6) rfl rfl rfl ?_
  obtain ⟨v1, e2, h⟩ := m_bd h
  refine g_gi q8_f25 e2 ?_
  rcases m_ifd h with ⟨c3, h⟩ | ⟨c3, h⟩
  · refine g_if (t := 27) rfl (m_geT c3) ?_
    refine g_in eF8_sumOf_27 mx1609 ?_
    refine g_ch [(0, .ref x0), (1, .int x1), (2, .int s.1), (3, .int s.2)] [.int s.1] (pc' := 28) rfl rfl rfl ?_
    cases h
    rw [k0 _ hK]
    exact g_iret rfl rfl
  · refine g_ifn (t := 27) rfl (m_geF c3) ?_
    refine g_in eF8_sumOf_12 mx1609 ?_
    refine g_ch [(0, .ref x0), (1, .int x1), (2, .int s.1), (3, .int s.2)] [.int x1, .int s.2, .ref x0, .int s.1] (pc' := 16) rfl rfl rfl ?_
    obtain ⟨v5, e4, h⟩ := m_bd h
    refine g_call (v := some (.int v5)) (h := hp) (st' := [.int v5, .int s.1]) (D1 := 1) (as := [.ref x0, .int s.2, .int x1]) (Or.inr (Or.inl rfl)) q8_m40 (m_cv (as := [.int x1, .int s.2]) (rest := [.int s.1]) (Or.inl rfl) q8_m40 jv1604 (OF8_get e4) rfl rfl rfl rfl) (by decide) (SF8_get e4) rfl ?_
    refine g_ch [(3, .int (s.2 + 1)), (2, .int (s.1 + v5)), (0, .ref x0), (1, .int x1)] [] (pc' := 24) rfl rfl rfl ?_
    refine g_goto (t := 4) rfl ?_
    cases h
    exact r_lv (k1 ((s.1 + v5), (s.2 + 1)) hK) rfl ⟨rfl, rfl, rfl, rfl, trivial⟩
theorem SF8_sumOf_4 {xs : Nat → Int32} {L : Nat} (x0 : Nat) (x1 : Int32) (x2 : Int32) (x3 : Int32) (hp : m_H) {r : m_O × m_H} {K : Int32 → Prop} (k0 : ∀ x, K x → r = (.inl (some (.int x)), hp)) {t : Int32} (h : F8_sumOf_4 x0 x1 x2 x3 hp = some t) (hK : K t) : m_Rn xs L 2 1609 4 [(0, .ref x0), (1, .int x1), (2, .int x2), (3, .int x3)] [] hp r :=
  m_wh_ok (P := fun s => m_Rn xs L 2 1609 4 [(0, .ref x0), (1, .int x1), (2, .int s.1), (3, .int s.2)] [] hp r) (Q := K) (fun s t hb hK => SF8_sumOf_4b x0 x1 hp s (K := m_KK (fun s => m_Rn xs L 2 1609 4 [(0, .ref x0), (1, .int x1), (2, .int s.1), (3, .int s.2)] [] hp r) K) k0 (fun _ q => q) hb hK) m_N _ _ h hK
theorem SF8_sumOf_0 {xs : Nat → Int32} {L : Nat} (x0 : Nat) (x1 : Int32) (hp : m_H) {r : m_O × m_H} {K : Int32 → Prop} (k0 : ∀ x, K x → r = (.inl (some (.int x)), hp)) {t : Int32} (h : F8_sumOf_0 x0 x1 hp = some t) (hK : K t) : m_Rn xs L 2 1609 0 [(0, .ref x0), (1, .int x1)] [] hp r := by
  unfold F8_sumOf_0 at h
  refine g_in eF8_sumOf_0 mx1609 ?_
  refine g_ch [(3, .int 0), (2, .int 0), (0, .ref x0), (1, .int x1)] [] (pc' := 4) rfl rfl rfl ?_
  refine g_end ?_
  exact r_lv (SF8_sumOf_4 x0 x1 0 0 hp (K := K) k0 h hK) rfl ⟨rfl, rfl, rfl, rfl, trivial⟩
theorem OF8_sumOf {x0 : Nat} {x1 : Int32} {hp : m_H} {x : Int32} (h : F8_sumOf x0 x1 hp = some x) : m_isO hp 6 x0 = true := (m_gdd h).1
theorem SF8_sumOf {xs : Nat → Int32} {L : Nat} {x0 : Nat} {x1 : Int32} {hp : m_H} {x : Int32} (h : F8_sumOf x0 x1 hp = some x) : m_Rn xs L 2 1609 0 (lv_args 0 [.ref x0, .int x1]) [] hp (.inl (some (.int x)), hp) :=
  r_lv (SF8_sumOf_0 x0 x1 hp (K := fun y => y = x) (fun y e => by rw [e]) (m_gdd h).2 rfl) rfl ⟨rfl, rfl, trivial⟩
-- F3_cratesAt: LendHouse$House.cratesAt(I)I
theorem eF3_cratesAt_0 : m_Fe mi3_18 0 (m_ap [(.aload_n 0, 1)] ((.getfield 29, 3) :: (m_ap [(.bipush 10, 2), (.iload_n 1, 1), (.iadd, 1)] ((.invokevirtual 125, 3) :: ([(.ireturn, 1)]))))) := m_Fe_of nd618 0 7 rfl
theorem SF3_cratesAt_0 {xs : Nat → Int32} {L : Nat} (x0 : Nat) (x1 : Int32) (hp : m_H) {r : m_O × m_H} {K : Int32 → Prop} (k0 : ∀ x, K x → r = (.inl (some (.int x)), hp)) {t : Int32} (h : F3_cratesAt_0 x0 x1 hp = some t) (hK : K t) : m_Rn xs L 3 618 0 [(0, .ref x0), (1, .int x1)] [] hp r := by
  unfold F3_cratesAt_0 at h
  refine g_in eF3_cratesAt_0 mx618 ?_
  refine g_ch [(0, .ref x0), (1, .int x1)] [.ref x0] (pc' := 1) rfl rfl rfl ?_
  obtain ⟨v1, e2, h⟩ := m_bd h
  refine g_gr q3_f29 e2 ?_
  refine g_ch [(0, .ref x0), (1, .int x1)] [.int (10 + x1), .ref v1] (pc' := 8) rfl rfl rfl ?_
  obtain ⟨v4, e3, h⟩ := m_bd h
  refine g_call (v := some (.int v4)) (h := hp) (st' := [.int v4]) (D1 := 2) (as := [.ref v1, .int (10 + x1)]) (Or.inr (Or.inl rfl)) q3_m125 (m_cv (as := [.int (10 + x1)]) (rest := []) (Or.inl rfl) q3_m125 jv1609 (OF8_sumOf e3) rfl rfl rfl rfl) (by decide) (SF8_sumOf e3) rfl ?_
  cases h
  rw [k0 _ hK]
  exact g_iret rfl rfl
theorem OF3_cratesAt {x0 : Nat} {x1 : Int32} {hp : m_H} {x : Int32} (h : F3_cratesAt x0 x1 hp = some x) : m_isO hp 3 x0 = true := (m_gdd h).1
theorem SF3_cratesAt {xs : Nat → Int32} {L : Nat} {x0 : Nat} {x1 : Int32} {hp : m_H} {x : Int32} (h : F3_cratesAt x0 x1 hp = some x) : m_Rn xs L 3 618 0 (lv_args 0 [.ref x0, .int x1]) [] hp (.inl (some (.int x)), hp) :=
  r_lv (SF3_cratesAt_0 x0 x1 hp (K := fun y => y = x) (fun y e => by rw [e]) (m_gdd h).2 rfl) rfl ⟨rfl, rfl, trivial⟩
-- F3_needOfAll: LendHouse$House.needOfAll(II)I
theorem eF3_needOfAll_0 : m_Fe mi3_19 0 (m_ap [(.aload_n 0, 1)] ((.getfield 29, 3) :: (m_ap [(.iload_n 1, 1), (.iconst 1, 1)] ((.invokevirtual 100, 3) :: (m_ap [(.aload_n 0, 1)] ((.getfield 22, 3) :: (m_ap [(.aload_n 0, 1)] ((.getfield 29, 3) :: (m_ap [(.iload_n 1, 1), (.iconst 0, 1)] ((.invokevirtual 100, 3) :: (m_ap [(.iload_n 2, 1)] ((.invokevirtual 100, 3) :: (m_ap [(.imul, 1)] ([(.ireturn, 1)])))))))))))))) := m_Fe_of nd619 0 16 rfl
theorem SF3_needOfAll_0 {xs : Nat → Int32} {L : Nat} (x0 : Nat) (x1 : Int32) (x2 : Int32) (hp : m_H) {r : m_O × m_H} {K : Int32 → Prop} (k0 : ∀ x, K x → r = (.inl (some (.int x)), hp)) {t : Int32} (h : F3_needOfAll_0 x0 x1 x2 hp = some t) (hK : K t) : m_Rn xs L 2 619 0 [(0, .ref x0), (1, .int x1), (2, .int x2)] [] hp r := by
  unfold F3_needOfAll_0 at h
  refine g_in eF3_needOfAll_0 mx619 ?_
  refine g_ch [(0, .ref x0), (1, .int x1), (2, .int x2)] [.ref x0] (pc' := 1) rfl rfl rfl ?_
  obtain ⟨v1, e2, h⟩ := m_bd h
  refine g_gr q3_f29 e2 ?_
  refine g_ch [(0, .ref x0), (1, .int x1), (2, .int x2)] [.int 1, .int x1, .ref v1] (pc' := 6) rfl rfl rfl ?_
  obtain ⟨v4, e3, h⟩ := m_bd h
  refine g_call (v := some (.int v4)) (h := hp) (st' := [.int v4]) (D1 := 1) (as := [.ref v1, .int x1, .int 1]) (Or.inr (Or.inl rfl)) q3_m100 (m_cv (as := [.int 1, .int x1]) (rest := []) (Or.inl rfl) q3_m100 jv1604 (OF8_get e3) rfl rfl rfl rfl) (by decide) (SF8_get e3) rfl ?_
  refine g_ch [(0, .ref x0), (1, .int x1), (2, .int x2)] [.ref x0, .int v4] (pc' := 10) rfl rfl rfl ?_
  obtain ⟨v5, e6, h⟩ := m_bd h
  refine g_gr q3_f22 e6 ?_
  refine g_ch [(0, .ref x0), (1, .int x1), (2, .int x2)] [.ref x0, .ref v5, .int v4] (pc' := 14) rfl rfl rfl ?_
  obtain ⟨v7, e8, h⟩ := m_bd h
  refine g_gr q3_f29 e8 ?_
  refine g_ch [(0, .ref x0), (1, .int x1), (2, .int x2)] [.int 0, .int x1, .ref v7, .ref v5, .int v4] (pc' := 19) rfl rfl rfl ?_
  obtain ⟨v10, e9, h⟩ := m_bd h
  refine g_call (v := some (.int v10)) (h := hp) (st' := [.int v10, .ref v5, .int v4]) (D1 := 1) (as := [.ref v7, .int x1, .int 0]) (Or.inr (Or.inl rfl)) q3_m100 (m_cv (as := [.int 0, .int x1]) (rest := [.ref v5, .int v4]) (Or.inl rfl) q3_m100 jv1604 (OF8_get e9) rfl rfl rfl rfl) (by decide) (SF8_get e9) rfl ?_
  refine g_ch [(0, .ref x0), (1, .int x1), (2, .int x2)] [.int x2, .int v10, .ref v5, .int v4] (pc' := 23) rfl rfl rfl ?_
  obtain ⟨v12, e11, h⟩ := m_bd h
  refine g_call (v := some (.int v12)) (h := hp) (st' := [.int v12, .int v4]) (D1 := 1) (as := [.ref v5, .int v10, .int x2]) (Or.inr (Or.inl rfl)) q3_m100 (m_cv (as := [.int x2, .int v10]) (rest := [.int v4]) (Or.inl rfl) q3_m100 jv1604 (OF8_get e11) rfl rfl rfl rfl) (by decide) (SF8_get e11) rfl ?_
  refine g_ch [(0, .ref x0), (1, .int x1), (2, .int x2)] [.int (v4 * v12)] (pc' := 27) rfl rfl rfl ?_
  cases h
  rw [k0 _ hK]
  exact g_iret rfl rfl
theorem OF3_needOfAll {x0 : Nat} {x1 : Int32} {x2 : Int32} {hp : m_H} {x : Int32} (h : F3_needOfAll x0 x1 x2 hp = some x) : m_isO hp 3 x0 = true := (m_gdd h).1
theorem SF3_needOfAll {xs : Nat → Int32} {L : Nat} {x0 : Nat} {x1 : Int32} {x2 : Int32} {hp : m_H} {x : Int32} (h : F3_needOfAll x0 x1 x2 hp = some x) : m_Rn xs L 2 619 0 (lv_args 0 [.ref x0, .int x1, .int x2]) [] hp (.inl (some (.int x)), hp) :=
  r_lv (SF3_needOfAll_0 x0 x1 x2 hp (K := fun y => y = x) (fun y e => by rw [e]) (m_gdd h).2 rfl) rfl ⟨rfl, rfl, rfl, trivial⟩
-- F3_stockInPort: LendHouse$House.stockInPort(I)I
theorem eF3_stockInPort_0 : m_Fe mi3_20 0 (m_ap [(.iconst 0, 1), (.istore_n 2, 1), (.iconst 0, 1), (.istore_n 3, 1)] ([])) := m_Fe_of nd620 0 4 rfl
theorem eF3_stockInPort_4 : m_Fe mi3_20 4 (m_ap [(.iload_n 3, 1), (.aload_n 0, 1)] ((.getfield 29, 3) :: ((.getfield 97, 3) :: ([(.if_icmp .ge 39, 3)])))) := m_Fe_of nd620 4 5 rfl
theorem eF3_stockInPort_51 : m_Fe mi3_20 51 (m_ap [(.iload_n 2, 1)] ([(.ireturn, 1)])) := m_Fe_of nd620 29 2 rfl
theorem eF3_stockInPort_15 : m_Fe mi3_20 15 (m_ap [(.aload_n 0, 1), (.iload_n 3, 1)] ((.invokevirtual 118, 3) :: ([(.ifCond .eq 25, 3)]))) := m_Fe_of nd620 9 4 rfl
theorem eF3_stockInPort_45 : m_Fe mi3_20 45 (m_ap [(.iinc 3 1, 3)] ([(.goto (-44), 3)])) := m_Fe_of nd620 27 2 rfl
theorem eF3_stockInPort_23 : m_Fe mi3_20 23 (m_ap [(.aload_n 0, 1)] ((.getfield 29, 3) :: (m_ap [(.iload_n 3, 1), (.iconst 0, 1)] ((.invokevirtual 100, 3) :: (m_ap [(.iload_n 1, 1)] ([(.if_icmp .ne 12, 3)])))))) := m_Fe_of nd620 13 7 rfl
theorem eF3_stockInPort_36 : m_Fe mi3_20 36 (m_ap [(.iload_n 2, 1), (.aload_n 0, 1), (.iload_n 3, 1), (.iconst 1, 1)] ((.invokevirtual 129, 3) :: (m_ap [(.iadd, 1), (.istore_n 2, 1)] ([])))) := m_Fe_of nd620 20 7 rfl
theorem SF3_stockInPort_4b {xs : Nat → Int32} {L : Nat} (x0 : Nat) (x1 : Int32) (hp : m_H) (s : Int32 × Int32) {r : m_O × m_H} {K : ((Int32 × Int32) ⊕ Int32) → Prop} (k0 : ∀ x, K (.inr x) → r = (.inl (some (.int x)), hp)) (k1 : ∀ s, K (.inl s) → m_Rn xs L 3 620 4 [(0, .ref x0), (1, .int x1), (2, .int s.1), (3, .int s.2)] [] hp r) {t : (Int32 × Int32) ⊕ Int32} (h : F3_stockInPort_4b x0 x1 hp s = some t) (hK : K t) : m_Rn xs L 3 620 4 [(0, .ref x0), (1, .int x1), (2, .int s.1), (3, .int s.2)] [] hp r := by
  unfold F3_stockInPort_4b at h
  refine g_in eF3_stockInPort_4 mx620 ?_
  refine g_ch [(0, .ref x0), (1, .int x1), (2, .int s.1), (3, .int s.2)] [.ref x0, .int s.2] (pc' := 6) rfl rfl rfl ?_
  obtain ⟨v1, e2, h⟩ := m_bd h
  refine g_gr q3_f29 e2 ?_
  obtain ⟨v3, e4, h⟩ := m_bd h
  refine g_gi q3_f97 e4 ?_
  rcases m_ifd h with ⟨c5, h⟩ | ⟨c5, h⟩
  · refine g_if (t := 51) rfl (m_geT c5) ?_
    refine g_in eF3_stockInPort_51 mx620 ?_
    refine g_ch [(0, .ref x0), (1, .int x1), (2, .int s.1), (3, .int s.2)] [.int s.1] (pc' := 52) rfl rfl rfl ?_
    cases h
    rw [k0 _ hK]
    exact g_iret rfl rfl
  · refine g_ifn (t := 51) rfl (m_geF c5) ?_
    refine g_in eF3_stockInPort_15 mx620 ?_
    refine g_ch [(0, .ref x0), (1, .int x1), (2, .int s.1), (3, .int s.2)] [.int s.2, .ref x0] (pc' := 17) rfl rfl rfl ?_
    obtain ⟨v7, e6, h⟩ := m_bd h
    refine g_call (v := some (.int v7)) (h := hp) (st' := [.int v7]) (D1 := 2) (as := [.ref x0, .int s.2]) (Or.inr (Or.inl rfl)) q3_m118 (m_cv (as := [.int s.2]) (rest := []) (Or.inl rfl) q3_m118 jv612 (OF3_isStock e6) rfl rfl rfl rfl) (by decide) (SF3_isStock e6) rfl ?_
    rcases m_ifd h with ⟨c8, h⟩ | ⟨c8, h⟩
    · refine g_ifc (t := 45) rfl (m_eqT c8) ?_
      refine g_in eF3_stockInPort_45 mx620 ?_
      refine g_ch [(3, .int (s.2 + 1)), (0, .ref x0), (1, .int x1), (2, .int s.1)] [] (pc' := 48) rfl rfl rfl ?_
      refine g_goto (t := 4) rfl ?_
      cases h
      exact r_lv (k1 (s.1, (s.2 + 1)) hK) rfl ⟨rfl, rfl, rfl, rfl, trivial⟩
    · refine g_ifcn (t := 45) rfl (m_eqF c8) ?_
      refine g_in eF3_stockInPort_23 mx620 ?_
      refine g_ch [(0, .ref x0), (1, .int x1), (2, .int s.1), (3, .int s.2)] [.ref x0] (pc' := 24) rfl rfl rfl ?_
      obtain ⟨v9, e10, h⟩ := m_bd h
      refine g_gr q3_f29 e10 ?_
      refine g_ch [(0, .ref x0), (1, .int x1), (2, .int s.1), (3, .int s.2)] [.int 0, .int s.2, .ref v9] (pc' := 29) rfl rfl rfl ?_
      obtain ⟨v12, e11, h⟩ := m_bd h
      refine g_call (v := some (.int v12)) (h := hp) (st' := [.int v12]) (D1 := 1) (as := [.ref v9, .int s.2, .int 0]) (Or.inr (Or.inl rfl)) q3_m100 (m_cv (as := [.int 0, .int s.2]) (rest := []) (Or.inl rfl) q3_m100 jv1604 (OF8_get e11) rfl rfl rfl rfl) (by decide) (SF8_get e11) rfl ?_
      refine g_ch [(0, .ref x0), (1, .int x1), (2, .int s.1), (3, .int s.2)] [.int x1, .int v12] (pc' := 33) rfl rfl rfl ?_
      rcases m_ifd h with ⟨c13, h⟩ | ⟨c13, h⟩
      · refine g_ifn (t := 45) rfl (m_neF c13) ?_
        refine g_in eF3_stockInPort_36 mx620 ?_
        refine g_ch [(0, .ref x0), (1, .int x1), (2, .int s.1), (3, .int s.2)] [.int 1, .int s.2, .ref x0, .int s.1] (pc' := 40) rfl rfl rfl ?_
        obtain ⟨v15, e14, h⟩ := m_bd h
        refine g_call (v := some (.int v15)) (h := hp) (st' := [.int v15, .int s.1]) (D1 := 2) (as := [.ref x0, .int s.2, .int 1]) (Or.inr (Or.inl rfl)) q3_m129 (m_cv (as := [.int 1, .int s.2]) (rest := [.int s.1]) (Or.inl rfl) q3_m129 jv616 (OF3_crates e14) rfl rfl rfl rfl) (by decide) (SF3_crates e14) rfl ?_
        refine g_ch [(2, .int (s.1 + v15)), (0, .ref x0), (1, .int x1), (3, .int s.2)] [] (pc' := 45) rfl rfl rfl ?_
        refine g_end ?_
        refine g_in eF3_stockInPort_45 mx620 ?_
        refine g_ch [(3, .int (s.2 + 1)), (2, .int (s.1 + v15)), (0, .ref x0), (1, .int x1)] [] (pc' := 48) rfl rfl rfl ?_
        refine g_goto (t := 4) rfl ?_
        cases h
        exact r_lv (k1 ((s.1 + v15), (s.2 + 1)) hK) rfl ⟨rfl, rfl, rfl, rfl, trivial⟩
      · refine g_if (t := 45) rfl (m_neT c13) ?_
        refine g_in eF3_stockInPort_45 mx620 ?_
        refine g_ch [(3, .int (s.2 + 1)), (0, .ref x0), (1, .int x1), (2, .int s.1)] [] (pc' := 48) rfl rfl rfl ?_
        refine g_goto (t := 4) rfl ?_
        cases h
        exact r_lv (k1 (s.1, (s.2 + 1)) hK) rfl ⟨rfl, rfl, rfl, rfl, trivial⟩
theorem SF3_stockInPort_4 {xs : Nat → Int32} {L : Nat} (x0 : Nat) (x1 : Int32) (x2 : Int32) (x3 : Int32) (hp : m_H) {r : m_O × m_H} {K : Int32 → Prop} (k0 : ∀ x, K x → r = (.inl (some (.int x)), hp)) {t : Int32} (h : F3_stockInPort_4 x0 x1 x2 x3 hp = some t) (hK : K t) : m_Rn xs L 3 620 4 [(0, .ref x0), (1, .int x1), (2, .int x2), (3, .int x3)] [] hp r :=
  m_wh_ok (P := fun s => m_Rn xs L 3 620 4 [(0, .ref x0), (1, .int x1), (2, .int s.1), (3, .int s.2)] [] hp r) (Q := K) (fun s t hb hK => SF3_stockInPort_4b x0 x1 hp s (K := m_KK (fun s => m_Rn xs L 3 620 4 [(0, .ref x0), (1, .int x1), (2, .int s.1), (3, .int s.2)] [] hp r) K) k0 (fun _ q => q) hb hK) m_N _ _ h hK
theorem SF3_stockInPort_0 {xs : Nat → Int32} {L : Nat} (x0 : Nat) (x1 : Int32) (hp : m_H) {r : m_O × m_H} {K : Int32 → Prop} (k0 : ∀ x, K x → r = (.inl (some (.int x)), hp)) {t : Int32} (h : F3_stockInPort_0 x0 x1 hp = some t) (hK : K t) : m_Rn xs L 3 620 0 [(0, .ref x0), (1, .int x1)] [] hp r := by
  unfold F3_stockInPort_0 at h
  refine g_in eF3_stockInPort_0 mx620 ?_
  refine g_ch [(3, .int 0), (2, .int 0), (0, .ref x0), (1, .int x1)] [] (pc' := 4) rfl rfl rfl ?_
  refine g_end ?_
  exact r_lv (SF3_stockInPort_4 x0 x1 0 0 hp (K := K) k0 h hK) rfl ⟨rfl, rfl, rfl, rfl, trivial⟩
theorem OF3_stockInPort {x0 : Nat} {x1 : Int32} {hp : m_H} {x : Int32} (h : F3_stockInPort x0 x1 hp = some x) : m_isO hp 3 x0 = true := (m_gdd h).1
theorem SF3_stockInPort {xs : Nat → Int32} {L : Nat} {x0 : Nat} {x1 : Int32} {hp : m_H} {x : Int32} (h : F3_stockInPort x0 x1 hp = some x) : m_Rn xs L 3 620 0 (lv_args 0 [.ref x0, .int x1]) [] hp (.inl (some (.int x)), hp) :=
  r_lv (SF3_stockInPort_0 x0 x1 hp (K := fun y => y = x) (fun y e => by rw [e]) (m_gdd h).2 rfl) rfl ⟨rfl, rfl, trivial⟩
-- F3_takeFromStock: LendHouse$House.takeFromStock(II)V
theorem eF3_takeFromStock_0 : m_Fe mi3_21 0 (m_ap [(.iload_n 2, 1), (.istore_n 3, 1), (.iconst 0, 1), (.istore 4, 2)] ([])) := m_Fe_of nd621 0 4 rfl
theorem eF3_takeFromStock_5 : m_Fe mi3_21 5 (m_ap [(.iload 4, 2), (.aload_n 0, 1)] ((.getfield 29, 3) :: ((.getfield 97, 3) :: ([(.if_icmp .ge 81, 3)])))) := m_Fe_of nd621 4 5 rfl
theorem eF3_takeFromStock_95 : m_Fe mi3_21 95 ([(.return_, 1)]) := m_Fe_of nd621 49 1 rfl
theorem eF3_takeFromStock_17 : m_Fe mi3_21 17 (m_ap [(.iload_n 3, 1)] ([(.ifCond .le 77, 3)])) := m_Fe_of nd621 9 2 rfl
theorem eF3_takeFromStock_21 : m_Fe mi3_21 21 (m_ap [(.aload_n 0, 1), (.iload 4, 2)] ((.invokevirtual 118, 3) :: ([(.ifCond .eq 62, 3)]))) := m_Fe_of nd621 11 4 rfl
theorem eF3_takeFromStock_89 : m_Fe mi3_21 89 (m_ap [(.iinc 4 1, 3)] ([(.goto (-87), 3)])) := m_Fe_of nd621 47 2 rfl
theorem eF3_takeFromStock_30 : m_Fe mi3_21 30 (m_ap [(.aload_n 0, 1)] ((.getfield 29, 3) :: (m_ap [(.iload 4, 2), (.iconst 0, 1)] ((.invokevirtual 100, 3) :: (m_ap [(.iload_n 1, 1)] ([(.if_icmp .ne 48, 3)])))))) := m_Fe_of nd621 15 7 rfl
theorem eF3_takeFromStock_44 : m_Fe mi3_21 44 (m_ap [(.iload_n 3, 1), (.aload_n 0, 1), (.iload 4, 2), (.iconst 1, 1)] ((.invokevirtual 129, 3) :: ((.invokestatic 132, 3) :: (m_ap [(.istore 5, 2), (.aload_n 0, 1)] ((.getfield 29, 3) :: (m_ap [(.iload 4, 2), (.bipush 11, 2), (.iload 5, 2), (.ineg, 1)] ((.invokevirtual 122, 3) :: (m_ap [(.aload_n 0, 1)] ((.getfield 29, 3) :: (m_ap [(.iload 4, 2), (.iconst 1, 1), (.iload 5, 2), (.ineg, 1)] ((.invokevirtual 122, 3) :: (m_ap [(.iload_n 3, 1), (.iload 5, 2), (.isub, 1), (.istore_n 3, 1)] ([]))))))))))))) := m_Fe_of nd621 22 25 rfl
theorem SF3_takeFromStock_5b {xs : Nat → Int32} {L : Nat} (x0 : Nat) (x1 : Int32) (s : Int32 × Int32 × m_H) {r : m_O × m_H} {K : ((Int32 × Int32 × m_H) ⊕ m_H) → Prop} (k0 : ∀ x, K (.inr x) → r = (.inl none, x)) (k1 : ∀ s, K (.inl s) → m_Rn xs L 7 621 5 [(0, .ref x0), (1, .int x1), (3, .int s.1), (4, .int s.2.1)] [] s.2.2 r) {t : (Int32 × Int32 × m_H) ⊕ m_H} (h : F3_takeFromStock_5b x0 x1 s = some t) (hK : K t) : m_Rn xs L 7 621 5 [(0, .ref x0), (1, .int x1), (3, .int s.1), (4, .int s.2.1)] [] s.2.2 r := by
  unfold F3_takeFromStock_5b at h
  refine g_in eF3_takeFromStock_5 mx621 ?_
  refine g_ch [(0, .ref x0), (1, .int x1), (3, .int s.1), (4, .int s.2.1)] [.ref x0, .int s.2.1] (pc' := 8) rfl rfl rfl ?_
  obtain ⟨v1, e2, h⟩ := m_bd h
  refine g_gr q3_f29 e2 ?_
  obtain ⟨v3, e4, h⟩ := m_bd h
  refine g_gi q3_f97 e4 ?_
  rcases m_ifd h with ⟨c5, h⟩ | ⟨c5, h⟩
  · refine g_if (t := 95) rfl (m_geT c5) ?_
    refine g_in eF3_takeFromStock_95 mx621 ?_
    cases h
    rw [k0 _ hK]
    exact g_vret rfl
  · refine g_ifn (t := 95) rfl (m_geF c5) ?_
    refine g_in eF3_takeFromStock_17 mx621 ?_
    refine g_ch [(0, .ref x0), (1, .int x1), (3, .int s.1), (4, .int s.2.1)] [.int s.1] (pc' := 18) rfl rfl rfl ?_
    rcases m_ifd h with ⟨c6, h⟩ | ⟨c6, h⟩
    · refine g_ifc (t := 95) rfl (m_leT c6) ?_
      refine g_in eF3_takeFromStock_95 mx621 ?_
      cases h
      rw [k0 _ hK]
      exact g_vret rfl
    · refine g_ifcn (t := 95) rfl (m_leF c6) ?_
      refine g_in eF3_takeFromStock_21 mx621 ?_
      refine g_ch [(0, .ref x0), (1, .int x1), (3, .int s.1), (4, .int s.2.1)] [.int s.2.1, .ref x0] (pc' := 24) rfl rfl rfl ?_
      obtain ⟨v8, e7, h⟩ := m_bd h
      refine g_call (v := some (.int v8)) (h := s.2.2) (st' := [.int v8]) (D1 := 2) (as := [.ref x0, .int s.2.1]) (Or.inr (Or.inl rfl)) q3_m118 (m_cv (as := [.int s.2.1]) (rest := []) (Or.inl rfl) q3_m118 jv612 (OF3_isStock e7) rfl rfl rfl rfl) (by decide) (SF3_isStock e7) rfl ?_
      rcases m_ifd h with ⟨c9, h⟩ | ⟨c9, h⟩
      · refine g_ifc (t := 89) rfl (m_eqT c9) ?_
        refine g_in eF3_takeFromStock_89 mx621 ?_
        refine g_ch [(4, .int (s.2.1 + 1)), (0, .ref x0), (1, .int x1), (3, .int s.1)] [] (pc' := 92) rfl rfl rfl ?_
        refine g_goto (t := 5) rfl ?_
        cases h
        exact r_lv (k1 (s.1, (s.2.1 + 1), s.2.2) hK) rfl ⟨rfl, rfl, rfl, rfl, trivial⟩
      · refine g_ifcn (t := 89) rfl (m_eqF c9) ?_
        refine g_in eF3_takeFromStock_30 mx621 ?_
        refine g_ch [(0, .ref x0), (1, .int x1), (3, .int s.1), (4, .int s.2.1)] [.ref x0] (pc' := 31) rfl rfl rfl ?_
        obtain ⟨v10, e11, h⟩ := m_bd h
        refine g_gr q3_f29 e11 ?_
        refine g_ch [(0, .ref x0), (1, .int x1), (3, .int s.1), (4, .int s.2.1)] [.int 0, .int s.2.1, .ref v10] (pc' := 37) rfl rfl rfl ?_
        obtain ⟨v13, e12, h⟩ := m_bd h
        refine g_call (v := some (.int v13)) (h := s.2.2) (st' := [.int v13]) (D1 := 1) (as := [.ref v10, .int s.2.1, .int 0]) (Or.inr (Or.inl rfl)) q3_m100 (m_cv (as := [.int 0, .int s.2.1]) (rest := []) (Or.inl rfl) q3_m100 jv1604 (OF8_get e12) rfl rfl rfl rfl) (by decide) (SF8_get e12) rfl ?_
        refine g_ch [(0, .ref x0), (1, .int x1), (3, .int s.1), (4, .int s.2.1)] [.int x1, .int v13] (pc' := 41) rfl rfl rfl ?_
        rcases m_ifd h with ⟨c14, h⟩ | ⟨c14, h⟩
        · refine g_ifn (t := 89) rfl (m_neF c14) ?_
          refine g_in eF3_takeFromStock_44 mx621 ?_
          refine g_ch [(0, .ref x0), (1, .int x1), (3, .int s.1), (4, .int s.2.1)] [.int 1, .int s.2.1, .ref x0, .int s.1] (pc' := 49) rfl rfl rfl ?_
          obtain ⟨v16, e15, h⟩ := m_bd h
          refine g_call (v := some (.int v16)) (h := s.2.2) (st' := [.int v16, .int s.1]) (D1 := 2) (as := [.ref x0, .int s.2.1, .int 1]) (Or.inr (Or.inl rfl)) q3_m129 (m_cv (as := [.int 1, .int s.2.1]) (rest := [.int s.1]) (Or.inl rfl) q3_m129 jv616 (OF3_crates e15) rfl rfl rfl rfl) (by decide) (SF3_crates e15) rfl ?_
          refine g_nat (Or.inl rfl) q3_m132 rfl (z := ([.int (m_min s.1 v16)], s.2.2)) rfl (by decide) ?_
          refine g_ch [(5, .int (m_min s.1 v16)), (0, .ref x0), (1, .int x1), (3, .int s.1), (4, .int s.2.1)] [.ref x0] (pc' := 58) rfl rfl rfl ?_
          obtain ⟨v17, e18, h⟩ := m_bd h
          refine g_gr q3_f29 e18 ?_
          refine g_ch [(5, .int (m_min s.1 v16)), (0, .ref x0), (1, .int x1), (3, .int s.1), (4, .int s.2.1)] [.int (-(m_min s.1 v16)), .int 11, .int s.2.1, .ref v17] (pc' := 68) rfl rfl rfl ?_
          obtain ⟨h20, e19, h⟩ := m_bd h
          refine g_call (v := none) (h := h20) (st' := []) (D1 := 1) (as := [.ref v17, .int s.2.1, .int 11, .int (-(m_min s.1 v16))]) (Or.inr (Or.inl rfl)) q3_m122 (m_cv (as := [.int (-(m_min s.1 v16)), .int 11, .int s.2.1]) (rest := []) (Or.inl rfl) q3_m122 jv1606 (OF8_raise e19) rfl rfl rfl rfl) (by decide) (SF8_raise e19) rfl ?_
          refine g_ch [(5, .int (m_min s.1 v16)), (0, .ref x0), (1, .int x1), (3, .int s.1), (4, .int s.2.1)] [.ref x0] (pc' := 72) rfl rfl rfl ?_
          obtain ⟨v21, e22, h⟩ := m_bd h
          refine g_gr q3_f29 e22 ?_
          refine g_ch [(5, .int (m_min s.1 v16)), (0, .ref x0), (1, .int x1), (3, .int s.1), (4, .int s.2.1)] [.int (-(m_min s.1 v16)), .int 1, .int s.2.1, .ref v21] (pc' := 81) rfl rfl rfl ?_
          obtain ⟨h24, e23, h⟩ := m_bd h
          refine g_call (v := none) (h := h24) (st' := []) (D1 := 1) (as := [.ref v21, .int s.2.1, .int 1, .int (-(m_min s.1 v16))]) (Or.inr (Or.inl rfl)) q3_m122 (m_cv (as := [.int (-(m_min s.1 v16)), .int 1, .int s.2.1]) (rest := []) (Or.inl rfl) q3_m122 jv1606 (OF8_raise e23) rfl rfl rfl rfl) (by decide) (SF8_raise e23) rfl ?_
          refine g_ch [(3, .int (s.1 - (m_min s.1 v16))), (5, .int (m_min s.1 v16)), (0, .ref x0), (1, .int x1), (4, .int s.2.1)] [] (pc' := 89) rfl rfl rfl ?_
          refine g_end ?_
          refine g_in eF3_takeFromStock_89 mx621 ?_
          refine g_ch [(4, .int (s.2.1 + 1)), (3, .int (s.1 - (m_min s.1 v16))), (5, .int (m_min s.1 v16)), (0, .ref x0), (1, .int x1)] [] (pc' := 92) rfl rfl rfl ?_
          refine g_goto (t := 5) rfl ?_
          cases h
          exact r_lv (k1 ((s.1 - (m_min s.1 v16)), (s.2.1 + 1), h24) hK) rfl ⟨rfl, rfl, rfl, rfl, trivial⟩
        · refine g_if (t := 89) rfl (m_neT c14) ?_
          refine g_in eF3_takeFromStock_89 mx621 ?_
          refine g_ch [(4, .int (s.2.1 + 1)), (0, .ref x0), (1, .int x1), (3, .int s.1)] [] (pc' := 92) rfl rfl rfl ?_
          refine g_goto (t := 5) rfl ?_
          cases h
          exact r_lv (k1 (s.1, (s.2.1 + 1), s.2.2) hK) rfl ⟨rfl, rfl, rfl, rfl, trivial⟩
theorem SF3_takeFromStock_5 {xs : Nat → Int32} {L : Nat} (x0 : Nat) (x1 : Int32) (x3 : Int32) (x4 : Int32) (hp : m_H) {r : m_O × m_H} {K : m_H → Prop} (k0 : ∀ x, K x → r = (.inl none, x)) {t : m_H} (h : F3_takeFromStock_5 x0 x1 x3 x4 hp = some t) (hK : K t) : m_Rn xs L 7 621 5 [(0, .ref x0), (1, .int x1), (3, .int x3), (4, .int x4)] [] hp r :=
  m_wh_ok (P := fun s => m_Rn xs L 7 621 5 [(0, .ref x0), (1, .int x1), (3, .int s.1), (4, .int s.2.1)] [] s.2.2 r) (Q := K) (fun s t hb hK => SF3_takeFromStock_5b x0 x1 s (K := m_KK (fun s => m_Rn xs L 7 621 5 [(0, .ref x0), (1, .int x1), (3, .int s.1), (4, .int s.2.1)] [] s.2.2 r) K) k0 (fun _ q => q) hb hK) m_N _ _ h hK
theorem SF3_takeFromStock_0 {xs : Nat → Int32} {L : Nat} (x0 : Nat) (x1 : Int32) (x2 : Int32) (hp : m_H) {r : m_O × m_H} {K : m_H → Prop} (k0 : ∀ x, K x → r = (.inl none, x)) {t : m_H} (h : F3_takeFromStock_0 x0 x1 x2 hp = some t) (hK : K t) : m_Rn xs L 7 621 0 [(0, .ref x0), (1, .int x1), (2, .int x2)] [] hp r := by
  unfold F3_takeFromStock_0 at h
  refine g_in eF3_takeFromStock_0 mx621 ?_
  refine g_ch [(4, .int 0), (3, .int x2), (0, .ref x0), (1, .int x1), (2, .int x2)] [] (pc' := 5) rfl rfl rfl ?_
  refine g_end ?_
  exact r_lv (SF3_takeFromStock_5 x0 x1 x2 0 hp (K := K) k0 h hK) rfl ⟨rfl, rfl, rfl, rfl, trivial⟩
theorem OF3_takeFromStock {x0 : Nat} {x1 : Int32} {x2 : Int32} {hp : m_H} {x : m_H} (h : F3_takeFromStock x0 x1 x2 hp = some x) : m_isO hp 3 x0 = true := (m_gdd h).1
theorem SF3_takeFromStock {xs : Nat → Int32} {L : Nat} {x0 : Nat} {x1 : Int32} {x2 : Int32} {hp : m_H} {x : m_H} (h : F3_takeFromStock x0 x1 x2 hp = some x) : m_Rn xs L 7 621 0 (lv_args 0 [.ref x0, .int x1, .int x2]) [] hp (.inl none, x) :=
  r_lv (SF3_takeFromStock_0 x0 x1 x2 hp (K := fun y => y = x) (fun y e => by rw [e]) (m_gdd h).2 rfl) rfl ⟨rfl, rfl, rfl, trivial⟩
-- F3_lend: LendHouse$House.lend(III)V
theorem eF3_lend_0 : m_Fe mi3_22 0 (m_ap [(.aload_n 0, 1)] ((.getfield 32, 3) :: (m_ap [(.iload_n 1, 1), (.iconst 1, 1)] ((.invokevirtual 100, 3) :: (m_ap [(.istore 4, 2), (.aload_n 0, 1), (.iload 4, 2), (.iload_n 2, 1)] ((.invokevirtual 137, 3) :: (m_ap [(.aload_n 0, 1), (.iload 4, 2), (.iload_n 2, 1), (.aload_n 0, 1)] ((.getfield 32, 3) :: (m_ap [(.iload_n 1, 1), (.iconst 0, 1)] ((.invokevirtual 100, 3) :: (m_ap [(.iconst 1, 1)] ((.invokevirtual 140, 3) :: (m_ap [(.istore 5, 2), (.aload_n 0, 1)] ((.getfield 29, 3) :: (m_ap [(.iload 5, 2), (.bipush 6, 2), (.aload_n 0, 1)] ((.getfield 76, 3) :: ((.invokevirtual 72, 3) :: (m_ap [(.aload_n 0, 1)] ((.getfield 29, 3) :: (m_ap [(.iload 5, 2), (.bipush 19, 2), (.iload_n 3, 1)] ((.invokevirtual 72, 3) :: (m_ap [(.aload_n 0, 1)] ((.getfield 29, 3) :: (m_ap [(.iload 5, 2), (.bipush 20, 2), (.aload_n 0, 1), (.iload 4, 2), (.aload_n 0, 1)] ((.getfield 76, 3) :: ((.invokevirtual 144, 3) :: ((.invokevirtual 72, 3) :: (m_ap [(.aload_n 0, 1)] ((.getfield 32, 3) :: (m_ap [(.iload_n 1, 1), (.iconst 4, 1), (.iload_n 2, 1)] ((.invokevirtual 122, 3) :: ([(.return_, 1)])))))))))))))))))))))))))))))))) := m_Fe_of nd622 0 51 rfl
theorem SF3_lend_0 {xs : Nat → Int32} {L : Nat} (x0 : Nat) (x1 : Int32) (x2 : Int32) (x3 : Int32) (hp : m_H) {r : m_O × m_H} {K : m_H → Prop} (k0 : ∀ x, K x → r = (.inl none, x)) {t : m_H} (h : F3_lend_0 x0 x1 x2 x3 hp = some t) (hK : K t) : m_Rn xs L 8 622 0 [(0, .ref x0), (1, .int x1), (2, .int x2), (3, .int x3)] [] hp r := by
  unfold F3_lend_0 at h
  refine g_in eF3_lend_0 mx622 ?_
  refine g_ch [(0, .ref x0), (1, .int x1), (2, .int x2), (3, .int x3)] [.ref x0] (pc' := 1) rfl rfl rfl ?_
  obtain ⟨v1, e2, h⟩ := m_bd h
  refine g_gr q3_f32 e2 ?_
  refine g_ch [(0, .ref x0), (1, .int x1), (2, .int x2), (3, .int x3)] [.int 1, .int x1, .ref v1] (pc' := 6) rfl rfl rfl ?_
  obtain ⟨v4, e3, h⟩ := m_bd h
  refine g_call (v := some (.int v4)) (h := hp) (st' := [.int v4]) (D1 := 1) (as := [.ref v1, .int x1, .int 1]) (Or.inr (Or.inl rfl)) q3_m100 (m_cv (as := [.int 1, .int x1]) (rest := []) (Or.inl rfl) q3_m100 jv1604 (OF8_get e3) rfl rfl rfl rfl) (by decide) (SF8_get e3) rfl ?_
  refine g_ch [(4, .int v4), (0, .ref x0), (1, .int x1), (2, .int x2), (3, .int x3)] [.int x2, .int v4, .ref x0] (pc' := 15) rfl rfl rfl ?_
  obtain ⟨h6, e5, h⟩ := m_bd h
  refine g_call (v := none) (h := h6) (st' := []) (D1 := 7) (as := [.ref x0, .int v4, .int x2]) (Or.inr (Or.inl rfl)) q3_m137 (m_cv (as := [.int x2, .int v4]) (rest := []) (Or.inl rfl) q3_m137 jv621 (OF3_takeFromStock e5) rfl rfl rfl rfl) (by decide) (SF3_takeFromStock e5) rfl ?_
  refine g_ch [(4, .int v4), (0, .ref x0), (1, .int x1), (2, .int x2), (3, .int x3)] [.ref x0, .int x2, .int v4, .ref x0] (pc' := 23) rfl rfl rfl ?_
  obtain ⟨v7, e8, h⟩ := m_bd h
  refine g_gr q3_f32 e8 ?_
  refine g_ch [(4, .int v4), (0, .ref x0), (1, .int x1), (2, .int x2), (3, .int x3)] [.int 0, .int x1, .ref v7, .int x2, .int v4, .ref x0] (pc' := 28) rfl rfl rfl ?_
  obtain ⟨v10, e9, h⟩ := m_bd h
  refine g_call (v := some (.int v10)) (h := h6) (st' := [.int v10, .int x2, .int v4, .ref x0]) (D1 := 1) (as := [.ref v7, .int x1, .int 0]) (Or.inr (Or.inl rfl)) q3_m100 (m_cv (as := [.int 0, .int x1]) (rest := [.int x2, .int v4, .ref x0]) (Or.inl rfl) q3_m100 jv1604 (OF8_get e9) rfl rfl rfl rfl) (by decide) (SF8_get e9) rfl ?_
  refine g_ch [(4, .int v4), (0, .ref x0), (1, .int x1), (2, .int x2), (3, .int x3)] [.int 1, .int v10, .int x2, .int v4, .ref x0] (pc' := 32) rfl rfl rfl ?_
  obtain ⟨z12, e11, h⟩ := m_bd h
  refine g_call (v := some (.int z12.1)) (h := z12.2) (st' := [.int z12.1]) (D1 := 3) (as := [.ref x0, .int v4, .int x2, .int v10, .int 1]) (Or.inr (Or.inl rfl)) q3_m140 (m_cv (as := [.int 1, .int v10, .int x2, .int v4]) (rest := []) (Or.inl rfl) q3_m140 jv611 (OF3_addLot e11) rfl rfl rfl rfl) (by decide) (SF3_addLot e11) rfl ?_
  refine g_ch [(5, .int z12.1), (4, .int v4), (0, .ref x0), (1, .int x1), (2, .int x2), (3, .int x3)] [.ref x0] (pc' := 38) rfl rfl rfl ?_
  obtain ⟨v13, e14, h⟩ := m_bd h
  refine g_gr q3_f29 e14 ?_
  refine g_ch [(5, .int z12.1), (4, .int v4), (0, .ref x0), (1, .int x1), (2, .int x2), (3, .int x3)] [.ref x0, .int 6, .int z12.1, .ref v13] (pc' := 46) rfl rfl rfl ?_
  obtain ⟨v15, e16, h⟩ := m_bd h
  refine g_gi q3_f76 e16 ?_
  obtain ⟨h18, e17, h⟩ := m_bd h
  refine g_call (v := none) (h := h18) (st' := []) (D1 := 1) (as := [.ref v13, .int z12.1, .int 6, .int v15]) (Or.inr (Or.inl rfl)) q3_m72 (m_cv (as := [.int v15, .int 6, .int z12.1]) (rest := []) (Or.inl rfl) q3_m72 jv1605 (OF8_set e17) rfl rfl rfl rfl) (by decide) (SF8_set e17) rfl ?_
  refine g_ch [(5, .int z12.1), (4, .int v4), (0, .ref x0), (1, .int x1), (2, .int x2), (3, .int x3)] [.ref x0] (pc' := 53) rfl rfl rfl ?_
  obtain ⟨v19, e20, h⟩ := m_bd h
  refine g_gr q3_f29 e20 ?_
  refine g_ch [(5, .int z12.1), (4, .int v4), (0, .ref x0), (1, .int x1), (2, .int x2), (3, .int x3)] [.int x3, .int 19, .int z12.1, .ref v19] (pc' := 61) rfl rfl rfl ?_
  obtain ⟨h22, e21, h⟩ := m_bd h
  refine g_call (v := none) (h := h22) (st' := []) (D1 := 1) (as := [.ref v19, .int z12.1, .int 19, .int x3]) (Or.inr (Or.inl rfl)) q3_m72 (m_cv (as := [.int x3, .int 19, .int z12.1]) (rest := []) (Or.inl rfl) q3_m72 jv1605 (OF8_set e21) rfl rfl rfl rfl) (by decide) (SF8_set e21) rfl ?_
  refine g_ch [(5, .int z12.1), (4, .int v4), (0, .ref x0), (1, .int x1), (2, .int x2), (3, .int x3)] [.ref x0] (pc' := 65) rfl rfl rfl ?_
  obtain ⟨v23, e24, h⟩ := m_bd h
  refine g_gr q3_f29 e24 ?_
  refine g_ch [(5, .int z12.1), (4, .int v4), (0, .ref x0), (1, .int x1), (2, .int x2), (3, .int x3)] [.ref x0, .int v4, .ref x0, .int 20, .int z12.1, .ref v23] (pc' := 76) rfl rfl rfl ?_
  obtain ⟨v25, e26, h⟩ := m_bd h
  refine g_gi q3_f76 e26 ?_
  obtain ⟨v28, e27, h⟩ := m_bd h
  refine g_call (v := some (.int v28)) (h := h22) (st' := [.int v28, .int 20, .int z12.1, .ref v23]) (D1 := 3) (as := [.ref x0, .int v4, .int v25]) (Or.inr (Or.inl rfl)) q3_m144 (m_cv (as := [.int v25, .int v4]) (rest := [.int 20, .int z12.1, .ref v23]) (Or.inl rfl) q3_m144 jv606 (OF3_priceIn e27) rfl rfl rfl rfl) (by decide) (SF3_priceIn e27) rfl ?_
  obtain ⟨h30, e29, h⟩ := m_bd h
  refine g_call (v := none) (h := h30) (st' := []) (D1 := 1) (as := [.ref v23, .int z12.1, .int 20, .int v28]) (Or.inr (Or.inl rfl)) q3_m72 (m_cv (as := [.int v28, .int 20, .int z12.1]) (rest := []) (Or.inl rfl) q3_m72 jv1605 (OF8_set e29) rfl rfl rfl rfl) (by decide) (SF8_set e29) rfl ?_
  refine g_ch [(5, .int z12.1), (4, .int v4), (0, .ref x0), (1, .int x1), (2, .int x2), (3, .int x3)] [.ref x0] (pc' := 86) rfl rfl rfl ?_
  obtain ⟨v31, e32, h⟩ := m_bd h
  refine g_gr q3_f32 e32 ?_
  refine g_ch [(5, .int z12.1), (4, .int v4), (0, .ref x0), (1, .int x1), (2, .int x2), (3, .int x3)] [.int x2, .int 4, .int x1, .ref v31] (pc' := 92) rfl rfl rfl ?_
  obtain ⟨h34, e33, h⟩ := m_bd h
  refine g_call (v := none) (h := h34) (st' := []) (D1 := 1) (as := [.ref v31, .int x1, .int 4, .int x2]) (Or.inr (Or.inl rfl)) q3_m122 (m_cv (as := [.int x2, .int 4, .int x1]) (rest := []) (Or.inl rfl) q3_m122 jv1606 (OF8_raise e33) rfl rfl rfl rfl) (by decide) (SF8_raise e33) rfl ?_
  cases h
  rw [k0 _ hK]
  exact g_vret rfl
theorem OF3_lend {x0 : Nat} {x1 : Int32} {x2 : Int32} {x3 : Int32} {hp : m_H} {x : m_H} (h : F3_lend x0 x1 x2 x3 hp = some x) : m_isO hp 3 x0 = true := (m_gdd h).1
theorem SF3_lend {xs : Nat → Int32} {L : Nat} {x0 : Nat} {x1 : Int32} {x2 : Int32} {x3 : Int32} {hp : m_H} {x : m_H} (h : F3_lend x0 x1 x2 x3 hp = some x) : m_Rn xs L 8 622 0 (lv_args 0 [.ref x0, .int x1, .int x2, .int x3]) [] hp (.inl none, x) :=
  r_lv (SF3_lend_0 x0 x1 x2 x3 hp (K := fun y => y = x) (fun y e => by rw [e]) (m_gdd h).2 rfl) rfl ⟨rfl, rfl, rfl, rfl, trivial⟩
-- F3_giveOn: LendHouse$House.giveOn(IIIZ)I
theorem eF3_giveOn_0 : m_Fe mi3_23 0 (m_ap [(.aload_n 0, 1)] ((.getfield 29, 3) :: (m_ap [(.iload_n 1, 1), (.iconst 0, 1)] ((.invokevirtual 100, 3) :: (m_ap [(.istore 5, 2), (.aload_n 0, 1), (.iload_n 1, 1), (.iload_n 2, 1), (.iconst 3, 1), (.iconst 5, 1)] ((.invokevirtual 147, 3) :: (m_ap [(.aload_n 0, 1), (.iload 5, 2), (.iload_n 2, 1), (.iload_n 3, 1), (.iconst 3, 1)] ((.invokevirtual 140, 3) :: (m_ap [(.istore 6, 2), (.aload_n 0, 1)] ((.getfield 29, 3) :: (m_ap [(.iload 6, 2), (.bipush 8, 2), (.iload_n 1, 1)] ((.invokevirtual 72, 3) :: (m_ap [(.aload_n 0, 1)] ((.getfield 29, 3) :: (m_ap [(.iload 6, 2), (.bipush 9, 2), (.iload 4, 2)] ([(.ifCond .eq 7, 3)])))))))))))))))) := m_Fe_of nd623 0 31 rfl
theorem eF3_giveOn_59 : m_Fe mi3_23 59 (m_ap [(.iconst 0, 1)] ([])) := m_Fe_of nd623 33 1 rfl
theorem eF3_giveOn_55 : m_Fe mi3_23 55 (m_ap [(.iconst 1, 1)] ([(.goto 4, 3)])) := m_Fe_of nd623 31 2 rfl
theorem eF3_giveOn_60 : m_Fe mi3_23 60 ((.invokevirtual 72, 3) :: (m_ap [(.aload_n 0, 1)] ((.getfield 41, 3) :: (m_ap [(.iload_n 3, 1), (.iload 5, 2)] ((.invokestatic 151, 3) :: (m_ap [(.iconst 2, 1), (.iload_n 2, 1)] ((.invokevirtual 122, 3) :: (m_ap [(.iload 6, 2)] ([(.ireturn, 1)]))))))))) := m_Fe_of nd623 34 11 rfl
theorem SF3_giveOn_60 {xs : Nat → Int32} {L : Nat} (x0 : Nat) (x2 : Int32) (x3 : Int32) (x5 : Int32) (x6 : Int32) (s0 : Int32) (s1 : Int32) (s2 : Int32) (s3 : Nat) (hp : m_H) {r : m_O × m_H} {K : (Int32 × m_H) → Prop} (k0 : ∀ x, K x → r = (.inl (some (.int x.1)), x.2)) {t : Int32 × m_H} (h : F3_giveOn_60 x0 x2 x3 x5 x6 s0 s1 s2 s3 hp = some t) (hK : K t) : m_Rn xs L 4 623 60 [(0, .ref x0), (2, .int x2), (3, .int x3), (5, .int x5), (6, .int x6)] [.int s0, .int s1, .int s2, .ref s3] hp r := by
  unfold F3_giveOn_60 at h
  refine g_in eF3_giveOn_60 mx623 ?_
  obtain ⟨h2, e1, h⟩ := m_bd h
  refine g_call (v := none) (h := h2) (st' := []) (D1 := 1) (as := [.ref s3, .int s2, .int s1, .int s0]) (Or.inr (Or.inl rfl)) q3_m72 (m_cv (as := [.int s0, .int s1, .int s2]) (rest := []) (Or.inl rfl) q3_m72 jv1605 (OF8_set e1) rfl rfl rfl rfl) (by decide) (SF8_set e1) rfl ?_
  refine g_ch [(0, .ref x0), (2, .int x2), (3, .int x3), (5, .int x5), (6, .int x6)] [.ref x0] (pc' := 64) rfl rfl rfl ?_
  obtain ⟨v3, e4, h⟩ := m_bd h
  refine g_gr q3_f41 e4 ?_
  refine g_ch [(0, .ref x0), (2, .int x2), (3, .int x3), (5, .int x5), (6, .int x6)] [.int x5, .int x3, .ref v3] (pc' := 70) rfl rfl rfl ?_
  obtain ⟨v6, e5, h⟩ := m_bd h
  refine g_call (v := some (.int v6)) (h := h2) (st' := [.int v6, .ref v3]) (D1 := 0) (as := [.int x3, .int x5]) (Or.inl rfl) q3_m151 (m_cs (as := [.int x5, .int x3]) (rest := [.ref v3]) q3_m151 jv603 rfl rfl rfl rfl rfl) (by decide) (SF3_tradeRow e5) rfl ?_
  refine g_ch [(0, .ref x0), (2, .int x2), (3, .int x3), (5, .int x5), (6, .int x6)] [.int x2, .int 2, .int v6, .ref v3] (pc' := 75) rfl rfl rfl ?_
  obtain ⟨h8, e7, h⟩ := m_bd h
  refine g_call (v := none) (h := h8) (st' := []) (D1 := 1) (as := [.ref v3, .int v6, .int 2, .int x2]) (Or.inr (Or.inl rfl)) q3_m122 (m_cv (as := [.int x2, .int 2, .int v6]) (rest := []) (Or.inl rfl) q3_m122 jv1606 (OF8_raise e7) rfl rfl rfl rfl) (by decide) (SF8_raise e7) rfl ?_
  refine g_ch [(0, .ref x0), (2, .int x2), (3, .int x3), (5, .int x5), (6, .int x6)] [.int x6] (pc' := 80) rfl rfl rfl ?_
  cases h
  rw [k0 _ hK]
  exact g_iret rfl rfl
theorem SF3_giveOn_0 {xs : Nat → Int32} {L : Nat} (x0 : Nat) (x1 : Int32) (x2 : Int32) (x3 : Int32) (x4 : Int32) (hp : m_H) {r : m_O × m_H} {K : (Int32 × m_H) → Prop} (k0 : ∀ x, K x → r = (.inl (some (.int x.1)), x.2)) {t : Int32 × m_H} (h : F3_giveOn_0 x0 x1 x2 x3 x4 hp = some t) (hK : K t) : m_Rn xs L 4 623 0 [(0, .ref x0), (1, .int x1), (2, .int x2), (3, .int x3), (4, .int x4)] [] hp r := by
  unfold F3_giveOn_0 at h
  refine g_in eF3_giveOn_0 mx623 ?_
  refine g_ch [(0, .ref x0), (1, .int x1), (2, .int x2), (3, .int x3), (4, .int x4)] [.ref x0] (pc' := 1) rfl rfl rfl ?_
  obtain ⟨v1, e2, h⟩ := m_bd h
  refine g_gr q3_f29 e2 ?_
  refine g_ch [(0, .ref x0), (1, .int x1), (2, .int x2), (3, .int x3), (4, .int x4)] [.int 0, .int x1, .ref v1] (pc' := 6) rfl rfl rfl ?_
  obtain ⟨v4, e3, h⟩ := m_bd h
  refine g_call (v := some (.int v4)) (h := hp) (st' := [.int v4]) (D1 := 1) (as := [.ref v1, .int x1, .int 0]) (Or.inr (Or.inl rfl)) q3_m100 (m_cv (as := [.int 0, .int x1]) (rest := []) (Or.inl rfl) q3_m100 jv1604 (OF8_get e3) rfl rfl rfl rfl) (by decide) (SF8_get e3) rfl ?_
  refine g_ch [(5, .int v4), (0, .ref x0), (1, .int x1), (2, .int x2), (3, .int x3), (4, .int x4)] [.int 5, .int 3, .int x2, .int x1, .ref x0] (pc' := 16) rfl rfl rfl ?_
  obtain ⟨h6, e5, h⟩ := m_bd h
  refine g_call (v := none) (h := h6) (st' := []) (D1 := 2) (as := [.ref x0, .int x1, .int x2, .int 3, .int 5]) (Or.inr (Or.inl rfl)) q3_m147 (m_cv (as := [.int 5, .int 3, .int x2, .int x1]) (rest := []) (Or.inl rfl) q3_m147 jv617 (OF3_move e5) rfl rfl rfl rfl) (by decide) (SF3_move e5) rfl ?_
  refine g_ch [(5, .int v4), (0, .ref x0), (1, .int x1), (2, .int x2), (3, .int x3), (4, .int x4)] [.int 3, .int x3, .int x2, .int v4, .ref x0] (pc' := 25) rfl rfl rfl ?_
  obtain ⟨z8, e7, h⟩ := m_bd h
  refine g_call (v := some (.int z8.1)) (h := z8.2) (st' := [.int z8.1]) (D1 := 3) (as := [.ref x0, .int v4, .int x2, .int x3, .int 3]) (Or.inr (Or.inl rfl)) q3_m140 (m_cv (as := [.int 3, .int x3, .int x2, .int v4]) (rest := []) (Or.inl rfl) q3_m140 jv611 (OF3_addLot e7) rfl rfl rfl rfl) (by decide) (SF3_addLot e7) rfl ?_
  refine g_ch [(6, .int z8.1), (5, .int v4), (0, .ref x0), (1, .int x1), (2, .int x2), (3, .int x3), (4, .int x4)] [.ref x0] (pc' := 31) rfl rfl rfl ?_
  obtain ⟨v9, e10, h⟩ := m_bd h
  refine g_gr q3_f29 e10 ?_
  refine g_ch [(6, .int z8.1), (5, .int v4), (0, .ref x0), (1, .int x1), (2, .int x2), (3, .int x3), (4, .int x4)] [.int x1, .int 8, .int z8.1, .ref v9] (pc' := 39) rfl rfl rfl ?_
  obtain ⟨h12, e11, h⟩ := m_bd h
  refine g_call (v := none) (h := h12) (st' := []) (D1 := 1) (as := [.ref v9, .int z8.1, .int 8, .int x1]) (Or.inr (Or.inl rfl)) q3_m72 (m_cv (as := [.int x1, .int 8, .int z8.1]) (rest := []) (Or.inl rfl) q3_m72 jv1605 (OF8_set e11) rfl rfl rfl rfl) (by decide) (SF8_set e11) rfl ?_
  refine g_ch [(6, .int z8.1), (5, .int v4), (0, .ref x0), (1, .int x1), (2, .int x2), (3, .int x3), (4, .int x4)] [.ref x0] (pc' := 43) rfl rfl rfl ?_
  obtain ⟨v13, e14, h⟩ := m_bd h
  refine g_gr q3_f29 e14 ?_
  refine g_ch [(6, .int z8.1), (5, .int v4), (0, .ref x0), (1, .int x1), (2, .int x2), (3, .int x3), (4, .int x4)] [.int x4, .int 9, .int z8.1, .ref v13] (pc' := 52) rfl rfl rfl ?_
  rcases m_ifd h with ⟨c15, h⟩ | ⟨c15, h⟩
  · refine g_ifc (t := 59) rfl (m_eqT c15) ?_
    refine g_in eF3_giveOn_59 mx623 ?_
    refine g_ch [(6, .int z8.1), (5, .int v4), (0, .ref x0), (1, .int x1), (2, .int x2), (3, .int x3), (4, .int x4)] [.int 0, .int 9, .int z8.1, .ref v13] (pc' := 60) rfl rfl rfl ?_
    refine g_end ?_
    exact r_lv (SF3_giveOn_60 x0 x2 x3 v4 z8.1 0 9 z8.1 v13 h12 (K := K) k0 h hK) rfl ⟨rfl, rfl, rfl, rfl, rfl, trivial⟩
  · refine g_ifcn (t := 59) rfl (m_eqF c15) ?_
    refine g_in eF3_giveOn_55 mx623 ?_
    refine g_ch [(6, .int z8.1), (5, .int v4), (0, .ref x0), (1, .int x1), (2, .int x2), (3, .int x3), (4, .int x4)] [.int 1, .int 9, .int z8.1, .ref v13] (pc' := 56) rfl rfl rfl ?_
    refine g_goto (t := 60) rfl ?_
    exact r_lv (SF3_giveOn_60 x0 x2 x3 v4 z8.1 1 9 z8.1 v13 h12 (K := K) k0 h hK) rfl ⟨rfl, rfl, rfl, rfl, rfl, trivial⟩
theorem OF3_giveOn {x0 : Nat} {x1 : Int32} {x2 : Int32} {x3 : Int32} {x4 : Int32} {hp : m_H} {x : Int32 × m_H} (h : F3_giveOn x0 x1 x2 x3 x4 hp = some x) : m_isO hp 3 x0 = true := (m_gdd h).1
theorem SF3_giveOn {xs : Nat → Int32} {L : Nat} {x0 : Nat} {x1 : Int32} {x2 : Int32} {x3 : Int32} {x4 : Int32} {hp : m_H} {x : Int32 × m_H} (h : F3_giveOn x0 x1 x2 x3 x4 hp = some x) : m_Rn xs L 4 623 0 (lv_args 0 [.ref x0, .int x1, .int x2, .int x3, .int x4]) [] hp (.inl (some (.int x.1)), x.2) :=
  r_lv (SF3_giveOn_0 x0 x1 x2 x3 x4 hp (K := fun y => y = x) (fun y e => by rw [e]) (m_gdd h).2 rfl) rfl ⟨rfl, rfl, rfl, rfl, rfl, trivial⟩
-- F3_close: LendHouse$House.close()I
theorem eF3_close_0 : m_Fe mi3_24 0 (m_ap [(.iconst 0, 1), (.istore_n 1, 1), (.iconst 0, 1), (.istore_n 2, 1)] ([])) := m_Fe_of nd624 0 4 rfl
theorem eF3_close_4 : m_Fe mi3_24 4 (m_ap [(.iload_n 2, 1), (.aload_n 0, 1)] ((.getfield 29, 3) :: ((.getfield 97, 3) :: ([(.if_icmp .ge 29, 3)])))) := m_Fe_of nd624 4 5 rfl
theorem eF3_close_41 : m_Fe mi3_24 41 (m_ap [(.aload_n 0, 1), (.iconst 1, 1)] ((.putfield 86, 3) :: (m_ap [(.iload_n 1, 1)] ([(.ireturn, 1)])))) := m_Fe_of nd624 26 5 rfl
theorem eF3_close_15 : m_Fe mi3_24 15 (m_ap [(.aload_n 0, 1), (.iload_n 2, 1), (.iconst 3, 1)] ((.invokevirtual 129, 3) :: (m_ap [(.istore_n 3, 1), (.aload_n 0, 1), (.iload_n 2, 1), (.iload_n 3, 1), (.iconst 3, 1), (.bipush 8, 2)] ((.invokevirtual 147, 3) :: (m_ap [(.iload_n 1, 1), (.iload_n 3, 1), (.iadd, 1), (.istore_n 1, 1), (.iinc 2 1, 3)] ([(.goto (-34), 3)])))))) := m_Fe_of nd624 9 17 rfl
theorem SF3_close_4b {xs : Nat → Int32} {L : Nat} (x0 : Nat) (s : Int32 × Int32 × m_H) {r : m_O × m_H} {K : ((Int32 × Int32 × m_H) ⊕ (Int32 × m_H)) → Prop} (k0 : ∀ x, K (.inr x) → r = (.inl (some (.int x.1)), x.2)) (k1 : ∀ s, K (.inl s) → m_Rn xs L 3 624 4 [(0, .ref x0), (1, .int s.1), (2, .int s.2.1)] [] s.2.2 r) {t : (Int32 × Int32 × m_H) ⊕ (Int32 × m_H)} (h : F3_close_4b x0 s = some t) (hK : K t) : m_Rn xs L 3 624 4 [(0, .ref x0), (1, .int s.1), (2, .int s.2.1)] [] s.2.2 r := by
  unfold F3_close_4b at h
  refine g_in eF3_close_4 mx624 ?_
  refine g_ch [(0, .ref x0), (1, .int s.1), (2, .int s.2.1)] [.ref x0, .int s.2.1] (pc' := 6) rfl rfl rfl ?_
  obtain ⟨v1, e2, h⟩ := m_bd h
  refine g_gr q3_f29 e2 ?_
  obtain ⟨v3, e4, h⟩ := m_bd h
  refine g_gi q3_f97 e4 ?_
  rcases m_ifd h with ⟨c5, h⟩ | ⟨c5, h⟩
  · refine g_if (t := 41) rfl (m_geT c5) ?_
    refine g_in eF3_close_41 mx624 ?_
    refine g_ch [(0, .ref x0), (1, .int s.1), (2, .int s.2.1)] [.int 1, .ref x0] (pc' := 43) rfl rfl rfl ?_
    obtain ⟨h6, e7, h⟩ := m_bd h
    refine g_pf q3_f86 e7 ?_
    refine g_ch [(0, .ref x0), (1, .int s.1), (2, .int s.2.1)] [.int s.1] (pc' := 47) rfl rfl rfl ?_
    cases h
    rw [k0 _ hK]
    exact g_iret rfl rfl
  · refine g_ifn (t := 41) rfl (m_geF c5) ?_
    refine g_in eF3_close_15 mx624 ?_
    refine g_ch [(0, .ref x0), (1, .int s.1), (2, .int s.2.1)] [.int 3, .int s.2.1, .ref x0] (pc' := 18) rfl rfl rfl ?_
    obtain ⟨v9, e8, h⟩ := m_bd h
    refine g_call (v := some (.int v9)) (h := s.2.2) (st' := [.int v9]) (D1 := 2) (as := [.ref x0, .int s.2.1, .int 3]) (Or.inr (Or.inl rfl)) q3_m129 (m_cv (as := [.int 3, .int s.2.1]) (rest := []) (Or.inl rfl) q3_m129 jv616 (OF3_crates e8) rfl rfl rfl rfl) (by decide) (SF3_crates e8) rfl ?_
    refine g_ch [(3, .int v9), (0, .ref x0), (1, .int s.1), (2, .int s.2.1)] [.int 8, .int 3, .int v9, .int s.2.1, .ref x0] (pc' := 28) rfl rfl rfl ?_
    obtain ⟨h11, e10, h⟩ := m_bd h
    refine g_call (v := none) (h := h11) (st' := []) (D1 := 2) (as := [.ref x0, .int s.2.1, .int v9, .int 3, .int 8]) (Or.inr (Or.inl rfl)) q3_m147 (m_cv (as := [.int 8, .int 3, .int v9, .int s.2.1]) (rest := []) (Or.inl rfl) q3_m147 jv617 (OF3_move e10) rfl rfl rfl rfl) (by decide) (SF3_move e10) rfl ?_
    refine g_ch [(2, .int (s.2.1 + 1)), (1, .int (s.1 + v9)), (3, .int v9), (0, .ref x0)] [] (pc' := 38) rfl rfl rfl ?_
    refine g_goto (t := 4) rfl ?_
    cases h
    exact r_lv (k1 ((s.1 + v9), (s.2.1 + 1), h11) hK) rfl ⟨rfl, rfl, rfl, trivial⟩
theorem SF3_close_4 {xs : Nat → Int32} {L : Nat} (x0 : Nat) (x1 : Int32) (x2 : Int32) (hp : m_H) {r : m_O × m_H} {K : Int32 × m_H → Prop} (k0 : ∀ x, K x → r = (.inl (some (.int x.1)), x.2)) {t : Int32 × m_H} (h : F3_close_4 x0 x1 x2 hp = some t) (hK : K t) : m_Rn xs L 3 624 4 [(0, .ref x0), (1, .int x1), (2, .int x2)] [] hp r :=
  m_wh_ok (P := fun s => m_Rn xs L 3 624 4 [(0, .ref x0), (1, .int s.1), (2, .int s.2.1)] [] s.2.2 r) (Q := K) (fun s t hb hK => SF3_close_4b x0 s (K := m_KK (fun s => m_Rn xs L 3 624 4 [(0, .ref x0), (1, .int s.1), (2, .int s.2.1)] [] s.2.2 r) K) k0 (fun _ q => q) hb hK) m_N _ _ h hK
theorem SF3_close_0 {xs : Nat → Int32} {L : Nat} (x0 : Nat) (hp : m_H) {r : m_O × m_H} {K : (Int32 × m_H) → Prop} (k0 : ∀ x, K x → r = (.inl (some (.int x.1)), x.2)) {t : Int32 × m_H} (h : F3_close_0 x0 hp = some t) (hK : K t) : m_Rn xs L 3 624 0 [(0, .ref x0)] [] hp r := by
  unfold F3_close_0 at h
  refine g_in eF3_close_0 mx624 ?_
  refine g_ch [(2, .int 0), (1, .int 0), (0, .ref x0)] [] (pc' := 4) rfl rfl rfl ?_
  refine g_end ?_
  exact r_lv (SF3_close_4 x0 0 0 hp (K := K) k0 h hK) rfl ⟨rfl, rfl, rfl, trivial⟩
theorem OF3_close {x0 : Nat} {hp : m_H} {x : Int32 × m_H} (h : F3_close x0 hp = some x) : m_isO hp 3 x0 = true := (m_gdd h).1
theorem SF3_close {xs : Nat → Int32} {L : Nat} {x0 : Nat} {hp : m_H} {x : Int32 × m_H} (h : F3_close x0 hp = some x) : m_Rn xs L 3 624 0 (lv_args 0 [.ref x0]) [] hp (.inl (some (.int x.1)), x.2) :=
  r_lv (SF3_close_0 x0 hp (K := fun y => y = x) (fun y e => by rw [e]) (m_gdd h).2 rfl) rfl ⟨rfl, trivial⟩
-- F3_openRequests: LendHouse$House.openRequests()I
theorem eF3_openRequests_0 : m_Fe mi3_26 0 (m_ap [(.iconst 0, 1), (.istore_n 1, 1), (.iconst 0, 1), (.istore_n 2, 1)] ([])) := m_Fe_of nd626 0 4 rfl
theorem eF3_openRequests_4 : m_Fe mi3_26 4 (m_ap [(.iload_n 2, 1), (.aload_n 0, 1)] ((.getfield 32, 3) :: ((.getfield 97, 3) :: ([(.if_icmp .ge 20, 3)])))) := m_Fe_of nd626 4 5 rfl
theorem eF3_openRequests_32 : m_Fe mi3_26 32 (m_ap [(.iload_n 1, 1)] ([(.ireturn, 1)])) := m_Fe_of nd626 16 2 rfl
theorem eF3_openRequests_15 : m_Fe mi3_26 15 (m_ap [(.aload_n 0, 1), (.iload_n 2, 1)] ((.invokevirtual 154, 3) :: ([(.ifCond .le 6, 3)]))) := m_Fe_of nd626 9 4 rfl
theorem eF3_openRequests_26 : m_Fe mi3_26 26 (m_ap [(.iinc 2 1, 3)] ([(.goto (-25), 3)])) := m_Fe_of nd626 14 2 rfl
theorem eF3_openRequests_23 : m_Fe mi3_26 23 (m_ap [(.iinc 1 1, 3)] ([])) := m_Fe_of nd626 13 1 rfl
theorem SF3_openRequests_4b {xs : Nat → Int32} {L : Nat} (x0 : Nat) (hp : m_H) (s : Int32 × Int32) {r : m_O × m_H} {K : ((Int32 × Int32) ⊕ Int32) → Prop} (k0 : ∀ x, K (.inr x) → r = (.inl (some (.int x)), hp)) (k1 : ∀ s, K (.inl s) → m_Rn xs L 3 626 4 [(0, .ref x0), (1, .int s.1), (2, .int s.2)] [] hp r) {t : (Int32 × Int32) ⊕ Int32} (h : F3_openRequests_4b x0 hp s = some t) (hK : K t) : m_Rn xs L 3 626 4 [(0, .ref x0), (1, .int s.1), (2, .int s.2)] [] hp r := by
  unfold F3_openRequests_4b at h
  refine g_in eF3_openRequests_4 mx626 ?_
  refine g_ch [(0, .ref x0), (1, .int s.1), (2, .int s.2)] [.ref x0, .int s.2] (pc' := 6) rfl rfl rfl ?_
  obtain ⟨v1, e2, h⟩ := m_bd h
  refine g_gr q3_f32 e2 ?_
  obtain ⟨v3, e4, h⟩ := m_bd h
  refine g_gi q3_f97 e4 ?_
  rcases m_ifd h with ⟨c5, h⟩ | ⟨c5, h⟩
  · refine g_if (t := 32) rfl (m_geT c5) ?_
    refine g_in eF3_openRequests_32 mx626 ?_
    refine g_ch [(0, .ref x0), (1, .int s.1), (2, .int s.2)] [.int s.1] (pc' := 33) rfl rfl rfl ?_
    cases h
    rw [k0 _ hK]
    exact g_iret rfl rfl
  · refine g_ifn (t := 32) rfl (m_geF c5) ?_
    refine g_in eF3_openRequests_15 mx626 ?_
    refine g_ch [(0, .ref x0), (1, .int s.1), (2, .int s.2)] [.int s.2, .ref x0] (pc' := 17) rfl rfl rfl ?_
    obtain ⟨v7, e6, h⟩ := m_bd h
    refine g_call (v := some (.int v7)) (h := hp) (st' := [.int v7]) (D1 := 2) (as := [.ref x0, .int s.2]) (Or.inr (Or.inl rfl)) q3_m154 (m_cv (as := [.int s.2]) (rest := []) (Or.inl rfl) q3_m154 jv625 (OF3_lackOf e6) rfl rfl rfl rfl) (by decide) (SF3_lackOf e6) rfl ?_
    rcases m_ifd h with ⟨c8, h⟩ | ⟨c8, h⟩
    · refine g_ifc (t := 26) rfl (m_leT c8) ?_
      refine g_in eF3_openRequests_26 mx626 ?_
      refine g_ch [(2, .int (s.2 + 1)), (0, .ref x0), (1, .int s.1)] [] (pc' := 29) rfl rfl rfl ?_
      refine g_goto (t := 4) rfl ?_
      cases h
      exact r_lv (k1 (s.1, (s.2 + 1)) hK) rfl ⟨rfl, rfl, rfl, trivial⟩
    · refine g_ifcn (t := 26) rfl (m_leF c8) ?_
      refine g_in eF3_openRequests_23 mx626 ?_
      refine g_ch [(1, .int (s.1 + 1)), (0, .ref x0), (2, .int s.2)] [] (pc' := 26) rfl rfl rfl ?_
      refine g_end ?_
      refine g_in eF3_openRequests_26 mx626 ?_
      refine g_ch [(2, .int (s.2 + 1)), (1, .int (s.1 + 1)), (0, .ref x0)] [] (pc' := 29) rfl rfl rfl ?_
      refine g_goto (t := 4) rfl ?_
      cases h
      exact r_lv (k1 ((s.1 + 1), (s.2 + 1)) hK) rfl ⟨rfl, rfl, rfl, trivial⟩
theorem SF3_openRequests_4 {xs : Nat → Int32} {L : Nat} (x0 : Nat) (x1 : Int32) (x2 : Int32) (hp : m_H) {r : m_O × m_H} {K : Int32 → Prop} (k0 : ∀ x, K x → r = (.inl (some (.int x)), hp)) {t : Int32} (h : F3_openRequests_4 x0 x1 x2 hp = some t) (hK : K t) : m_Rn xs L 3 626 4 [(0, .ref x0), (1, .int x1), (2, .int x2)] [] hp r :=
  m_wh_ok (P := fun s => m_Rn xs L 3 626 4 [(0, .ref x0), (1, .int s.1), (2, .int s.2)] [] hp r) (Q := K) (fun s t hb hK => SF3_openRequests_4b x0 hp s (K := m_KK (fun s => m_Rn xs L 3 626 4 [(0, .ref x0), (1, .int s.1), (2, .int s.2)] [] hp r) K) k0 (fun _ q => q) hb hK) m_N _ _ h hK
theorem SF3_openRequests_0 {xs : Nat → Int32} {L : Nat} (x0 : Nat) (hp : m_H) {r : m_O × m_H} {K : Int32 → Prop} (k0 : ∀ x, K x → r = (.inl (some (.int x)), hp)) {t : Int32} (h : F3_openRequests_0 x0 hp = some t) (hK : K t) : m_Rn xs L 3 626 0 [(0, .ref x0)] [] hp r := by
  unfold F3_openRequests_0 at h
  refine g_in eF3_openRequests_0 mx626 ?_
  refine g_ch [(2, .int 0), (1, .int 0), (0, .ref x0)] [] (pc' := 4) rfl rfl rfl ?_
  refine g_end ?_
  exact r_lv (SF3_openRequests_4 x0 0 0 hp (K := K) k0 h hK) rfl ⟨rfl, rfl, rfl, trivial⟩
theorem OF3_openRequests {x0 : Nat} {hp : m_H} {x : Int32} (h : F3_openRequests x0 hp = some x) : m_isO hp 3 x0 = true := (m_gdd h).1
theorem SF3_openRequests {xs : Nat → Int32} {L : Nat} {x0 : Nat} {hp : m_H} {x : Int32} (h : F3_openRequests x0 hp = some x) : m_Rn xs L 3 626 0 (lv_args 0 [.ref x0]) [] hp (.inl (some (.int x)), hp) :=
  r_lv (SF3_openRequests_0 x0 hp (K := fun y => y = x) (fun y e => by rw [e]) (m_gdd h).2 rfl) rfl ⟨rfl, trivial⟩
-- F3_cargoLot: LendHouse$House.cargoLot(II)I
theorem eF3_cargoLot_0 : m_Fe mi3_28 0 (m_ap [(.aload_n 0, 1)] ((.getfield 35, 3) :: (m_ap [(.iload_n 1, 1), (.bipush 7, 2), (.iconst 2, 1), (.iload_n 2, 1), (.imul, 1), (.iadd, 1)] ((.invokevirtual 100, 3) :: ([(.ireturn, 1)]))))) := m_Fe_of nd628 0 10 rfl
theorem SF3_cargoLot_0 {xs : Nat → Int32} {L : Nat} (x0 : Nat) (x1 : Int32) (x2 : Int32) (hp : m_H) {r : m_O × m_H} {K : Int32 → Prop} (k0 : ∀ x, K x → r = (.inl (some (.int x)), hp)) {t : Int32} (h : F3_cargoLot_0 x0 x1 x2 hp = some t) (hK : K t) : m_Rn xs L 2 628 0 [(0, .ref x0), (1, .int x1), (2, .int x2)] [] hp r := by
  unfold F3_cargoLot_0 at h
  refine g_in eF3_cargoLot_0 mx628 ?_
  refine g_ch [(0, .ref x0), (1, .int x1), (2, .int x2)] [.ref x0] (pc' := 1) rfl rfl rfl ?_
  obtain ⟨v1, e2, h⟩ := m_bd h
  refine g_gr q3_f35 e2 ?_
  refine g_ch [(0, .ref x0), (1, .int x1), (2, .int x2)] [.int (7 + (2 * x2)), .int x1, .ref v1] (pc' := 11) rfl rfl rfl ?_
  obtain ⟨v4, e3, h⟩ := m_bd h
  refine g_call (v := some (.int v4)) (h := hp) (st' := [.int v4]) (D1 := 1) (as := [.ref v1, .int x1, .int (7 + (2 * x2))]) (Or.inr (Or.inl rfl)) q3_m100 (m_cv (as := [.int (7 + (2 * x2)), .int x1]) (rest := []) (Or.inl rfl) q3_m100 jv1604 (OF8_get e3) rfl rfl rfl rfl) (by decide) (SF8_get e3) rfl ?_
  cases h
  rw [k0 _ hK]
  exact g_iret rfl rfl
theorem OF3_cargoLot {x0 : Nat} {x1 : Int32} {x2 : Int32} {hp : m_H} {x : Int32} (h : F3_cargoLot x0 x1 x2 hp = some x) : m_isO hp 3 x0 = true := (m_gdd h).1
theorem SF3_cargoLot {xs : Nat → Int32} {L : Nat} {x0 : Nat} {x1 : Int32} {x2 : Int32} {hp : m_H} {x : Int32} (h : F3_cargoLot x0 x1 x2 hp = some x) : m_Rn xs L 2 628 0 (lv_args 0 [.ref x0, .int x1, .int x2]) [] hp (.inl (some (.int x)), hp) :=
  r_lv (SF3_cargoLot_0 x0 x1 x2 hp (K := fun y => y = x) (fun y e => by rw [e]) (m_gdd h).2 rfl) rfl ⟨rfl, rfl, rfl, trivial⟩
-- F3_cargoCrates: LendHouse$House.cargoCrates(II)I
theorem eF3_cargoCrates_0 : m_Fe mi3_29 0 (m_ap [(.aload_n 0, 1)] ((.getfield 35, 3) :: (m_ap [(.iload_n 1, 1), (.bipush 7, 2), (.iconst 2, 1), (.iload_n 2, 1), (.imul, 1), (.iadd, 1), (.iconst 1, 1), (.iadd, 1)] ((.invokevirtual 100, 3) :: ([(.ireturn, 1)]))))) := m_Fe_of nd629 0 12 rfl
theorem SF3_cargoCrates_0 {xs : Nat → Int32} {L : Nat} (x0 : Nat) (x1 : Int32) (x2 : Int32) (hp : m_H) {r : m_O × m_H} {K : Int32 → Prop} (k0 : ∀ x, K x → r = (.inl (some (.int x)), hp)) {t : Int32} (h : F3_cargoCrates_0 x0 x1 x2 hp = some t) (hK : K t) : m_Rn xs L 2 629 0 [(0, .ref x0), (1, .int x1), (2, .int x2)] [] hp r := by
  unfold F3_cargoCrates_0 at h
  refine g_in eF3_cargoCrates_0 mx629 ?_
  refine g_ch [(0, .ref x0), (1, .int x1), (2, .int x2)] [.ref x0] (pc' := 1) rfl rfl rfl ?_
  obtain ⟨v1, e2, h⟩ := m_bd h
  refine g_gr q3_f35 e2 ?_
  refine g_ch [(0, .ref x0), (1, .int x1), (2, .int x2)] [.int ((7 + (2 * x2)) + 1), .int x1, .ref v1] (pc' := 13) rfl rfl rfl ?_
  obtain ⟨v4, e3, h⟩ := m_bd h
  refine g_call (v := some (.int v4)) (h := hp) (st' := [.int v4]) (D1 := 1) (as := [.ref v1, .int x1, .int ((7 + (2 * x2)) + 1)]) (Or.inr (Or.inl rfl)) q3_m100 (m_cv (as := [.int ((7 + (2 * x2)) + 1), .int x1]) (rest := []) (Or.inl rfl) q3_m100 jv1604 (OF8_get e3) rfl rfl rfl rfl) (by decide) (SF8_get e3) rfl ?_
  cases h
  rw [k0 _ hK]
  exact g_iret rfl rfl
theorem OF3_cargoCrates {x0 : Nat} {x1 : Int32} {x2 : Int32} {hp : m_H} {x : Int32} (h : F3_cargoCrates x0 x1 x2 hp = some x) : m_isO hp 3 x0 = true := (m_gdd h).1
theorem SF3_cargoCrates {xs : Nat → Int32} {L : Nat} {x0 : Nat} {x1 : Int32} {x2 : Int32} {hp : m_H} {x : Int32} (h : F3_cargoCrates x0 x1 x2 hp = some x) : m_Rn xs L 2 629 0 (lv_args 0 [.ref x0, .int x1, .int x2]) [] hp (.inl (some (.int x)), hp) :=
  r_lv (SF3_cargoCrates_0 x0 x1 x2 hp (K := fun y => y = x) (fun y e => by rw [e]) (m_gdd h).2 rfl) rfl ⟨rfl, rfl, rfl, trivial⟩
-- F3_tonsOf: LendHouse$House.tonsOf(I)I
theorem eF3_tonsOf_0 : m_Fe mi3_31 0 (m_ap [(.aload_n 0, 1)] ((.getfield 22, 3) :: (m_ap [(.aload_n 0, 1)] ((.getfield 29, 3) :: (m_ap [(.iload_n 1, 1), (.iconst 0, 1)] ((.invokevirtual 100, 3) :: (m_ap [(.iconst 0, 1)] ((.invokevirtual 100, 3) :: ([(.ireturn, 1)]))))))))) := m_Fe_of nd631 0 10 rfl
theorem SF3_tonsOf_0 {xs : Nat → Int32} {L : Nat} (x0 : Nat) (x1 : Int32) (hp : m_H) {r : m_O × m_H} {K : Int32 → Prop} (k0 : ∀ x, K x → r = (.inl (some (.int x)), hp)) {t : Int32} (h : F3_tonsOf_0 x0 x1 hp = some t) (hK : K t) : m_Rn xs L 2 631 0 [(0, .ref x0), (1, .int x1)] [] hp r := by
  unfold F3_tonsOf_0 at h
  refine g_in eF3_tonsOf_0 mx631 ?_
  refine g_ch [(0, .ref x0), (1, .int x1)] [.ref x0] (pc' := 1) rfl rfl rfl ?_
  obtain ⟨v1, e2, h⟩ := m_bd h
  refine g_gr q3_f22 e2 ?_
  refine g_ch [(0, .ref x0), (1, .int x1)] [.ref x0, .ref v1] (pc' := 5) rfl rfl rfl ?_
  obtain ⟨v3, e4, h⟩ := m_bd h
  refine g_gr q3_f29 e4 ?_
  refine g_ch [(0, .ref x0), (1, .int x1)] [.int 0, .int x1, .ref v3, .ref v1] (pc' := 10) rfl rfl rfl ?_
  obtain ⟨v6, e5, h⟩ := m_bd h
  refine g_call (v := some (.int v6)) (h := hp) (st' := [.int v6, .ref v1]) (D1 := 1) (as := [.ref v3, .int x1, .int 0]) (Or.inr (Or.inl rfl)) q3_m100 (m_cv (as := [.int 0, .int x1]) (rest := [.ref v1]) (Or.inl rfl) q3_m100 jv1604 (OF8_get e5) rfl rfl rfl rfl) (by decide) (SF8_get e5) rfl ?_
  refine g_ch [(0, .ref x0), (1, .int x1)] [.int 0, .int v6, .ref v1] (pc' := 14) rfl rfl rfl ?_
  obtain ⟨v8, e7, h⟩ := m_bd h
  refine g_call (v := some (.int v8)) (h := hp) (st' := [.int v8]) (D1 := 1) (as := [.ref v1, .int v6, .int 0]) (Or.inr (Or.inl rfl)) q3_m100 (m_cv (as := [.int 0, .int v6]) (rest := []) (Or.inl rfl) q3_m100 jv1604 (OF8_get e7) rfl rfl rfl rfl) (by decide) (SF8_get e7) rfl ?_
  cases h
  rw [k0 _ hK]
  exact g_iret rfl rfl
theorem OF3_tonsOf {x0 : Nat} {x1 : Int32} {hp : m_H} {x : Int32} (h : F3_tonsOf x0 x1 hp = some x) : m_isO hp 3 x0 = true := (m_gdd h).1
theorem SF3_tonsOf {xs : Nat → Int32} {L : Nat} {x0 : Nat} {x1 : Int32} {hp : m_H} {x : Int32} (h : F3_tonsOf x0 x1 hp = some x) : m_Rn xs L 2 631 0 (lv_args 0 [.ref x0, .int x1]) [] hp (.inl (some (.int x)), hp) :=
  r_lv (SF3_tonsOf_0 x0 x1 hp (K := fun y => y = x) (fun y e => by rw [e]) (m_gdd h).2 rfl) rfl ⟨rfl, rfl, trivial⟩
-- F3_tonsAboard: LendHouse$House.tonsAboard(I)I
theorem eF3_tonsAboard_0 : m_Fe mi3_30 0 (m_ap [(.iconst 0, 1), (.istore_n 2, 1), (.iconst 0, 1), (.istore_n 3, 1)] ([])) := m_Fe_of nd630 0 4 rfl
theorem eF3_tonsAboard_4 : m_Fe mi3_30 4 (m_ap [(.iload_n 3, 1), (.aload_n 0, 1)] ((.getfield 35, 3) :: (m_ap [(.iload_n 1, 1), (.bipush 6, 2)] ((.invokevirtual 100, 3) :: ([(.if_icmp .ge 35, 3)]))))) := m_Fe_of nd630 4 7 rfl
theorem eF3_tonsAboard_50 : m_Fe mi3_30 50 (m_ap [(.iload_n 2, 1)] ([(.ireturn, 1)])) := m_Fe_of nd630 30 2 rfl
theorem eF3_tonsAboard_18 : m_Fe mi3_30 18 (m_ap [(.iload_n 3, 1), (.bipush 8, 2)] ([(.if_icmp .ge 29, 3)])) := m_Fe_of nd630 11 3 rfl
theorem eF3_tonsAboard_24 : m_Fe mi3_30 24 (m_ap [(.iload_n 2, 1), (.aload_n 0, 1), (.iload_n 1, 1), (.iload_n 3, 1)] ((.invokevirtual 157, 3) :: (m_ap [(.aload_n 0, 1), (.aload_n 0, 1), (.iload_n 1, 1), (.iload_n 3, 1)] ((.invokevirtual 160, 3) :: ((.invokevirtual 163, 3) :: (m_ap [(.imul, 1), (.iadd, 1), (.istore_n 2, 1), (.iinc 3 1, 3)] ([(.goto (-43), 3)]))))))) := m_Fe_of nd630 14 16 rfl
theorem SF3_tonsAboard_4b {xs : Nat → Int32} {L : Nat} (x0 : Nat) (x1 : Int32) (hp : m_H) (s : Int32 × Int32) {r : m_O × m_H} {K : ((Int32 × Int32) ⊕ Int32) → Prop} (k0 : ∀ x, K (.inr x) → r = (.inl (some (.int x)), hp)) (k1 : ∀ s, K (.inl s) → m_Rn xs L 3 630 4 [(0, .ref x0), (1, .int x1), (2, .int s.1), (3, .int s.2)] [] hp r) {t : (Int32 × Int32) ⊕ Int32} (h : F3_tonsAboard_4b x0 x1 hp s = some t) (hK : K t) : m_Rn xs L 3 630 4 [(0, .ref x0), (1, .int x1), (2, .int s.1), (3, .int s.2)] [] hp r := by
  unfold F3_tonsAboard_4b at h
  refine g_in eF3_tonsAboard_4 mx630 ?_
  refine g_ch [(0, .ref x0), (1, .int x1), (2, .int s.1), (3, .int s.2)] [.ref x0, .int s.2] (pc' := 6) rfl rfl rfl ?_
  obtain ⟨v1, e2, h⟩ := m_bd h
  refine g_gr q3_f35 e2 ?_
  refine g_ch [(0, .ref x0), (1, .int x1), (2, .int s.1), (3, .int s.2)] [.int 6, .int x1, .ref v1, .int s.2] (pc' := 12) rfl rfl rfl ?_
  obtain ⟨v4, e3, h⟩ := m_bd h
  refine g_call (v := some (.int v4)) (h := hp) (st' := [.int v4, .int s.2]) (D1 := 1) (as := [.ref v1, .int x1, .int 6]) (Or.inr (Or.inl rfl)) q3_m100 (m_cv (as := [.int 6, .int x1]) (rest := [.int s.2]) (Or.inl rfl) q3_m100 jv1604 (OF8_get e3) rfl rfl rfl rfl) (by decide) (SF8_get e3) rfl ?_
  rcases m_ifd h with ⟨c5, h⟩ | ⟨c5, h⟩
  · refine g_if (t := 50) rfl (m_geT c5) ?_
    refine g_in eF3_tonsAboard_50 mx630 ?_
    refine g_ch [(0, .ref x0), (1, .int x1), (2, .int s.1), (3, .int s.2)] [.int s.1] (pc' := 51) rfl rfl rfl ?_
    cases h
    rw [k0 _ hK]
    exact g_iret rfl rfl
  · refine g_ifn (t := 50) rfl (m_geF c5) ?_
    refine g_in eF3_tonsAboard_18 mx630 ?_
    refine g_ch [(0, .ref x0), (1, .int x1), (2, .int s.1), (3, .int s.2)] [.int 8, .int s.2] (pc' := 21) rfl rfl rfl ?_
    rcases m_ifd h with ⟨c6, h⟩ | ⟨c6, h⟩
    · refine g_if (t := 50) rfl (m_geT c6) ?_
      refine g_in eF3_tonsAboard_50 mx630 ?_
      refine g_ch [(0, .ref x0), (1, .int x1), (2, .int s.1), (3, .int s.2)] [.int s.1] (pc' := 51) rfl rfl rfl ?_
      cases h
      rw [k0 _ hK]
      exact g_iret rfl rfl
    · refine g_ifn (t := 50) rfl (m_geF c6) ?_
      refine g_in eF3_tonsAboard_24 mx630 ?_
      refine g_ch [(0, .ref x0), (1, .int x1), (2, .int s.1), (3, .int s.2)] [.int s.2, .int x1, .ref x0, .int s.1] (pc' := 28) rfl rfl rfl ?_
      obtain ⟨v8, e7, h⟩ := m_bd h
      refine g_call (v := some (.int v8)) (h := hp) (st' := [.int v8, .int s.1]) (D1 := 2) (as := [.ref x0, .int x1, .int s.2]) (Or.inr (Or.inl rfl)) q3_m157 (m_cv (as := [.int s.2, .int x1]) (rest := [.int s.1]) (Or.inl rfl) q3_m157 jv629 (OF3_cargoCrates e7) rfl rfl rfl rfl) (by decide) (SF3_cargoCrates e7) rfl ?_
      refine g_ch [(0, .ref x0), (1, .int x1), (2, .int s.1), (3, .int s.2)] [.int s.2, .int x1, .ref x0, .ref x0, .int v8, .int s.1] (pc' := 35) rfl rfl rfl ?_
      obtain ⟨v10, e9, h⟩ := m_bd h
      refine g_call (v := some (.int v10)) (h := hp) (st' := [.int v10, .ref x0, .int v8, .int s.1]) (D1 := 2) (as := [.ref x0, .int x1, .int s.2]) (Or.inr (Or.inl rfl)) q3_m160 (m_cv (as := [.int s.2, .int x1]) (rest := [.ref x0, .int v8, .int s.1]) (Or.inl rfl) q3_m160 jv628 (OF3_cargoLot e9) rfl rfl rfl rfl) (by decide) (SF3_cargoLot e9) rfl ?_
      obtain ⟨v12, e11, h⟩ := m_bd h
      refine g_call (v := some (.int v12)) (h := hp) (st' := [.int v12, .int v8, .int s.1]) (D1 := 2) (as := [.ref x0, .int v10]) (Or.inr (Or.inl rfl)) q3_m163 (m_cv (as := [.int v10]) (rest := [.int v8, .int s.1]) (Or.inl rfl) q3_m163 jv631 (OF3_tonsOf e11) rfl rfl rfl rfl) (by decide) (SF3_tonsOf e11) rfl ?_
      refine g_ch [(3, .int (s.2 + 1)), (2, .int (s.1 + (v8 * v12))), (0, .ref x0), (1, .int x1)] [] (pc' := 47) rfl rfl rfl ?_
      refine g_goto (t := 4) rfl ?_
      cases h
      exact r_lv (k1 ((s.1 + (v8 * v12)), (s.2 + 1)) hK) rfl ⟨rfl, rfl, rfl, rfl, trivial⟩
theorem SF3_tonsAboard_4 {xs : Nat → Int32} {L : Nat} (x0 : Nat) (x1 : Int32) (x2 : Int32) (x3 : Int32) (hp : m_H) {r : m_O × m_H} {K : Int32 → Prop} (k0 : ∀ x, K x → r = (.inl (some (.int x)), hp)) {t : Int32} (h : F3_tonsAboard_4 x0 x1 x2 x3 hp = some t) (hK : K t) : m_Rn xs L 3 630 4 [(0, .ref x0), (1, .int x1), (2, .int x2), (3, .int x3)] [] hp r :=
  m_wh_ok (P := fun s => m_Rn xs L 3 630 4 [(0, .ref x0), (1, .int x1), (2, .int s.1), (3, .int s.2)] [] hp r) (Q := K) (fun s t hb hK => SF3_tonsAboard_4b x0 x1 hp s (K := m_KK (fun s => m_Rn xs L 3 630 4 [(0, .ref x0), (1, .int x1), (2, .int s.1), (3, .int s.2)] [] hp r) K) k0 (fun _ q => q) hb hK) m_N _ _ h hK
theorem SF3_tonsAboard_0 {xs : Nat → Int32} {L : Nat} (x0 : Nat) (x1 : Int32) (hp : m_H) {r : m_O × m_H} {K : Int32 → Prop} (k0 : ∀ x, K x → r = (.inl (some (.int x)), hp)) {t : Int32} (h : F3_tonsAboard_0 x0 x1 hp = some t) (hK : K t) : m_Rn xs L 3 630 0 [(0, .ref x0), (1, .int x1)] [] hp r := by
  unfold F3_tonsAboard_0 at h
  refine g_in eF3_tonsAboard_0 mx630 ?_
  refine g_ch [(3, .int 0), (2, .int 0), (0, .ref x0), (1, .int x1)] [] (pc' := 4) rfl rfl rfl ?_
  refine g_end ?_
  exact r_lv (SF3_tonsAboard_4 x0 x1 0 0 hp (K := K) k0 h hK) rfl ⟨rfl, rfl, rfl, rfl, trivial⟩
theorem OF3_tonsAboard {x0 : Nat} {x1 : Int32} {hp : m_H} {x : Int32} (h : F3_tonsAboard x0 x1 hp = some x) : m_isO hp 3 x0 = true := (m_gdd h).1
theorem SF3_tonsAboard {xs : Nat → Int32} {L : Nat} {x0 : Nat} {x1 : Int32} {hp : m_H} {x : Int32} (h : F3_tonsAboard x0 x1 hp = some x) : m_Rn xs L 3 630 0 (lv_args 0 [.ref x0, .int x1]) [] hp (.inl (some (.int x)), hp) :=
  r_lv (SF3_tonsAboard_0 x0 x1 hp (K := fun y => y = x) (fun y e => by rw [e]) (m_gdd h).2 rfl) rfl ⟨rfl, rfl, trivial⟩
-- F3_slotFor: LendHouse$House.slotFor(II)I
theorem eF3_slotFor_0 : m_Fe mi3_32 0 (m_ap [(.bipush 8, 2), (.aload_n 0, 1)] ((.getfield 35, 3) :: (m_ap [(.iload_n 1, 1), (.bipush 6, 2)] ((.invokevirtual 100, 3) :: ((.invokestatic 132, 3) :: (m_ap [(.istore_n 3, 1), (.iconst 0, 1), (.istore 4, 2)] ([]))))))) := m_Fe_of nd632 0 10 rfl
theorem eF3_slotFor_19 : m_Fe mi3_32 19 (m_ap [(.iload 4, 2), (.iload_n 3, 1)] ([(.if_icmp .ge 23, 3)])) := m_Fe_of nd632 10 3 rfl
theorem eF3_slotFor_45 : m_Fe mi3_32 45 (m_ap [(.iload_n 3, 1)] ([(.ireturn, 1)])) := m_Fe_of nd632 23 2 rfl
theorem eF3_slotFor_25 : m_Fe mi3_32 25 (m_ap [(.aload_n 0, 1), (.iload_n 1, 1), (.iload 4, 2)] ((.invokevirtual 160, 3) :: (m_ap [(.iload_n 2, 1)] ([(.if_icmp .ne 6, 3)])))) := m_Fe_of nd632 13 6 rfl
theorem eF3_slotFor_39 : m_Fe mi3_32 39 (m_ap [(.iinc 4 1, 3)] ([(.goto (-23), 3)])) := m_Fe_of nd632 21 2 rfl
theorem eF3_slotFor_36 : m_Fe mi3_32 36 (m_ap [(.iload 4, 2)] ([(.ireturn, 1)])) := m_Fe_of nd632 19 2 rfl
theorem SF3_slotFor_19b {xs : Nat → Int32} {L : Nat} (x0 : Nat) (x1 : Int32) (x2 : Int32) (x3 : Int32) (hp : m_H) (s : Int32) {r : m_O × m_H} {K : (Int32 ⊕ Int32) → Prop} (k0 : ∀ x, K (.inr x) → r = (.inl (some (.int x)), hp)) (k1 : ∀ s, K (.inl s) → m_Rn xs L 7 632 19 [(0, .ref x0), (1, .int x1), (2, .int x2), (3, .int x3), (4, .int s)] [] hp r) {t : Int32 ⊕ Int32} (h : F3_slotFor_19b x0 x1 x2 x3 hp s = some t) (hK : K t) : m_Rn xs L 7 632 19 [(0, .ref x0), (1, .int x1), (2, .int x2), (3, .int x3), (4, .int s)] [] hp r := by
  unfold F3_slotFor_19b at h
  refine g_in eF3_slotFor_19 mx632 ?_
  refine g_ch [(0, .ref x0), (1, .int x1), (2, .int x2), (3, .int x3), (4, .int s)] [.int x3, .int s] (pc' := 22) rfl rfl rfl ?_
  rcases m_ifd h with ⟨c1, h⟩ | ⟨c1, h⟩
  · refine g_if (t := 45) rfl (m_geT c1) ?_
    refine g_in eF3_slotFor_45 mx632 ?_
    refine g_ch [(0, .ref x0), (1, .int x1), (2, .int x2), (3, .int x3), (4, .int s)] [.int x3] (pc' := 46) rfl rfl rfl ?_
    cases h
    rw [k0 _ hK]
    exact g_iret rfl rfl
  · refine g_ifn (t := 45) rfl (m_geF c1) ?_
    refine g_in eF3_slotFor_25 mx632 ?_
    refine g_ch [(0, .ref x0), (1, .int x1), (2, .int x2), (3, .int x3), (4, .int s)] [.int s, .int x1, .ref x0] (pc' := 29) rfl rfl rfl ?_
    obtain ⟨v3, e2, h⟩ := m_bd h
    refine g_call (v := some (.int v3)) (h := hp) (st' := [.int v3]) (D1 := 2) (as := [.ref x0, .int x1, .int s]) (Or.inr (Or.inl rfl)) q3_m160 (m_cv (as := [.int s, .int x1]) (rest := []) (Or.inl rfl) q3_m160 jv628 (OF3_cargoLot e2) rfl rfl rfl rfl) (by decide) (SF3_cargoLot e2) rfl ?_
    refine g_ch [(0, .ref x0), (1, .int x1), (2, .int x2), (3, .int x3), (4, .int s)] [.int x2, .int v3] (pc' := 33) rfl rfl rfl ?_
    rcases m_ifd h with ⟨c4, h⟩ | ⟨c4, h⟩
    · refine g_ifn (t := 39) rfl (m_neF c4) ?_
      refine g_in eF3_slotFor_36 mx632 ?_
      refine g_ch [(0, .ref x0), (1, .int x1), (2, .int x2), (3, .int x3), (4, .int s)] [.int s] (pc' := 38) rfl rfl rfl ?_
      cases h
      rw [k0 _ hK]
      exact g_iret rfl rfl
    · refine g_if (t := 39) rfl (m_neT c4) ?_
      refine g_in eF3_slotFor_39 mx632 ?_
      refine g_ch [(4, .int (s + 1)), (0, .ref x0), (1, .int x1), (2, .int x2), (3, .int x3)] [] (pc' := 42) rfl rfl rfl ?_
      refine g_goto (t := 19) rfl ?_
      cases h
      exact r_lv (k1 (s + 1) hK) rfl ⟨rfl, rfl, rfl, rfl, rfl, trivial⟩
theorem SF3_slotFor_19 {xs : Nat → Int32} {L : Nat} (x0 : Nat) (x1 : Int32) (x2 : Int32) (x3 : Int32) (x4 : Int32) (hp : m_H) {r : m_O × m_H} {K : Int32 → Prop} (k0 : ∀ x, K x → r = (.inl (some (.int x)), hp)) {t : Int32} (h : F3_slotFor_19 x0 x1 x2 x3 x4 hp = some t) (hK : K t) : m_Rn xs L 7 632 19 [(0, .ref x0), (1, .int x1), (2, .int x2), (3, .int x3), (4, .int x4)] [] hp r :=
  m_wh_ok (P := fun s => m_Rn xs L 7 632 19 [(0, .ref x0), (1, .int x1), (2, .int x2), (3, .int x3), (4, .int s)] [] hp r) (Q := K) (fun s t hb hK => SF3_slotFor_19b x0 x1 x2 x3 hp s (K := m_KK (fun s => m_Rn xs L 7 632 19 [(0, .ref x0), (1, .int x1), (2, .int x2), (3, .int x3), (4, .int s)] [] hp r) K) k0 (fun _ q => q) hb hK) m_N _ _ h hK
theorem SF3_slotFor_0 {xs : Nat → Int32} {L : Nat} (x0 : Nat) (x1 : Int32) (x2 : Int32) (hp : m_H) {r : m_O × m_H} {K : Int32 → Prop} (k0 : ∀ x, K x → r = (.inl (some (.int x)), hp)) {t : Int32} (h : F3_slotFor_0 x0 x1 x2 hp = some t) (hK : K t) : m_Rn xs L 7 632 0 [(0, .ref x0), (1, .int x1), (2, .int x2)] [] hp r := by
  unfold F3_slotFor_0 at h
  refine g_in eF3_slotFor_0 mx632 ?_
  refine g_ch [(0, .ref x0), (1, .int x1), (2, .int x2)] [.ref x0, .int 8] (pc' := 3) rfl rfl rfl ?_
  obtain ⟨v1, e2, h⟩ := m_bd h
  refine g_gr q3_f35 e2 ?_
  refine g_ch [(0, .ref x0), (1, .int x1), (2, .int x2)] [.int 6, .int x1, .ref v1, .int 8] (pc' := 9) rfl rfl rfl ?_
  obtain ⟨v4, e3, h⟩ := m_bd h
  refine g_call (v := some (.int v4)) (h := hp) (st' := [.int v4, .int 8]) (D1 := 1) (as := [.ref v1, .int x1, .int 6]) (Or.inr (Or.inl rfl)) q3_m100 (m_cv (as := [.int 6, .int x1]) (rest := [.int 8]) (Or.inl rfl) q3_m100 jv1604 (OF8_get e3) rfl rfl rfl rfl) (by decide) (SF8_get e3) rfl ?_
  refine g_nat (Or.inl rfl) q3_m132 rfl (z := ([.int (m_min 8 v4)], hp)) rfl (by decide) ?_
  refine g_ch [(4, .int 0), (3, .int (m_min 8 v4)), (0, .ref x0), (1, .int x1), (2, .int x2)] [] (pc' := 19) rfl rfl rfl ?_
  refine g_end ?_
  exact r_lv (SF3_slotFor_19 x0 x1 x2 (m_min 8 v4) 0 hp (K := K) k0 h hK) rfl ⟨rfl, rfl, rfl, rfl, rfl, trivial⟩
theorem OF3_slotFor {x0 : Nat} {x1 : Int32} {x2 : Int32} {hp : m_H} {x : Int32} (h : F3_slotFor x0 x1 x2 hp = some x) : m_isO hp 3 x0 = true := (m_gdd h).1
theorem SF3_slotFor {xs : Nat → Int32} {L : Nat} {x0 : Nat} {x1 : Int32} {x2 : Int32} {hp : m_H} {x : Int32} (h : F3_slotFor x0 x1 x2 hp = some x) : m_Rn xs L 7 632 0 (lv_args 0 [.ref x0, .int x1, .int x2]) [] hp (.inl (some (.int x)), hp) :=
  r_lv (SF3_slotFor_0 x0 x1 x2 hp (K := fun y => y = x) (fun y e => by rw [e]) (m_gdd h).2 rfl) rfl ⟨rfl, rfl, rfl, trivial⟩
-- F3_landOfCargo: LendHouse$House.landOfCargo(I)I
theorem eF3_landOfCargo_0 : m_Fe mi3_35 0 (m_ap [(.aload_n 0, 1)] ((.getfield 29, 3) :: (m_ap [(.aload_n 0, 1), (.iload_n 1, 1), (.iconst 0, 1)] ((.invokevirtual 160, 3) :: (m_ap [(.iconst 2, 1)] ((.invokevirtual 100, 3) :: ([(.ireturn, 1)]))))))) := m_Fe_of nd635 0 9 rfl
theorem SF3_landOfCargo_0 {xs : Nat → Int32} {L : Nat} (x0 : Nat) (x1 : Int32) (hp : m_H) {r : m_O × m_H} {K : Int32 → Prop} (k0 : ∀ x, K x → r = (.inl (some (.int x)), hp)) {t : Int32} (h : F3_landOfCargo_0 x0 x1 hp = some t) (hK : K t) : m_Rn xs L 3 635 0 [(0, .ref x0), (1, .int x1)] [] hp r := by
  unfold F3_landOfCargo_0 at h
  refine g_in eF3_landOfCargo_0 mx635 ?_
  refine g_ch [(0, .ref x0), (1, .int x1)] [.ref x0] (pc' := 1) rfl rfl rfl ?_
  obtain ⟨v1, e2, h⟩ := m_bd h
  refine g_gr q3_f29 e2 ?_
  refine g_ch [(0, .ref x0), (1, .int x1)] [.int 0, .int x1, .ref x0, .ref v1] (pc' := 7) rfl rfl rfl ?_
  obtain ⟨v4, e3, h⟩ := m_bd h
  refine g_call (v := some (.int v4)) (h := hp) (st' := [.int v4, .ref v1]) (D1 := 2) (as := [.ref x0, .int x1, .int 0]) (Or.inr (Or.inl rfl)) q3_m160 (m_cv (as := [.int 0, .int x1]) (rest := [.ref v1]) (Or.inl rfl) q3_m160 jv628 (OF3_cargoLot e3) rfl rfl rfl rfl) (by decide) (SF3_cargoLot e3) rfl ?_
  refine g_ch [(0, .ref x0), (1, .int x1)] [.int 2, .int v4, .ref v1] (pc' := 11) rfl rfl rfl ?_
  obtain ⟨v6, e5, h⟩ := m_bd h
  refine g_call (v := some (.int v6)) (h := hp) (st' := [.int v6]) (D1 := 1) (as := [.ref v1, .int v4, .int 2]) (Or.inr (Or.inl rfl)) q3_m100 (m_cv (as := [.int 2, .int v4]) (rest := []) (Or.inl rfl) q3_m100 jv1604 (OF8_get e5) rfl rfl rfl rfl) (by decide) (SF8_get e5) rfl ?_
  cases h
  rw [k0 _ hK]
  exact g_iret rfl rfl
theorem OF3_landOfCargo {x0 : Nat} {x1 : Int32} {hp : m_H} {x : Int32} (h : F3_landOfCargo x0 x1 hp = some x) : m_isO hp 3 x0 = true := (m_gdd h).1
theorem SF3_landOfCargo {xs : Nat → Int32} {L : Nat} {x0 : Nat} {x1 : Int32} {hp : m_H} {x : Int32} (h : F3_landOfCargo x0 x1 hp = some x) : m_Rn xs L 3 635 0 (lv_args 0 [.ref x0, .int x1]) [] hp (.inl (some (.int x)), hp) :=
  r_lv (SF3_landOfCargo_0 x0 x1 hp (K := fun y => y = x) (fun y e => by rw [e]) (m_gdd h).2 rfl) rfl ⟨rfl, rfl, trivial⟩
-- F3_fits: LendHouse$House.fits(II)Z
theorem eF3_fits_0 : m_Fe mi3_34 0 (m_ap [(.aload_n 0, 1)] ((.getfield 35, 3) :: (m_ap [(.iload_n 1, 1), (.iconst 2, 1)] ((.invokevirtual 100, 3) :: (m_ap [(.istore_n 3, 1), (.aload_n 0, 1)] ((.getfield 29, 3) :: (m_ap [(.iload_n 2, 1), (.iconst 2, 1)] ((.invokevirtual 100, 3) :: (m_ap [(.istore 4, 2), (.iload_n 3, 1)] ([(.ifCond .ne 40, 3)])))))))))) := m_Fe_of nd634 0 14 rfl
theorem eF3_fits_62 : m_Fe mi3_34 62 (m_ap [(.iload_n 3, 1), (.iconst 2, 1)] ([(.if_icmp .ne 29, 3)])) := m_Fe_of nd634 33 3 rfl
theorem eF3_fits_93 : m_Fe mi3_34 93 (m_ap [(.iconst 0, 1)] ([])) := m_Fe_of nd634 49 1 rfl
theorem eF3_fits_94 : m_Fe mi3_34 94 ([(.ireturn, 1)]) := m_Fe_of nd634 50 1 rfl
theorem eF3_fits_67 : m_Fe mi3_34 67 (m_ap [(.aload_n 0, 1), (.iload_n 2, 1)] ((.invokevirtual 182, 3) :: ([(.ifCond .eq 21, 3)]))) := m_Fe_of nd634 36 4 rfl
theorem eF3_fits_75 : m_Fe mi3_34 75 (m_ap [(.aload_n 0, 1)] ((.getfield 35, 3) :: (m_ap [(.iload_n 1, 1), (.iconst 3, 1)] ((.invokevirtual 100, 3) :: (m_ap [(.iload 4, 2)] ([(.if_icmp .ne 7, 3)])))))) := m_Fe_of nd634 40 7 rfl
theorem eF3_fits_89 : m_Fe mi3_34 89 (m_ap [(.iconst 1, 1)] ([(.goto 4, 3)])) := m_Fe_of nd634 47 2 rfl
theorem eF3_fits_25 : m_Fe mi3_34 25 (m_ap [(.aload_n 0, 1), (.iload_n 2, 1)] ((.invokevirtual 176, 3) :: ([(.ifCond .eq 30, 3)]))) := m_Fe_of nd634 14 4 rfl
theorem eF3_fits_60 : m_Fe mi3_34 60 (m_ap [(.iconst 0, 1)] ([])) := m_Fe_of nd634 31 1 rfl
theorem eF3_fits_61 : m_Fe mi3_34 61 ([(.ireturn, 1)]) := m_Fe_of nd634 32 1 rfl
theorem eF3_fits_33 : m_Fe mi3_34 33 (m_ap [(.aload_n 0, 1)] ((.getfield 35, 3) :: (m_ap [(.iload_n 1, 1), (.bipush 6, 2)] ((.invokevirtual 100, 3) :: ([(.ifCond .eq 13, 3)]))))) := m_Fe_of nd634 18 6 rfl
theorem eF3_fits_56 : m_Fe mi3_34 56 (m_ap [(.iconst 1, 1)] ([(.goto 4, 3)])) := m_Fe_of nd634 29 2 rfl
theorem eF3_fits_46 : m_Fe mi3_34 46 (m_ap [(.aload_n 0, 1), (.iload_n 1, 1)] ((.invokevirtual 179, 3) :: (m_ap [(.iload 4, 2)] ([(.if_icmp .ne 7, 3)])))) := m_Fe_of nd634 24 5 rfl
theorem SF3_fits_0 {xs : Nat → Int32} {L : Nat} (x0 : Nat) (x1 : Int32) (x2 : Int32) (hp : m_H) {r : m_O × m_H} {K : Int32 → Prop} (k0 : ∀ x, K x → r = (.inl (some (.int x)), hp)) {t : Int32} (h : F3_fits_0 x0 x1 x2 hp = some t) (hK : K t) : m_Rn xs L 4 634 0 [(0, .ref x0), (1, .int x1), (2, .int x2)] [] hp r := by
  unfold F3_fits_0 at h
  refine g_in eF3_fits_0 mx634 ?_
  refine g_ch [(0, .ref x0), (1, .int x1), (2, .int x2)] [.ref x0] (pc' := 1) rfl rfl rfl ?_
  obtain ⟨v1, e2, h⟩ := m_bd h
  refine g_gr q3_f35 e2 ?_
  refine g_ch [(0, .ref x0), (1, .int x1), (2, .int x2)] [.int 2, .int x1, .ref v1] (pc' := 6) rfl rfl rfl ?_
  obtain ⟨v4, e3, h⟩ := m_bd h
  refine g_call (v := some (.int v4)) (h := hp) (st' := [.int v4]) (D1 := 1) (as := [.ref v1, .int x1, .int 2]) (Or.inr (Or.inl rfl)) q3_m100 (m_cv (as := [.int 2, .int x1]) (rest := []) (Or.inl rfl) q3_m100 jv1604 (OF8_get e3) rfl rfl rfl rfl) (by decide) (SF8_get e3) rfl ?_
  refine g_ch [(3, .int v4), (0, .ref x0), (1, .int x1), (2, .int x2)] [.ref x0] (pc' := 11) rfl rfl rfl ?_
  obtain ⟨v5, e6, h⟩ := m_bd h
  refine g_gr q3_f29 e6 ?_
  refine g_ch [(3, .int v4), (0, .ref x0), (1, .int x1), (2, .int x2)] [.int 2, .int x2, .ref v5] (pc' := 16) rfl rfl rfl ?_
  obtain ⟨v8, e7, h⟩ := m_bd h
  refine g_call (v := some (.int v8)) (h := hp) (st' := [.int v8]) (D1 := 1) (as := [.ref v5, .int x2, .int 2]) (Or.inr (Or.inl rfl)) q3_m100 (m_cv (as := [.int 2, .int x2]) (rest := []) (Or.inl rfl) q3_m100 jv1604 (OF8_get e7) rfl rfl rfl rfl) (by decide) (SF8_get e7) rfl ?_
  refine g_ch [(4, .int v8), (3, .int v4), (0, .ref x0), (1, .int x1), (2, .int x2)] [.int v4] (pc' := 22) rfl rfl rfl ?_
  rcases m_ifd h with ⟨c9, h⟩ | ⟨c9, h⟩
  · refine g_ifcn (t := 62) rfl (m_neF c9) ?_
    refine g_in eF3_fits_25 mx634 ?_
    refine g_ch [(4, .int v8), (3, .int v4), (0, .ref x0), (1, .int x1), (2, .int x2)] [.int x2, .ref x0] (pc' := 27) rfl rfl rfl ?_
    obtain ⟨v20, e19, h⟩ := m_bd h
    refine g_call (v := some (.int v20)) (h := hp) (st' := [.int v20]) (D1 := 2) (as := [.ref x0, .int x2]) (Or.inr (Or.inl rfl)) q3_m176 (m_cv (as := [.int x2]) (rest := []) (Or.inl rfl) q3_m176 jv614 (OF3_isLent e19) rfl rfl rfl rfl) (by decide) (SF3_isLent e19) rfl ?_
    rcases m_ifd h with ⟨c21, h⟩ | ⟨c21, h⟩
    · refine g_ifc (t := 60) rfl (m_eqT c21) ?_
      refine g_in eF3_fits_60 mx634 ?_
      refine g_ch [(4, .int v8), (3, .int v4), (0, .ref x0), (1, .int x1), (2, .int x2)] [.int 0] (pc' := 61) rfl rfl rfl ?_
      refine g_end ?_
      refine g_in eF3_fits_61 mx634 ?_
      cases h
      rw [k0 _ hK]
      exact g_iret rfl (by decide +kernel)
    · refine g_ifcn (t := 60) rfl (m_eqF c21) ?_
      refine g_in eF3_fits_33 mx634 ?_
      refine g_ch [(4, .int v8), (3, .int v4), (0, .ref x0), (1, .int x1), (2, .int x2)] [.ref x0] (pc' := 34) rfl rfl rfl ?_
      obtain ⟨v22, e23, h⟩ := m_bd h
      refine g_gr q3_f35 e23 ?_
      refine g_ch [(4, .int v8), (3, .int v4), (0, .ref x0), (1, .int x1), (2, .int x2)] [.int 6, .int x1, .ref v22] (pc' := 40) rfl rfl rfl ?_
      obtain ⟨v25, e24, h⟩ := m_bd h
      refine g_call (v := some (.int v25)) (h := hp) (st' := [.int v25]) (D1 := 1) (as := [.ref v22, .int x1, .int 6]) (Or.inr (Or.inl rfl)) q3_m100 (m_cv (as := [.int 6, .int x1]) (rest := []) (Or.inl rfl) q3_m100 jv1604 (OF8_get e24) rfl rfl rfl rfl) (by decide) (SF8_get e24) rfl ?_
      rcases m_ifd h with ⟨c26, h⟩ | ⟨c26, h⟩
      · refine g_ifc (t := 56) rfl (m_eqT c26) ?_
        refine g_in eF3_fits_56 mx634 ?_
        refine g_ch [(4, .int v8), (3, .int v4), (0, .ref x0), (1, .int x1), (2, .int x2)] [.int 1] (pc' := 57) rfl rfl rfl ?_
        refine g_goto (t := 61) rfl ?_
        refine g_in eF3_fits_61 mx634 ?_
        cases h
        rw [k0 _ hK]
        exact g_iret rfl (by decide +kernel)
      · refine g_ifcn (t := 56) rfl (m_eqF c26) ?_
        refine g_in eF3_fits_46 mx634 ?_
        refine g_ch [(4, .int v8), (3, .int v4), (0, .ref x0), (1, .int x1), (2, .int x2)] [.int x1, .ref x0] (pc' := 48) rfl rfl rfl ?_
        obtain ⟨v28, e27, h⟩ := m_bd h
        refine g_call (v := some (.int v28)) (h := hp) (st' := [.int v28]) (D1 := 3) (as := [.ref x0, .int x1]) (Or.inr (Or.inl rfl)) q3_m179 (m_cv (as := [.int x1]) (rest := []) (Or.inl rfl) q3_m179 jv635 (OF3_landOfCargo e27) rfl rfl rfl rfl) (by decide) (SF3_landOfCargo e27) rfl ?_
        refine g_ch [(4, .int v8), (3, .int v4), (0, .ref x0), (1, .int x1), (2, .int x2)] [.int v8, .int v28] (pc' := 53) rfl rfl rfl ?_
        rcases m_ifd h with ⟨c29, h⟩ | ⟨c29, h⟩
        · refine g_ifn (t := 60) rfl (m_neF c29) ?_
          refine g_in eF3_fits_56 mx634 ?_
          refine g_ch [(4, .int v8), (3, .int v4), (0, .ref x0), (1, .int x1), (2, .int x2)] [.int 1] (pc' := 57) rfl rfl rfl ?_
          refine g_goto (t := 61) rfl ?_
          refine g_in eF3_fits_61 mx634 ?_
          cases h
          rw [k0 _ hK]
          exact g_iret rfl (by decide +kernel)
        · refine g_if (t := 60) rfl (m_neT c29) ?_
          refine g_in eF3_fits_60 mx634 ?_
          refine g_ch [(4, .int v8), (3, .int v4), (0, .ref x0), (1, .int x1), (2, .int x2)] [.int 0] (pc' := 61) rfl rfl rfl ?_
          refine g_end ?_
          refine g_in eF3_fits_61 mx634 ?_
          cases h
          rw [k0 _ hK]
          exact g_iret rfl (by decide +kernel)
  · refine g_ifc (t := 62) rfl (m_neT c9) ?_
    refine g_in eF3_fits_62 mx634 ?_
    refine g_ch [(4, .int v8), (3, .int v4), (0, .ref x0), (1, .int x1), (2, .int x2)] [.int 2, .int v4] (pc' := 64) rfl rfl rfl ?_
    rcases m_ifd h with ⟨c10, h⟩ | ⟨c10, h⟩
    · refine g_ifn (t := 93) rfl (m_neF c10) ?_
      refine g_in eF3_fits_67 mx634 ?_
      refine g_ch [(4, .int v8), (3, .int v4), (0, .ref x0), (1, .int x1), (2, .int x2)] [.int x2, .ref x0] (pc' := 69) rfl rfl rfl ?_
      obtain ⟨v12, e11, h⟩ := m_bd h
      refine g_call (v := some (.int v12)) (h := hp) (st' := [.int v12]) (D1 := 2) (as := [.ref x0, .int x2]) (Or.inr (Or.inl rfl)) q3_m182 (m_cv (as := [.int x2]) (rest := []) (Or.inl rfl) q3_m182 jv613 (OF3_isBack e11) rfl rfl rfl rfl) (by decide) (SF3_isBack e11) rfl ?_
      rcases m_ifd h with ⟨c13, h⟩ | ⟨c13, h⟩
      · refine g_ifc (t := 93) rfl (m_eqT c13) ?_
        refine g_in eF3_fits_93 mx634 ?_
        refine g_ch [(4, .int v8), (3, .int v4), (0, .ref x0), (1, .int x1), (2, .int x2)] [.int 0] (pc' := 94) rfl rfl rfl ?_
        refine g_end ?_
        refine g_in eF3_fits_94 mx634 ?_
        cases h
        rw [k0 _ hK]
        exact g_iret rfl (by decide +kernel)
      · refine g_ifcn (t := 93) rfl (m_eqF c13) ?_
        refine g_in eF3_fits_75 mx634 ?_
        refine g_ch [(4, .int v8), (3, .int v4), (0, .ref x0), (1, .int x1), (2, .int x2)] [.ref x0] (pc' := 76) rfl rfl rfl ?_
        obtain ⟨v14, e15, h⟩ := m_bd h
        refine g_gr q3_f35 e15 ?_
        refine g_ch [(4, .int v8), (3, .int v4), (0, .ref x0), (1, .int x1), (2, .int x2)] [.int 3, .int x1, .ref v14] (pc' := 81) rfl rfl rfl ?_
        obtain ⟨v17, e16, h⟩ := m_bd h
        refine g_call (v := some (.int v17)) (h := hp) (st' := [.int v17]) (D1 := 1) (as := [.ref v14, .int x1, .int 3]) (Or.inr (Or.inl rfl)) q3_m100 (m_cv (as := [.int 3, .int x1]) (rest := []) (Or.inl rfl) q3_m100 jv1604 (OF8_get e16) rfl rfl rfl rfl) (by decide) (SF8_get e16) rfl ?_
        refine g_ch [(4, .int v8), (3, .int v4), (0, .ref x0), (1, .int x1), (2, .int x2)] [.int v8, .int v17] (pc' := 86) rfl rfl rfl ?_
        rcases m_ifd h with ⟨c18, h⟩ | ⟨c18, h⟩
        · refine g_ifn (t := 93) rfl (m_neF c18) ?_
          refine g_in eF3_fits_89 mx634 ?_
          refine g_ch [(4, .int v8), (3, .int v4), (0, .ref x0), (1, .int x1), (2, .int x2)] [.int 1] (pc' := 90) rfl rfl rfl ?_
          refine g_goto (t := 94) rfl ?_
          refine g_in eF3_fits_94 mx634 ?_
          cases h
          rw [k0 _ hK]
          exact g_iret rfl (by decide +kernel)
        · refine g_if (t := 93) rfl (m_neT c18) ?_
          refine g_in eF3_fits_93 mx634 ?_
          refine g_ch [(4, .int v8), (3, .int v4), (0, .ref x0), (1, .int x1), (2, .int x2)] [.int 0] (pc' := 94) rfl rfl rfl ?_
          refine g_end ?_
          refine g_in eF3_fits_94 mx634 ?_
          cases h
          rw [k0 _ hK]
          exact g_iret rfl (by decide +kernel)
    · refine g_if (t := 93) rfl (m_neT c10) ?_
      refine g_in eF3_fits_93 mx634 ?_
      refine g_ch [(4, .int v8), (3, .int v4), (0, .ref x0), (1, .int x1), (2, .int x2)] [.int 0] (pc' := 94) rfl rfl rfl ?_
      refine g_end ?_
      refine g_in eF3_fits_94 mx634 ?_
      cases h
      rw [k0 _ hK]
      exact g_iret rfl (by decide +kernel)
theorem OF3_fits {x0 : Nat} {x1 : Int32} {x2 : Int32} {hp : m_H} {x : Int32} (h : F3_fits x0 x1 x2 hp = some x) : m_isO hp 3 x0 = true := (m_gdd h).1
theorem SF3_fits {xs : Nat → Int32} {L : Nat} {x0 : Nat} {x1 : Int32} {x2 : Int32} {hp : m_H} {x : Int32} (h : F3_fits x0 x1 x2 hp = some x) : m_Rn xs L 4 634 0 (lv_args 0 [.ref x0, .int x1, .int x2]) [] hp (.inl (some (.int x)), hp) :=
  r_lv (SF3_fits_0 x0 x1 x2 hp (K := fun y => y = x) (fun y e => by rw [e]) (m_gdd h).2 rfl) rfl ⟨rfl, rfl, rfl, trivial⟩
-- F3_mayLoad: LendHouse$House.mayLoad(III)Z
theorem eF3_mayLoad_0 : m_Fe mi3_33 0 (m_ap [(.aload_n 0, 1)] ((.getfield 35, 3) :: (m_ap [(.iload_n 1, 1), (.iconst 2, 1)] ((.invokevirtual 100, 3) :: ([(.ifCond .ne 7, 3)]))))) := m_Fe_of nd633 0 6 rfl
theorem eF3_mayLoad_16 : m_Fe mi3_33 16 (m_ap [(.iconst 3, 1)] ([])) := m_Fe_of nd633 8 1 rfl
theorem eF3_mayLoad_12 : m_Fe mi3_33 12 (m_ap [(.iconst 1, 1)] ([(.goto 4, 3)])) := m_Fe_of nd633 6 2 rfl
theorem eF3_mayLoad_17 : m_Fe mi3_33 17 (m_ap [(.istore 4, 2), (.aload_n 0, 1), (.iload_n 1, 1), (.iload_n 2, 1)] ((.invokevirtual 166, 3) :: ([(.ifCond .eq 30, 3)]))) := m_Fe_of nd633 9 6 rfl
theorem eF3_mayLoad_55 : m_Fe mi3_33 55 (m_ap [(.iconst 0, 1)] ([(.ireturn, 1)])) := m_Fe_of nd633 30 2 rfl
theorem eF3_mayLoad_28 : m_Fe mi3_33 28 (m_ap [(.iload_n 3, 1), (.iconst 1, 1)] ([(.if_icmp .lt 25, 3)])) := m_Fe_of nd633 15 3 rfl
theorem eF3_mayLoad_33 : m_Fe mi3_33 33 (m_ap [(.iload_n 3, 1), (.aload_n 0, 1), (.iload_n 2, 1), (.iload 4, 2)] ((.invokevirtual 129, 3) :: ([(.if_icmp .gt 14, 3)]))) := m_Fe_of nd633 18 6 rfl
theorem eF3_mayLoad_44 : m_Fe mi3_33 44 (m_ap [(.aload_n 0, 1), (.iload_n 1, 1), (.iload_n 2, 1)] ((.invokevirtual 170, 3) :: (m_ap [(.bipush 8, 2)] ([(.if_icmp .lt 5, 3)])))) := m_Fe_of nd633 24 6 rfl
theorem eF3_mayLoad_57 : m_Fe mi3_33 57 (m_ap [(.aload_n 0, 1), (.iload_n 1, 1)] ((.invokevirtual 173, 3) :: (m_ap [(.iload_n 3, 1), (.aload_n 0, 1), (.iload_n 2, 1)] ((.invokevirtual 163, 3) :: (m_ap [(.imul, 1), (.iadd, 1), (.aload_n 0, 1)] ((.getfield 35, 3) :: (m_ap [(.iload_n 1, 1), (.iconst 0, 1)] ((.invokevirtual 100, 3) :: ([(.if_icmp .gt 7, 3)]))))))))) := m_Fe_of nd633 32 15 rfl
theorem eF3_mayLoad_86 : m_Fe mi3_33 86 (m_ap [(.iconst 0, 1)] ([])) := m_Fe_of nd633 49 1 rfl
theorem eF3_mayLoad_87 : m_Fe mi3_33 87 ([(.ireturn, 1)]) := m_Fe_of nd633 50 1 rfl
theorem eF3_mayLoad_82 : m_Fe mi3_33 82 (m_ap [(.iconst 1, 1)] ([(.goto 4, 3)])) := m_Fe_of nd633 47 2 rfl
theorem SF3_mayLoad_17 {xs : Nat → Int32} {L : Nat} (x0 : Nat) (x1 : Int32) (x2 : Int32) (x3 : Int32) (s0 : Int32) (hp : m_H) {r : m_O × m_H} {K : Int32 → Prop} (k0 : ∀ x, K x → r = (.inl (some (.int x)), hp)) {t : Int32} (h : F3_mayLoad_17 x0 x1 x2 x3 s0 hp = some t) (hK : K t) : m_Rn xs L 8 633 17 [(0, .ref x0), (1, .int x1), (2, .int x2), (3, .int x3)] [.int s0] hp r := by
  unfold F3_mayLoad_17 at h
  refine g_in eF3_mayLoad_17 mx633 ?_
  refine g_ch [(4, .int s0), (0, .ref x0), (1, .int x1), (2, .int x2), (3, .int x3)] [.int x2, .int x1, .ref x0] (pc' := 22) rfl rfl rfl ?_
  obtain ⟨v2, e1, h⟩ := m_bd h
  refine g_call (v := some (.int v2)) (h := hp) (st' := [.int v2]) (D1 := 4) (as := [.ref x0, .int x1, .int x2]) (Or.inr (Or.inl rfl)) q3_m166 (m_cv (as := [.int x2, .int x1]) (rest := []) (Or.inl rfl) q3_m166 jv634 (OF3_fits e1) rfl rfl rfl rfl) (by decide) (SF3_fits e1) rfl ?_
  rcases m_ifd h with ⟨c3, h⟩ | ⟨c3, h⟩
  · refine g_ifc (t := 55) rfl (m_eqT c3) ?_
    refine g_in eF3_mayLoad_55 mx633 ?_
    refine g_ch [(4, .int s0), (0, .ref x0), (1, .int x1), (2, .int x2), (3, .int x3)] [.int 0] (pc' := 56) rfl rfl rfl ?_
    cases h
    rw [k0 _ hK]
    exact g_iret rfl (by decide +kernel)
  · refine g_ifcn (t := 55) rfl (m_eqF c3) ?_
    refine g_in eF3_mayLoad_28 mx633 ?_
    refine g_ch [(4, .int s0), (0, .ref x0), (1, .int x1), (2, .int x2), (3, .int x3)] [.int 1, .int x3] (pc' := 30) rfl rfl rfl ?_
    rcases m_ifd h with ⟨c4, h⟩ | ⟨c4, h⟩
    · refine g_if (t := 55) rfl (m_ltT c4) ?_
      refine g_in eF3_mayLoad_55 mx633 ?_
      refine g_ch [(4, .int s0), (0, .ref x0), (1, .int x1), (2, .int x2), (3, .int x3)] [.int 0] (pc' := 56) rfl rfl rfl ?_
      cases h
      rw [k0 _ hK]
      exact g_iret rfl (by decide +kernel)
    · refine g_ifn (t := 55) rfl (m_ltF c4) ?_
      refine g_in eF3_mayLoad_33 mx633 ?_
      refine g_ch [(4, .int s0), (0, .ref x0), (1, .int x1), (2, .int x2), (3, .int x3)] [.int s0, .int x2, .ref x0, .int x3] (pc' := 38) rfl rfl rfl ?_
      obtain ⟨v6, e5, h⟩ := m_bd h
      refine g_call (v := some (.int v6)) (h := hp) (st' := [.int v6, .int x3]) (D1 := 2) (as := [.ref x0, .int x2, .int s0]) (Or.inr (Or.inl rfl)) q3_m129 (m_cv (as := [.int s0, .int x2]) (rest := [.int x3]) (Or.inl rfl) q3_m129 jv616 (OF3_crates e5) rfl rfl rfl rfl) (by decide) (SF3_crates e5) rfl ?_
      rcases m_ifd h with ⟨c7, h⟩ | ⟨c7, h⟩
      · refine g_if (t := 55) rfl (m_gtT c7) ?_
        refine g_in eF3_mayLoad_55 mx633 ?_
        refine g_ch [(4, .int s0), (0, .ref x0), (1, .int x1), (2, .int x2), (3, .int x3)] [.int 0] (pc' := 56) rfl rfl rfl ?_
        cases h
        rw [k0 _ hK]
        exact g_iret rfl (by decide +kernel)
      · refine g_ifn (t := 55) rfl (m_gtF c7) ?_
        refine g_in eF3_mayLoad_44 mx633 ?_
        refine g_ch [(4, .int s0), (0, .ref x0), (1, .int x1), (2, .int x2), (3, .int x3)] [.int x2, .int x1, .ref x0] (pc' := 47) rfl rfl rfl ?_
        obtain ⟨v9, e8, h⟩ := m_bd h
        refine g_call (v := some (.int v9)) (h := hp) (st' := [.int v9]) (D1 := 7) (as := [.ref x0, .int x1, .int x2]) (Or.inr (Or.inl rfl)) q3_m170 (m_cv (as := [.int x2, .int x1]) (rest := []) (Or.inl rfl) q3_m170 jv632 (OF3_slotFor e8) rfl rfl rfl rfl) (by decide) (SF3_slotFor e8) rfl ?_
        refine g_ch [(4, .int s0), (0, .ref x0), (1, .int x1), (2, .int x2), (3, .int x3)] [.int 8, .int v9] (pc' := 52) rfl rfl rfl ?_
        rcases m_ifd h with ⟨c10, h⟩ | ⟨c10, h⟩
        · refine g_if (t := 57) rfl (m_ltT c10) ?_
          refine g_in eF3_mayLoad_57 mx633 ?_
          refine g_ch [(4, .int s0), (0, .ref x0), (1, .int x1), (2, .int x2), (3, .int x3)] [.int x1, .ref x0] (pc' := 59) rfl rfl rfl ?_
          obtain ⟨v12, e11, h⟩ := m_bd h
          refine g_call (v := some (.int v12)) (h := hp) (st' := [.int v12]) (D1 := 3) (as := [.ref x0, .int x1]) (Or.inr (Or.inl rfl)) q3_m173 (m_cv (as := [.int x1]) (rest := []) (Or.inl rfl) q3_m173 jv630 (OF3_tonsAboard e11) rfl rfl rfl rfl) (by decide) (SF3_tonsAboard e11) rfl ?_
          refine g_ch [(4, .int s0), (0, .ref x0), (1, .int x1), (2, .int x2), (3, .int x3)] [.int x2, .ref x0, .int x3, .int v12] (pc' := 65) rfl rfl rfl ?_
          obtain ⟨v14, e13, h⟩ := m_bd h
          refine g_call (v := some (.int v14)) (h := hp) (st' := [.int v14, .int x3, .int v12]) (D1 := 2) (as := [.ref x0, .int x2]) (Or.inr (Or.inl rfl)) q3_m163 (m_cv (as := [.int x2]) (rest := [.int x3, .int v12]) (Or.inl rfl) q3_m163 jv631 (OF3_tonsOf e13) rfl rfl rfl rfl) (by decide) (SF3_tonsOf e13) rfl ?_
          refine g_ch [(4, .int s0), (0, .ref x0), (1, .int x1), (2, .int x2), (3, .int x3)] [.ref x0, .int (v12 + (x3 * v14))] (pc' := 71) rfl rfl rfl ?_
          obtain ⟨v15, e16, h⟩ := m_bd h
          refine g_gr q3_f35 e16 ?_
          refine g_ch [(4, .int s0), (0, .ref x0), (1, .int x1), (2, .int x2), (3, .int x3)] [.int 0, .int x1, .ref v15, .int (v12 + (x3 * v14))] (pc' := 76) rfl rfl rfl ?_
          obtain ⟨v18, e17, h⟩ := m_bd h
          refine g_call (v := some (.int v18)) (h := hp) (st' := [.int v18, .int (v12 + (x3 * v14))]) (D1 := 1) (as := [.ref v15, .int x1, .int 0]) (Or.inr (Or.inl rfl)) q3_m100 (m_cv (as := [.int 0, .int x1]) (rest := [.int (v12 + (x3 * v14))]) (Or.inl rfl) q3_m100 jv1604 (OF8_get e17) rfl rfl rfl rfl) (by decide) (SF8_get e17) rfl ?_
          rcases m_ifd h with ⟨c19, h⟩ | ⟨c19, h⟩
          · refine g_if (t := 86) rfl (m_gtT c19) ?_
            refine g_in eF3_mayLoad_86 mx633 ?_
            refine g_ch [(4, .int s0), (0, .ref x0), (1, .int x1), (2, .int x2), (3, .int x3)] [.int 0] (pc' := 87) rfl rfl rfl ?_
            refine g_end ?_
            refine g_in eF3_mayLoad_87 mx633 ?_
            cases h
            rw [k0 _ hK]
            exact g_iret rfl (by decide +kernel)
          · refine g_ifn (t := 86) rfl (m_gtF c19) ?_
            refine g_in eF3_mayLoad_82 mx633 ?_
            refine g_ch [(4, .int s0), (0, .ref x0), (1, .int x1), (2, .int x2), (3, .int x3)] [.int 1] (pc' := 83) rfl rfl rfl ?_
            refine g_goto (t := 87) rfl ?_
            refine g_in eF3_mayLoad_87 mx633 ?_
            cases h
            rw [k0 _ hK]
            exact g_iret rfl (by decide +kernel)
        · refine g_ifn (t := 57) rfl (m_ltF c10) ?_
          refine g_in eF3_mayLoad_55 mx633 ?_
          refine g_ch [(4, .int s0), (0, .ref x0), (1, .int x1), (2, .int x2), (3, .int x3)] [.int 0] (pc' := 56) rfl rfl rfl ?_
          cases h
          rw [k0 _ hK]
          exact g_iret rfl (by decide +kernel)
theorem SF3_mayLoad_0 {xs : Nat → Int32} {L : Nat} (x0 : Nat) (x1 : Int32) (x2 : Int32) (x3 : Int32) (hp : m_H) {r : m_O × m_H} {K : Int32 → Prop} (k0 : ∀ x, K x → r = (.inl (some (.int x)), hp)) {t : Int32} (h : F3_mayLoad_0 x0 x1 x2 x3 hp = some t) (hK : K t) : m_Rn xs L 8 633 0 [(0, .ref x0), (1, .int x1), (2, .int x2), (3, .int x3)] [] hp r := by
  unfold F3_mayLoad_0 at h
  refine g_in eF3_mayLoad_0 mx633 ?_
  refine g_ch [(0, .ref x0), (1, .int x1), (2, .int x2), (3, .int x3)] [.ref x0] (pc' := 1) rfl rfl rfl ?_
  obtain ⟨v1, e2, h⟩ := m_bd h
  refine g_gr q3_f35 e2 ?_
  refine g_ch [(0, .ref x0), (1, .int x1), (2, .int x2), (3, .int x3)] [.int 2, .int x1, .ref v1] (pc' := 6) rfl rfl rfl ?_
  obtain ⟨v4, e3, h⟩ := m_bd h
  refine g_call (v := some (.int v4)) (h := hp) (st' := [.int v4]) (D1 := 1) (as := [.ref v1, .int x1, .int 2]) (Or.inr (Or.inl rfl)) q3_m100 (m_cv (as := [.int 2, .int x1]) (rest := []) (Or.inl rfl) q3_m100 jv1604 (OF8_get e3) rfl rfl rfl rfl) (by decide) (SF8_get e3) rfl ?_
  rcases m_ifd h with ⟨c5, h⟩ | ⟨c5, h⟩
  · refine g_ifcn (t := 16) rfl (m_neF c5) ?_
    refine g_in eF3_mayLoad_12 mx633 ?_
    refine g_ch [(0, .ref x0), (1, .int x1), (2, .int x2), (3, .int x3)] [.int 1] (pc' := 13) rfl rfl rfl ?_
    refine g_goto (t := 17) rfl ?_
    exact r_lv (SF3_mayLoad_17 x0 x1 x2 x3 1 hp (K := K) k0 h hK) rfl ⟨rfl, rfl, rfl, rfl, trivial⟩
  · refine g_ifc (t := 16) rfl (m_neT c5) ?_
    refine g_in eF3_mayLoad_16 mx633 ?_
    refine g_ch [(0, .ref x0), (1, .int x1), (2, .int x2), (3, .int x3)] [.int 3] (pc' := 17) rfl rfl rfl ?_
    refine g_end ?_
    exact r_lv (SF3_mayLoad_17 x0 x1 x2 x3 3 hp (K := K) k0 h hK) rfl ⟨rfl, rfl, rfl, rfl, trivial⟩
theorem OF3_mayLoad {x0 : Nat} {x1 : Int32} {x2 : Int32} {x3 : Int32} {hp : m_H} {x : Int32} (h : F3_mayLoad x0 x1 x2 x3 hp = some x) : m_isO hp 3 x0 = true := (m_gdd h).1
theorem SF3_mayLoad {xs : Nat → Int32} {L : Nat} {x0 : Nat} {x1 : Int32} {x2 : Int32} {x3 : Int32} {hp : m_H} {x : Int32} (h : F3_mayLoad x0 x1 x2 x3 hp = some x) : m_Rn xs L 8 633 0 (lv_args 0 [.ref x0, .int x1, .int x2, .int x3]) [] hp (.inl (some (.int x)), hp) :=
  r_lv (SF3_mayLoad_0 x0 x1 x2 x3 hp (K := fun y => y = x) (fun y e => by rw [e]) (m_gdd h).2 rfl) rfl ⟨rfl, rfl, rfl, rfl, trivial⟩
-- F3_putAboard: LendHouse$House.putAboard(III)V
theorem eF3_putAboard_0 : m_Fe mi3_36 0 (m_ap [(.aload_n 0, 1), (.iload_n 2, 1), (.iload_n 3, 1), (.aload_n 0, 1)] ((.getfield 35, 3) :: (m_ap [(.iload_n 1, 1), (.iconst 2, 1)] ((.invokevirtual 100, 3) :: ([(.ifCond .ne 7, 3)]))))) := m_Fe_of nd636 0 9 rfl
theorem eF3_putAboard_19 : m_Fe mi3_36 19 (m_ap [(.iconst 3, 1)] ([])) := m_Fe_of nd636 11 1 rfl
theorem eF3_putAboard_15 : m_Fe mi3_36 15 (m_ap [(.iconst 1, 1)] ([(.goto 4, 3)])) := m_Fe_of nd636 9 2 rfl
theorem eF3_putAboard_20 : m_Fe mi3_36 20 (m_ap [(.iconst 2, 1)] ((.invokevirtual 147, 3) :: (m_ap [(.aload_n 0, 1), (.iload_n 1, 1), (.iload_n 2, 1)] ((.invokevirtual 170, 3) :: (m_ap [(.istore 4, 2), (.iload 4, 2), (.aload_n 0, 1)] ((.getfield 35, 3) :: (m_ap [(.iload_n 1, 1), (.bipush 6, 2)] ((.invokevirtual 100, 3) :: ([(.if_icmp .ne 48, 3)]))))))))) := m_Fe_of nd636 12 14 rfl
theorem eF3_putAboard_47 : m_Fe mi3_36 47 (m_ap [(.aload_n 0, 1)] ((.getfield 35, 3) :: (m_ap [(.iload_n 1, 1), (.bipush 6, 2), (.iconst 1, 1)] ((.invokevirtual 122, 3) :: (m_ap [(.aload_n 0, 1)] ((.getfield 35, 3) :: (m_ap [(.iload_n 1, 1), (.bipush 7, 2), (.iconst 2, 1), (.iload 4, 2), (.imul, 1), (.iadd, 1), (.iload_n 2, 1)] ((.invokevirtual 72, 3) :: (m_ap [(.aload_n 0, 1)] ((.getfield 35, 3) :: (m_ap [(.iload_n 1, 1), (.bipush 7, 2), (.iconst 2, 1), (.iload 4, 2), (.imul, 1), (.iadd, 1), (.iconst 1, 1), (.iadd, 1)] (m_ap [(.iconst 0, 1)] ([(.invokevirtual 72, 3)]))))))))))))) := m_Fe_of nd636 26 28 rfl
theorem eF3_putAboard_92 : m_Fe mi3_36 92 (m_ap [(.aload_n 0, 1)] ((.getfield 35, 3) :: (m_ap [(.iload_n 1, 1), (.bipush 7, 2), (.iconst 2, 1), (.iload 4, 2), (.imul, 1), (.iadd, 1), (.iconst 1, 1), (.iadd, 1)] (m_ap [(.iload_n 3, 1)] ((.invokevirtual 122, 3) :: ([(.return_, 1)])))))) := m_Fe_of nd636 54 13 rfl
theorem SF3_putAboard_92 {xs : Nat → Int32} {L : Nat} (x0 : Nat) (x1 : Int32) (x3 : Int32) (x4 : Int32) (hp : m_H) {r : m_O × m_H} {K : m_H → Prop} (k0 : ∀ x, K x → r = (.inl none, x)) {t : m_H} (h : F3_putAboard_92 x0 x1 x3 x4 hp = some t) (hK : K t) : m_Rn xs L 8 636 92 [(0, .ref x0), (1, .int x1), (3, .int x3), (4, .int x4)] [] hp r := by
  unfold F3_putAboard_92 at h
  refine g_in eF3_putAboard_92 mx636 ?_
  refine g_ch [(0, .ref x0), (1, .int x1), (3, .int x3), (4, .int x4)] [.ref x0] (pc' := 93) rfl rfl rfl ?_
  obtain ⟨v1, e2, h⟩ := m_bd h
  refine g_gr q3_f35 e2 ?_
  refine g_ch [(0, .ref x0), (1, .int x1), (3, .int x3), (4, .int x4)] [.int ((7 + (2 * x4)) + 1), .int x1, .ref v1] (pc' := 106) rfl rfl rfl ?_
  refine g_ch [(0, .ref x0), (1, .int x1), (3, .int x3), (4, .int x4)] [.int x3, .int ((7 + (2 * x4)) + 1), .int x1, .ref v1] (pc' := 107) rfl rfl rfl ?_
  obtain ⟨h4, e3, h⟩ := m_bd h
  refine g_call (v := none) (h := h4) (st' := []) (D1 := 1) (as := [.ref v1, .int x1, .int ((7 + (2 * x4)) + 1), .int x3]) (Or.inr (Or.inl rfl)) q3_m122 (m_cv (as := [.int x3, .int ((7 + (2 * x4)) + 1), .int x1]) (rest := []) (Or.inl rfl) q3_m122 jv1606 (OF8_raise e3) rfl rfl rfl rfl) (by decide) (SF8_raise e3) rfl ?_
  cases h
  rw [k0 _ hK]
  exact g_vret rfl
theorem SF3_putAboard_20 {xs : Nat → Int32} {L : Nat} (x0 : Nat) (x1 : Int32) (x2 : Int32) (x3 : Int32) (s0 : Int32) (s1 : Int32) (s2 : Int32) (s3 : Nat) (hp : m_H) {r : m_O × m_H} {K : m_H → Prop} (k0 : ∀ x, K x → r = (.inl none, x)) {t : m_H} (h : F3_putAboard_20 x0 x1 x2 x3 s0 s1 s2 s3 hp = some t) (hK : K t) : m_Rn xs L 8 636 20 [(0, .ref x0), (1, .int x1), (2, .int x2), (3, .int x3)] [.int s0, .int s1, .int s2, .ref s3] hp r := by
  unfold F3_putAboard_20 at h
  refine g_in eF3_putAboard_20 mx636 ?_
  refine g_ch [(0, .ref x0), (1, .int x1), (2, .int x2), (3, .int x3)] [.int 2, .int s0, .int s1, .int s2, .ref s3] (pc' := 21) rfl rfl rfl ?_
  obtain ⟨h2, e1, h⟩ := m_bd h
  refine g_call (v := none) (h := h2) (st' := []) (D1 := 2) (as := [.ref s3, .int s2, .int s1, .int s0, .int 2]) (Or.inr (Or.inl rfl)) q3_m147 (m_cv (as := [.int 2, .int s0, .int s1, .int s2]) (rest := []) (Or.inl rfl) q3_m147 jv617 (OF3_move e1) rfl rfl rfl rfl) (by decide) (SF3_move e1) rfl ?_
  refine g_ch [(0, .ref x0), (1, .int x1), (2, .int x2), (3, .int x3)] [.int x2, .int x1, .ref x0] (pc' := 27) rfl rfl rfl ?_
  obtain ⟨v4, e3, h⟩ := m_bd h
  refine g_call (v := some (.int v4)) (h := h2) (st' := [.int v4]) (D1 := 7) (as := [.ref x0, .int x1, .int x2]) (Or.inr (Or.inl rfl)) q3_m170 (m_cv (as := [.int x2, .int x1]) (rest := []) (Or.inl rfl) q3_m170 jv632 (OF3_slotFor e3) rfl rfl rfl rfl) (by decide) (SF3_slotFor e3) rfl ?_
  refine g_ch [(4, .int v4), (0, .ref x0), (1, .int x1), (2, .int x2), (3, .int x3)] [.ref x0, .int v4] (pc' := 35) rfl rfl rfl ?_
  obtain ⟨v5, e6, h⟩ := m_bd h
  refine g_gr q3_f35 e6 ?_
  refine g_ch [(4, .int v4), (0, .ref x0), (1, .int x1), (2, .int x2), (3, .int x3)] [.int 6, .int x1, .ref v5, .int v4] (pc' := 41) rfl rfl rfl ?_
  obtain ⟨v8, e7, h⟩ := m_bd h
  refine g_call (v := some (.int v8)) (h := h2) (st' := [.int v8, .int v4]) (D1 := 1) (as := [.ref v5, .int x1, .int 6]) (Or.inr (Or.inl rfl)) q3_m100 (m_cv (as := [.int 6, .int x1]) (rest := [.int v4]) (Or.inl rfl) q3_m100 jv1604 (OF8_get e7) rfl rfl rfl rfl) (by decide) (SF8_get e7) rfl ?_
  rcases m_ifd h with ⟨c9, h⟩ | ⟨c9, h⟩
  · refine g_ifn (t := 92) rfl (m_neF c9) ?_
    refine g_in eF3_putAboard_47 mx636 ?_
    refine g_ch [(4, .int v4), (0, .ref x0), (1, .int x1), (2, .int x2), (3, .int x3)] [.ref x0] (pc' := 48) rfl rfl rfl ?_
    obtain ⟨v10, e11, h⟩ := m_bd h
    refine g_gr q3_f35 e11 ?_
    refine g_ch [(4, .int v4), (0, .ref x0), (1, .int x1), (2, .int x2), (3, .int x3)] [.int 1, .int 6, .int x1, .ref v10] (pc' := 55) rfl rfl rfl ?_
    obtain ⟨h13, e12, h⟩ := m_bd h
    refine g_call (v := none) (h := h13) (st' := []) (D1 := 1) (as := [.ref v10, .int x1, .int 6, .int 1]) (Or.inr (Or.inl rfl)) q3_m122 (m_cv (as := [.int 1, .int 6, .int x1]) (rest := []) (Or.inl rfl) q3_m122 jv1606 (OF8_raise e12) rfl rfl rfl rfl) (by decide) (SF8_raise e12) rfl ?_
    refine g_ch [(4, .int v4), (0, .ref x0), (1, .int x1), (2, .int x2), (3, .int x3)] [.ref x0] (pc' := 59) rfl rfl rfl ?_
    obtain ⟨v14, e15, h⟩ := m_bd h
    refine g_gr q3_f35 e15 ?_
    refine g_ch [(4, .int v4), (0, .ref x0), (1, .int x1), (2, .int x2), (3, .int x3)] [.int x2, .int (7 + (2 * v4)), .int x1, .ref v14] (pc' := 71) rfl rfl rfl ?_
    obtain ⟨h17, e16, h⟩ := m_bd h
    refine g_call (v := none) (h := h17) (st' := []) (D1 := 1) (as := [.ref v14, .int x1, .int (7 + (2 * v4)), .int x2]) (Or.inr (Or.inl rfl)) q3_m72 (m_cv (as := [.int x2, .int (7 + (2 * v4)), .int x1]) (rest := []) (Or.inl rfl) q3_m72 jv1605 (OF8_set e16) rfl rfl rfl rfl) (by decide) (SF8_set e16) rfl ?_
    refine g_ch [(4, .int v4), (0, .ref x0), (1, .int x1), (2, .int x2), (3, .int x3)] [.ref x0] (pc' := 75) rfl rfl rfl ?_
    obtain ⟨v18, e19, h⟩ := m_bd h
    refine g_gr q3_f35 e19 ?_
    refine g_ch [(4, .int v4), (0, .ref x0), (1, .int x1), (2, .int x2), (3, .int x3)] [.int ((7 + (2 * v4)) + 1), .int x1, .ref v18] (pc' := 88) rfl rfl rfl ?_
    refine g_ch [(4, .int v4), (0, .ref x0), (1, .int x1), (2, .int x2), (3, .int x3)] [.int 0, .int ((7 + (2 * v4)) + 1), .int x1, .ref v18] (pc' := 89) rfl rfl rfl ?_
    obtain ⟨h21, e20, h⟩ := m_bd h
    refine g_call (v := none) (h := h21) (st' := []) (D1 := 1) (as := [.ref v18, .int x1, .int ((7 + (2 * v4)) + 1), .int 0]) (Or.inr (Or.inl rfl)) q3_m72 (m_cv (as := [.int 0, .int ((7 + (2 * v4)) + 1), .int x1]) (rest := []) (Or.inl rfl) q3_m72 jv1605 (OF8_set e20) rfl rfl rfl rfl) (by decide) (SF8_set e20) rfl ?_
    refine g_end ?_
    exact r_lv (SF3_putAboard_92 x0 x1 x3 v4 h21 (K := K) k0 h hK) rfl ⟨rfl, rfl, rfl, rfl, trivial⟩
  · refine g_if (t := 92) rfl (m_neT c9) ?_
    exact r_lv (SF3_putAboard_92 x0 x1 x3 v4 h2 (K := K) k0 h hK) rfl ⟨rfl, rfl, rfl, rfl, trivial⟩
theorem SF3_putAboard_0 {xs : Nat → Int32} {L : Nat} (x0 : Nat) (x1 : Int32) (x2 : Int32) (x3 : Int32) (hp : m_H) {r : m_O × m_H} {K : m_H → Prop} (k0 : ∀ x, K x → r = (.inl none, x)) {t : m_H} (h : F3_putAboard_0 x0 x1 x2 x3 hp = some t) (hK : K t) : m_Rn xs L 8 636 0 [(0, .ref x0), (1, .int x1), (2, .int x2), (3, .int x3)] [] hp r := by
  unfold F3_putAboard_0 at h
  refine g_in eF3_putAboard_0 mx636 ?_
  refine g_ch [(0, .ref x0), (1, .int x1), (2, .int x2), (3, .int x3)] [.ref x0, .int x3, .int x2, .ref x0] (pc' := 4) rfl rfl rfl ?_
  obtain ⟨v1, e2, h⟩ := m_bd h
  refine g_gr q3_f35 e2 ?_
  refine g_ch [(0, .ref x0), (1, .int x1), (2, .int x2), (3, .int x3)] [.int 2, .int x1, .ref v1, .int x3, .int x2, .ref x0] (pc' := 9) rfl rfl rfl ?_
  obtain ⟨v4, e3, h⟩ := m_bd h
  refine g_call (v := some (.int v4)) (h := hp) (st' := [.int v4, .int x3, .int x2, .ref x0]) (D1 := 1) (as := [.ref v1, .int x1, .int 2]) (Or.inr (Or.inl rfl)) q3_m100 (m_cv (as := [.int 2, .int x1]) (rest := [.int x3, .int x2, .ref x0]) (Or.inl rfl) q3_m100 jv1604 (OF8_get e3) rfl rfl rfl rfl) (by decide) (SF8_get e3) rfl ?_
  rcases m_ifd h with ⟨c5, h⟩ | ⟨c5, h⟩
  · refine g_ifcn (t := 19) rfl (m_neF c5) ?_
    refine g_in eF3_putAboard_15 mx636 ?_
    refine g_ch [(0, .ref x0), (1, .int x1), (2, .int x2), (3, .int x3)] [.int 1, .int x3, .int x2, .ref x0] (pc' := 16) rfl rfl rfl ?_
    refine g_goto (t := 20) rfl ?_
    exact r_lv (SF3_putAboard_20 x0 x1 x2 x3 1 x3 x2 x0 hp (K := K) k0 h hK) rfl ⟨rfl, rfl, rfl, rfl, trivial⟩
  · refine g_ifc (t := 19) rfl (m_neT c5) ?_
    refine g_in eF3_putAboard_19 mx636 ?_
    refine g_ch [(0, .ref x0), (1, .int x1), (2, .int x2), (3, .int x3)] [.int 3, .int x3, .int x2, .ref x0] (pc' := 20) rfl rfl rfl ?_
    refine g_end ?_
    exact r_lv (SF3_putAboard_20 x0 x1 x2 x3 3 x3 x2 x0 hp (K := K) k0 h hK) rfl ⟨rfl, rfl, rfl, rfl, trivial⟩
theorem OF3_putAboard {x0 : Nat} {x1 : Int32} {x2 : Int32} {x3 : Int32} {hp : m_H} {x : m_H} (h : F3_putAboard x0 x1 x2 x3 hp = some x) : m_isO hp 3 x0 = true := (m_gdd h).1
theorem SF3_putAboard {xs : Nat → Int32} {L : Nat} {x0 : Nat} {x1 : Int32} {x2 : Int32} {x3 : Int32} {hp : m_H} {x : m_H} (h : F3_putAboard x0 x1 x2 x3 hp = some x) : m_Rn xs L 8 636 0 (lv_args 0 [.ref x0, .int x1, .int x2, .int x3]) [] hp (.inl none, x) :=
  r_lv (SF3_putAboard_0 x0 x1 x2 x3 hp (K := fun y => y = x) (fun y e => by rw [e]) (m_gdd h).2 rfl) rfl ⟨rfl, rfl, rfl, rfl, trivial⟩
-- F3_maySail: LendHouse$House.maySail(II)Z
theorem eF3_maySail_0 : m_Fe mi3_37 0 (m_ap [(.aload_n 0, 1)] ((.getfield 35, 3) :: (m_ap [(.iload_n 1, 1), (.iconst 2, 1)] ((.invokevirtual 100, 3) :: (m_ap [(.istore_n 3, 1), (.iload_n 3, 1)] ([(.ifCond .ne 35, 3)])))))) := m_Fe_of nd637 0 8 rfl
theorem eF3_maySail_46 : m_Fe mi3_37 46 (m_ap [(.iload_n 3, 1), (.iconst 2, 1)] ([(.if_icmp .ne 11, 3)])) := m_Fe_of nd637 25 3 rfl
theorem eF3_maySail_59 : m_Fe mi3_37 59 (m_ap [(.iconst 0, 1)] ([])) := m_Fe_of nd637 32 1 rfl
theorem eF3_maySail_60 : m_Fe mi3_37 60 ([(.ireturn, 1)]) := m_Fe_of nd637 33 1 rfl
theorem eF3_maySail_51 : m_Fe mi3_37 51 (m_ap [(.iload_n 2, 1)] ([(.ifCond .ne 7, 3)])) := m_Fe_of nd637 28 2 rfl
theorem eF3_maySail_55 : m_Fe mi3_37 55 (m_ap [(.iconst 1, 1)] ([(.goto 4, 3)])) := m_Fe_of nd637 30 2 rfl
theorem eF3_maySail_14 : m_Fe mi3_37 14 (m_ap [(.iload_n 2, 1)] ([(.ifCond .eq 29, 3)])) := m_Fe_of nd637 8 2 rfl
theorem eF3_maySail_44 : m_Fe mi3_37 44 (m_ap [(.iconst 0, 1)] ([])) := m_Fe_of nd637 23 1 rfl
theorem eF3_maySail_45 : m_Fe mi3_37 45 ([(.ireturn, 1)]) := m_Fe_of nd637 24 1 rfl
theorem eF3_maySail_18 : m_Fe mi3_37 18 (m_ap [(.aload_n 0, 1)] ((.getfield 35, 3) :: (m_ap [(.iload_n 1, 1), (.bipush 6, 2)] ((.invokevirtual 100, 3) :: ([(.ifCond .eq 12, 3)]))))) := m_Fe_of nd637 10 6 rfl
theorem eF3_maySail_40 : m_Fe mi3_37 40 (m_ap [(.iconst 1, 1)] ([(.goto 4, 3)])) := m_Fe_of nd637 21 2 rfl
theorem eF3_maySail_31 : m_Fe mi3_37 31 (m_ap [(.aload_n 0, 1), (.iload_n 1, 1)] ((.invokevirtual 179, 3) :: (m_ap [(.iload_n 2, 1)] ([(.if_icmp .ne 7, 3)])))) := m_Fe_of nd637 16 5 rfl
theorem SF3_maySail_0 {xs : Nat → Int32} {L : Nat} (x0 : Nat) (x1 : Int32) (x2 : Int32) (hp : m_H) {r : m_O × m_H} {K : Int32 → Prop} (k0 : ∀ x, K x → r = (.inl (some (.int x)), hp)) {t : Int32} (h : F3_maySail_0 x0 x1 x2 hp = some t) (hK : K t) : m_Rn xs L 4 637 0 [(0, .ref x0), (1, .int x1), (2, .int x2)] [] hp r := by
  unfold F3_maySail_0 at h
  refine g_in eF3_maySail_0 mx637 ?_
  refine g_ch [(0, .ref x0), (1, .int x1), (2, .int x2)] [.ref x0] (pc' := 1) rfl rfl rfl ?_
  obtain ⟨v1, e2, h⟩ := m_bd h
  refine g_gr q3_f35 e2 ?_
  refine g_ch [(0, .ref x0), (1, .int x1), (2, .int x2)] [.int 2, .int x1, .ref v1] (pc' := 6) rfl rfl rfl ?_
  obtain ⟨v4, e3, h⟩ := m_bd h
  refine g_call (v := some (.int v4)) (h := hp) (st' := [.int v4]) (D1 := 1) (as := [.ref v1, .int x1, .int 2]) (Or.inr (Or.inl rfl)) q3_m100 (m_cv (as := [.int 2, .int x1]) (rest := []) (Or.inl rfl) q3_m100 jv1604 (OF8_get e3) rfl rfl rfl rfl) (by decide) (SF8_get e3) rfl ?_
  refine g_ch [(3, .int v4), (0, .ref x0), (1, .int x1), (2, .int x2)] [.int v4] (pc' := 11) rfl rfl rfl ?_
  rcases m_ifd h with ⟨c5, h⟩ | ⟨c5, h⟩
  · refine g_ifcn (t := 46) rfl (m_neF c5) ?_
    refine g_in eF3_maySail_14 mx637 ?_
    refine g_ch [(3, .int v4), (0, .ref x0), (1, .int x1), (2, .int x2)] [.int x2] (pc' := 15) rfl rfl rfl ?_
    rcases m_ifd h with ⟨c8, h⟩ | ⟨c8, h⟩
    · refine g_ifc (t := 44) rfl (m_eqT c8) ?_
      refine g_in eF3_maySail_44 mx637 ?_
      refine g_ch [(3, .int v4), (0, .ref x0), (1, .int x1), (2, .int x2)] [.int 0] (pc' := 45) rfl rfl rfl ?_
      refine g_end ?_
      refine g_in eF3_maySail_45 mx637 ?_
      cases h
      rw [k0 _ hK]
      exact g_iret rfl (by decide +kernel)
    · refine g_ifcn (t := 44) rfl (m_eqF c8) ?_
      refine g_in eF3_maySail_18 mx637 ?_
      refine g_ch [(3, .int v4), (0, .ref x0), (1, .int x1), (2, .int x2)] [.ref x0] (pc' := 19) rfl rfl rfl ?_
      obtain ⟨v9, e10, h⟩ := m_bd h
      refine g_gr q3_f35 e10 ?_
      refine g_ch [(3, .int v4), (0, .ref x0), (1, .int x1), (2, .int x2)] [.int 6, .int x1, .ref v9] (pc' := 25) rfl rfl rfl ?_
      obtain ⟨v12, e11, h⟩ := m_bd h
      refine g_call (v := some (.int v12)) (h := hp) (st' := [.int v12]) (D1 := 1) (as := [.ref v9, .int x1, .int 6]) (Or.inr (Or.inl rfl)) q3_m100 (m_cv (as := [.int 6, .int x1]) (rest := []) (Or.inl rfl) q3_m100 jv1604 (OF8_get e11) rfl rfl rfl rfl) (by decide) (SF8_get e11) rfl ?_
      rcases m_ifd h with ⟨c13, h⟩ | ⟨c13, h⟩
      · refine g_ifc (t := 40) rfl (m_eqT c13) ?_
        refine g_in eF3_maySail_40 mx637 ?_
        refine g_ch [(3, .int v4), (0, .ref x0), (1, .int x1), (2, .int x2)] [.int 1] (pc' := 41) rfl rfl rfl ?_
        refine g_goto (t := 45) rfl ?_
        refine g_in eF3_maySail_45 mx637 ?_
        cases h
        rw [k0 _ hK]
        exact g_iret rfl (by decide +kernel)
      · refine g_ifcn (t := 40) rfl (m_eqF c13) ?_
        refine g_in eF3_maySail_31 mx637 ?_
        refine g_ch [(3, .int v4), (0, .ref x0), (1, .int x1), (2, .int x2)] [.int x1, .ref x0] (pc' := 33) rfl rfl rfl ?_
        obtain ⟨v15, e14, h⟩ := m_bd h
        refine g_call (v := some (.int v15)) (h := hp) (st' := [.int v15]) (D1 := 3) (as := [.ref x0, .int x1]) (Or.inr (Or.inl rfl)) q3_m179 (m_cv (as := [.int x1]) (rest := []) (Or.inl rfl) q3_m179 jv635 (OF3_landOfCargo e14) rfl rfl rfl rfl) (by decide) (SF3_landOfCargo e14) rfl ?_
        refine g_ch [(3, .int v4), (0, .ref x0), (1, .int x1), (2, .int x2)] [.int x2, .int v15] (pc' := 37) rfl rfl rfl ?_
        rcases m_ifd h with ⟨c16, h⟩ | ⟨c16, h⟩
        · refine g_ifn (t := 44) rfl (m_neF c16) ?_
          refine g_in eF3_maySail_40 mx637 ?_
          refine g_ch [(3, .int v4), (0, .ref x0), (1, .int x1), (2, .int x2)] [.int 1] (pc' := 41) rfl rfl rfl ?_
          refine g_goto (t := 45) rfl ?_
          refine g_in eF3_maySail_45 mx637 ?_
          cases h
          rw [k0 _ hK]
          exact g_iret rfl (by decide +kernel)
        · refine g_if (t := 44) rfl (m_neT c16) ?_
          refine g_in eF3_maySail_44 mx637 ?_
          refine g_ch [(3, .int v4), (0, .ref x0), (1, .int x1), (2, .int x2)] [.int 0] (pc' := 45) rfl rfl rfl ?_
          refine g_end ?_
          refine g_in eF3_maySail_45 mx637 ?_
          cases h
          rw [k0 _ hK]
          exact g_iret rfl (by decide +kernel)
  · refine g_ifc (t := 46) rfl (m_neT c5) ?_
    refine g_in eF3_maySail_46 mx637 ?_
    refine g_ch [(3, .int v4), (0, .ref x0), (1, .int x1), (2, .int x2)] [.int 2, .int v4] (pc' := 48) rfl rfl rfl ?_
    rcases m_ifd h with ⟨c6, h⟩ | ⟨c6, h⟩
    · refine g_ifn (t := 59) rfl (m_neF c6) ?_
      refine g_in eF3_maySail_51 mx637 ?_
      refine g_ch [(3, .int v4), (0, .ref x0), (1, .int x1), (2, .int x2)] [.int x2] (pc' := 52) rfl rfl rfl ?_
      rcases m_ifd h with ⟨c7, h⟩ | ⟨c7, h⟩
      · refine g_ifcn (t := 59) rfl (m_neF c7) ?_
        refine g_in eF3_maySail_55 mx637 ?_
        refine g_ch [(3, .int v4), (0, .ref x0), (1, .int x1), (2, .int x2)] [.int 1] (pc' := 56) rfl rfl rfl ?_
        refine g_goto (t := 60) rfl ?_
        refine g_in eF3_maySail_60 mx637 ?_
        cases h
        rw [k0 _ hK]
        exact g_iret rfl (by decide +kernel)
      · refine g_ifc (t := 59) rfl (m_neT c7) ?_
        refine g_in eF3_maySail_59 mx637 ?_
        refine g_ch [(3, .int v4), (0, .ref x0), (1, .int x1), (2, .int x2)] [.int 0] (pc' := 60) rfl rfl rfl ?_
        refine g_end ?_
        refine g_in eF3_maySail_60 mx637 ?_
        cases h
        rw [k0 _ hK]
        exact g_iret rfl (by decide +kernel)
    · refine g_if (t := 59) rfl (m_neT c6) ?_
      refine g_in eF3_maySail_59 mx637 ?_
      refine g_ch [(3, .int v4), (0, .ref x0), (1, .int x1), (2, .int x2)] [.int 0] (pc' := 60) rfl rfl rfl ?_
      refine g_end ?_
      refine g_in eF3_maySail_60 mx637 ?_
      cases h
      rw [k0 _ hK]
      exact g_iret rfl (by decide +kernel)
theorem OF3_maySail {x0 : Nat} {x1 : Int32} {x2 : Int32} {hp : m_H} {x : Int32} (h : F3_maySail x0 x1 x2 hp = some x) : m_isO hp 3 x0 = true := (m_gdd h).1
theorem SF3_maySail {xs : Nat → Int32} {L : Nat} {x0 : Nat} {x1 : Int32} {x2 : Int32} {hp : m_H} {x : Int32} (h : F3_maySail x0 x1 x2 hp = some x) : m_Rn xs L 4 637 0 (lv_args 0 [.ref x0, .int x1, .int x2]) [] hp (.inl (some (.int x)), hp) :=
  r_lv (SF3_maySail_0 x0 x1 x2 hp (K := fun y => y = x) (fun y e => by rw [e]) (m_gdd h).2 rfl) rfl ⟨rfl, rfl, rfl, trivial⟩
-- F3_putToSea: LendHouse$House.putToSea(II)V
theorem eF3_putToSea_0 : m_Fe mi3_38 0 (m_ap [(.iload_n 2, 1)] ([(.ifCond .eq 13, 3)])) := m_Fe_of nd638 0 2 rfl
theorem eF3_putToSea_4 : m_Fe mi3_38 4 (m_ap [(.aload_n 0, 1)] ((.getfield 35, 3) :: (m_ap [(.iload_n 1, 1), (.iconst 3, 1), (.iload_n 2, 1)] ([(.invokevirtual 72, 3)])))) := m_Fe_of nd638 2 6 rfl
theorem eF3_putToSea_14 : m_Fe mi3_38 14 (m_ap [(.aload_n 0, 1)] ((.getfield 35, 3) :: (m_ap [(.iload_n 1, 1), (.iconst 2, 1), (.iload_n 2, 1)] ([(.ifCond .eq 7, 3)])))) := m_Fe_of nd638 8 6 rfl
theorem eF3_putToSea_28 : m_Fe mi3_38 28 (m_ap [(.iconst 3, 1)] ([])) := m_Fe_of nd638 16 1 rfl
theorem eF3_putToSea_24 : m_Fe mi3_38 24 (m_ap [(.iconst 1, 1)] ([(.goto 4, 3)])) := m_Fe_of nd638 14 2 rfl
theorem eF3_putToSea_29 : m_Fe mi3_38 29 ((.invokevirtual 72, 3) :: (m_ap [(.aload_n 0, 1)] ((.getfield 35, 3) :: (m_ap [(.iload_n 1, 1), (.iconst 4, 1), (.aload_n 0, 1)] ((.getfield 38, 3) :: (m_ap [(.aload_n 0, 1)] ((.getfield 35, 3) :: (m_ap [(.iload_n 1, 1), (.iconst 3, 1)] ((.invokevirtual 100, 3) :: (m_ap [(.iconst 2, 1)] ((.invokevirtual 100, 3) :: ((.invokevirtual 72, 3) :: ([(.return_, 1)]))))))))))))) := m_Fe_of nd638 17 16 rfl
theorem SF3_putToSea_29 {xs : Nat → Int32} {L : Nat} (x0 : Nat) (x1 : Int32) (s0 : Int32) (s1 : Int32) (s2 : Int32) (s3 : Nat) (hp : m_H) {r : m_O × m_H} {K : m_H → Prop} (k0 : ∀ x, K x → r = (.inl none, x)) {t : m_H} (h : F3_putToSea_29 x0 x1 s0 s1 s2 s3 hp = some t) (hK : K t) : m_Rn xs L 2 638 29 [(0, .ref x0), (1, .int x1)] [.int s0, .int s1, .int s2, .ref s3] hp r := by
  unfold F3_putToSea_29 at h
  refine g_in eF3_putToSea_29 mx638 ?_
  obtain ⟨h2, e1, h⟩ := m_bd h
  refine g_call (v := none) (h := h2) (st' := []) (D1 := 1) (as := [.ref s3, .int s2, .int s1, .int s0]) (Or.inr (Or.inl rfl)) q3_m72 (m_cv (as := [.int s0, .int s1, .int s2]) (rest := []) (Or.inl rfl) q3_m72 jv1605 (OF8_set e1) rfl rfl rfl rfl) (by decide) (SF8_set e1) rfl ?_
  refine g_ch [(0, .ref x0), (1, .int x1)] [.ref x0] (pc' := 33) rfl rfl rfl ?_
  obtain ⟨v3, e4, h⟩ := m_bd h
  refine g_gr q3_f35 e4 ?_
  refine g_ch [(0, .ref x0), (1, .int x1)] [.ref x0, .int 4, .int x1, .ref v3] (pc' := 39) rfl rfl rfl ?_
  obtain ⟨v5, e6, h⟩ := m_bd h
  refine g_gr q3_f38 e6 ?_
  refine g_ch [(0, .ref x0), (1, .int x1)] [.ref x0, .ref v5, .int 4, .int x1, .ref v3] (pc' := 43) rfl rfl rfl ?_
  obtain ⟨v7, e8, h⟩ := m_bd h
  refine g_gr q3_f35 e8 ?_
  refine g_ch [(0, .ref x0), (1, .int x1)] [.int 3, .int x1, .ref v7, .ref v5, .int 4, .int x1, .ref v3] (pc' := 48) rfl rfl rfl ?_
  obtain ⟨v10, e9, h⟩ := m_bd h
  refine g_call (v := some (.int v10)) (h := h2) (st' := [.int v10, .ref v5, .int 4, .int x1, .ref v3]) (D1 := 1) (as := [.ref v7, .int x1, .int 3]) (Or.inr (Or.inl rfl)) q3_m100 (m_cv (as := [.int 3, .int x1]) (rest := [.ref v5, .int 4, .int x1, .ref v3]) (Or.inl rfl) q3_m100 jv1604 (OF8_get e9) rfl rfl rfl rfl) (by decide) (SF8_get e9) rfl ?_
  refine g_ch [(0, .ref x0), (1, .int x1)] [.int 2, .int v10, .ref v5, .int 4, .int x1, .ref v3] (pc' := 52) rfl rfl rfl ?_
  obtain ⟨v12, e11, h⟩ := m_bd h
  refine g_call (v := some (.int v12)) (h := h2) (st' := [.int v12, .int 4, .int x1, .ref v3]) (D1 := 1) (as := [.ref v5, .int v10, .int 2]) (Or.inr (Or.inl rfl)) q3_m100 (m_cv (as := [.int 2, .int v10]) (rest := [.int 4, .int x1, .ref v3]) (Or.inl rfl) q3_m100 jv1604 (OF8_get e11) rfl rfl rfl rfl) (by decide) (SF8_get e11) rfl ?_
  obtain ⟨h14, e13, h⟩ := m_bd h
  refine g_call (v := none) (h := h14) (st' := []) (D1 := 1) (as := [.ref v3, .int x1, .int 4, .int v12]) (Or.inr (Or.inl rfl)) q3_m72 (m_cv (as := [.int v12, .int 4, .int x1]) (rest := []) (Or.inl rfl) q3_m72 jv1605 (OF8_set e13) rfl rfl rfl rfl) (by decide) (SF8_set e13) rfl ?_
  cases h
  rw [k0 _ hK]
  exact g_vret rfl
theorem SF3_putToSea_14 {xs : Nat → Int32} {L : Nat} (x0 : Nat) (x1 : Int32) (x2 : Int32) (hp : m_H) {r : m_O × m_H} {K : m_H → Prop} (k0 : ∀ x, K x → r = (.inl none, x)) {t : m_H} (h : F3_putToSea_14 x0 x1 x2 hp = some t) (hK : K t) : m_Rn xs L 2 638 14 [(0, .ref x0), (1, .int x1), (2, .int x2)] [] hp r := by
  unfold F3_putToSea_14 at h
  refine g_in eF3_putToSea_14 mx638 ?_
  refine g_ch [(0, .ref x0), (1, .int x1), (2, .int x2)] [.ref x0] (pc' := 15) rfl rfl rfl ?_
  obtain ⟨v1, e2, h⟩ := m_bd h
  refine g_gr q3_f35 e2 ?_
  refine g_ch [(0, .ref x0), (1, .int x1), (2, .int x2)] [.int x2, .int 2, .int x1, .ref v1] (pc' := 21) rfl rfl rfl ?_
  rcases m_ifd h with ⟨c3, h⟩ | ⟨c3, h⟩
  · refine g_ifc (t := 28) rfl (m_eqT c3) ?_
    refine g_in eF3_putToSea_28 mx638 ?_
    refine g_ch [(0, .ref x0), (1, .int x1), (2, .int x2)] [.int 3, .int 2, .int x1, .ref v1] (pc' := 29) rfl rfl rfl ?_
    refine g_end ?_
    exact r_lv (SF3_putToSea_29 x0 x1 3 2 x1 v1 hp (K := K) k0 h hK) rfl ⟨rfl, rfl, trivial⟩
  · refine g_ifcn (t := 28) rfl (m_eqF c3) ?_
    refine g_in eF3_putToSea_24 mx638 ?_
    refine g_ch [(0, .ref x0), (1, .int x1), (2, .int x2)] [.int 1, .int 2, .int x1, .ref v1] (pc' := 25) rfl rfl rfl ?_
    refine g_goto (t := 29) rfl ?_
    exact r_lv (SF3_putToSea_29 x0 x1 1 2 x1 v1 hp (K := K) k0 h hK) rfl ⟨rfl, rfl, trivial⟩
theorem SF3_putToSea_0 {xs : Nat → Int32} {L : Nat} (x0 : Nat) (x1 : Int32) (x2 : Int32) (hp : m_H) {r : m_O × m_H} {K : m_H → Prop} (k0 : ∀ x, K x → r = (.inl none, x)) {t : m_H} (h : F3_putToSea_0 x0 x1 x2 hp = some t) (hK : K t) : m_Rn xs L 2 638 0 [(0, .ref x0), (1, .int x1), (2, .int x2)] [] hp r := by
  unfold F3_putToSea_0 at h
  refine g_in eF3_putToSea_0 mx638 ?_
  refine g_ch [(0, .ref x0), (1, .int x1), (2, .int x2)] [.int x2] (pc' := 1) rfl rfl rfl ?_
  rcases m_ifd h with ⟨c1, h⟩ | ⟨c1, h⟩
  · refine g_ifc (t := 14) rfl (m_eqT c1) ?_
    exact r_lv (SF3_putToSea_14 x0 x1 x2 hp (K := K) k0 h hK) rfl ⟨rfl, rfl, rfl, trivial⟩
  · refine g_ifcn (t := 14) rfl (m_eqF c1) ?_
    refine g_in eF3_putToSea_4 mx638 ?_
    refine g_ch [(0, .ref x0), (1, .int x1), (2, .int x2)] [.ref x0] (pc' := 5) rfl rfl rfl ?_
    obtain ⟨v2, e3, h⟩ := m_bd h
    refine g_gr q3_f35 e3 ?_
    refine g_ch [(0, .ref x0), (1, .int x1), (2, .int x2)] [.int x2, .int 3, .int x1, .ref v2] (pc' := 11) rfl rfl rfl ?_
    obtain ⟨h5, e4, h⟩ := m_bd h
    refine g_call (v := none) (h := h5) (st' := []) (D1 := 1) (as := [.ref v2, .int x1, .int 3, .int x2]) (Or.inr (Or.inl rfl)) q3_m72 (m_cv (as := [.int x2, .int 3, .int x1]) (rest := []) (Or.inl rfl) q3_m72 jv1605 (OF8_set e4) rfl rfl rfl rfl) (by decide) (SF8_set e4) rfl ?_
    refine g_end ?_
    exact r_lv (SF3_putToSea_14 x0 x1 x2 h5 (K := K) k0 h hK) rfl ⟨rfl, rfl, rfl, trivial⟩
theorem OF3_putToSea {x0 : Nat} {x1 : Int32} {x2 : Int32} {hp : m_H} {x : m_H} (h : F3_putToSea x0 x1 x2 hp = some x) : m_isO hp 3 x0 = true := (m_gdd h).1
theorem SF3_putToSea {xs : Nat → Int32} {L : Nat} {x0 : Nat} {x1 : Int32} {x2 : Int32} {hp : m_H} {x : m_H} (h : F3_putToSea x0 x1 x2 hp = some x) : m_Rn xs L 2 638 0 (lv_args 0 [.ref x0, .int x1, .int x2]) [] hp (.inl none, x) :=
  r_lv (SF3_putToSea_0 x0 x1 x2 hp (K := fun y => y = x) (fun y e => by rw [e]) (m_gdd h).2 rfl) rfl ⟨rfl, rfl, rfl, trivial⟩
-- F4_init: LendHouse$Hulls.<init>()V
theorem eF4_init_0 : m_Fe mi4_0 0 (m_ap [(.aload_n 0, 1)] ((.invokespecial 3, 3) :: (m_ap [(.aload_n 0, 1), (.bipush 6, 2)] ((.newarray .int, 2) :: ((.putfield 11, 3) :: (m_ap [(.aload_n 0, 1), (.bipush 6, 2)] ((.newarray .int, 2) :: ((.putfield 15, 3) :: (m_ap [(.aload_n 0, 1), (.bipush 6, 2)] ((.newarray .int, 2) :: ((.putfield 18, 3) :: (m_ap [(.aload_n 0, 1), (.bipush 6, 2)] ((.newarray .int, 2) :: ((.putfield 21, 3) :: (m_ap [(.aload_n 0, 1), (.bipush 6, 2)] ((.newarray .int, 2) :: ((.putfield 24, 3) :: (m_ap [(.aload_n 0, 1), (.bipush 6, 2)] ((.newarray .int, 2) :: ((.putfield 27, 3) :: ([(.return_, 1)]))))))))))))))))))))) := m_Fe_of nd800 0 27 rfl
theorem SF4_init_0 {xs : Nat → Int32} {L : Nat} (x0 : Nat) (hp : m_H) {r : m_O × m_H} {K : m_H → Prop} (k0 : ∀ x, K x → r = (.inl none, x)) {t : m_H} (h : F4_init_0 x0 hp = some t) (hK : K t) : m_Rn xs L 7 800 0 [(0, .ref x0)] [] hp r := by
  unfold F4_init_0 at h
  refine g_in eF4_init_0 mx800 ?_
  refine g_ch [(0, .ref x0)] [.ref x0] (pc' := 1) rfl rfl rfl ?_
  refine g_nat (Or.inr (Or.inr rfl)) q4_m3 rfl (z := ([], hp)) rfl (by decide) ?_
  refine g_ch [(0, .ref x0)] [.int 6, .ref x0] (pc' := 7) rfl rfl rfl ?_
  obtain ⟨h1, e2, h⟩ := m_bd h
  refine g_na rfl e2 ?_
  obtain ⟨h3, e4, h⟩ := m_bd h
  refine g_pf q4_f11 e4 ?_
  refine g_ch [(0, .ref x0)] [.int 6, .ref x0] (pc' := 15) rfl rfl rfl ?_
  obtain ⟨h5, e6, h⟩ := m_bd h
  refine g_na rfl e6 ?_
  obtain ⟨h7, e8, h⟩ := m_bd h
  refine g_pf q4_f15 e8 ?_
  refine g_ch [(0, .ref x0)] [.int 6, .ref x0] (pc' := 23) rfl rfl rfl ?_
  obtain ⟨h9, e10, h⟩ := m_bd h
  refine g_na rfl e10 ?_
  obtain ⟨h11, e12, h⟩ := m_bd h
  refine g_pf q4_f18 e12 ?_
  refine g_ch [(0, .ref x0)] [.int 6, .ref x0] (pc' := 31) rfl rfl rfl ?_
  obtain ⟨h13, e14, h⟩ := m_bd h
  refine g_na rfl e14 ?_
  obtain ⟨h15, e16, h⟩ := m_bd h
  refine g_pf q4_f21 e16 ?_
  refine g_ch [(0, .ref x0)] [.int 6, .ref x0] (pc' := 39) rfl rfl rfl ?_
  obtain ⟨h17, e18, h⟩ := m_bd h
  refine g_na rfl e18 ?_
  obtain ⟨h19, e20, h⟩ := m_bd h
  refine g_pf q4_f24 e20 ?_
  refine g_ch [(0, .ref x0)] [.int 6, .ref x0] (pc' := 47) rfl rfl rfl ?_
  obtain ⟨h21, e22, h⟩ := m_bd h
  refine g_na rfl e22 ?_
  obtain ⟨h23, e24, h⟩ := m_bd h
  refine g_pf q4_f27 e24 ?_
  cases h
  rw [k0 _ hK]
  exact g_vret rfl
theorem OF4_init {x0 : Nat} {hp : m_H} {x : m_H} (h : F4_init x0 hp = some x) : m_isO hp 4 x0 = true := (m_gdd h).1
theorem SF4_init {xs : Nat → Int32} {L : Nat} {x0 : Nat} {hp : m_H} {x : m_H} (h : F4_init x0 hp = some x) : m_Rn xs L 7 800 0 (lv_args 0 [.ref x0]) [] hp (.inl none, x) :=
  r_lv (SF4_init_0 x0 hp (K := fun y => y = x) (fun y e => by rw [e]) (m_gdd h).2 rfl) rfl ⟨rfl, trivial⟩
-- F4_lacking: LendHouse$Hulls.lacking()I
theorem eF4_lacking_0 : m_Fe mi4_3 0 (m_ap [(.iconst 0, 1), (.istore_n 1, 1), (.iconst 1, 1), (.istore_n 2, 1)] ([])) := m_Fe_of nd803 0 4 rfl
theorem eF4_lacking_4 : m_Fe mi4_3 4 (m_ap [(.iload_n 2, 1), (.aload_n 0, 1)] ((.getfield 27, 3) :: ((.arraylength, 1) :: ([(.if_icmp .ge 22, 3)])))) := m_Fe_of nd803 4 5 rfl
theorem eF4_lacking_32 : m_Fe mi4_3 32 (m_ap [(.iload_n 1, 1)] ([(.ireturn, 1)])) := m_Fe_of nd803 20 2 rfl
theorem eF4_lacking_13 : m_Fe mi4_3 13 (m_ap [(.iload_n 1, 1), (.iconst 0, 1), (.aload_n 0, 1)] ((.getfield 27, 3) :: (m_ap [(.iload_n 2, 1)] ((.iaload, 1) :: ((.invokestatic 80, 3) :: (m_ap [(.iadd, 1), (.istore_n 1, 1), (.iinc 2 1, 3)] ([(.goto (-25), 3)]))))))) := m_Fe_of nd803 9 11 rfl
theorem SF4_lacking_4b {xs : Nat → Int32} {L : Nat} (x0 : Nat) (hp : m_H) (s : Int32 × Int32) {r : m_O × m_H} {K : ((Int32 × Int32) ⊕ Int32) → Prop} (k0 : ∀ x, K (.inr x) → r = (.inl (some (.int x)), hp)) (k1 : ∀ s, K (.inl s) → m_Rn xs L 7 803 4 [(0, .ref x0), (1, .int s.1), (2, .int s.2)] [] hp r) {t : (Int32 × Int32) ⊕ Int32} (h : F4_lacking_4b x0 hp s = some t) (hK : K t) : m_Rn xs L 7 803 4 [(0, .ref x0), (1, .int s.1), (2, .int s.2)] [] hp r := by
  unfold F4_lacking_4b at h
  refine g_in eF4_lacking_4 mx803 ?_
  refine g_ch [(0, .ref x0), (1, .int s.1), (2, .int s.2)] [.ref x0, .int s.2] (pc' := 6) rfl rfl rfl ?_
  obtain ⟨v1, e2, h⟩ := m_bd h
  refine g_gr q4_f27 e2 ?_
  obtain ⟨v3, e4, h⟩ := m_bd h
  refine g_len e4 ?_
  rcases m_ifd h with ⟨c5, h⟩ | ⟨c5, h⟩
  · refine g_if (t := 32) rfl (m_geT c5) ?_
    refine g_in eF4_lacking_32 mx803 ?_
    refine g_ch [(0, .ref x0), (1, .int s.1), (2, .int s.2)] [.int s.1] (pc' := 33) rfl rfl rfl ?_
    cases h
    rw [k0 _ hK]
    exact g_iret rfl rfl
  · refine g_ifn (t := 32) rfl (m_geF c5) ?_
    refine g_in eF4_lacking_13 mx803 ?_
    refine g_ch [(0, .ref x0), (1, .int s.1), (2, .int s.2)] [.ref x0, .int 0, .int s.1] (pc' := 16) rfl rfl rfl ?_
    obtain ⟨v6, e7, h⟩ := m_bd h
    refine g_gr q4_f27 e7 ?_
    refine g_ch [(0, .ref x0), (1, .int s.1), (2, .int s.2)] [.int s.2, .ref v6, .int 0, .int s.1] (pc' := 20) rfl rfl rfl ?_
    obtain ⟨v8, e9, h⟩ := m_bd h
    refine g_ia e9 ?_
    refine g_nat (Or.inl rfl) q4_m80 rfl (z := ([.int (m_max 0 v8), .int s.1], hp)) rfl (by decide) ?_
    refine g_ch [(2, .int (s.2 + 1)), (1, .int (s.1 + (m_max 0 v8))), (0, .ref x0)] [] (pc' := 29) rfl rfl rfl ?_
    refine g_goto (t := 4) rfl ?_
    cases h
    exact r_lv (k1 ((s.1 + (m_max 0 v8)), (s.2 + 1)) hK) rfl ⟨rfl, rfl, rfl, trivial⟩
theorem SF4_lacking_4 {xs : Nat → Int32} {L : Nat} (x0 : Nat) (x1 : Int32) (x2 : Int32) (hp : m_H) {r : m_O × m_H} {K : Int32 → Prop} (k0 : ∀ x, K x → r = (.inl (some (.int x)), hp)) {t : Int32} (h : F4_lacking_4 x0 x1 x2 hp = some t) (hK : K t) : m_Rn xs L 7 803 4 [(0, .ref x0), (1, .int x1), (2, .int x2)] [] hp r :=
  m_wh_ok (P := fun s => m_Rn xs L 7 803 4 [(0, .ref x0), (1, .int s.1), (2, .int s.2)] [] hp r) (Q := K) (fun s t hb hK => SF4_lacking_4b x0 hp s (K := m_KK (fun s => m_Rn xs L 7 803 4 [(0, .ref x0), (1, .int s.1), (2, .int s.2)] [] hp r) K) k0 (fun _ q => q) hb hK) m_N _ _ h hK
theorem SF4_lacking_0 {xs : Nat → Int32} {L : Nat} (x0 : Nat) (hp : m_H) {r : m_O × m_H} {K : Int32 → Prop} (k0 : ∀ x, K x → r = (.inl (some (.int x)), hp)) {t : Int32} (h : F4_lacking_0 x0 hp = some t) (hK : K t) : m_Rn xs L 7 803 0 [(0, .ref x0)] [] hp r := by
  unfold F4_lacking_0 at h
  refine g_in eF4_lacking_0 mx803 ?_
  refine g_ch [(2, .int 1), (1, .int 0), (0, .ref x0)] [] (pc' := 4) rfl rfl rfl ?_
  refine g_end ?_
  exact r_lv (SF4_lacking_4 x0 0 1 hp (K := K) k0 h hK) rfl ⟨rfl, rfl, rfl, trivial⟩
theorem OF4_lacking {x0 : Nat} {hp : m_H} {x : Int32} (h : F4_lacking x0 hp = some x) : m_isO hp 4 x0 = true := (m_gdd h).1
theorem SF4_lacking {xs : Nat → Int32} {L : Nat} {x0 : Nat} {hp : m_H} {x : Int32} (h : F4_lacking x0 hp = some x) : m_Rn xs L 7 803 0 (lv_args 0 [.ref x0]) [] hp (.inl (some (.int x)), hp) :=
  r_lv (SF4_lacking_0 x0 hp (K := fun y => y = x) (fun y e => by rw [e]) (m_gdd h).2 rfl) rfl ⟨rfl, trivial⟩
-- F4_send: LendHouse$Hulls.send(III)V
theorem eF4_send_0 : m_Fe mi4_2 0 (m_ap [(.iload_n 3, 1), (.aload_n 0, 1)] ((.getfield 35, 3) :: ([(.if_icmp .ge 11, 3)]))) := m_Fe_of nd802 0 4 rfl
theorem eF4_send_16 : m_Fe mi4_2 16 ([(.return_, 1)]) := m_Fe_of nd802 8 1 rfl
theorem eF4_send_8 : m_Fe mi4_2 8 (m_ap [(.aload_n 0, 1)] ((.invokevirtual 65, 3) :: (m_ap [(.iload_n 2, 1)] ([(.if_icmp .le 4, 3)])))) := m_Fe_of nd802 4 4 rfl
theorem eF4_send_17 : m_Fe mi4_2 17 (m_ap [(.iload_n 1, 1), (.aload_n 0, 1)] ((.getfield 30, 3) :: ([(.if_icmp .ge 21, 3)]))) := m_Fe_of nd802 9 4 rfl
theorem eF4_send_25 : m_Fe mi4_2 25 (m_ap [(.iload_n 1, 1), (.aload_n 0, 1)] ((.getfield 15, 3) :: ((.arraylength, 1) :: ([(.if_icmp .ge 12, 3)])))) := m_Fe_of nd802 13 5 rfl
theorem eF4_send_34 : m_Fe mi4_2 34 (m_ap [(.iload_n 1, 1), (.aload_n 0, 1)] ((.getfield 18, 3) :: ((.arraylength, 1) :: ([(.if_icmp .lt 35, 3)])))) := m_Fe_of nd802 18 5 rfl
theorem eF4_send_75 : m_Fe mi4_2 75 (m_ap [(.iconst 0, 1), (.istore 4, 2)] ([])) := m_Fe_of nd802 41 2 rfl
theorem eF4_send_43 : m_Fe mi4_2 43 (m_ap [(.aload_n 0, 1), (.iload_n 3, 1)] ((.putfield 35, 3) :: (m_ap [(.aload_n 0, 1)] ((.getfield 18, 3) :: (m_ap [(.iconst 0, 1), (.aload_n 0, 1)] ((.getfield 21, 3) :: (m_ap [(.iconst 0, 1), (.aload_n 0, 1)] ((.getfield 18, 3) :: ((.arraylength, 1) :: (m_ap [(.aload_n 0, 1)] ((.getfield 21, 3) :: ((.arraylength, 1) :: ((.invokestatic 69, 3) :: ((.invokestatic 74, 3) :: ([(.return_, 1)]))))))))))))))) := m_Fe_of nd802 23 18 rfl
theorem eF4_send_78 : m_Fe mi4_2 78 (m_ap [(.iload 4, 2), (.aload_n 0, 1)] ((.getfield 27, 3) :: ((.arraylength, 1) :: ([(.if_icmp .ge 105, 3)])))) := m_Fe_of nd802 43 5 rfl
theorem eF4_send_190 : m_Fe mi4_2 190 ([(.return_, 1)]) := m_Fe_of nd802 111 1 rfl
theorem eF4_send_88 : m_Fe mi4_2 88 (m_ap [(.iload 4, 2), (.aload_n 0, 1)] ((.getfield 24, 3) :: ((.arraylength, 1) :: ([(.if_icmp .ge 95, 3)])))) := m_Fe_of nd802 48 5 rfl
theorem eF4_send_98 : m_Fe mi4_2 98 (m_ap [(.iload 4, 2)] ([(.ifCond .eq 13, 3)])) := m_Fe_of nd802 53 2 rfl
theorem eF4_send_103 : m_Fe mi4_2 103 (m_ap [(.aload_n 0, 1)] ((.getfield 27, 3) :: (m_ap [(.iload 4, 2)] ((.iaload, 1) :: ([(.ifCond .le 74, 3)]))))) := m_Fe_of nd802 55 5 rfl
theorem eF4_send_184 : m_Fe mi4_2 184 (m_ap [(.iinc 4 1, 3)] ([(.goto (-109), 3)])) := m_Fe_of nd802 109 2 rfl
theorem eF4_send_113 : m_Fe mi4_2 113 (m_ap [(.aload_n 0, 1)] ((.getfield 18, 3) :: (m_ap [(.iload_n 1, 1), (.iload 4, 2)] ((.iastore, 1) :: (m_ap [(.aload_n 0, 1)] ((.getfield 27, 3) :: (m_ap [(.iload 4, 2), (.dup2, 1)] ((.iaload, 1) :: (m_ap [(.aload_n 0, 1)] ((.getfield 15, 3) :: (m_ap [(.iload_n 1, 1)] ((.iaload, 1) :: (m_ap [(.isub, 1)] ((.iastore, 1) :: (m_ap [(.aload_n 0, 1), (.iload_n 1, 1), (.iconst 1, 1), (.iadd, 1), (.iload_n 2, 1), (.aload_n 0, 1)] ((.getfield 15, 3) :: (m_ap [(.iload_n 1, 1)] ((.iaload, 1) :: (m_ap [(.isub, 1), (.iload_n 3, 1), (.aload_n 0, 1)] ((.getfield 15, 3) :: (m_ap [(.iload_n 1, 1)] ((.iaload, 1) :: (m_ap [(.aload_n 0, 1)] ((.getfield 24, 3) :: (m_ap [(.iload 4, 2)] ((.iaload, 1) :: (m_ap [(.imul, 1), (.iadd, 1)] ((.invokevirtual 61, 3) :: (m_ap [(.aload_n 0, 1)] ((.getfield 27, 3) :: (m_ap [(.iload 4, 2), (.dup2, 1)] ((.iaload, 1) :: (m_ap [(.aload_n 0, 1)] ((.getfield 15, 3) :: (m_ap [(.iload_n 1, 1)] ((.iaload, 1) :: (m_ap [(.iadd, 1)] ([(.iastore, 1)])))))))))))))))))))))))))))))))))))))) := m_Fe_of nd802 60 49 rfl
theorem SF4_send_43 {xs : Nat → Int32} {L : Nat} {DA : Nat} {A : Nat → Int32 → Int32 → Int32 → m_H → Option m_H} (hDA : 400 ≤ DA + 400) (hD : 20 ≤ DA) (hA : ∀ x0 x1 x2 x3 hp x, A x0 x1 x2 x3 hp = some x → m_isO hp 4 x0 = true ∧ m_Rn xs L DA 802 0 (lv_args 0 [.ref x0, .int x1, .int x2, .int x3]) [] hp (.inl none, x)) (x0 : Nat) (x3 : Int32) (hp : m_H) {r : m_O × m_H} {K : m_H → Prop} (k0 : ∀ x, K x → r = (.inl none, x)) {t : m_H} (h : F4_send_43 A x0 x3 hp = some t) (hK : K t) : m_Rn xs L (DA + 1) 802 43 [(0, .ref x0), (3, .int x3)] [] hp r := by
  unfold F4_send_43 at h
  refine g_in eF4_send_43 mx802 ?_
  refine g_ch [(0, .ref x0), (3, .int x3)] [.int x3, .ref x0] (pc' := 45) rfl rfl rfl ?_
  obtain ⟨h1, e2, h⟩ := m_bd h
  refine g_pf q4_f35 e2 ?_
  refine g_ch [(0, .ref x0), (3, .int x3)] [.ref x0] (pc' := 49) rfl rfl rfl ?_
  obtain ⟨v3, e4, h⟩ := m_bd h
  refine g_gr q4_f18 e4 ?_
  refine g_ch [(0, .ref x0), (3, .int x3)] [.ref x0, .int 0, .ref v3] (pc' := 54) rfl rfl rfl ?_
  obtain ⟨v5, e6, h⟩ := m_bd h
  refine g_gr q4_f21 e6 ?_
  refine g_ch [(0, .ref x0), (3, .int x3)] [.ref x0, .int 0, .ref v5, .int 0, .ref v3] (pc' := 59) rfl rfl rfl ?_
  obtain ⟨v7, e8, h⟩ := m_bd h
  refine g_gr q4_f18 e8 ?_
  obtain ⟨v9, e10, h⟩ := m_bd h
  refine g_len e10 ?_
  refine g_ch [(0, .ref x0), (3, .int x3)] [.ref x0, .int v9, .int 0, .ref v5, .int 0, .ref v3] (pc' := 64) rfl rfl rfl ?_
  obtain ⟨v11, e12, h⟩ := m_bd h
  refine g_gr q4_f21 e12 ?_
  obtain ⟨v13, e14, h⟩ := m_bd h
  refine g_len e14 ?_
  refine g_nat (Or.inl rfl) q4_m69 rfl (z := ([.int (m_min v9 v13), .int 0, .ref v5, .int 0, .ref v3], h1)) rfl (Nat.ble_eq_true_of_le (by omega)) ?_
  obtain ⟨h16, e15, h⟩ := m_bd h
  refine g_nat (Or.inl rfl) q4_m74 rfl (z := ([], h16)) (m_z4 e15) (Nat.ble_eq_true_of_le (by omega)) ?_
  cases h
  rw [k0 _ hK]
  exact g_vret rfl
theorem SF4_send_113 {xs : Nat → Int32} {L : Nat} {DA : Nat} {A : Nat → Int32 → Int32 → Int32 → m_H → Option m_H} (hDA : 400 ≤ DA + 400) (hD : 20 ≤ DA) (hA : ∀ x0 x1 x2 x3 hp x, A x0 x1 x2 x3 hp = some x → m_isO hp 4 x0 = true ∧ m_Rn xs L DA 802 0 (lv_args 0 [.ref x0, .int x1, .int x2, .int x3]) [] hp (.inl none, x)) (x0 : Nat) (x1 : Int32) (x2 : Int32) (x3 : Int32) (x4 : Int32) (hp : m_H) {r : m_O × m_H} {K : ((Int32 × m_H) ⊕ m_H) → Prop} (k0 : ∀ x, K (.inr x) → r = (.inl none, x)) (k1 : ∀ s, K (.inl s) → m_Rn xs L (DA + 1) 802 78 [(0, .ref x0), (1, .int x1), (2, .int x2), (3, .int x3), (4, .int s.1)] [] s.2 r) {t : (Int32 × m_H) ⊕ m_H} (h : F4_send_113 A x0 x1 x2 x3 x4 hp = some t) (hK : K t) : m_Rn xs L (DA + 1) 802 113 [(0, .ref x0), (1, .int x1), (2, .int x2), (3, .int x3), (4, .int x4)] [] hp r := by
  unfold F4_send_113 at h
  refine g_in eF4_send_113 mx802 ?_
  refine g_ch [(0, .ref x0), (1, .int x1), (2, .int x2), (3, .int x3), (4, .int x4)] [.ref x0] (pc' := 114) rfl rfl rfl ?_
  obtain ⟨v1, e2, h⟩ := m_bd h
  refine g_gr q4_f18 e2 ?_
  refine g_ch [(0, .ref x0), (1, .int x1), (2, .int x2), (3, .int x3), (4, .int x4)] [.int x4, .int x1, .ref v1] (pc' := 120) rfl rfl rfl ?_
  obtain ⟨h3, e4, h⟩ := m_bd h
  refine g_is e4 ?_
  refine g_ch [(0, .ref x0), (1, .int x1), (2, .int x2), (3, .int x3), (4, .int x4)] [.ref x0] (pc' := 122) rfl rfl rfl ?_
  obtain ⟨v5, e6, h⟩ := m_bd h
  refine g_gr q4_f27 e6 ?_
  refine g_ch [(0, .ref x0), (1, .int x1), (2, .int x2), (3, .int x3), (4, .int x4)] [.int x4, .ref v5, .int x4, .ref v5] (pc' := 128) rfl rfl rfl ?_
  obtain ⟨v7, e8, h⟩ := m_bd h
  refine g_ia e8 ?_
  refine g_ch [(0, .ref x0), (1, .int x1), (2, .int x2), (3, .int x3), (4, .int x4)] [.ref x0, .int v7, .int x4, .ref v5] (pc' := 130) rfl rfl rfl ?_
  obtain ⟨v9, e10, h⟩ := m_bd h
  refine g_gr q4_f15 e10 ?_
  refine g_ch [(0, .ref x0), (1, .int x1), (2, .int x2), (3, .int x3), (4, .int x4)] [.int x1, .ref v9, .int v7, .int x4, .ref v5] (pc' := 134) rfl rfl rfl ?_
  obtain ⟨v11, e12, h⟩ := m_bd h
  refine g_ia e12 ?_
  refine g_ch [(0, .ref x0), (1, .int x1), (2, .int x2), (3, .int x3), (4, .int x4)] [.int (v7 - v11), .int x4, .ref v5] (pc' := 136) rfl rfl rfl ?_
  obtain ⟨h13, e14, h⟩ := m_bd h
  refine g_is e14 ?_
  refine g_ch [(0, .ref x0), (1, .int x1), (2, .int x2), (3, .int x3), (4, .int x4)] [.ref x0, .int x2, .int (x1 + 1), .ref x0] (pc' := 143) rfl rfl rfl ?_
  obtain ⟨v15, e16, h⟩ := m_bd h
  refine g_gr q4_f15 e16 ?_
  refine g_ch [(0, .ref x0), (1, .int x1), (2, .int x2), (3, .int x3), (4, .int x4)] [.int x1, .ref v15, .int x2, .int (x1 + 1), .ref x0] (pc' := 147) rfl rfl rfl ?_
  obtain ⟨v17, e18, h⟩ := m_bd h
  refine g_ia e18 ?_
  refine g_ch [(0, .ref x0), (1, .int x1), (2, .int x2), (3, .int x3), (4, .int x4)] [.ref x0, .int x3, .int (x2 - v17), .int (x1 + 1), .ref x0] (pc' := 151) rfl rfl rfl ?_
  obtain ⟨v19, e20, h⟩ := m_bd h
  refine g_gr q4_f15 e20 ?_
  refine g_ch [(0, .ref x0), (1, .int x1), (2, .int x2), (3, .int x3), (4, .int x4)] [.int x1, .ref v19, .int x3, .int (x2 - v17), .int (x1 + 1), .ref x0] (pc' := 155) rfl rfl rfl ?_
  obtain ⟨v21, e22, h⟩ := m_bd h
  refine g_ia e22 ?_
  refine g_ch [(0, .ref x0), (1, .int x1), (2, .int x2), (3, .int x3), (4, .int x4)] [.ref x0, .int v21, .int x3, .int (x2 - v17), .int (x1 + 1), .ref x0] (pc' := 157) rfl rfl rfl ?_
  obtain ⟨v23, e24, h⟩ := m_bd h
  refine g_gr q4_f24 e24 ?_
  refine g_ch [(0, .ref x0), (1, .int x1), (2, .int x2), (3, .int x3), (4, .int x4)] [.int x4, .ref v23, .int v21, .int x3, .int (x2 - v17), .int (x1 + 1), .ref x0] (pc' := 162) rfl rfl rfl ?_
  obtain ⟨v25, e26, h⟩ := m_bd h
  refine g_ia e26 ?_
  refine g_ch [(0, .ref x0), (1, .int x1), (2, .int x2), (3, .int x3), (4, .int x4)] [.int (x3 + (v21 * v25)), .int (x2 - v17), .int (x1 + 1), .ref x0] (pc' := 165) rfl rfl rfl ?_
  obtain ⟨h28, e27, h⟩ := m_bd h
  refine g_call (v := none) (h := h28) (st' := []) (D1 := DA) (as := [.ref x0, .int (x1 + 1), .int (x2 - v17), .int (x3 + (v21 * v25))]) (Or.inr (Or.inl rfl)) q4_m61 (m_cv (as := [.int (x3 + (v21 * v25)), .int (x2 - v17), .int (x1 + 1)]) (rest := []) (Or.inl rfl) q4_m61 jv802 (hA _ _ _ _ _ _ e27).1 rfl rfl rfl rfl) (by omega) (hA _ _ _ _ _ _ e27).2 rfl ?_
  refine g_ch [(0, .ref x0), (1, .int x1), (2, .int x2), (3, .int x3), (4, .int x4)] [.ref x0] (pc' := 169) rfl rfl rfl ?_
  obtain ⟨v29, e30, h⟩ := m_bd h
  refine g_gr q4_f27 e30 ?_
  refine g_ch [(0, .ref x0), (1, .int x1), (2, .int x2), (3, .int x3), (4, .int x4)] [.int x4, .ref v29, .int x4, .ref v29] (pc' := 175) rfl rfl rfl ?_
  obtain ⟨v31, e32, h⟩ := m_bd h
  refine g_ia e32 ?_
  refine g_ch [(0, .ref x0), (1, .int x1), (2, .int x2), (3, .int x3), (4, .int x4)] [.ref x0, .int v31, .int x4, .ref v29] (pc' := 177) rfl rfl rfl ?_
  obtain ⟨v33, e34, h⟩ := m_bd h
  refine g_gr q4_f15 e34 ?_
  refine g_ch [(0, .ref x0), (1, .int x1), (2, .int x2), (3, .int x3), (4, .int x4)] [.int x1, .ref v33, .int v31, .int x4, .ref v29] (pc' := 181) rfl rfl rfl ?_
  obtain ⟨v35, e36, h⟩ := m_bd h
  refine g_ia e36 ?_
  refine g_ch [(0, .ref x0), (1, .int x1), (2, .int x2), (3, .int x3), (4, .int x4)] [.int (v31 + v35), .int x4, .ref v29] (pc' := 183) rfl rfl rfl ?_
  obtain ⟨h37, e38, h⟩ := m_bd h
  refine g_is e38 ?_
  refine g_end ?_
  refine g_in eF4_send_184 mx802 ?_
  refine g_ch [(4, .int (x4 + 1)), (0, .ref x0), (1, .int x1), (2, .int x2), (3, .int x3)] [] (pc' := 187) rfl rfl rfl ?_
  refine g_goto (t := 78) rfl ?_
  cases h
  exact r_lv (k1 ((x4 + 1), h37) hK) rfl ⟨rfl, rfl, rfl, rfl, rfl, trivial⟩
theorem SF4_send_78b {xs : Nat → Int32} {L : Nat} {DA : Nat} {A : Nat → Int32 → Int32 → Int32 → m_H → Option m_H} (hDA : 400 ≤ DA + 400) (hD : 20 ≤ DA) (hA : ∀ x0 x1 x2 x3 hp x, A x0 x1 x2 x3 hp = some x → m_isO hp 4 x0 = true ∧ m_Rn xs L DA 802 0 (lv_args 0 [.ref x0, .int x1, .int x2, .int x3]) [] hp (.inl none, x)) (x0 : Nat) (x1 : Int32) (x2 : Int32) (x3 : Int32) (s : Int32 × m_H) {r : m_O × m_H} {K : ((Int32 × m_H) ⊕ m_H) → Prop} (k0 : ∀ x, K (.inr x) → r = (.inl none, x)) (k1 : ∀ s, K (.inl s) → m_Rn xs L (DA + 1) 802 78 [(0, .ref x0), (1, .int x1), (2, .int x2), (3, .int x3), (4, .int s.1)] [] s.2 r) {t : (Int32 × m_H) ⊕ m_H} (h : F4_send_78b A x0 x1 x2 x3 s = some t) (hK : K t) : m_Rn xs L (DA + 1) 802 78 [(0, .ref x0), (1, .int x1), (2, .int x2), (3, .int x3), (4, .int s.1)] [] s.2 r := by
  unfold F4_send_78b at h
  refine g_in eF4_send_78 mx802 ?_
  refine g_ch [(0, .ref x0), (1, .int x1), (2, .int x2), (3, .int x3), (4, .int s.1)] [.ref x0, .int s.1] (pc' := 81) rfl rfl rfl ?_
  obtain ⟨v1, e2, h⟩ := m_bd h
  refine g_gr q4_f27 e2 ?_
  obtain ⟨v3, e4, h⟩ := m_bd h
  refine g_len e4 ?_
  rcases m_ifd h with ⟨c5, h⟩ | ⟨c5, h⟩
  · refine g_if (t := 190) rfl (m_geT c5) ?_
    refine g_in eF4_send_190 mx802 ?_
    cases h
    rw [k0 _ hK]
    exact g_vret rfl
  · refine g_ifn (t := 190) rfl (m_geF c5) ?_
    refine g_in eF4_send_88 mx802 ?_
    refine g_ch [(0, .ref x0), (1, .int x1), (2, .int x2), (3, .int x3), (4, .int s.1)] [.ref x0, .int s.1] (pc' := 91) rfl rfl rfl ?_
    obtain ⟨v6, e7, h⟩ := m_bd h
    refine g_gr q4_f24 e7 ?_
    obtain ⟨v8, e9, h⟩ := m_bd h
    refine g_len e9 ?_
    rcases m_ifd h with ⟨c10, h⟩ | ⟨c10, h⟩
    · refine g_if (t := 190) rfl (m_geT c10) ?_
      refine g_in eF4_send_190 mx802 ?_
      cases h
      rw [k0 _ hK]
      exact g_vret rfl
    · refine g_ifn (t := 190) rfl (m_geF c10) ?_
      refine g_in eF4_send_98 mx802 ?_
      refine g_ch [(0, .ref x0), (1, .int x1), (2, .int x2), (3, .int x3), (4, .int s.1)] [.int s.1] (pc' := 100) rfl rfl rfl ?_
      rcases m_ifd h with ⟨c11, h⟩ | ⟨c11, h⟩
      · refine g_ifc (t := 113) rfl (m_eqT c11) ?_
        exact r_lv (SF4_send_113 hDA hD hA x0 x1 x2 x3 s.1 s.2 (K := K) k0 k1 h hK) rfl ⟨rfl, rfl, rfl, rfl, rfl, trivial⟩
      · refine g_ifcn (t := 113) rfl (m_eqF c11) ?_
        refine g_in eF4_send_103 mx802 ?_
        refine g_ch [(0, .ref x0), (1, .int x1), (2, .int x2), (3, .int x3), (4, .int s.1)] [.ref x0] (pc' := 104) rfl rfl rfl ?_
        obtain ⟨v12, e13, h⟩ := m_bd h
        refine g_gr q4_f27 e13 ?_
        refine g_ch [(0, .ref x0), (1, .int x1), (2, .int x2), (3, .int x3), (4, .int s.1)] [.int s.1, .ref v12] (pc' := 109) rfl rfl rfl ?_
        obtain ⟨v14, e15, h⟩ := m_bd h
        refine g_ia e15 ?_
        rcases m_ifd h with ⟨c16, h⟩ | ⟨c16, h⟩
        · refine g_ifc (t := 184) rfl (m_leT c16) ?_
          refine g_in eF4_send_184 mx802 ?_
          refine g_ch [(4, .int (s.1 + 1)), (0, .ref x0), (1, .int x1), (2, .int x2), (3, .int x3)] [] (pc' := 187) rfl rfl rfl ?_
          refine g_goto (t := 78) rfl ?_
          cases h
          exact r_lv (k1 ((s.1 + 1), s.2) hK) rfl ⟨rfl, rfl, rfl, rfl, rfl, trivial⟩
        · refine g_ifcn (t := 184) rfl (m_leF c16) ?_
          exact r_lv (SF4_send_113 hDA hD hA x0 x1 x2 x3 s.1 s.2 (K := K) k0 k1 h hK) rfl ⟨rfl, rfl, rfl, rfl, rfl, trivial⟩
theorem SF4_send_78 {xs : Nat → Int32} {L : Nat} {DA : Nat} {A : Nat → Int32 → Int32 → Int32 → m_H → Option m_H} (hDA : 400 ≤ DA + 400) (hD : 20 ≤ DA) (hA : ∀ x0 x1 x2 x3 hp x, A x0 x1 x2 x3 hp = some x → m_isO hp 4 x0 = true ∧ m_Rn xs L DA 802 0 (lv_args 0 [.ref x0, .int x1, .int x2, .int x3]) [] hp (.inl none, x)) (x0 : Nat) (x1 : Int32) (x2 : Int32) (x3 : Int32) (x4 : Int32) (hp : m_H) {r : m_O × m_H} {K : m_H → Prop} (k0 : ∀ x, K x → r = (.inl none, x)) {t : m_H} (h : F4_send_78 A x0 x1 x2 x3 x4 hp = some t) (hK : K t) : m_Rn xs L (DA + 1) 802 78 [(0, .ref x0), (1, .int x1), (2, .int x2), (3, .int x3), (4, .int x4)] [] hp r :=
  m_wh_ok (P := fun s => m_Rn xs L (DA + 1) 802 78 [(0, .ref x0), (1, .int x1), (2, .int x2), (3, .int x3), (4, .int s.1)] [] s.2 r) (Q := K) (fun s t hb hK => SF4_send_78b hDA hD hA x0 x1 x2 x3 s (K := m_KK (fun s => m_Rn xs L (DA + 1) 802 78 [(0, .ref x0), (1, .int x1), (2, .int x2), (3, .int x3), (4, .int s.1)] [] s.2 r) K) k0 (fun _ q => q) hb hK) m_N _ _ h hK
theorem SF4_send_0 {xs : Nat → Int32} {L : Nat} {DA : Nat} {A : Nat → Int32 → Int32 → Int32 → m_H → Option m_H} (hDA : 400 ≤ DA + 400) (hD : 20 ≤ DA) (hA : ∀ x0 x1 x2 x3 hp x, A x0 x1 x2 x3 hp = some x → m_isO hp 4 x0 = true ∧ m_Rn xs L DA 802 0 (lv_args 0 [.ref x0, .int x1, .int x2, .int x3]) [] hp (.inl none, x)) (x0 : Nat) (x1 : Int32) (x2 : Int32) (x3 : Int32) (hp : m_H) {r : m_O × m_H} {K : m_H → Prop} (k0 : ∀ x, K x → r = (.inl none, x)) {t : m_H} (h : F4_send_0 A x0 x1 x2 x3 hp = some t) (hK : K t) : m_Rn xs L (DA + 1) 802 0 [(0, .ref x0), (1, .int x1), (2, .int x2), (3, .int x3)] [] hp r := by
  unfold F4_send_0 at h
  refine g_in eF4_send_0 mx802 ?_
  refine g_ch [(0, .ref x0), (1, .int x1), (2, .int x2), (3, .int x3)] [.ref x0, .int x3] (pc' := 2) rfl rfl rfl ?_
  obtain ⟨v1, e2, h⟩ := m_bd h
  refine g_gi q4_f35 e2 ?_
  rcases m_ifd h with ⟨c3, h⟩ | ⟨c3, h⟩
  · refine g_if (t := 16) rfl (m_geT c3) ?_
    refine g_in eF4_send_16 mx802 ?_
    cases h
    rw [k0 _ hK]
    exact g_vret rfl
  · refine g_ifn (t := 16) rfl (m_geF c3) ?_
    refine g_in eF4_send_8 mx802 ?_
    refine g_ch [(0, .ref x0), (1, .int x1), (2, .int x2), (3, .int x3)] [.ref x0] (pc' := 9) rfl rfl rfl ?_
    obtain ⟨v5, e4, h⟩ := m_bd h
    refine g_call (v := some (.int v5)) (h := hp) (st' := [.int v5]) (D1 := 7) (as := [.ref x0]) (Or.inr (Or.inl rfl)) q4_m65 (m_cv (as := []) (rest := []) (Or.inl rfl) q4_m65 jv803 (OF4_lacking e4) rfl rfl rfl rfl) (by omega) (SF4_lacking e4) rfl ?_
    refine g_ch [(0, .ref x0), (1, .int x1), (2, .int x2), (3, .int x3)] [.int x2, .int v5] (pc' := 13) rfl rfl rfl ?_
    rcases m_ifd h with ⟨c6, h⟩ | ⟨c6, h⟩
    · refine g_if (t := 17) rfl (m_leT c6) ?_
      refine g_in eF4_send_17 mx802 ?_
      refine g_ch [(0, .ref x0), (1, .int x1), (2, .int x2), (3, .int x3)] [.ref x0, .int x1] (pc' := 19) rfl rfl rfl ?_
      obtain ⟨v7, e8, h⟩ := m_bd h
      refine g_gi q4_f30 e8 ?_
      rcases m_ifd h with ⟨c9, h⟩ | ⟨c9, h⟩
      · refine g_if (t := 43) rfl (m_geT c9) ?_
        exact r_lv (SF4_send_43 hDA hD hA x0 x3 hp (K := K) k0 h hK) rfl ⟨rfl, rfl, trivial⟩
      · refine g_ifn (t := 43) rfl (m_geF c9) ?_
        refine g_in eF4_send_25 mx802 ?_
        refine g_ch [(0, .ref x0), (1, .int x1), (2, .int x2), (3, .int x3)] [.ref x0, .int x1] (pc' := 27) rfl rfl rfl ?_
        obtain ⟨v10, e11, h⟩ := m_bd h
        refine g_gr q4_f15 e11 ?_
        obtain ⟨v12, e13, h⟩ := m_bd h
        refine g_len e13 ?_
        rcases m_ifd h with ⟨c14, h⟩ | ⟨c14, h⟩
        · refine g_if (t := 43) rfl (m_geT c14) ?_
          exact r_lv (SF4_send_43 hDA hD hA x0 x3 hp (K := K) k0 h hK) rfl ⟨rfl, rfl, trivial⟩
        · refine g_ifn (t := 43) rfl (m_geF c14) ?_
          refine g_in eF4_send_34 mx802 ?_
          refine g_ch [(0, .ref x0), (1, .int x1), (2, .int x2), (3, .int x3)] [.ref x0, .int x1] (pc' := 36) rfl rfl rfl ?_
          obtain ⟨v15, e16, h⟩ := m_bd h
          refine g_gr q4_f18 e16 ?_
          obtain ⟨v17, e18, h⟩ := m_bd h
          refine g_len e18 ?_
          rcases m_ifd h with ⟨c19, h⟩ | ⟨c19, h⟩
          · refine g_if (t := 75) rfl (m_ltT c19) ?_
            refine g_in eF4_send_75 mx802 ?_
            refine g_ch [(4, .int 0), (0, .ref x0), (1, .int x1), (2, .int x2), (3, .int x3)] [] (pc' := 78) rfl rfl rfl ?_
            refine g_end ?_
            exact r_lv (SF4_send_78 hDA hD hA x0 x1 x2 x3 0 hp (K := K) k0 h hK) rfl ⟨rfl, rfl, rfl, rfl, rfl, trivial⟩
          · refine g_ifn (t := 75) rfl (m_ltF c19) ?_
            exact r_lv (SF4_send_43 hDA hD hA x0 x3 hp (K := K) k0 h hK) rfl ⟨rfl, rfl, trivial⟩
    · refine g_ifn (t := 17) rfl (m_leF c6) ?_
      refine g_in eF4_send_16 mx802 ?_
      cases h
      rw [k0 _ hK]
      exact g_vret rfl
theorem OF4_sends {A : Nat → Int32 → Int32 → Int32 → m_H → Option m_H} {x0 : Nat} {x1 : Int32} {x2 : Int32} {x3 : Int32} {hp : m_H} {x : m_H} (h : F4_sends A x0 x1 x2 x3 hp = some x) : m_isO hp 4 x0 = true := (m_gdd h).1
theorem SF4_sends {xs : Nat → Int32} {L : Nat} {DA : Nat} {A : Nat → Int32 → Int32 → Int32 → m_H → Option m_H} (hDA : 400 ≤ DA + 400) (hD : 20 ≤ DA) (hA : ∀ x0 x1 x2 x3 hp x, A x0 x1 x2 x3 hp = some x → m_isO hp 4 x0 = true ∧ m_Rn xs L DA 802 0 (lv_args 0 [.ref x0, .int x1, .int x2, .int x3]) [] hp (.inl none, x)) {x0 : Nat} {x1 : Int32} {x2 : Int32} {x3 : Int32} {hp : m_H} {x : m_H} (h : F4_sends A x0 x1 x2 x3 hp = some x) : m_Rn xs L (DA + 1) 802 0 (lv_args 0 [.ref x0, .int x1, .int x2, .int x3]) [] hp (.inl none, x) :=
  r_lv (SF4_send_0 hDA hD hA x0 x1 x2 x3 hp (K := fun y => y = x) (fun y e => by rw [e]) (m_gdd h).2 rfl) rfl ⟨rfl, rfl, rfl, rfl, trivial⟩
theorem OF4_send {n : Nat} {x0 : Nat} {x1 : Int32} {x2 : Int32} {x3 : Int32} {hp : m_H} {x : m_H} (h : F4_send n x0 x1 x2 x3 hp = some x) : m_isO hp 4 x0 = true := by
  cases n with
  | zero => cases h
  | succ n => exact OF4_sends h
theorem SF4_send {xs : Nat → Int32} {L : Nat} : ∀ (n : Nat) (x0 : Nat) (x1 : Int32) (x2 : Int32) (x3 : Int32) (hp : m_H) (x : m_H), F4_send n x0 x1 x2 x3 hp = some x → m_Rn xs L (20 + 1 * n) 802 0 (lv_args 0 [.ref x0, .int x1, .int x2, .int x3]) [] hp (.inl none, x)
  | 0, _, _, _, _, _, _, h => by cases h
  | n + 1, x0, x1, x2, x3, hp, x, h => SF4_sends (DA := 20 + 1 * n) (by omega) (by omega) (fun x0 x1 x2 x3 hp x h => ⟨OF4_send h, SF4_send n x0 x1 x2 x3 hp x h⟩) h
theorem TF4_send {xs : Nat → Int32} {L : Nat} {x0 : Nat} {x1 : Int32} {x2 : Int32} {x3 : Int32} {hp : m_H} {x : m_H} (h : F4_send m_FD x0 x1 x2 x3 hp = some x) : m_Rn xs L 400 802 0 (lv_args 0 [.ref x0, .int x1, .int x2, .int x3]) [] hp (.inl none, x) := r_dp (SF4_send m_FD x0 x1 x2 x3 hp x h) (by decide)
-- F4_plan: LendHouse$Hulls.plan(LLendHouse$House;)V
theorem eF4_plan_0 : m_Fe mi4_1 0 (m_ap [(.aload_n 0, 1), (.iconst 0, 1)] ((.putfield 30, 3) :: (m_ap [(.aload_n 0, 1), (.ldc 34, 2)] ((.putfield 35, 3) :: (m_ap [(.iconst 0, 1), (.istore_n 2, 1), (.iconst 0, 1), (.istore_n 3, 1)] ([])))))) := m_Fe_of nd801 0 10 rfl
theorem eF4_plan_15 : m_Fe mi4_1 15 (m_ap [(.iload_n 3, 1), (.aload_n 1, 1)] ((.getfield 38, 3) :: ((.getfield 43, 3) :: ([(.if_icmp .ge 95, 3)])))) := m_Fe_of nd801 10 5 rfl
theorem eF4_plan_118 : m_Fe mi4_1 118 (m_ap [(.iconst 0, 1), (.istore_n 3, 1)] ([])) := m_Fe_of nd801 65 2 rfl
theorem eF4_plan_26 : m_Fe mi4_1 26 (m_ap [(.aload_n 1, 1)] ((.getfield 38, 3) :: (m_ap [(.iload_n 3, 1), (.iconst 2, 1)] ((.invokevirtual 48, 3) :: ([(.ifCond .ne 77, 3)]))))) := m_Fe_of nd801 15 6 rfl
theorem eF4_plan_112 : m_Fe mi4_1 112 (m_ap [(.iinc 3 1, 3)] ([(.goto (-100), 3)])) := m_Fe_of nd801 63 2 rfl
theorem eF4_plan_38 : m_Fe mi4_1 38 (m_ap [(.aload_n 0, 1)] ((.getfield 30, 3) :: (m_ap [(.aload_n 0, 1)] ((.getfield 11, 3) :: ((.arraylength, 1) :: ([(.if_icmp .ge 65, 3)])))))) := m_Fe_of nd801 21 6 rfl
theorem eF4_plan_50 : m_Fe mi4_1 50 (m_ap [(.aload_n 0, 1)] ((.getfield 30, 3) :: (m_ap [(.aload_n 0, 1)] ((.getfield 15, 3) :: ((.arraylength, 1) :: ([(.if_icmp .ge 53, 3)])))))) := m_Fe_of nd801 27 6 rfl
theorem eF4_plan_62 : m_Fe mi4_1 62 (m_ap [(.aload_n 0, 1)] ((.getfield 11, 3) :: (m_ap [(.aload_n 0, 1)] ((.getfield 30, 3) :: (m_ap [(.iload_n 3, 1)] ((.iastore, 1) :: (m_ap [(.aload_n 0, 1)] ((.getfield 15, 3) :: (m_ap [(.aload_n 0, 1)] ((.getfield 30, 3) :: (m_ap [(.aload_n 1, 1)] ((.getfield 38, 3) :: (m_ap [(.iload_n 3, 1), (.iconst 0, 1)] ((.invokevirtual 48, 3) :: ((.iastore, 1) :: (m_ap [(.iload_n 2, 1), (.aload_n 0, 1)] ((.getfield 15, 3) :: (m_ap [(.aload_n 0, 1)] ((.getfield 30, 3) :: ((.iaload, 1) :: (m_ap [(.iadd, 1), (.istore_n 2, 1), (.aload_n 0, 1), (.dup, 1)] ((.getfield 30, 3) :: (m_ap [(.iconst 1, 1), (.iadd, 1)] ([(.putfield 30, 3)])))))))))))))))))))))))) := m_Fe_of nd801 33 30 rfl
theorem eF4_plan_120 : m_Fe mi4_1 120 (m_ap [(.iload_n 3, 1), (.bipush 6, 2)] ([(.if_icmp .ge 59, 3)])) := m_Fe_of nd801 67 3 rfl
theorem eF4_plan_126 : m_Fe mi4_1 126 (m_ap [(.iload_n 3, 1), (.aload_n 0, 1)] ((.getfield 27, 3) :: ((.arraylength, 1) :: ([(.if_icmp .ge 50, 3)])))) := m_Fe_of nd801 70 5 rfl
theorem eF4_plan_135 : m_Fe mi4_1 135 (m_ap [(.iload_n 3, 1), (.aload_n 0, 1)] ((.getfield 24, 3) :: ((.arraylength, 1) :: ([(.if_icmp .ge 41, 3)])))) := m_Fe_of nd801 75 5 rfl
theorem eF4_plan_144 : m_Fe mi4_1 144 (m_ap [(.aload_n 0, 1)] ((.getfield 27, 3) :: (m_ap [(.iload_n 3, 1), (.aload_n 1, 1)] ((.getfield 52, 3) :: (m_ap [(.iload_n 3, 1), (.iconst 3, 1)] ((.invokevirtual 48, 3) :: ((.iastore, 1) :: (m_ap [(.aload_n 0, 1)] ((.getfield 24, 3) :: (m_ap [(.iload_n 3, 1), (.aload_n 1, 1), (.iload_n 3, 1), (.aload_n 1, 1)] ((.getfield 55, 3) :: (m_ap [(.iconst 1, 1), (.iadd, 1)] ((.invokevirtual 58, 3) :: ((.iastore, 1) :: (m_ap [(.iinc 3 1, 3)] ([(.goto (-59), 3)])))))))))))))))) := m_Fe_of nd801 80 22 rfl
theorem eF4_plan_182 : m_Fe mi4_1 182 (m_ap [(.aload_n 0, 1), (.iconst 0, 1), (.iload_n 2, 1), (.iconst 0, 1)] ((.invokevirtual 61, 3) :: ([(.return_, 1)]))) := m_Fe_of nd801 102 6 rfl
theorem SF4_plan_182 {xs : Nat → Int32} {L : Nat} (x0 : Nat) (x2 : Int32) (hp : m_H) {r : m_O × m_H} {K : m_H → Prop} (k0 : ∀ x, K x → r = (.inl none, x)) {t : m_H} (h : F4_plan_182 x0 x2 hp = some t) (hK : K t) : m_Rn xs L 401 801 182 [(0, .ref x0), (2, .int x2)] [] hp r := by
  unfold F4_plan_182 at h
  refine g_in eF4_plan_182 mx801 ?_
  refine g_ch [(0, .ref x0), (2, .int x2)] [.int 0, .int x2, .int 0, .ref x0] (pc' := 186) rfl rfl rfl ?_
  obtain ⟨h2, e1, h⟩ := m_bd h
  refine g_call (v := none) (h := h2) (st' := []) (D1 := 400) (as := [.ref x0, .int 0, .int x2, .int 0]) (Or.inr (Or.inl rfl)) q4_m61 (m_cv (as := [.int 0, .int x2, .int 0]) (rest := []) (Or.inl rfl) q4_m61 jv802 (OF4_send e1) rfl rfl rfl rfl) (by decide) (TF4_send e1) rfl ?_
  cases h
  rw [k0 _ hK]
  exact g_vret rfl
theorem SF4_plan_120b {xs : Nat → Int32} {L : Nat} (x0 : Nat) (x1 : Nat) (x2 : Int32) (s : Int32 × m_H) {r : m_O × m_H} {K : ((Int32 × m_H) ⊕ m_H) → Prop} (k0 : ∀ x, K (.inr x) → r = (.inl none, x)) (k1 : ∀ s, K (.inl s) → m_Rn xs L 401 801 120 [(0, .ref x0), (1, .ref x1), (2, .int x2), (3, .int s.1)] [] s.2 r) {t : (Int32 × m_H) ⊕ m_H} (h : F4_plan_120b x0 x1 x2 s = some t) (hK : K t) : m_Rn xs L 401 801 120 [(0, .ref x0), (1, .ref x1), (2, .int x2), (3, .int s.1)] [] s.2 r := by
  unfold F4_plan_120b at h
  refine g_in eF4_plan_120 mx801 ?_
  refine g_ch [(0, .ref x0), (1, .ref x1), (2, .int x2), (3, .int s.1)] [.int 6, .int s.1] (pc' := 123) rfl rfl rfl ?_
  rcases m_ifd h with ⟨c1, h⟩ | ⟨c1, h⟩
  · refine g_if (t := 182) rfl (m_geT c1) ?_
    obtain ⟨t', h2, rfl⟩ := Option.map_eq_some_iff.mp h
    exact r_lv (SF4_plan_182 x0 x2 s.2 (K := fun t => K (.inr t)) k0 h2 hK) rfl ⟨rfl, rfl, trivial⟩
  · refine g_ifn (t := 182) rfl (m_geF c1) ?_
    refine g_in eF4_plan_126 mx801 ?_
    refine g_ch [(0, .ref x0), (1, .ref x1), (2, .int x2), (3, .int s.1)] [.ref x0, .int s.1] (pc' := 128) rfl rfl rfl ?_
    obtain ⟨v2, e3, h⟩ := m_bd h
    refine g_gr q4_f27 e3 ?_
    obtain ⟨v4, e5, h⟩ := m_bd h
    refine g_len e5 ?_
    rcases m_ifd h with ⟨c6, h⟩ | ⟨c6, h⟩
    · refine g_if (t := 182) rfl (m_geT c6) ?_
      obtain ⟨t', h2, rfl⟩ := Option.map_eq_some_iff.mp h
      exact r_lv (SF4_plan_182 x0 x2 s.2 (K := fun t => K (.inr t)) k0 h2 hK) rfl ⟨rfl, rfl, trivial⟩
    · refine g_ifn (t := 182) rfl (m_geF c6) ?_
      refine g_in eF4_plan_135 mx801 ?_
      refine g_ch [(0, .ref x0), (1, .ref x1), (2, .int x2), (3, .int s.1)] [.ref x0, .int s.1] (pc' := 137) rfl rfl rfl ?_
      obtain ⟨v7, e8, h⟩ := m_bd h
      refine g_gr q4_f24 e8 ?_
      obtain ⟨v9, e10, h⟩ := m_bd h
      refine g_len e10 ?_
      rcases m_ifd h with ⟨c11, h⟩ | ⟨c11, h⟩
      · refine g_if (t := 182) rfl (m_geT c11) ?_
        obtain ⟨t', h2, rfl⟩ := Option.map_eq_some_iff.mp h
        exact r_lv (SF4_plan_182 x0 x2 s.2 (K := fun t => K (.inr t)) k0 h2 hK) rfl ⟨rfl, rfl, trivial⟩
      · refine g_ifn (t := 182) rfl (m_geF c11) ?_
        refine g_in eF4_plan_144 mx801 ?_
        refine g_ch [(0, .ref x0), (1, .ref x1), (2, .int x2), (3, .int s.1)] [.ref x0] (pc' := 145) rfl rfl rfl ?_
        obtain ⟨v12, e13, h⟩ := m_bd h
        refine g_gr q4_f27 e13 ?_
        refine g_ch [(0, .ref x0), (1, .ref x1), (2, .int x2), (3, .int s.1)] [.ref x1, .int s.1, .ref v12] (pc' := 150) rfl rfl rfl ?_
        obtain ⟨v14, e15, h⟩ := m_bd h
        refine g_gr q4_f52 e15 ?_
        refine g_ch [(0, .ref x0), (1, .ref x1), (2, .int x2), (3, .int s.1)] [.int 3, .int s.1, .ref v14, .int s.1, .ref v12] (pc' := 155) rfl rfl rfl ?_
        obtain ⟨v17, e16, h⟩ := m_bd h
        refine g_call (v := some (.int v17)) (h := s.2) (st' := [.int v17, .int s.1, .ref v12]) (D1 := 1) (as := [.ref v14, .int s.1, .int 3]) (Or.inr (Or.inl rfl)) q4_m48 (m_cv (as := [.int 3, .int s.1]) (rest := [.int s.1, .ref v12]) (Or.inl rfl) q4_m48 jv1604 (OF8_get e16) rfl rfl rfl rfl) (by decide) (SF8_get e16) rfl ?_
        obtain ⟨h18, e19, h⟩ := m_bd h
        refine g_is e19 ?_
        refine g_ch [(0, .ref x0), (1, .ref x1), (2, .int x2), (3, .int s.1)] [.ref x0] (pc' := 160) rfl rfl rfl ?_
        obtain ⟨v20, e21, h⟩ := m_bd h
        refine g_gr q4_f24 e21 ?_
        refine g_ch [(0, .ref x0), (1, .ref x1), (2, .int x2), (3, .int s.1)] [.ref x1, .int s.1, .ref x1, .int s.1, .ref v20] (pc' := 167) rfl rfl rfl ?_
        obtain ⟨v22, e23, h⟩ := m_bd h
        refine g_gi q4_f55 e23 ?_
        refine g_ch [(0, .ref x0), (1, .ref x1), (2, .int x2), (3, .int s.1)] [.int (v22 + 1), .int s.1, .ref x1, .int s.1, .ref v20] (pc' := 172) rfl rfl rfl ?_
        obtain ⟨v25, e24, h⟩ := m_bd h
        refine g_call (v := some (.int v25)) (h := h18) (st' := [.int v25, .int s.1, .ref v20]) (D1 := 3) (as := [.ref x1, .int s.1, .int (v22 + 1)]) (Or.inr (Or.inl rfl)) q4_m58 (m_cv (as := [.int (v22 + 1), .int s.1]) (rest := [.int s.1, .ref v20]) (Or.inl rfl) q4_m58 jv607 (OF3_riskIn e24) rfl rfl rfl rfl) (by decide) (SF3_riskIn e24) rfl ?_
        obtain ⟨h26, e27, h⟩ := m_bd h
        refine g_is e27 ?_
        refine g_ch [(3, .int (s.1 + 1)), (0, .ref x0), (1, .ref x1), (2, .int x2)] [] (pc' := 179) rfl rfl rfl ?_
        refine g_goto (t := 120) rfl ?_
        cases h
        exact r_lv (k1 ((s.1 + 1), h26) hK) rfl ⟨rfl, rfl, rfl, rfl, trivial⟩
theorem SF4_plan_120 {xs : Nat → Int32} {L : Nat} (x0 : Nat) (x1 : Nat) (x2 : Int32) (x3 : Int32) (hp : m_H) {r : m_O × m_H} {K : m_H → Prop} (k0 : ∀ x, K x → r = (.inl none, x)) {t : m_H} (h : F4_plan_120 x0 x1 x2 x3 hp = some t) (hK : K t) : m_Rn xs L 401 801 120 [(0, .ref x0), (1, .ref x1), (2, .int x2), (3, .int x3)] [] hp r :=
  m_wh_ok (P := fun s => m_Rn xs L 401 801 120 [(0, .ref x0), (1, .ref x1), (2, .int x2), (3, .int s.1)] [] s.2 r) (Q := K) (fun s t hb hK => SF4_plan_120b x0 x1 x2 s (K := m_KK (fun s => m_Rn xs L 401 801 120 [(0, .ref x0), (1, .ref x1), (2, .int x2), (3, .int s.1)] [] s.2 r) K) k0 (fun _ q => q) hb hK) m_N _ _ h hK
theorem SF4_plan_15b {xs : Nat → Int32} {L : Nat} (x0 : Nat) (x1 : Nat) (s : Int32 × Int32 × m_H) {r : m_O × m_H} {K : ((Int32 × Int32 × m_H) ⊕ m_H) → Prop} (k0 : ∀ x, K (.inr x) → r = (.inl none, x)) (k1 : ∀ s, K (.inl s) → m_Rn xs L 401 801 15 [(0, .ref x0), (1, .ref x1), (2, .int s.1), (3, .int s.2.1)] [] s.2.2 r) {t : (Int32 × Int32 × m_H) ⊕ m_H} (h : F4_plan_15b x0 x1 s = some t) (hK : K t) : m_Rn xs L 401 801 15 [(0, .ref x0), (1, .ref x1), (2, .int s.1), (3, .int s.2.1)] [] s.2.2 r := by
  unfold F4_plan_15b at h
  refine g_in eF4_plan_15 mx801 ?_
  refine g_ch [(0, .ref x0), (1, .ref x1), (2, .int s.1), (3, .int s.2.1)] [.ref x1, .int s.2.1] (pc' := 17) rfl rfl rfl ?_
  obtain ⟨v1, e2, h⟩ := m_bd h
  refine g_gr q4_f38 e2 ?_
  obtain ⟨v3, e4, h⟩ := m_bd h
  refine g_gi q4_f43 e4 ?_
  rcases m_ifd h with ⟨c5, h⟩ | ⟨c5, h⟩
  · refine g_if (t := 118) rfl (m_geT c5) ?_
    refine g_in eF4_plan_118 mx801 ?_
    refine g_ch [(3, .int 0), (0, .ref x0), (1, .ref x1), (2, .int s.1)] [] (pc' := 120) rfl rfl rfl ?_
    refine g_end ?_
    obtain ⟨t', h2, rfl⟩ := Option.map_eq_some_iff.mp h
    exact r_lv (SF4_plan_120 x0 x1 s.1 0 s.2.2 (K := fun t => K (.inr t)) k0 h2 hK) rfl ⟨rfl, rfl, rfl, rfl, trivial⟩
  · refine g_ifn (t := 118) rfl (m_geF c5) ?_
    refine g_in eF4_plan_26 mx801 ?_
    refine g_ch [(0, .ref x0), (1, .ref x1), (2, .int s.1), (3, .int s.2.1)] [.ref x1] (pc' := 27) rfl rfl rfl ?_
    obtain ⟨v6, e7, h⟩ := m_bd h
    refine g_gr q4_f38 e7 ?_
    refine g_ch [(0, .ref x0), (1, .ref x1), (2, .int s.1), (3, .int s.2.1)] [.int 2, .int s.2.1, .ref v6] (pc' := 32) rfl rfl rfl ?_
    obtain ⟨v9, e8, h⟩ := m_bd h
    refine g_call (v := some (.int v9)) (h := s.2.2) (st' := [.int v9]) (D1 := 1) (as := [.ref v6, .int s.2.1, .int 2]) (Or.inr (Or.inl rfl)) q4_m48 (m_cv (as := [.int 2, .int s.2.1]) (rest := []) (Or.inl rfl) q4_m48 jv1604 (OF8_get e8) rfl rfl rfl rfl) (by decide) (SF8_get e8) rfl ?_
    rcases m_ifd h with ⟨c10, h⟩ | ⟨c10, h⟩
    · refine g_ifcn (t := 112) rfl (m_neF c10) ?_
      refine g_in eF4_plan_38 mx801 ?_
      refine g_ch [(0, .ref x0), (1, .ref x1), (2, .int s.1), (3, .int s.2.1)] [.ref x0] (pc' := 39) rfl rfl rfl ?_
      obtain ⟨v11, e12, h⟩ := m_bd h
      refine g_gi q4_f30 e12 ?_
      refine g_ch [(0, .ref x0), (1, .ref x1), (2, .int s.1), (3, .int s.2.1)] [.ref x0, .int v11] (pc' := 43) rfl rfl rfl ?_
      obtain ⟨v13, e14, h⟩ := m_bd h
      refine g_gr q4_f11 e14 ?_
      obtain ⟨v15, e16, h⟩ := m_bd h
      refine g_len e16 ?_
      rcases m_ifd h with ⟨c17, h⟩ | ⟨c17, h⟩
      · refine g_if (t := 112) rfl (m_geT c17) ?_
        refine g_in eF4_plan_112 mx801 ?_
        refine g_ch [(3, .int (s.2.1 + 1)), (0, .ref x0), (1, .ref x1), (2, .int s.1)] [] (pc' := 115) rfl rfl rfl ?_
        refine g_goto (t := 15) rfl ?_
        cases h
        exact r_lv (k1 (s.1, (s.2.1 + 1), s.2.2) hK) rfl ⟨rfl, rfl, rfl, rfl, trivial⟩
      · refine g_ifn (t := 112) rfl (m_geF c17) ?_
        refine g_in eF4_plan_50 mx801 ?_
        refine g_ch [(0, .ref x0), (1, .ref x1), (2, .int s.1), (3, .int s.2.1)] [.ref x0] (pc' := 51) rfl rfl rfl ?_
        obtain ⟨v18, e19, h⟩ := m_bd h
        refine g_gi q4_f30 e19 ?_
        refine g_ch [(0, .ref x0), (1, .ref x1), (2, .int s.1), (3, .int s.2.1)] [.ref x0, .int v18] (pc' := 55) rfl rfl rfl ?_
        obtain ⟨v20, e21, h⟩ := m_bd h
        refine g_gr q4_f15 e21 ?_
        obtain ⟨v22, e23, h⟩ := m_bd h
        refine g_len e23 ?_
        rcases m_ifd h with ⟨c24, h⟩ | ⟨c24, h⟩
        · refine g_if (t := 112) rfl (m_geT c24) ?_
          refine g_in eF4_plan_112 mx801 ?_
          refine g_ch [(3, .int (s.2.1 + 1)), (0, .ref x0), (1, .ref x1), (2, .int s.1)] [] (pc' := 115) rfl rfl rfl ?_
          refine g_goto (t := 15) rfl ?_
          cases h
          exact r_lv (k1 (s.1, (s.2.1 + 1), s.2.2) hK) rfl ⟨rfl, rfl, rfl, rfl, trivial⟩
        · refine g_ifn (t := 112) rfl (m_geF c24) ?_
          refine g_in eF4_plan_62 mx801 ?_
          refine g_ch [(0, .ref x0), (1, .ref x1), (2, .int s.1), (3, .int s.2.1)] [.ref x0] (pc' := 63) rfl rfl rfl ?_
          obtain ⟨v25, e26, h⟩ := m_bd h
          refine g_gr q4_f11 e26 ?_
          refine g_ch [(0, .ref x0), (1, .ref x1), (2, .int s.1), (3, .int s.2.1)] [.ref x0, .ref v25] (pc' := 67) rfl rfl rfl ?_
          obtain ⟨v27, e28, h⟩ := m_bd h
          refine g_gi q4_f30 e28 ?_
          refine g_ch [(0, .ref x0), (1, .ref x1), (2, .int s.1), (3, .int s.2.1)] [.int s.2.1, .int v27, .ref v25] (pc' := 71) rfl rfl rfl ?_
          obtain ⟨h29, e30, h⟩ := m_bd h
          refine g_is e30 ?_
          refine g_ch [(0, .ref x0), (1, .ref x1), (2, .int s.1), (3, .int s.2.1)] [.ref x0] (pc' := 73) rfl rfl rfl ?_
          obtain ⟨v31, e32, h⟩ := m_bd h
          refine g_gr q4_f15 e32 ?_
          refine g_ch [(0, .ref x0), (1, .ref x1), (2, .int s.1), (3, .int s.2.1)] [.ref x0, .ref v31] (pc' := 77) rfl rfl rfl ?_
          obtain ⟨v33, e34, h⟩ := m_bd h
          refine g_gi q4_f30 e34 ?_
          refine g_ch [(0, .ref x0), (1, .ref x1), (2, .int s.1), (3, .int s.2.1)] [.ref x1, .int v33, .ref v31] (pc' := 81) rfl rfl rfl ?_
          obtain ⟨v35, e36, h⟩ := m_bd h
          refine g_gr q4_f38 e36 ?_
          refine g_ch [(0, .ref x0), (1, .ref x1), (2, .int s.1), (3, .int s.2.1)] [.int 0, .int s.2.1, .ref v35, .int v33, .ref v31] (pc' := 86) rfl rfl rfl ?_
          obtain ⟨v38, e37, h⟩ := m_bd h
          refine g_call (v := some (.int v38)) (h := h29) (st' := [.int v38, .int v33, .ref v31]) (D1 := 1) (as := [.ref v35, .int s.2.1, .int 0]) (Or.inr (Or.inl rfl)) q4_m48 (m_cv (as := [.int 0, .int s.2.1]) (rest := [.int v33, .ref v31]) (Or.inl rfl) q4_m48 jv1604 (OF8_get e37) rfl rfl rfl rfl) (by decide) (SF8_get e37) rfl ?_
          obtain ⟨h39, e40, h⟩ := m_bd h
          refine g_is e40 ?_
          refine g_ch [(0, .ref x0), (1, .ref x1), (2, .int s.1), (3, .int s.2.1)] [.ref x0, .int s.1] (pc' := 92) rfl rfl rfl ?_
          obtain ⟨v41, e42, h⟩ := m_bd h
          refine g_gr q4_f15 e42 ?_
          refine g_ch [(0, .ref x0), (1, .ref x1), (2, .int s.1), (3, .int s.2.1)] [.ref x0, .ref v41, .int s.1] (pc' := 96) rfl rfl rfl ?_
          obtain ⟨v43, e44, h⟩ := m_bd h
          refine g_gi q4_f30 e44 ?_
          obtain ⟨v45, e46, h⟩ := m_bd h
          refine g_ia e46 ?_
          refine g_ch [(2, .int (s.1 + v45)), (0, .ref x0), (1, .ref x1), (3, .int s.2.1)] [.ref x0, .ref x0] (pc' := 104) rfl rfl rfl ?_
          obtain ⟨v47, e48, h⟩ := m_bd h
          refine g_gi q4_f30 e48 ?_
          refine g_ch [(2, .int (s.1 + v45)), (0, .ref x0), (1, .ref x1), (3, .int s.2.1)] [.int (v47 + 1), .ref x0] (pc' := 109) rfl rfl rfl ?_
          obtain ⟨h49, e50, h⟩ := m_bd h
          refine g_pf q4_f30 e50 ?_
          refine g_end ?_
          refine g_in eF4_plan_112 mx801 ?_
          refine g_ch [(3, .int (s.2.1 + 1)), (2, .int (s.1 + v45)), (0, .ref x0), (1, .ref x1)] [] (pc' := 115) rfl rfl rfl ?_
          refine g_goto (t := 15) rfl ?_
          cases h
          exact r_lv (k1 ((s.1 + v45), (s.2.1 + 1), h49) hK) rfl ⟨rfl, rfl, rfl, rfl, trivial⟩
    · refine g_ifc (t := 112) rfl (m_neT c10) ?_
      refine g_in eF4_plan_112 mx801 ?_
      refine g_ch [(3, .int (s.2.1 + 1)), (0, .ref x0), (1, .ref x1), (2, .int s.1)] [] (pc' := 115) rfl rfl rfl ?_
      refine g_goto (t := 15) rfl ?_
      cases h
      exact r_lv (k1 (s.1, (s.2.1 + 1), s.2.2) hK) rfl ⟨rfl, rfl, rfl, rfl, trivial⟩
theorem SF4_plan_15 {xs : Nat → Int32} {L : Nat} (x0 : Nat) (x1 : Nat) (x2 : Int32) (x3 : Int32) (hp : m_H) {r : m_O × m_H} {K : m_H → Prop} (k0 : ∀ x, K x → r = (.inl none, x)) {t : m_H} (h : F4_plan_15 x0 x1 x2 x3 hp = some t) (hK : K t) : m_Rn xs L 401 801 15 [(0, .ref x0), (1, .ref x1), (2, .int x2), (3, .int x3)] [] hp r :=
  m_wh_ok (P := fun s => m_Rn xs L 401 801 15 [(0, .ref x0), (1, .ref x1), (2, .int s.1), (3, .int s.2.1)] [] s.2.2 r) (Q := K) (fun s t hb hK => SF4_plan_15b x0 x1 s (K := m_KK (fun s => m_Rn xs L 401 801 15 [(0, .ref x0), (1, .ref x1), (2, .int s.1), (3, .int s.2.1)] [] s.2.2 r) K) k0 (fun _ q => q) hb hK) m_N _ _ h hK
theorem SF4_plan_0 {xs : Nat → Int32} {L : Nat} (x0 : Nat) (x1 : Nat) (hp : m_H) {r : m_O × m_H} {K : m_H → Prop} (k0 : ∀ x, K x → r = (.inl none, x)) {t : m_H} (h : F4_plan_0 x0 x1 hp = some t) (hK : K t) : m_Rn xs L 401 801 0 [(0, .ref x0), (1, .ref x1)] [] hp r := by
  unfold F4_plan_0 at h
  refine g_in eF4_plan_0 mx801 ?_
  refine g_ch [(0, .ref x0), (1, .ref x1)] [.int 0, .ref x0] (pc' := 2) rfl rfl rfl ?_
  obtain ⟨h1, e2, h⟩ := m_bd h
  refine g_pf q4_f30 e2 ?_
  refine g_ch [(0, .ref x0), (1, .ref x1)] [.int 1000000000, .ref x0] (pc' := 8) rfl rfl rfl ?_
  obtain ⟨h3, e4, h⟩ := m_bd h
  refine g_pf q4_f35 e4 ?_
  refine g_ch [(3, .int 0), (2, .int 0), (0, .ref x0), (1, .ref x1)] [] (pc' := 15) rfl rfl rfl ?_
  refine g_end ?_
  exact r_lv (SF4_plan_15 x0 x1 0 0 h3 (K := K) k0 h hK) rfl ⟨rfl, rfl, rfl, rfl, trivial⟩
theorem OF4_plan {x0 : Nat} {x1 : Nat} {hp : m_H} {x : m_H} (h : F4_plan x0 x1 hp = some x) : m_isO hp 4 x0 = true := (m_gdd h).1
theorem SF4_plan {xs : Nat → Int32} {L : Nat} {x0 : Nat} {x1 : Nat} {hp : m_H} {x : m_H} (h : F4_plan x0 x1 hp = some x) : m_Rn xs L 401 801 0 (lv_args 0 [.ref x0, .ref x1]) [] hp (.inl none, x) :=
  r_lv (SF4_plan_0 x0 x1 hp (K := fun y => y = x) (fun y e => by rw [e]) (m_gdd h).2 rfl) rfl ⟨rfl, rfl, trivial⟩
-- F4_leastLost: LendHouse$Hulls.leastLost()I
theorem eF4_leastLost_0 : m_Fe mi4_4 0 (m_ap [(.aload_n 0, 1)] ((.getfield 35, 3) :: (m_ap [(.ldc 34, 2)] ([(.if_icmp .ne 7, 3)])))) := m_Fe_of nd804 0 4 rfl
theorem eF4_leastLost_13 : m_Fe mi4_4 13 (m_ap [(.aload_n 0, 1)] ([(.getfield 35, 3)])) := m_Fe_of nd804 6 2 rfl
theorem eF4_leastLost_17 : m_Fe mi4_4 17 ([(.ireturn, 1)]) := m_Fe_of nd804 8 1 rfl
theorem eF4_leastLost_9 : m_Fe mi4_4 9 (m_ap [(.iconst (-1), 1)] ([(.goto 7, 3)])) := m_Fe_of nd804 4 2 rfl
theorem SF4_leastLost_0 {xs : Nat → Int32} {L : Nat} (x0 : Nat) (hp : m_H) {r : m_O × m_H} {K : Int32 → Prop} (k0 : ∀ x, K x → r = (.inl (some (.int x)), hp)) {t : Int32} (h : F4_leastLost_0 x0 hp = some t) (hK : K t) : m_Rn xs L 0 804 0 [(0, .ref x0)] [] hp r := by
  unfold F4_leastLost_0 at h
  refine g_in eF4_leastLost_0 mx804 ?_
  refine g_ch [(0, .ref x0)] [.ref x0] (pc' := 1) rfl rfl rfl ?_
  obtain ⟨v1, e2, h⟩ := m_bd h
  refine g_gi q4_f35 e2 ?_
  refine g_ch [(0, .ref x0)] [.int 1000000000, .int v1] (pc' := 6) rfl rfl rfl ?_
  rcases m_ifd h with ⟨c3, h⟩ | ⟨c3, h⟩
  · refine g_ifn (t := 13) rfl (m_neF c3) ?_
    refine g_in eF4_leastLost_9 mx804 ?_
    refine g_ch [(0, .ref x0)] [.int (-1)] (pc' := 10) rfl rfl rfl ?_
    refine g_goto (t := 17) rfl ?_
    refine g_in eF4_leastLost_17 mx804 ?_
    cases h
    rw [k0 _ hK]
    exact g_iret rfl rfl
  · refine g_if (t := 13) rfl (m_neT c3) ?_
    refine g_in eF4_leastLost_13 mx804 ?_
    refine g_ch [(0, .ref x0)] [.ref x0] (pc' := 14) rfl rfl rfl ?_
    obtain ⟨v4, e5, h⟩ := m_bd h
    refine g_gi q4_f35 e5 ?_
    refine g_end ?_
    refine g_in eF4_leastLost_17 mx804 ?_
    cases h
    rw [k0 _ hK]
    exact g_iret rfl rfl
theorem OF4_leastLost {x0 : Nat} {hp : m_H} {x : Int32} (h : F4_leastLost x0 hp = some x) : m_isO hp 4 x0 = true := (m_gdd h).1
theorem SF4_leastLost {xs : Nat → Int32} {L : Nat} {x0 : Nat} {hp : m_H} {x : Int32} (h : F4_leastLost x0 hp = some x) : m_Rn xs L 0 804 0 (lv_args 0 [.ref x0]) [] hp (.inl (some (.int x)), hp) :=
  r_lv (SF4_leastLost_0 x0 hp (K := fun y => y = x) (fun y e => by rw [e]) (m_gdd h).2 rfl) rfl ⟨rfl, trivial⟩
-- F4_landOf: LendHouse$Hulls.landOf(I)I
theorem eF4_landOf_0 : m_Fe mi4_5 0 (m_ap [(.aload_n 0, 1)] ((.getfield 35, 3) :: (m_ap [(.ldc 34, 2)] ([(.if_icmp .ne 5, 3)])))) := m_Fe_of nd805 0 4 rfl
theorem eF4_landOf_11 : m_Fe mi4_5 11 (m_ap [(.iconst 0, 1), (.istore_n 2, 1)] ([])) := m_Fe_of nd805 6 2 rfl
theorem eF4_landOf_9 : m_Fe mi4_5 9 (m_ap [(.iconst (-1), 1)] ([(.ireturn, 1)])) := m_Fe_of nd805 4 2 rfl
theorem eF4_landOf_13 : m_Fe mi4_5 13 (m_ap [(.iload_n 2, 1), (.aload_n 0, 1)] ((.getfield 30, 3) :: ([(.if_icmp .ge 44, 3)]))) := m_Fe_of nd805 8 4 rfl
theorem eF4_landOf_62 : m_Fe mi4_5 62 (m_ap [(.iconst (-1), 1)] ([(.ireturn, 1)])) := m_Fe_of nd805 35 2 rfl
theorem eF4_landOf_21 : m_Fe mi4_5 21 (m_ap [(.iload_n 2, 1), (.aload_n 0, 1)] ((.getfield 11, 3) :: ((.arraylength, 1) :: ([(.if_icmp .ge 35, 3)])))) := m_Fe_of nd805 12 5 rfl
theorem eF4_landOf_30 : m_Fe mi4_5 30 (m_ap [(.iload_n 2, 1), (.aload_n 0, 1)] ((.getfield 21, 3) :: ((.arraylength, 1) :: ([(.if_icmp .ge 26, 3)])))) := m_Fe_of nd805 17 5 rfl
theorem eF4_landOf_39 : m_Fe mi4_5 39 (m_ap [(.aload_n 0, 1)] ((.getfield 11, 3) :: (m_ap [(.iload_n 2, 1)] ((.iaload, 1) :: (m_ap [(.iload_n 1, 1)] ([(.if_icmp .ne 10, 3)])))))) := m_Fe_of nd805 22 6 rfl
theorem eF4_landOf_56 : m_Fe mi4_5 56 (m_ap [(.iinc 2 1, 3)] ([(.goto (-46), 3)])) := m_Fe_of nd805 33 2 rfl
theorem eF4_landOf_49 : m_Fe mi4_5 49 (m_ap [(.aload_n 0, 1)] ((.getfield 21, 3) :: (m_ap [(.iload_n 2, 1)] ((.iaload, 1) :: ([(.ireturn, 1)]))))) := m_Fe_of nd805 28 5 rfl
theorem SF4_landOf_13b {xs : Nat → Int32} {L : Nat} (x0 : Nat) (x1 : Int32) (hp : m_H) (s : Int32) {r : m_O × m_H} {K : (Int32 ⊕ Int32) → Prop} (k0 : ∀ x, K (.inr x) → r = (.inl (some (.int x)), hp)) (k1 : ∀ s, K (.inl s) → m_Rn xs L 0 805 13 [(0, .ref x0), (1, .int x1), (2, .int s)] [] hp r) {t : Int32 ⊕ Int32} (h : F4_landOf_13b x0 x1 hp s = some t) (hK : K t) : m_Rn xs L 0 805 13 [(0, .ref x0), (1, .int x1), (2, .int s)] [] hp r := by
  unfold F4_landOf_13b at h
  refine g_in eF4_landOf_13 mx805 ?_
  refine g_ch [(0, .ref x0), (1, .int x1), (2, .int s)] [.ref x0, .int s] (pc' := 15) rfl rfl rfl ?_
  obtain ⟨v1, e2, h⟩ := m_bd h
  refine g_gi q4_f30 e2 ?_
  rcases m_ifd h with ⟨c3, h⟩ | ⟨c3, h⟩
  · refine g_if (t := 62) rfl (m_geT c3) ?_
    refine g_in eF4_landOf_62 mx805 ?_
    refine g_ch [(0, .ref x0), (1, .int x1), (2, .int s)] [.int (-1)] (pc' := 63) rfl rfl rfl ?_
    cases h
    rw [k0 _ hK]
    exact g_iret rfl rfl
  · refine g_ifn (t := 62) rfl (m_geF c3) ?_
    refine g_in eF4_landOf_21 mx805 ?_
    refine g_ch [(0, .ref x0), (1, .int x1), (2, .int s)] [.ref x0, .int s] (pc' := 23) rfl rfl rfl ?_
    obtain ⟨v4, e5, h⟩ := m_bd h
    refine g_gr q4_f11 e5 ?_
    obtain ⟨v6, e7, h⟩ := m_bd h
    refine g_len e7 ?_
    rcases m_ifd h with ⟨c8, h⟩ | ⟨c8, h⟩
    · refine g_if (t := 62) rfl (m_geT c8) ?_
      refine g_in eF4_landOf_62 mx805 ?_
      refine g_ch [(0, .ref x0), (1, .int x1), (2, .int s)] [.int (-1)] (pc' := 63) rfl rfl rfl ?_
      cases h
      rw [k0 _ hK]
      exact g_iret rfl rfl
    · refine g_ifn (t := 62) rfl (m_geF c8) ?_
      refine g_in eF4_landOf_30 mx805 ?_
      refine g_ch [(0, .ref x0), (1, .int x1), (2, .int s)] [.ref x0, .int s] (pc' := 32) rfl rfl rfl ?_
      obtain ⟨v9, e10, h⟩ := m_bd h
      refine g_gr q4_f21 e10 ?_
      obtain ⟨v11, e12, h⟩ := m_bd h
      refine g_len e12 ?_
      rcases m_ifd h with ⟨c13, h⟩ | ⟨c13, h⟩
      · refine g_if (t := 62) rfl (m_geT c13) ?_
        refine g_in eF4_landOf_62 mx805 ?_
        refine g_ch [(0, .ref x0), (1, .int x1), (2, .int s)] [.int (-1)] (pc' := 63) rfl rfl rfl ?_
        cases h
        rw [k0 _ hK]
        exact g_iret rfl rfl
      · refine g_ifn (t := 62) rfl (m_geF c13) ?_
        refine g_in eF4_landOf_39 mx805 ?_
        refine g_ch [(0, .ref x0), (1, .int x1), (2, .int s)] [.ref x0] (pc' := 40) rfl rfl rfl ?_
        obtain ⟨v14, e15, h⟩ := m_bd h
        refine g_gr q4_f11 e15 ?_
        refine g_ch [(0, .ref x0), (1, .int x1), (2, .int s)] [.int s, .ref v14] (pc' := 44) rfl rfl rfl ?_
        obtain ⟨v16, e17, h⟩ := m_bd h
        refine g_ia e17 ?_
        refine g_ch [(0, .ref x0), (1, .int x1), (2, .int s)] [.int x1, .int v16] (pc' := 46) rfl rfl rfl ?_
        rcases m_ifd h with ⟨c18, h⟩ | ⟨c18, h⟩
        · refine g_ifn (t := 56) rfl (m_neF c18) ?_
          refine g_in eF4_landOf_49 mx805 ?_
          refine g_ch [(0, .ref x0), (1, .int x1), (2, .int s)] [.ref x0] (pc' := 50) rfl rfl rfl ?_
          obtain ⟨v19, e20, h⟩ := m_bd h
          refine g_gr q4_f21 e20 ?_
          refine g_ch [(0, .ref x0), (1, .int x1), (2, .int s)] [.int s, .ref v19] (pc' := 54) rfl rfl rfl ?_
          obtain ⟨v21, e22, h⟩ := m_bd h
          refine g_ia e22 ?_
          cases h
          rw [k0 _ hK]
          exact g_iret rfl rfl
        · refine g_if (t := 56) rfl (m_neT c18) ?_
          refine g_in eF4_landOf_56 mx805 ?_
          refine g_ch [(2, .int (s + 1)), (0, .ref x0), (1, .int x1)] [] (pc' := 59) rfl rfl rfl ?_
          refine g_goto (t := 13) rfl ?_
          cases h
          exact r_lv (k1 (s + 1) hK) rfl ⟨rfl, rfl, rfl, trivial⟩
theorem SF4_landOf_13 {xs : Nat → Int32} {L : Nat} (x0 : Nat) (x1 : Int32) (x2 : Int32) (hp : m_H) {r : m_O × m_H} {K : Int32 → Prop} (k0 : ∀ x, K x → r = (.inl (some (.int x)), hp)) {t : Int32} (h : F4_landOf_13 x0 x1 x2 hp = some t) (hK : K t) : m_Rn xs L 0 805 13 [(0, .ref x0), (1, .int x1), (2, .int x2)] [] hp r :=
  m_wh_ok (P := fun s => m_Rn xs L 0 805 13 [(0, .ref x0), (1, .int x1), (2, .int s)] [] hp r) (Q := K) (fun s t hb hK => SF4_landOf_13b x0 x1 hp s (K := m_KK (fun s => m_Rn xs L 0 805 13 [(0, .ref x0), (1, .int x1), (2, .int s)] [] hp r) K) k0 (fun _ q => q) hb hK) m_N _ _ h hK
theorem SF4_landOf_0 {xs : Nat → Int32} {L : Nat} (x0 : Nat) (x1 : Int32) (hp : m_H) {r : m_O × m_H} {K : Int32 → Prop} (k0 : ∀ x, K x → r = (.inl (some (.int x)), hp)) {t : Int32} (h : F4_landOf_0 x0 x1 hp = some t) (hK : K t) : m_Rn xs L 0 805 0 [(0, .ref x0), (1, .int x1)] [] hp r := by
  unfold F4_landOf_0 at h
  refine g_in eF4_landOf_0 mx805 ?_
  refine g_ch [(0, .ref x0), (1, .int x1)] [.ref x0] (pc' := 1) rfl rfl rfl ?_
  obtain ⟨v1, e2, h⟩ := m_bd h
  refine g_gi q4_f35 e2 ?_
  refine g_ch [(0, .ref x0), (1, .int x1)] [.int 1000000000, .int v1] (pc' := 6) rfl rfl rfl ?_
  rcases m_ifd h with ⟨c3, h⟩ | ⟨c3, h⟩
  · refine g_ifn (t := 11) rfl (m_neF c3) ?_
    refine g_in eF4_landOf_9 mx805 ?_
    refine g_ch [(0, .ref x0), (1, .int x1)] [.int (-1)] (pc' := 10) rfl rfl rfl ?_
    cases h
    rw [k0 _ hK]
    exact g_iret rfl rfl
  · refine g_if (t := 11) rfl (m_neT c3) ?_
    refine g_in eF4_landOf_11 mx805 ?_
    refine g_ch [(2, .int 0), (0, .ref x0), (1, .int x1)] [] (pc' := 13) rfl rfl rfl ?_
    refine g_end ?_
    exact r_lv (SF4_landOf_13 x0 x1 0 hp (K := K) k0 h hK) rfl ⟨rfl, rfl, rfl, trivial⟩
theorem OF4_landOf {x0 : Nat} {x1 : Int32} {hp : m_H} {x : Int32} (h : F4_landOf x0 x1 hp = some x) : m_isO hp 4 x0 = true := (m_gdd h).1
theorem SF4_landOf {xs : Nat → Int32} {L : Nat} {x0 : Nat} {x1 : Int32} {hp : m_H} {x : Int32} (h : F4_landOf x0 x1 hp = some x) : m_Rn xs L 0 805 0 (lv_args 0 [.ref x0, .int x1]) [] hp (.inl (some (.int x)), hp) :=
  r_lv (SF4_landOf_0 x0 x1 hp (K := fun y => y = x) (fun y e => by rw [e]) (m_gdd h).2 rfl) rfl ⟨rfl, rfl, trivial⟩
-- F5_isLentTo: LendHouse$Ledger.isLentTo(LLendHouse$House;II)Z
theorem eF5_isLentTo_0 : m_Fe mi5_0 0 (m_ap [(.aload_n 0, 1)] ((.getfield 9, 3) :: (m_ap [(.iload_n 1, 1), (.iconst 2, 1)] ((.invokevirtual 15, 3) :: (m_ap [(.iload_n 2, 1)] ([(.if_icmp .ne 15, 3)])))))) := m_Fe_of nd1000 0 7 rfl
theorem eF5_isLentTo_25 : m_Fe mi5_0 25 (m_ap [(.iconst 0, 1)] ([])) := m_Fe_of nd1000 13 1 rfl
theorem eF5_isLentTo_26 : m_Fe mi5_0 26 ([(.ireturn, 1)]) := m_Fe_of nd1000 14 1 rfl
theorem eF5_isLentTo_13 : m_Fe mi5_0 13 (m_ap [(.aload_n 0, 1), (.iload_n 1, 1)] ((.invokevirtual 21, 3) :: ([(.ifCond .eq 7, 3)]))) := m_Fe_of nd1000 7 4 rfl
theorem eF5_isLentTo_21 : m_Fe mi5_0 21 (m_ap [(.iconst 1, 1)] ([(.goto 4, 3)])) := m_Fe_of nd1000 11 2 rfl
theorem SF5_isLentTo_0 {xs : Nat → Int32} {L : Nat} (x0 : Nat) (x1 : Int32) (x2 : Int32) (hp : m_H) {r : m_O × m_H} {K : Int32 → Prop} (k0 : ∀ x, K x → r = (.inl (some (.int x)), hp)) {t : Int32} (h : F5_isLentTo_0 x0 x1 x2 hp = some t) (hK : K t) : m_Rn xs L 3 1000 0 [(0, .ref x0), (1, .int x1), (2, .int x2)] [] hp r := by
  unfold F5_isLentTo_0 at h
  refine g_in eF5_isLentTo_0 mx1000 ?_
  refine g_ch [(0, .ref x0), (1, .int x1), (2, .int x2)] [.ref x0] (pc' := 1) rfl rfl rfl ?_
  obtain ⟨v1, e2, h⟩ := m_bd h
  refine g_gr q5_f9 e2 ?_
  refine g_ch [(0, .ref x0), (1, .int x1), (2, .int x2)] [.int 2, .int x1, .ref v1] (pc' := 6) rfl rfl rfl ?_
  obtain ⟨v4, e3, h⟩ := m_bd h
  refine g_call (v := some (.int v4)) (h := hp) (st' := [.int v4]) (D1 := 1) (as := [.ref v1, .int x1, .int 2]) (Or.inr (Or.inl rfl)) q5_m15 (m_cv (as := [.int 2, .int x1]) (rest := []) (Or.inl rfl) q5_m15 jv1604 (OF8_get e3) rfl rfl rfl rfl) (by decide) (SF8_get e3) rfl ?_
  refine g_ch [(0, .ref x0), (1, .int x1), (2, .int x2)] [.int x2, .int v4] (pc' := 10) rfl rfl rfl ?_
  rcases m_ifd h with ⟨c5, h⟩ | ⟨c5, h⟩
  · refine g_ifn (t := 25) rfl (m_neF c5) ?_
    refine g_in eF5_isLentTo_13 mx1000 ?_
    refine g_ch [(0, .ref x0), (1, .int x1), (2, .int x2)] [.int x1, .ref x0] (pc' := 15) rfl rfl rfl ?_
    obtain ⟨v7, e6, h⟩ := m_bd h
    refine g_call (v := some (.int v7)) (h := hp) (st' := [.int v7]) (D1 := 2) (as := [.ref x0, .int x1]) (Or.inr (Or.inl rfl)) q5_m21 (m_cv (as := [.int x1]) (rest := []) (Or.inl rfl) q5_m21 jv614 (OF3_isLent e6) rfl rfl rfl rfl) (by decide) (SF3_isLent e6) rfl ?_
    rcases m_ifd h with ⟨c8, h⟩ | ⟨c8, h⟩
    · refine g_ifc (t := 25) rfl (m_eqT c8) ?_
      refine g_in eF5_isLentTo_25 mx1000 ?_
      refine g_ch [(0, .ref x0), (1, .int x1), (2, .int x2)] [.int 0] (pc' := 26) rfl rfl rfl ?_
      refine g_end ?_
      refine g_in eF5_isLentTo_26 mx1000 ?_
      cases h
      rw [k0 _ hK]
      exact g_iret rfl (by decide +kernel)
    · refine g_ifcn (t := 25) rfl (m_eqF c8) ?_
      refine g_in eF5_isLentTo_21 mx1000 ?_
      refine g_ch [(0, .ref x0), (1, .int x1), (2, .int x2)] [.int 1] (pc' := 22) rfl rfl rfl ?_
      refine g_goto (t := 26) rfl ?_
      refine g_in eF5_isLentTo_26 mx1000 ?_
      cases h
      rw [k0 _ hK]
      exact g_iret rfl (by decide +kernel)
  · refine g_if (t := 25) rfl (m_neT c5) ?_
    refine g_in eF5_isLentTo_25 mx1000 ?_
    refine g_ch [(0, .ref x0), (1, .int x1), (2, .int x2)] [.int 0] (pc' := 26) rfl rfl rfl ?_
    refine g_end ?_
    refine g_in eF5_isLentTo_26 mx1000 ?_
    cases h
    rw [k0 _ hK]
    exact g_iret rfl (by decide +kernel)
theorem SF5_isLentTo {xs : Nat → Int32} {L : Nat} {x0 : Nat} {x1 : Int32} {x2 : Int32} {hp : m_H} {x : Int32} (h : F5_isLentTo x0 x1 x2 hp = some x) : m_Rn xs L 3 1000 0 (lv_args 0 [.ref x0, .int x1, .int x2]) [] hp (.inl (some (.int x)), hp) :=
  r_lv (SF5_isLentTo_0 x0 x1 x2 hp (K := fun y => y = x) (fun y e => by rw [e]) h rfl) rfl ⟨rfl, rfl, rfl, trivial⟩
-- F5_owedFor: LendHouse$Ledger.owedFor(LLendHouse$House;I)J
theorem eF5_owedFor_0 : m_Fe mi5_2 0 (m_ap [(.aload_n 0, 1)] ((.getfield 9, 3) :: (m_ap [(.iload_n 1, 1), (.iconst 1, 1)] ((.invokevirtual 15, 3) :: (m_ap [(.aload_n 0, 1), (.iload_n 1, 1), (.bipush 7, 2)] ((.invokevirtual 39, 3) :: (m_ap [(.isub, 1), (.aload_n 0, 1), (.iload_n 1, 1), (.bipush 8, 2)] ((.invokevirtual 39, 3) :: (m_ap [(.isub, 1), (.i2l, 1), (.lstore_n 2, 1), (.lload_n 2, 1), (.aload_n 0, 1)] ((.getfield 9, 3) :: (m_ap [(.iload_n 1, 1), (.bipush 20, 2)] ((.invokevirtual 15, 3) :: (m_ap [(.i2l, 1), (.lmul, 1), (.aload_n 0, 1)] ((.getfield 9, 3) :: (m_ap [(.iload_n 1, 1), (.bipush 19, 2)] ((.invokevirtual 15, 3) :: (m_ap [(.i2l, 1), (.lmul, 1), (.ldc2_w 42, 3)] ((.ldiv, 1) :: ([(.lreturn, 1)]))))))))))))))))))) := m_Fe_of nd1002 0 35 rfl
theorem SF5_owedFor_0 {xs : Nat → Int32} {L : Nat} (x0 : Nat) (x1 : Int32) (hp : m_H) {r : m_O × m_H} {K : Int64 → Prop} (k0 : ∀ x, K x → r = (.inl (some (.long x)), hp)) {t : Int64} (h : F5_owedFor_0 x0 x1 hp = some t) (hK : K t) : m_Rn xs L 3 1002 0 [(0, .ref x0), (1, .int x1)] [] hp r := by
  unfold F5_owedFor_0 at h
  refine g_in eF5_owedFor_0 mx1002 ?_
  refine g_ch [(0, .ref x0), (1, .int x1)] [.ref x0] (pc' := 1) rfl rfl rfl ?_
  obtain ⟨v1, e2, h⟩ := m_bd h
  refine g_gr q5_f9 e2 ?_
  refine g_ch [(0, .ref x0), (1, .int x1)] [.int 1, .int x1, .ref v1] (pc' := 6) rfl rfl rfl ?_
  obtain ⟨v4, e3, h⟩ := m_bd h
  refine g_call (v := some (.int v4)) (h := hp) (st' := [.int v4]) (D1 := 1) (as := [.ref v1, .int x1, .int 1]) (Or.inr (Or.inl rfl)) q5_m15 (m_cv (as := [.int 1, .int x1]) (rest := []) (Or.inl rfl) q5_m15 jv1604 (OF8_get e3) rfl rfl rfl rfl) (by decide) (SF8_get e3) rfl ?_
  refine g_ch [(0, .ref x0), (1, .int x1)] [.int 7, .int x1, .ref x0, .int v4] (pc' := 13) rfl rfl rfl ?_
  obtain ⟨v6, e5, h⟩ := m_bd h
  refine g_call (v := some (.int v6)) (h := hp) (st' := [.int v6, .int v4]) (D1 := 2) (as := [.ref x0, .int x1, .int 7]) (Or.inr (Or.inl rfl)) q5_m39 (m_cv (as := [.int 7, .int x1]) (rest := [.int v4]) (Or.inl rfl) q5_m39 jv616 (OF3_crates e5) rfl rfl rfl rfl) (by decide) (SF3_crates e5) rfl ?_
  refine g_ch [(0, .ref x0), (1, .int x1)] [.int 8, .int x1, .ref x0, .int (v4 - v6)] (pc' := 21) rfl rfl rfl ?_
  obtain ⟨v8, e7, h⟩ := m_bd h
  refine g_call (v := some (.int v8)) (h := hp) (st' := [.int v8, .int (v4 - v6)]) (D1 := 2) (as := [.ref x0, .int x1, .int 8]) (Or.inr (Or.inl rfl)) q5_m39 (m_cv (as := [.int 8, .int x1]) (rest := [.int (v4 - v6)]) (Or.inl rfl) q5_m39 jv616 (OF3_crates e7) rfl rfl rfl rfl) (by decide) (SF3_crates e7) rfl ?_
  refine g_ch [(2, .long (m_i2l ((v4 - v6) - v8))), (0, .ref x0), (1, .int x1)] [.ref x0, .long (m_i2l ((v4 - v6) - v8))] (pc' := 29) rfl rfl rfl ?_
  obtain ⟨v9, e10, h⟩ := m_bd h
  refine g_gr q5_f9 e10 ?_
  refine g_ch [(2, .long (m_i2l ((v4 - v6) - v8))), (0, .ref x0), (1, .int x1)] [.int 20, .int x1, .ref v9, .long (m_i2l ((v4 - v6) - v8))] (pc' := 35) rfl rfl rfl ?_
  obtain ⟨v12, e11, h⟩ := m_bd h
  refine g_call (v := some (.int v12)) (h := hp) (st' := [.int v12, .long (m_i2l ((v4 - v6) - v8))]) (D1 := 1) (as := [.ref v9, .int x1, .int 20]) (Or.inr (Or.inl rfl)) q5_m15 (m_cv (as := [.int 20, .int x1]) (rest := [.long (m_i2l ((v4 - v6) - v8))]) (Or.inl rfl) q5_m15 jv1604 (OF8_get e11) rfl rfl rfl rfl) (by decide) (SF8_get e11) rfl ?_
  refine g_ch [(2, .long (m_i2l ((v4 - v6) - v8))), (0, .ref x0), (1, .int x1)] [.ref x0, .long ((m_i2l ((v4 - v6) - v8)) * (m_i2l v12))] (pc' := 41) rfl rfl rfl ?_
  obtain ⟨v13, e14, h⟩ := m_bd h
  refine g_gr q5_f9 e14 ?_
  refine g_ch [(2, .long (m_i2l ((v4 - v6) - v8))), (0, .ref x0), (1, .int x1)] [.int 19, .int x1, .ref v13, .long ((m_i2l ((v4 - v6) - v8)) * (m_i2l v12))] (pc' := 47) rfl rfl rfl ?_
  obtain ⟨v16, e15, h⟩ := m_bd h
  refine g_call (v := some (.int v16)) (h := hp) (st' := [.int v16, .long ((m_i2l ((v4 - v6) - v8)) * (m_i2l v12))]) (D1 := 1) (as := [.ref v13, .int x1, .int 19]) (Or.inr (Or.inl rfl)) q5_m15 (m_cv (as := [.int 19, .int x1]) (rest := [.long ((m_i2l ((v4 - v6) - v8)) * (m_i2l v12))]) (Or.inl rfl) q5_m15 jv1604 (OF8_get e15) rfl rfl rfl rfl) (by decide) (SF8_get e15) rfl ?_
  refine g_ch [(2, .long (m_i2l ((v4 - v6) - v8))), (0, .ref x0), (1, .int x1)] [.long 100, .long (((m_i2l ((v4 - v6) - v8)) * (m_i2l v12)) * (m_i2l v16))] (pc' := 55) rfl rfl rfl ?_
  obtain ⟨v17, e18, h⟩ := m_bd h
  refine g_dl e18 ?_
  cases h
  rw [k0 _ hK]
  exact g_lret rfl
theorem SF5_owedFor {xs : Nat → Int32} {L : Nat} {x0 : Nat} {x1 : Int32} {hp : m_H} {x : Int64} (h : F5_owedFor x0 x1 hp = some x) : m_Rn xs L 3 1002 0 (lv_args 0 [.ref x0, .int x1]) [] hp (.inl (some (.long x)), hp) :=
  r_lv (SF5_owedFor_0 x0 x1 hp (K := fun y => y = x) (fun y e => by rw [e]) h rfl) rfl ⟨rfl, rfl, trivial⟩
-- F5_owed: LendHouse$Ledger.owed(LLendHouse$House;I)J
theorem eF5_owed_0 : m_Fe mi5_1 0 (m_ap [(.lconst 0, 1), (.lstore_n 2, 1), (.iconst 0, 1), (.istore 4, 2)] ([])) := m_Fe_of nd1001 0 4 rfl
theorem eF5_owed_5 : m_Fe mi5_1 5 (m_ap [(.iload 4, 2), (.aload_n 0, 1)] ((.getfield 9, 3) :: ((.getfield 25, 3) :: ([(.if_icmp .ge 28, 3)])))) := m_Fe_of nd1001 4 5 rfl
theorem eF5_owed_42 : m_Fe mi5_1 42 (m_ap [(.lload_n 2, 1)] ([(.lreturn, 1)])) := m_Fe_of nd1001 22 2 rfl
theorem eF5_owed_17 : m_Fe mi5_1 17 (m_ap [(.aload_n 0, 1), (.iload 4, 2), (.iload_n 1, 1)] ((.invokestatic 29, 3) :: ([(.ifCond .eq 12, 3)]))) := m_Fe_of nd1001 9 5 rfl
theorem eF5_owed_36 : m_Fe mi5_1 36 (m_ap [(.iinc 4 1, 3)] ([(.goto (-34), 3)])) := m_Fe_of nd1001 20 2 rfl
theorem eF5_owed_27 : m_Fe mi5_1 27 (m_ap [(.lload_n 2, 1), (.aload_n 0, 1), (.iload 4, 2)] ((.invokestatic 35, 3) :: (m_ap [(.ladd, 1), (.lstore_n 2, 1)] ([])))) := m_Fe_of nd1001 14 6 rfl
theorem SF5_owed_5b {xs : Nat → Int32} {L : Nat} (x0 : Nat) (x1 : Int32) (hp : m_H) (s : Int64 × Int32) {r : m_O × m_H} {K : ((Int64 × Int32) ⊕ Int64) → Prop} (k0 : ∀ x, K (.inr x) → r = (.inl (some (.long x)), hp)) (k1 : ∀ s, K (.inl s) → m_Rn xs L 4 1001 5 [(0, .ref x0), (1, .int x1), (2, .long s.1), (4, .int s.2)] [] hp r) {t : (Int64 × Int32) ⊕ Int64} (h : F5_owed_5b x0 x1 hp s = some t) (hK : K t) : m_Rn xs L 4 1001 5 [(0, .ref x0), (1, .int x1), (2, .long s.1), (4, .int s.2)] [] hp r := by
  unfold F5_owed_5b at h
  refine g_in eF5_owed_5 mx1001 ?_
  refine g_ch [(0, .ref x0), (1, .int x1), (2, .long s.1), (4, .int s.2)] [.ref x0, .int s.2] (pc' := 8) rfl rfl rfl ?_
  obtain ⟨v1, e2, h⟩ := m_bd h
  refine g_gr q5_f9 e2 ?_
  obtain ⟨v3, e4, h⟩ := m_bd h
  refine g_gi q5_f25 e4 ?_
  rcases m_ifd h with ⟨c5, h⟩ | ⟨c5, h⟩
  · refine g_if (t := 42) rfl (m_geT c5) ?_
    refine g_in eF5_owed_42 mx1001 ?_
    refine g_ch [(0, .ref x0), (1, .int x1), (2, .long s.1), (4, .int s.2)] [.long s.1] (pc' := 43) rfl rfl rfl ?_
    cases h
    rw [k0 _ hK]
    exact g_lret rfl
  · refine g_ifn (t := 42) rfl (m_geF c5) ?_
    refine g_in eF5_owed_17 mx1001 ?_
    refine g_ch [(0, .ref x0), (1, .int x1), (2, .long s.1), (4, .int s.2)] [.int x1, .int s.2, .ref x0] (pc' := 21) rfl rfl rfl ?_
    obtain ⟨v7, e6, h⟩ := m_bd h
    refine g_call (v := some (.int v7)) (h := hp) (st' := [.int v7]) (D1 := 3) (as := [.ref x0, .int s.2, .int x1]) (Or.inl rfl) q5_m29 (m_cs (as := [.int x1, .int s.2, .ref x0]) (rest := []) q5_m29 jv1000 rfl rfl rfl rfl rfl) (by decide) (SF5_isLentTo e6) rfl ?_
    rcases m_ifd h with ⟨c8, h⟩ | ⟨c8, h⟩
    · refine g_ifc (t := 36) rfl (m_eqT c8) ?_
      refine g_in eF5_owed_36 mx1001 ?_
      refine g_ch [(4, .int (s.2 + 1)), (0, .ref x0), (1, .int x1), (2, .long s.1)] [] (pc' := 39) rfl rfl rfl ?_
      refine g_goto (t := 5) rfl ?_
      cases h
      exact r_lv (k1 (s.1, (s.2 + 1)) hK) rfl ⟨rfl, rfl, rfl, rfl, trivial⟩
    · refine g_ifcn (t := 36) rfl (m_eqF c8) ?_
      refine g_in eF5_owed_27 mx1001 ?_
      refine g_ch [(0, .ref x0), (1, .int x1), (2, .long s.1), (4, .int s.2)] [.int s.2, .ref x0, .long s.1] (pc' := 31) rfl rfl rfl ?_
      obtain ⟨v10, e9, h⟩ := m_bd h
      refine g_call (v := some (.long v10)) (h := hp) (st' := [.long v10, .long s.1]) (D1 := 3) (as := [.ref x0, .int s.2]) (Or.inl rfl) q5_m35 (m_cs (as := [.int s.2, .ref x0]) (rest := [.long s.1]) q5_m35 jv1002 rfl rfl rfl rfl rfl) (by decide) (SF5_owedFor e9) rfl ?_
      refine g_ch [(2, .long (s.1 + v10)), (0, .ref x0), (1, .int x1), (4, .int s.2)] [] (pc' := 36) rfl rfl rfl ?_
      refine g_end ?_
      refine g_in eF5_owed_36 mx1001 ?_
      refine g_ch [(4, .int (s.2 + 1)), (2, .long (s.1 + v10)), (0, .ref x0), (1, .int x1)] [] (pc' := 39) rfl rfl rfl ?_
      refine g_goto (t := 5) rfl ?_
      cases h
      exact r_lv (k1 ((s.1 + v10), (s.2 + 1)) hK) rfl ⟨rfl, rfl, rfl, rfl, trivial⟩
theorem SF5_owed_5 {xs : Nat → Int32} {L : Nat} (x0 : Nat) (x1 : Int32) (x2 : Int64) (x4 : Int32) (hp : m_H) {r : m_O × m_H} {K : Int64 → Prop} (k0 : ∀ x, K x → r = (.inl (some (.long x)), hp)) {t : Int64} (h : F5_owed_5 x0 x1 x2 x4 hp = some t) (hK : K t) : m_Rn xs L 4 1001 5 [(0, .ref x0), (1, .int x1), (2, .long x2), (4, .int x4)] [] hp r :=
  m_wh_ok (P := fun s => m_Rn xs L 4 1001 5 [(0, .ref x0), (1, .int x1), (2, .long s.1), (4, .int s.2)] [] hp r) (Q := K) (fun s t hb hK => SF5_owed_5b x0 x1 hp s (K := m_KK (fun s => m_Rn xs L 4 1001 5 [(0, .ref x0), (1, .int x1), (2, .long s.1), (4, .int s.2)] [] hp r) K) k0 (fun _ q => q) hb hK) m_N _ _ h hK
theorem SF5_owed_0 {xs : Nat → Int32} {L : Nat} (x0 : Nat) (x1 : Int32) (hp : m_H) {r : m_O × m_H} {K : Int64 → Prop} (k0 : ∀ x, K x → r = (.inl (some (.long x)), hp)) {t : Int64} (h : F5_owed_0 x0 x1 hp = some t) (hK : K t) : m_Rn xs L 4 1001 0 [(0, .ref x0), (1, .int x1)] [] hp r := by
  unfold F5_owed_0 at h
  refine g_in eF5_owed_0 mx1001 ?_
  refine g_ch [(4, .int 0), (2, .long 0), (0, .ref x0), (1, .int x1)] [] (pc' := 5) rfl rfl rfl ?_
  refine g_end ?_
  exact r_lv (SF5_owed_5 x0 x1 0 0 hp (K := K) k0 h hK) rfl ⟨rfl, rfl, rfl, rfl, trivial⟩
theorem SF5_owed {xs : Nat → Int32} {L : Nat} {x0 : Nat} {x1 : Int32} {hp : m_H} {x : Int64} (h : F5_owed x0 x1 hp = some x) : m_Rn xs L 4 1001 0 (lv_args 0 [.ref x0, .int x1]) [] hp (.inl (some (.long x)), hp) :=
  r_lv (SF5_owed_0 x0 x1 hp (K := fun y => y = x) (fun y e => by rw [e]) h rfl) rfl ⟨rfl, rfl, trivial⟩
-- F5_lentAt: LendHouse$Ledger.lentAt(LLendHouse$House;II)I
theorem eF5_lentAt_0 : m_Fe mi5_3 0 (m_ap [(.iconst 0, 1), (.istore_n 3, 1), (.iconst 0, 1), (.istore 4, 2)] ([])) := m_Fe_of nd1003 0 4 rfl
theorem eF5_lentAt_5 : m_Fe mi5_3 5 (m_ap [(.iload 4, 2), (.aload_n 0, 1)] ((.getfield 9, 3) :: ((.getfield 25, 3) :: ([(.if_icmp .ge 29, 3)])))) := m_Fe_of nd1003 4 5 rfl
theorem eF5_lentAt_43 : m_Fe mi5_3 43 (m_ap [(.iload_n 3, 1)] ([(.ireturn, 1)])) := m_Fe_of nd1003 23 2 rfl
theorem eF5_lentAt_17 : m_Fe mi5_3 17 (m_ap [(.aload_n 0, 1), (.iload 4, 2), (.iload_n 1, 1)] ((.invokestatic 29, 3) :: ([(.ifCond .eq 13, 3)]))) := m_Fe_of nd1003 9 5 rfl
theorem eF5_lentAt_37 : m_Fe mi5_3 37 (m_ap [(.iinc 4 1, 3)] ([(.goto (-35), 3)])) := m_Fe_of nd1003 21 2 rfl
theorem eF5_lentAt_27 : m_Fe mi5_3 27 (m_ap [(.iload_n 3, 1), (.aload_n 0, 1), (.iload 4, 2), (.iload_n 2, 1)] ((.invokevirtual 39, 3) :: (m_ap [(.iadd, 1), (.istore_n 3, 1)] ([])))) := m_Fe_of nd1003 14 7 rfl
theorem SF5_lentAt_5b {xs : Nat → Int32} {L : Nat} (x0 : Nat) (x1 : Int32) (x2 : Int32) (hp : m_H) (s : Int32 × Int32) {r : m_O × m_H} {K : ((Int32 × Int32) ⊕ Int32) → Prop} (k0 : ∀ x, K (.inr x) → r = (.inl (some (.int x)), hp)) (k1 : ∀ s, K (.inl s) → m_Rn xs L 4 1003 5 [(0, .ref x0), (1, .int x1), (2, .int x2), (3, .int s.1), (4, .int s.2)] [] hp r) {t : (Int32 × Int32) ⊕ Int32} (h : F5_lentAt_5b x0 x1 x2 hp s = some t) (hK : K t) : m_Rn xs L 4 1003 5 [(0, .ref x0), (1, .int x1), (2, .int x2), (3, .int s.1), (4, .int s.2)] [] hp r := by
  unfold F5_lentAt_5b at h
  refine g_in eF5_lentAt_5 mx1003 ?_
  refine g_ch [(0, .ref x0), (1, .int x1), (2, .int x2), (3, .int s.1), (4, .int s.2)] [.ref x0, .int s.2] (pc' := 8) rfl rfl rfl ?_
  obtain ⟨v1, e2, h⟩ := m_bd h
  refine g_gr q5_f9 e2 ?_
  obtain ⟨v3, e4, h⟩ := m_bd h
  refine g_gi q5_f25 e4 ?_
  rcases m_ifd h with ⟨c5, h⟩ | ⟨c5, h⟩
  · refine g_if (t := 43) rfl (m_geT c5) ?_
    refine g_in eF5_lentAt_43 mx1003 ?_
    refine g_ch [(0, .ref x0), (1, .int x1), (2, .int x2), (3, .int s.1), (4, .int s.2)] [.int s.1] (pc' := 44) rfl rfl rfl ?_
    cases h
    rw [k0 _ hK]
    exact g_iret rfl rfl
  · refine g_ifn (t := 43) rfl (m_geF c5) ?_
    refine g_in eF5_lentAt_17 mx1003 ?_
    refine g_ch [(0, .ref x0), (1, .int x1), (2, .int x2), (3, .int s.1), (4, .int s.2)] [.int x1, .int s.2, .ref x0] (pc' := 21) rfl rfl rfl ?_
    obtain ⟨v7, e6, h⟩ := m_bd h
    refine g_call (v := some (.int v7)) (h := hp) (st' := [.int v7]) (D1 := 3) (as := [.ref x0, .int s.2, .int x1]) (Or.inl rfl) q5_m29 (m_cs (as := [.int x1, .int s.2, .ref x0]) (rest := []) q5_m29 jv1000 rfl rfl rfl rfl rfl) (by decide) (SF5_isLentTo e6) rfl ?_
    rcases m_ifd h with ⟨c8, h⟩ | ⟨c8, h⟩
    · refine g_ifc (t := 37) rfl (m_eqT c8) ?_
      refine g_in eF5_lentAt_37 mx1003 ?_
      refine g_ch [(4, .int (s.2 + 1)), (0, .ref x0), (1, .int x1), (2, .int x2), (3, .int s.1)] [] (pc' := 40) rfl rfl rfl ?_
      refine g_goto (t := 5) rfl ?_
      cases h
      exact r_lv (k1 (s.1, (s.2 + 1)) hK) rfl ⟨rfl, rfl, rfl, rfl, rfl, trivial⟩
    · refine g_ifcn (t := 37) rfl (m_eqF c8) ?_
      refine g_in eF5_lentAt_27 mx1003 ?_
      refine g_ch [(0, .ref x0), (1, .int x1), (2, .int x2), (3, .int s.1), (4, .int s.2)] [.int x2, .int s.2, .ref x0, .int s.1] (pc' := 32) rfl rfl rfl ?_
      obtain ⟨v10, e9, h⟩ := m_bd h
      refine g_call (v := some (.int v10)) (h := hp) (st' := [.int v10, .int s.1]) (D1 := 2) (as := [.ref x0, .int s.2, .int x2]) (Or.inr (Or.inl rfl)) q5_m39 (m_cv (as := [.int x2, .int s.2]) (rest := [.int s.1]) (Or.inl rfl) q5_m39 jv616 (OF3_crates e9) rfl rfl rfl rfl) (by decide) (SF3_crates e9) rfl ?_
      refine g_ch [(3, .int (s.1 + v10)), (0, .ref x0), (1, .int x1), (2, .int x2), (4, .int s.2)] [] (pc' := 37) rfl rfl rfl ?_
      refine g_end ?_
      refine g_in eF5_lentAt_37 mx1003 ?_
      refine g_ch [(4, .int (s.2 + 1)), (3, .int (s.1 + v10)), (0, .ref x0), (1, .int x1), (2, .int x2)] [] (pc' := 40) rfl rfl rfl ?_
      refine g_goto (t := 5) rfl ?_
      cases h
      exact r_lv (k1 ((s.1 + v10), (s.2 + 1)) hK) rfl ⟨rfl, rfl, rfl, rfl, rfl, trivial⟩
theorem SF5_lentAt_5 {xs : Nat → Int32} {L : Nat} (x0 : Nat) (x1 : Int32) (x2 : Int32) (x3 : Int32) (x4 : Int32) (hp : m_H) {r : m_O × m_H} {K : Int32 → Prop} (k0 : ∀ x, K x → r = (.inl (some (.int x)), hp)) {t : Int32} (h : F5_lentAt_5 x0 x1 x2 x3 x4 hp = some t) (hK : K t) : m_Rn xs L 4 1003 5 [(0, .ref x0), (1, .int x1), (2, .int x2), (3, .int x3), (4, .int x4)] [] hp r :=
  m_wh_ok (P := fun s => m_Rn xs L 4 1003 5 [(0, .ref x0), (1, .int x1), (2, .int x2), (3, .int s.1), (4, .int s.2)] [] hp r) (Q := K) (fun s t hb hK => SF5_lentAt_5b x0 x1 x2 hp s (K := m_KK (fun s => m_Rn xs L 4 1003 5 [(0, .ref x0), (1, .int x1), (2, .int x2), (3, .int s.1), (4, .int s.2)] [] hp r) K) k0 (fun _ q => q) hb hK) m_N _ _ h hK
theorem SF5_lentAt_0 {xs : Nat → Int32} {L : Nat} (x0 : Nat) (x1 : Int32) (x2 : Int32) (hp : m_H) {r : m_O × m_H} {K : Int32 → Prop} (k0 : ∀ x, K x → r = (.inl (some (.int x)), hp)) {t : Int32} (h : F5_lentAt_0 x0 x1 x2 hp = some t) (hK : K t) : m_Rn xs L 4 1003 0 [(0, .ref x0), (1, .int x1), (2, .int x2)] [] hp r := by
  unfold F5_lentAt_0 at h
  refine g_in eF5_lentAt_0 mx1003 ?_
  refine g_ch [(4, .int 0), (3, .int 0), (0, .ref x0), (1, .int x1), (2, .int x2)] [] (pc' := 5) rfl rfl rfl ?_
  refine g_end ?_
  exact r_lv (SF5_lentAt_5 x0 x1 x2 0 0 hp (K := K) k0 h hK) rfl ⟨rfl, rfl, rfl, rfl, rfl, trivial⟩
theorem SF5_lentAt {xs : Nat → Int32} {L : Nat} {x0 : Nat} {x1 : Int32} {x2 : Int32} {hp : m_H} {x : Int32} (h : F5_lentAt x0 x1 x2 hp = some x) : m_Rn xs L 4 1003 0 (lv_args 0 [.ref x0, .int x1, .int x2]) [] hp (.inl (some (.int x)), hp) :=
  r_lv (SF5_lentAt_0 x0 x1 x2 hp (K := fun y => y = x) (fun y e => by rw [e]) h rfl) rfl ⟨rfl, rfl, rfl, trivial⟩
-- F5_landedOf: LendHouse$Ledger.landedOf(LLendHouse$House;II)I
theorem eF5_landedOf_0 : m_Fe mi5_4 0 (m_ap [(.iconst 0, 1), (.istore_n 3, 1), (.iconst 0, 1), (.istore 4, 2)] ([])) := m_Fe_of nd1004 0 4 rfl
theorem eF5_landedOf_5 : m_Fe mi5_4 5 (m_ap [(.iload 4, 2), (.aload_n 0, 1)] ((.getfield 9, 3) :: ((.getfield 25, 3) :: ([(.if_icmp .ge 43, 3)])))) := m_Fe_of nd1004 4 5 rfl
theorem eF5_landedOf_57 : m_Fe mi5_4 57 (m_ap [(.iload_n 3, 1)] ([(.ireturn, 1)])) := m_Fe_of nd1004 30 2 rfl
theorem eF5_landedOf_17 : m_Fe mi5_4 17 (m_ap [(.aload_n 0, 1), (.iload 4, 2), (.iload_n 1, 1)] ((.invokestatic 29, 3) :: ([(.ifCond .eq 27, 3)]))) := m_Fe_of nd1004 9 5 rfl
theorem eF5_landedOf_51 : m_Fe mi5_4 51 (m_ap [(.iinc 4 1, 3)] ([(.goto (-49), 3)])) := m_Fe_of nd1004 28 2 rfl
theorem eF5_landedOf_27 : m_Fe mi5_4 27 (m_ap [(.aload_n 0, 1)] ((.getfield 9, 3) :: (m_ap [(.iload 4, 2), (.iconst 0, 1)] ((.invokevirtual 15, 3) :: (m_ap [(.iload_n 2, 1)] ([(.if_icmp .ne 13, 3)])))))) := m_Fe_of nd1004 14 7 rfl
theorem eF5_landedOf_41 : m_Fe mi5_4 41 (m_ap [(.iload_n 3, 1), (.aload_n 0, 1), (.iload 4, 2), (.iconst 3, 1)] ((.invokevirtual 39, 3) :: (m_ap [(.iadd, 1), (.istore_n 3, 1)] ([])))) := m_Fe_of nd1004 21 7 rfl
theorem SF5_landedOf_5b {xs : Nat → Int32} {L : Nat} (x0 : Nat) (x1 : Int32) (x2 : Int32) (hp : m_H) (s : Int32 × Int32) {r : m_O × m_H} {K : ((Int32 × Int32) ⊕ Int32) → Prop} (k0 : ∀ x, K (.inr x) → r = (.inl (some (.int x)), hp)) (k1 : ∀ s, K (.inl s) → m_Rn xs L 4 1004 5 [(0, .ref x0), (1, .int x1), (2, .int x2), (3, .int s.1), (4, .int s.2)] [] hp r) {t : (Int32 × Int32) ⊕ Int32} (h : F5_landedOf_5b x0 x1 x2 hp s = some t) (hK : K t) : m_Rn xs L 4 1004 5 [(0, .ref x0), (1, .int x1), (2, .int x2), (3, .int s.1), (4, .int s.2)] [] hp r := by
  unfold F5_landedOf_5b at h
  refine g_in eF5_landedOf_5 mx1004 ?_
  refine g_ch [(0, .ref x0), (1, .int x1), (2, .int x2), (3, .int s.1), (4, .int s.2)] [.ref x0, .int s.2] (pc' := 8) rfl rfl rfl ?_
  obtain ⟨v1, e2, h⟩ := m_bd h
  refine g_gr q5_f9 e2 ?_
  obtain ⟨v3, e4, h⟩ := m_bd h
  refine g_gi q5_f25 e4 ?_
  rcases m_ifd h with ⟨c5, h⟩ | ⟨c5, h⟩
  · refine g_if (t := 57) rfl (m_geT c5) ?_
    refine g_in eF5_landedOf_57 mx1004 ?_
    refine g_ch [(0, .ref x0), (1, .int x1), (2, .int x2), (3, .int s.1), (4, .int s.2)] [.int s.1] (pc' := 58) rfl rfl rfl ?_
    cases h
    rw [k0 _ hK]
    exact g_iret rfl rfl
  · refine g_ifn (t := 57) rfl (m_geF c5) ?_
    refine g_in eF5_landedOf_17 mx1004 ?_
    refine g_ch [(0, .ref x0), (1, .int x1), (2, .int x2), (3, .int s.1), (4, .int s.2)] [.int x1, .int s.2, .ref x0] (pc' := 21) rfl rfl rfl ?_
    obtain ⟨v7, e6, h⟩ := m_bd h
    refine g_call (v := some (.int v7)) (h := hp) (st' := [.int v7]) (D1 := 3) (as := [.ref x0, .int s.2, .int x1]) (Or.inl rfl) q5_m29 (m_cs (as := [.int x1, .int s.2, .ref x0]) (rest := []) q5_m29 jv1000 rfl rfl rfl rfl rfl) (by decide) (SF5_isLentTo e6) rfl ?_
    rcases m_ifd h with ⟨c8, h⟩ | ⟨c8, h⟩
    · refine g_ifc (t := 51) rfl (m_eqT c8) ?_
      refine g_in eF5_landedOf_51 mx1004 ?_
      refine g_ch [(4, .int (s.2 + 1)), (0, .ref x0), (1, .int x1), (2, .int x2), (3, .int s.1)] [] (pc' := 54) rfl rfl rfl ?_
      refine g_goto (t := 5) rfl ?_
      cases h
      exact r_lv (k1 (s.1, (s.2 + 1)) hK) rfl ⟨rfl, rfl, rfl, rfl, rfl, trivial⟩
    · refine g_ifcn (t := 51) rfl (m_eqF c8) ?_
      refine g_in eF5_landedOf_27 mx1004 ?_
      refine g_ch [(0, .ref x0), (1, .int x1), (2, .int x2), (3, .int s.1), (4, .int s.2)] [.ref x0] (pc' := 28) rfl rfl rfl ?_
      obtain ⟨v9, e10, h⟩ := m_bd h
      refine g_gr q5_f9 e10 ?_
      refine g_ch [(0, .ref x0), (1, .int x1), (2, .int x2), (3, .int s.1), (4, .int s.2)] [.int 0, .int s.2, .ref v9] (pc' := 34) rfl rfl rfl ?_
      obtain ⟨v12, e11, h⟩ := m_bd h
      refine g_call (v := some (.int v12)) (h := hp) (st' := [.int v12]) (D1 := 1) (as := [.ref v9, .int s.2, .int 0]) (Or.inr (Or.inl rfl)) q5_m15 (m_cv (as := [.int 0, .int s.2]) (rest := []) (Or.inl rfl) q5_m15 jv1604 (OF8_get e11) rfl rfl rfl rfl) (by decide) (SF8_get e11) rfl ?_
      refine g_ch [(0, .ref x0), (1, .int x1), (2, .int x2), (3, .int s.1), (4, .int s.2)] [.int x2, .int v12] (pc' := 38) rfl rfl rfl ?_
      rcases m_ifd h with ⟨c13, h⟩ | ⟨c13, h⟩
      · refine g_ifn (t := 51) rfl (m_neF c13) ?_
        refine g_in eF5_landedOf_41 mx1004 ?_
        refine g_ch [(0, .ref x0), (1, .int x1), (2, .int x2), (3, .int s.1), (4, .int s.2)] [.int 3, .int s.2, .ref x0, .int s.1] (pc' := 46) rfl rfl rfl ?_
        obtain ⟨v15, e14, h⟩ := m_bd h
        refine g_call (v := some (.int v15)) (h := hp) (st' := [.int v15, .int s.1]) (D1 := 2) (as := [.ref x0, .int s.2, .int 3]) (Or.inr (Or.inl rfl)) q5_m39 (m_cv (as := [.int 3, .int s.2]) (rest := [.int s.1]) (Or.inl rfl) q5_m39 jv616 (OF3_crates e14) rfl rfl rfl rfl) (by decide) (SF3_crates e14) rfl ?_
        refine g_ch [(3, .int (s.1 + v15)), (0, .ref x0), (1, .int x1), (2, .int x2), (4, .int s.2)] [] (pc' := 51) rfl rfl rfl ?_
        refine g_end ?_
        refine g_in eF5_landedOf_51 mx1004 ?_
        refine g_ch [(4, .int (s.2 + 1)), (3, .int (s.1 + v15)), (0, .ref x0), (1, .int x1), (2, .int x2)] [] (pc' := 54) rfl rfl rfl ?_
        refine g_goto (t := 5) rfl ?_
        cases h
        exact r_lv (k1 ((s.1 + v15), (s.2 + 1)) hK) rfl ⟨rfl, rfl, rfl, rfl, rfl, trivial⟩
      · refine g_if (t := 51) rfl (m_neT c13) ?_
        refine g_in eF5_landedOf_51 mx1004 ?_
        refine g_ch [(4, .int (s.2 + 1)), (0, .ref x0), (1, .int x1), (2, .int x2), (3, .int s.1)] [] (pc' := 54) rfl rfl rfl ?_
        refine g_goto (t := 5) rfl ?_
        cases h
        exact r_lv (k1 (s.1, (s.2 + 1)) hK) rfl ⟨rfl, rfl, rfl, rfl, rfl, trivial⟩
theorem SF5_landedOf_5 {xs : Nat → Int32} {L : Nat} (x0 : Nat) (x1 : Int32) (x2 : Int32) (x3 : Int32) (x4 : Int32) (hp : m_H) {r : m_O × m_H} {K : Int32 → Prop} (k0 : ∀ x, K x → r = (.inl (some (.int x)), hp)) {t : Int32} (h : F5_landedOf_5 x0 x1 x2 x3 x4 hp = some t) (hK : K t) : m_Rn xs L 4 1004 5 [(0, .ref x0), (1, .int x1), (2, .int x2), (3, .int x3), (4, .int x4)] [] hp r :=
  m_wh_ok (P := fun s => m_Rn xs L 4 1004 5 [(0, .ref x0), (1, .int x1), (2, .int x2), (3, .int s.1), (4, .int s.2)] [] hp r) (Q := K) (fun s t hb hK => SF5_landedOf_5b x0 x1 x2 hp s (K := m_KK (fun s => m_Rn xs L 4 1004 5 [(0, .ref x0), (1, .int x1), (2, .int x2), (3, .int s.1), (4, .int s.2)] [] hp r) K) k0 (fun _ q => q) hb hK) m_N _ _ h hK
theorem SF5_landedOf_0 {xs : Nat → Int32} {L : Nat} (x0 : Nat) (x1 : Int32) (x2 : Int32) (hp : m_H) {r : m_O × m_H} {K : Int32 → Prop} (k0 : ∀ x, K x → r = (.inl (some (.int x)), hp)) {t : Int32} (h : F5_landedOf_0 x0 x1 x2 hp = some t) (hK : K t) : m_Rn xs L 4 1004 0 [(0, .ref x0), (1, .int x1), (2, .int x2)] [] hp r := by
  unfold F5_landedOf_0 at h
  refine g_in eF5_landedOf_0 mx1004 ?_
  refine g_ch [(4, .int 0), (3, .int 0), (0, .ref x0), (1, .int x1), (2, .int x2)] [] (pc' := 5) rfl rfl rfl ?_
  refine g_end ?_
  exact r_lv (SF5_landedOf_5 x0 x1 x2 0 0 hp (K := K) k0 h hK) rfl ⟨rfl, rfl, rfl, rfl, rfl, trivial⟩
theorem SF5_landedOf {xs : Nat → Int32} {L : Nat} {x0 : Nat} {x1 : Int32} {x2 : Int32} {hp : m_H} {x : Int32} (h : F5_landedOf x0 x1 x2 hp = some x) : m_Rn xs L 4 1004 0 (lv_args 0 [.ref x0, .int x1, .int x2]) [] hp (.inl (some (.int x)), hp) :=
  r_lv (SF5_landedOf_0 x0 x1 x2 hp (K := fun y => y = x) (fun y e => by rw [e]) h rfl) rfl ⟨rfl, rfl, rfl, trivial⟩
-- F5_landedAtEnd: LendHouse$Ledger.landedAtEnd(LLendHouse$House;LLendHouse$Books;III)I
theorem eF5_landedAtEnd_0 : m_Fe mi5_5 0 (m_ap [(.iload 4, 2), (.aload_n 0, 1)] ((.getfield 44, 3) :: ([(.if_icmp .ne 12, 3)]))) := m_Fe_of nd1005 0 4 rfl
theorem eF5_landedAtEnd_18 : m_Fe mi5_5 18 (m_ap [(.aload_n 1, 1), (.iload 4, 2), (.iload_n 2, 1), (.iload_n 3, 1)] ([(.invokevirtual 51, 3)])) := m_Fe_of nd1005 9 5 rfl
theorem eF5_landedAtEnd_26 : m_Fe mi5_5 26 ([(.ireturn, 1)]) := m_Fe_of nd1005 14 1 rfl
theorem eF5_landedAtEnd_9 : m_Fe mi5_5 9 (m_ap [(.aload_n 0, 1), (.iload_n 2, 1), (.iload_n 3, 1)] ((.invokestatic 47, 3) :: ([(.goto 11, 3)]))) := m_Fe_of nd1005 4 5 rfl
theorem SF5_landedAtEnd_0 {xs : Nat → Int32} {L : Nat} (x0 : Nat) (x1 : Nat) (x2 : Int32) (x3 : Int32) (x4 : Int32) (hp : m_H) {r : m_O × m_H} {K : Int32 → Prop} (k0 : ∀ x, K x → r = (.inl (some (.int x)), hp)) {t : Int32} (h : F5_landedAtEnd_0 x0 x1 x2 x3 x4 hp = some t) (hK : K t) : m_Rn xs L 5 1005 0 [(0, .ref x0), (1, .ref x1), (2, .int x2), (3, .int x3), (4, .int x4)] [] hp r := by
  unfold F5_landedAtEnd_0 at h
  refine g_in eF5_landedAtEnd_0 mx1005 ?_
  refine g_ch [(0, .ref x0), (1, .ref x1), (2, .int x2), (3, .int x3), (4, .int x4)] [.ref x0, .int x4] (pc' := 3) rfl rfl rfl ?_
  obtain ⟨v1, e2, h⟩ := m_bd h
  refine g_gi q5_f44 e2 ?_
  rcases m_ifd h with ⟨c3, h⟩ | ⟨c3, h⟩
  · refine g_ifn (t := 18) rfl (m_neF c3) ?_
    refine g_in eF5_landedAtEnd_9 mx1005 ?_
    refine g_ch [(0, .ref x0), (1, .ref x1), (2, .int x2), (3, .int x3), (4, .int x4)] [.int x3, .int x2, .ref x0] (pc' := 12) rfl rfl rfl ?_
    obtain ⟨v7, e6, h⟩ := m_bd h
    refine g_call (v := some (.int v7)) (h := hp) (st' := [.int v7]) (D1 := 4) (as := [.ref x0, .int x2, .int x3]) (Or.inl rfl) q5_m47 (m_cs (as := [.int x3, .int x2, .ref x0]) (rest := []) q5_m47 jv1004 rfl rfl rfl rfl rfl) (by decide) (SF5_landedOf e6) rfl ?_
    refine g_goto (t := 26) rfl ?_
    refine g_in eF5_landedAtEnd_26 mx1005 ?_
    cases h
    rw [k0 _ hK]
    exact g_iret rfl rfl
  · refine g_if (t := 18) rfl (m_neT c3) ?_
    refine g_in eF5_landedAtEnd_18 mx1005 ?_
    refine g_ch [(0, .ref x0), (1, .ref x1), (2, .int x2), (3, .int x3), (4, .int x4)] [.int x3, .int x2, .int x4, .ref x1] (pc' := 23) rfl rfl rfl ?_
    obtain ⟨v5, e4, h⟩ := m_bd h
    refine g_call (v := some (.int v5)) (h := hp) (st' := [.int v5]) (D1 := 1) (as := [.ref x1, .int x4, .int x2, .int x3]) (Or.inr (Or.inl rfl)) q5_m51 (m_cv (as := [.int x3, .int x2, .int x4]) (rest := []) (Or.inl rfl) q5_m51 jv204 (OF1_at e4) rfl rfl rfl rfl) (by decide) (SF1_at e4) rfl ?_
    refine g_end ?_
    refine g_in eF5_landedAtEnd_26 mx1005 ?_
    cases h
    rw [k0 _ hK]
    exact g_iret rfl rfl
theorem SF5_landedAtEnd {xs : Nat → Int32} {L : Nat} {x0 : Nat} {x1 : Nat} {x2 : Int32} {x3 : Int32} {x4 : Int32} {hp : m_H} {x : Int32} (h : F5_landedAtEnd x0 x1 x2 x3 x4 hp = some x) : m_Rn xs L 5 1005 0 (lv_args 0 [.ref x0, .ref x1, .int x2, .int x3, .int x4]) [] hp (.inl (some (.int x)), hp) :=
  r_lv (SF5_landedAtEnd_0 x0 x1 x2 x3 x4 hp (K := fun y => y = x) (fun y e => by rw [e]) h rfl) rfl ⟨rfl, rfl, rfl, rfl, rfl, trivial⟩
-- F5_latestReturn: LendHouse$Ledger.latestReturn(LLendHouse$House;II)I
theorem eF5_latestReturn_0 : m_Fe mi5_6 0 (m_ap [(.iconst (-1), 1), (.istore_n 3, 1), (.iconst 0, 1), (.istore 4, 2)] ([])) := m_Fe_of nd1006 0 4 rfl
theorem eF5_latestReturn_5 : m_Fe mi5_6 5 (m_ap [(.iload 4, 2), (.aload_n 0, 1)] ((.getfield 57, 3) :: ((.getfield 25, 3) :: ([(.if_icmp .ge 67, 3)])))) := m_Fe_of nd1006 4 5 rfl
theorem eF5_latestReturn_81 : m_Fe mi5_6 81 (m_ap [(.iload_n 3, 1)] ([(.ireturn, 1)])) := m_Fe_of nd1006 41 2 rfl
theorem eF5_latestReturn_17 : m_Fe mi5_6 17 (m_ap [(.aload_n 0, 1)] ((.getfield 57, 3) :: (m_ap [(.iload 4, 2), (.iconst 0, 1)] ((.invokevirtual 15, 3) :: (m_ap [(.iload_n 1, 1)] ([(.if_icmp .ne 47, 3)])))))) := m_Fe_of nd1006 9 7 rfl
theorem eF5_latestReturn_75 : m_Fe mi5_6 75 (m_ap [(.iinc 4 1, 3)] ([(.goto (-73), 3)])) := m_Fe_of nd1006 39 2 rfl
theorem eF5_latestReturn_31 : m_Fe mi5_6 31 (m_ap [(.aload_n 0, 1)] ((.getfield 57, 3) :: (m_ap [(.iload 4, 2), (.iconst 1, 1)] ((.invokevirtual 15, 3) :: (m_ap [(.iload_n 2, 1)] ([(.if_icmp .ne 33, 3)])))))) := m_Fe_of nd1006 16 7 rfl
theorem eF5_latestReturn_45 : m_Fe mi5_6 45 (m_ap [(.iload_n 3, 1), (.iconst (-1), 1)] ([(.if_icmp .eq 25, 3)])) := m_Fe_of nd1006 23 3 rfl
theorem eF5_latestReturn_72 : m_Fe mi5_6 72 (m_ap [(.iload 4, 2), (.istore_n 3, 1)] ([])) := m_Fe_of nd1006 37 2 rfl
theorem eF5_latestReturn_50 : m_Fe mi5_6 50 (m_ap [(.aload_n 0, 1)] ((.getfield 57, 3) :: (m_ap [(.iload 4, 2), (.iconst 3, 1)] ((.invokevirtual 15, 3) :: (m_ap [(.aload_n 0, 1)] ((.getfield 57, 3) :: (m_ap [(.iload_n 3, 1), (.iconst 3, 1)] ((.invokevirtual 15, 3) :: ([(.if_icmp .lt 6, 3)]))))))))) := m_Fe_of nd1006 26 11 rfl
theorem SF5_latestReturn_5b {xs : Nat → Int32} {L : Nat} (x0 : Nat) (x1 : Int32) (x2 : Int32) (hp : m_H) (s : Int32 × Int32) {r : m_O × m_H} {K : ((Int32 × Int32) ⊕ Int32) → Prop} (k0 : ∀ x, K (.inr x) → r = (.inl (some (.int x)), hp)) (k1 : ∀ s, K (.inl s) → m_Rn xs L 2 1006 5 [(0, .ref x0), (1, .int x1), (2, .int x2), (3, .int s.1), (4, .int s.2)] [] hp r) {t : (Int32 × Int32) ⊕ Int32} (h : F5_latestReturn_5b x0 x1 x2 hp s = some t) (hK : K t) : m_Rn xs L 2 1006 5 [(0, .ref x0), (1, .int x1), (2, .int x2), (3, .int s.1), (4, .int s.2)] [] hp r := by
  unfold F5_latestReturn_5b at h
  refine g_in eF5_latestReturn_5 mx1006 ?_
  refine g_ch [(0, .ref x0), (1, .int x1), (2, .int x2), (3, .int s.1), (4, .int s.2)] [.ref x0, .int s.2] (pc' := 8) rfl rfl rfl ?_
  obtain ⟨v1, e2, h⟩ := m_bd h
  refine g_gr q5_f57 e2 ?_
  obtain ⟨v3, e4, h⟩ := m_bd h
  refine g_gi q5_f25 e4 ?_
  rcases m_ifd h with ⟨c5, h⟩ | ⟨c5, h⟩
  · refine g_if (t := 81) rfl (m_geT c5) ?_
    refine g_in eF5_latestReturn_81 mx1006 ?_
    refine g_ch [(0, .ref x0), (1, .int x1), (2, .int x2), (3, .int s.1), (4, .int s.2)] [.int s.1] (pc' := 82) rfl rfl rfl ?_
    cases h
    rw [k0 _ hK]
    exact g_iret rfl rfl
  · refine g_ifn (t := 81) rfl (m_geF c5) ?_
    refine g_in eF5_latestReturn_17 mx1006 ?_
    refine g_ch [(0, .ref x0), (1, .int x1), (2, .int x2), (3, .int s.1), (4, .int s.2)] [.ref x0] (pc' := 18) rfl rfl rfl ?_
    obtain ⟨v6, e7, h⟩ := m_bd h
    refine g_gr q5_f57 e7 ?_
    refine g_ch [(0, .ref x0), (1, .int x1), (2, .int x2), (3, .int s.1), (4, .int s.2)] [.int 0, .int s.2, .ref v6] (pc' := 24) rfl rfl rfl ?_
    obtain ⟨v9, e8, h⟩ := m_bd h
    refine g_call (v := some (.int v9)) (h := hp) (st' := [.int v9]) (D1 := 1) (as := [.ref v6, .int s.2, .int 0]) (Or.inr (Or.inl rfl)) q5_m15 (m_cv (as := [.int 0, .int s.2]) (rest := []) (Or.inl rfl) q5_m15 jv1604 (OF8_get e8) rfl rfl rfl rfl) (by decide) (SF8_get e8) rfl ?_
    refine g_ch [(0, .ref x0), (1, .int x1), (2, .int x2), (3, .int s.1), (4, .int s.2)] [.int x1, .int v9] (pc' := 28) rfl rfl rfl ?_
    rcases m_ifd h with ⟨c10, h⟩ | ⟨c10, h⟩
    · refine g_ifn (t := 75) rfl (m_neF c10) ?_
      refine g_in eF5_latestReturn_31 mx1006 ?_
      refine g_ch [(0, .ref x0), (1, .int x1), (2, .int x2), (3, .int s.1), (4, .int s.2)] [.ref x0] (pc' := 32) rfl rfl rfl ?_
      obtain ⟨v11, e12, h⟩ := m_bd h
      refine g_gr q5_f57 e12 ?_
      refine g_ch [(0, .ref x0), (1, .int x1), (2, .int x2), (3, .int s.1), (4, .int s.2)] [.int 1, .int s.2, .ref v11] (pc' := 38) rfl rfl rfl ?_
      obtain ⟨v14, e13, h⟩ := m_bd h
      refine g_call (v := some (.int v14)) (h := hp) (st' := [.int v14]) (D1 := 1) (as := [.ref v11, .int s.2, .int 1]) (Or.inr (Or.inl rfl)) q5_m15 (m_cv (as := [.int 1, .int s.2]) (rest := []) (Or.inl rfl) q5_m15 jv1604 (OF8_get e13) rfl rfl rfl rfl) (by decide) (SF8_get e13) rfl ?_
      refine g_ch [(0, .ref x0), (1, .int x1), (2, .int x2), (3, .int s.1), (4, .int s.2)] [.int x2, .int v14] (pc' := 42) rfl rfl rfl ?_
      rcases m_ifd h with ⟨c15, h⟩ | ⟨c15, h⟩
      · refine g_ifn (t := 75) rfl (m_neF c15) ?_
        refine g_in eF5_latestReturn_45 mx1006 ?_
        refine g_ch [(0, .ref x0), (1, .int x1), (2, .int x2), (3, .int s.1), (4, .int s.2)] [.int (-1), .int s.1] (pc' := 47) rfl rfl rfl ?_
        rcases m_ifd h with ⟨c16, h⟩ | ⟨c16, h⟩
        · refine g_if (t := 72) rfl (m_eqT c16) ?_
          refine g_in eF5_latestReturn_72 mx1006 ?_
          refine g_ch [(3, .int s.2), (0, .ref x0), (1, .int x1), (2, .int x2), (4, .int s.2)] [] (pc' := 75) rfl rfl rfl ?_
          refine g_end ?_
          refine g_in eF5_latestReturn_75 mx1006 ?_
          refine g_ch [(4, .int (s.2 + 1)), (3, .int s.2), (0, .ref x0), (1, .int x1), (2, .int x2)] [] (pc' := 78) rfl rfl rfl ?_
          refine g_goto (t := 5) rfl ?_
          cases h
          exact r_lv (k1 (s.2, (s.2 + 1)) hK) rfl ⟨rfl, rfl, rfl, rfl, rfl, trivial⟩
        · refine g_ifn (t := 72) rfl (m_eqF c16) ?_
          refine g_in eF5_latestReturn_50 mx1006 ?_
          refine g_ch [(0, .ref x0), (1, .int x1), (2, .int x2), (3, .int s.1), (4, .int s.2)] [.ref x0] (pc' := 51) rfl rfl rfl ?_
          obtain ⟨v17, e18, h⟩ := m_bd h
          refine g_gr q5_f57 e18 ?_
          refine g_ch [(0, .ref x0), (1, .int x1), (2, .int x2), (3, .int s.1), (4, .int s.2)] [.int 3, .int s.2, .ref v17] (pc' := 57) rfl rfl rfl ?_
          obtain ⟨v20, e19, h⟩ := m_bd h
          refine g_call (v := some (.int v20)) (h := hp) (st' := [.int v20]) (D1 := 1) (as := [.ref v17, .int s.2, .int 3]) (Or.inr (Or.inl rfl)) q5_m15 (m_cv (as := [.int 3, .int s.2]) (rest := []) (Or.inl rfl) q5_m15 jv1604 (OF8_get e19) rfl rfl rfl rfl) (by decide) (SF8_get e19) rfl ?_
          refine g_ch [(0, .ref x0), (1, .int x1), (2, .int x2), (3, .int s.1), (4, .int s.2)] [.ref x0, .int v20] (pc' := 61) rfl rfl rfl ?_
          obtain ⟨v21, e22, h⟩ := m_bd h
          refine g_gr q5_f57 e22 ?_
          refine g_ch [(0, .ref x0), (1, .int x1), (2, .int x2), (3, .int s.1), (4, .int s.2)] [.int 3, .int s.1, .ref v21, .int v20] (pc' := 66) rfl rfl rfl ?_
          obtain ⟨v24, e23, h⟩ := m_bd h
          refine g_call (v := some (.int v24)) (h := hp) (st' := [.int v24, .int v20]) (D1 := 1) (as := [.ref v21, .int s.1, .int 3]) (Or.inr (Or.inl rfl)) q5_m15 (m_cv (as := [.int 3, .int s.1]) (rest := [.int v20]) (Or.inl rfl) q5_m15 jv1604 (OF8_get e23) rfl rfl rfl rfl) (by decide) (SF8_get e23) rfl ?_
          rcases m_ifd h with ⟨c25, h⟩ | ⟨c25, h⟩
          · refine g_if (t := 75) rfl (m_ltT c25) ?_
            refine g_in eF5_latestReturn_75 mx1006 ?_
            refine g_ch [(4, .int (s.2 + 1)), (0, .ref x0), (1, .int x1), (2, .int x2), (3, .int s.1)] [] (pc' := 78) rfl rfl rfl ?_
            refine g_goto (t := 5) rfl ?_
            cases h
            exact r_lv (k1 (s.1, (s.2 + 1)) hK) rfl ⟨rfl, rfl, rfl, rfl, rfl, trivial⟩
          · refine g_ifn (t := 75) rfl (m_ltF c25) ?_
            refine g_in eF5_latestReturn_72 mx1006 ?_
            refine g_ch [(3, .int s.2), (0, .ref x0), (1, .int x1), (2, .int x2), (4, .int s.2)] [] (pc' := 75) rfl rfl rfl ?_
            refine g_end ?_
            refine g_in eF5_latestReturn_75 mx1006 ?_
            refine g_ch [(4, .int (s.2 + 1)), (3, .int s.2), (0, .ref x0), (1, .int x1), (2, .int x2)] [] (pc' := 78) rfl rfl rfl ?_
            refine g_goto (t := 5) rfl ?_
            cases h
            exact r_lv (k1 (s.2, (s.2 + 1)) hK) rfl ⟨rfl, rfl, rfl, rfl, rfl, trivial⟩
      · refine g_if (t := 75) rfl (m_neT c15) ?_
        refine g_in eF5_latestReturn_75 mx1006 ?_
        refine g_ch [(4, .int (s.2 + 1)), (0, .ref x0), (1, .int x1), (2, .int x2), (3, .int s.1)] [] (pc' := 78) rfl rfl rfl ?_
        refine g_goto (t := 5) rfl ?_
        cases h
        exact r_lv (k1 (s.1, (s.2 + 1)) hK) rfl ⟨rfl, rfl, rfl, rfl, rfl, trivial⟩
    · refine g_if (t := 75) rfl (m_neT c10) ?_
      refine g_in eF5_latestReturn_75 mx1006 ?_
      refine g_ch [(4, .int (s.2 + 1)), (0, .ref x0), (1, .int x1), (2, .int x2), (3, .int s.1)] [] (pc' := 78) rfl rfl rfl ?_
      refine g_goto (t := 5) rfl ?_
      cases h
      exact r_lv (k1 (s.1, (s.2 + 1)) hK) rfl ⟨rfl, rfl, rfl, rfl, rfl, trivial⟩
theorem SF5_latestReturn_5 {xs : Nat → Int32} {L : Nat} (x0 : Nat) (x1 : Int32) (x2 : Int32) (x3 : Int32) (x4 : Int32) (hp : m_H) {r : m_O × m_H} {K : Int32 → Prop} (k0 : ∀ x, K x → r = (.inl (some (.int x)), hp)) {t : Int32} (h : F5_latestReturn_5 x0 x1 x2 x3 x4 hp = some t) (hK : K t) : m_Rn xs L 2 1006 5 [(0, .ref x0), (1, .int x1), (2, .int x2), (3, .int x3), (4, .int x4)] [] hp r :=
  m_wh_ok (P := fun s => m_Rn xs L 2 1006 5 [(0, .ref x0), (1, .int x1), (2, .int x2), (3, .int s.1), (4, .int s.2)] [] hp r) (Q := K) (fun s t hb hK => SF5_latestReturn_5b x0 x1 x2 hp s (K := m_KK (fun s => m_Rn xs L 2 1006 5 [(0, .ref x0), (1, .int x1), (2, .int x2), (3, .int s.1), (4, .int s.2)] [] hp r) K) k0 (fun _ q => q) hb hK) m_N _ _ h hK
theorem SF5_latestReturn_0 {xs : Nat → Int32} {L : Nat} (x0 : Nat) (x1 : Int32) (x2 : Int32) (hp : m_H) {r : m_O × m_H} {K : Int32 → Prop} (k0 : ∀ x, K x → r = (.inl (some (.int x)), hp)) {t : Int32} (h : F5_latestReturn_0 x0 x1 x2 hp = some t) (hK : K t) : m_Rn xs L 2 1006 0 [(0, .ref x0), (1, .int x1), (2, .int x2)] [] hp r := by
  unfold F5_latestReturn_0 at h
  refine g_in eF5_latestReturn_0 mx1006 ?_
  refine g_ch [(4, .int 0), (3, .int (-1)), (0, .ref x0), (1, .int x1), (2, .int x2)] [] (pc' := 5) rfl rfl rfl ?_
  refine g_end ?_
  exact r_lv (SF5_latestReturn_5 x0 x1 x2 (-1) 0 hp (K := K) k0 h hK) rfl ⟨rfl, rfl, rfl, rfl, rfl, trivial⟩
theorem SF5_latestReturn {xs : Nat → Int32} {L : Nat} {x0 : Nat} {x1 : Int32} {x2 : Int32} {hp : m_H} {x : Int32} (h : F5_latestReturn x0 x1 x2 hp = some x) : m_Rn xs L 2 1006 0 (lv_args 0 [.ref x0, .int x1, .int x2]) [] hp (.inl (some (.int x)), hp) :=
  r_lv (SF5_latestReturn_0 x0 x1 x2 hp (K := fun y => y = x) (fun y e => by rw [e]) h rfl) rfl ⟨rfl, rfl, rfl, trivial⟩
