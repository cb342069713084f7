/-! ===== m_: the small machine does what the functions say, piece 0 (printed) ===== -/
-- F0_init: LendHouse$Act.<init>(ILLendHouse$Reader;)V
theorem eF0_init_0 : m_Fe mi0_0 0 (m_ap [(.aload_n 0, 1)] ((.invokespecial 3, 3) :: (m_ap [(.aload_n 0, 1), (.iload_n 1, 1)] ((.putfield 9, 3) :: (m_ap [(.aload_n 0, 1), (.iconst 0, 1), (.aload_n 2, 1)] ((.getfield 15, 3) :: (m_ap [(.aload_n 2, 1)] ((.getfield 20, 3) :: ((.arraylength, 1) :: ((.invokestatic 24, 3) :: ((.invokestatic 30, 3) :: ((.putfield 33, 3) :: (m_ap [(.aload_n 0, 1), (.aload_n 2, 1)] ((.getfield 20, 3) :: (m_ap [(.aload_n 0, 1)] ((.getfield 33, 3) :: ((.invokestatic 34, 3) :: ((.putfield 40, 3) :: (m_ap [(.aload_n 0, 1), (.aload_n 2, 1)] ((.getfield 41, 3) :: (m_ap [(.aload_n 0, 1)] ((.getfield 33, 3) :: ((.invokestatic 34, 3) :: ((.putfield 44, 3) :: (m_ap [(.aload_n 0, 1), (.aload_n 2, 1)] ((.getfield 45, 3) :: (m_ap [(.aload_n 0, 1)] ((.getfield 33, 3) :: ((.invokestatic 34, 3) :: ((.putfield 48, 3) :: (m_ap [(.aload_n 0, 1), (.aload_n 2, 1)] ((.getfield 49, 3) :: (m_ap [(.iconst 0, 1), (.aload_n 2, 1)] ((.getfield 52, 3) :: ((.invokestatic 30, 3) :: ((.invokestatic 34, 3) :: ((.putfield 55, 3) :: ([(.return_, 1)])))))))))))))))))))))))))))))))))))))) := m_Fe_of nd0 0 46 rfl
theorem SF0_init_0 {xs : Nat → Int32} {L : Nat} (x0 : Nat) (x1 : Int32) (x2 : Nat) (hp : m_H) {r : m_O × m_H} {K : m_H → Prop} (k0 : ∀ x, K x → r = (.inl none, x)) {t : m_H} (h : F0_init_0 x0 x1 x2 hp = some t) (hK : K t) : m_Rn xs L 7 0 0 [(0, .ref x0), (1, .int x1), (2, .ref x2)] [] hp r := by
  unfold F0_init_0 at h
  refine g_in eF0_init_0 mx0 ?_
  refine g_ch [(0, .ref x0), (1, .int x1), (2, .ref x2)] [.ref x0] (pc' := 1) rfl rfl rfl ?_
  refine g_nat (Or.inr (Or.inr rfl)) q0_m3 rfl (z := ([], hp)) rfl (by decide) ?_
  refine g_ch [(0, .ref x0), (1, .int x1), (2, .ref x2)] [.int x1, .ref x0] (pc' := 6) rfl rfl rfl ?_
  obtain ⟨h1, e2, h⟩ := m_bd h
  refine g_pf q0_f9 e2 ?_
  refine g_ch [(0, .ref x0), (1, .int x1), (2, .ref x2)] [.ref x2, .int 0, .ref x0] (pc' := 12) rfl rfl rfl ?_
  obtain ⟨v3, e4, h⟩ := m_bd h
  refine g_gi q0_f15 e4 ?_
  refine g_ch [(0, .ref x0), (1, .int x1), (2, .ref x2)] [.ref x2, .int v3, .int 0, .ref x0] (pc' := 16) rfl rfl rfl ?_
  obtain ⟨v5, e6, h⟩ := m_bd h
  refine g_gr q0_f20 e6 ?_
  obtain ⟨v7, e8, h⟩ := m_bd h
  refine g_len e8 ?_
  refine g_nat (Or.inl rfl) q0_m24 rfl (z := ([.int (m_min v3 v7), .int 0, .ref x0], h1)) rfl (by decide) ?_
  refine g_nat (Or.inl rfl) q0_m30 rfl (z := ([.int (m_max 0 (m_min v3 v7)), .ref x0], h1)) rfl (by decide) ?_
  obtain ⟨h9, e10, h⟩ := m_bd h
  refine g_pf q0_f33 e10 ?_
  refine g_ch [(0, .ref x0), (1, .int x1), (2, .ref x2)] [.ref x2, .ref x0] (pc' := 31) rfl rfl rfl ?_
  obtain ⟨v11, e12, h⟩ := m_bd h
  refine g_gr q0_f20 e12 ?_
  refine g_ch [(0, .ref x0), (1, .int x1), (2, .ref x2)] [.ref x0, .ref v11, .ref x0] (pc' := 35) rfl rfl rfl ?_
  obtain ⟨v13, e14, h⟩ := m_bd h
  refine g_gi q0_f33 e14 ?_
  obtain ⟨h16, e15, h⟩ := m_bd h
  refine g_nat (Or.inl rfl) q0_m34 rfl (z := ([.ref (m_id h9), .ref x0], h16)) (m_z5 e15) (by decide) ?_
  obtain ⟨h17, e18, h⟩ := m_bd h
  refine g_pf q0_f40 e18 ?_
  refine g_ch [(0, .ref x0), (1, .int x1), (2, .ref x2)] [.ref x2, .ref x0] (pc' := 46) rfl rfl rfl ?_
  obtain ⟨v19, e20, h⟩ := m_bd h
  refine g_gr q0_f41 e20 ?_
  refine g_ch [(0, .ref x0), (1, .int x1), (2, .ref x2)] [.ref x0, .ref v19, .ref x0] (pc' := 50) rfl rfl rfl ?_
  obtain ⟨v21, e22, h⟩ := m_bd h
  refine g_gi q0_f33 e22 ?_
  obtain ⟨h24, e23, h⟩ := m_bd h
  refine g_nat (Or.inl rfl) q0_m34 rfl (z := ([.ref (m_id h17), .ref x0], h24)) (m_z5 e23) (by decide) ?_
  obtain ⟨h25, e26, h⟩ := m_bd h
  refine g_pf q0_f44 e26 ?_
  refine g_ch [(0, .ref x0), (1, .int x1), (2, .ref x2)] [.ref x2, .ref x0] (pc' := 61) rfl rfl rfl ?_
  obtain ⟨v27, e28, h⟩ := m_bd h
  refine g_gr q0_f45 e28 ?_
  refine g_ch [(0, .ref x0), (1, .int x1), (2, .ref x2)] [.ref x0, .ref v27, .ref x0] (pc' := 65) rfl rfl rfl ?_
  obtain ⟨v29, e30, h⟩ := m_bd h
  refine g_gi q0_f33 e30 ?_
  obtain ⟨h32, e31, h⟩ := m_bd h
  refine g_nat (Or.inl rfl) q0_m34 rfl (z := ([.ref (m_id h25), .ref x0], h32)) (m_z5 e31) (by decide) ?_
  obtain ⟨h33, e34, h⟩ := m_bd h
  refine g_pf q0_f48 e34 ?_
  refine g_ch [(0, .ref x0), (1, .int x1), (2, .ref x2)] [.ref x2, .ref x0] (pc' := 76) rfl rfl rfl ?_
  obtain ⟨v35, e36, h⟩ := m_bd h
  refine g_gr q0_f49 e36 ?_
  refine g_ch [(0, .ref x0), (1, .int x1), (2, .ref x2)] [.ref x2, .int 0, .ref v35, .ref x0] (pc' := 81) rfl rfl rfl ?_
  obtain ⟨v37, e38, h⟩ := m_bd h
  refine g_gi q0_f52 e38 ?_
  refine g_nat (Or.inl rfl) q0_m30 rfl (z := ([.int (m_max 0 v37), .ref v35, .ref x0], h33)) rfl (by decide) ?_
  obtain ⟨h40, e39, h⟩ := m_bd h
  refine g_nat (Or.inl rfl) q0_m34 rfl (z := ([.ref (m_id h33), .ref x0], h40)) (m_z5 e39) (by decide) ?_
  obtain ⟨h41, e42, h⟩ := m_bd h
  refine g_pf q0_f55 e42 ?_
  cases h
  rw [k0 _ hK]
  exact g_vret rfl
theorem OF0_init {x0 : Nat} {x1 : Int32} {x2 : Nat} {hp : m_H} {x : m_H} (h : F0_init x0 x1 x2 hp = some x) : m_isO hp 0 x0 = true := (m_gdd h).1
theorem SF0_init {xs : Nat → Int32} {L : Nat} {x0 : Nat} {x1 : Int32} {x2 : Nat} {hp : m_H} {x : m_H} (h : F0_init x0 x1 x2 hp = some x) : m_Rn xs L 7 0 0 (lv_args 0 [.ref x0, .int x1, .ref x2]) [] hp (.inl none, x) :=
  r_lv (SF0_init_0 x0 x1 x2 hp (K := fun y => y = x) (fun y e => by rw [e]) (m_gdd h).2 rfl) rfl ⟨rfl, rfl, rfl, trivial⟩
-- F0_kindOf: LendHouse$Act.kindOf(I)I
theorem eF0_kindOf_0 : m_Fe mi0_1 0 (m_ap [(.iload_n 1, 1)] ([(.ifCond .lt 21, 3)])) := m_Fe_of nd1 0 2 rfl
theorem eF0_kindOf_22 : m_Fe mi0_1 22 (m_ap [(.iconst (-1), 1)] ([])) := m_Fe_of nd1 12 1 rfl
theorem eF0_kindOf_23 : m_Fe mi0_1 23 ([(.ireturn, 1)]) := m_Fe_of nd1 13 1 rfl
theorem eF0_kindOf_4 : m_Fe mi0_1 4 (m_ap [(.iload_n 1, 1), (.aload_n 0, 1)] ((.getfield 40, 3) :: ((.arraylength, 1) :: ([(.if_icmp .ge 12, 3)])))) := m_Fe_of nd1 2 5 rfl
theorem eF0_kindOf_13 : m_Fe mi0_1 13 (m_ap [(.aload_n 0, 1)] ((.getfield 40, 3) :: (m_ap [(.iload_n 1, 1)] ((.iaload, 1) :: ([(.goto 4, 3)]))))) := m_Fe_of nd1 7 5 rfl
theorem SF0_kindOf_0 {xs : Nat → Int32} {L : Nat} (x0 : Nat) (x1 : Int32) (hp : m_H) {r : m_O × m_H} {K : Int32 → Prop} (k0 : ∀ x, K x → r = (.inl (some (.int x)), hp)) {t : Int32} (h : F0_kindOf_0 x0 x1 hp = some t) (hK : K t) : m_Rn xs L 0 1 0 [(0, .ref x0), (1, .int x1)] [] hp r := by
  unfold F0_kindOf_0 at h
  refine g_in eF0_kindOf_0 mx1 ?_
  refine g_ch [(0, .ref x0), (1, .int x1)] [.int x1] (pc' := 1) rfl rfl rfl ?_
  rcases m_ifd h with ⟨c1, h⟩ | ⟨c1, h⟩
  · refine g_ifc (t := 22) rfl (m_ltT c1) ?_
    refine g_in eF0_kindOf_22 mx1 ?_
    refine g_ch [(0, .ref x0), (1, .int x1)] [.int (-1)] (pc' := 23) rfl rfl rfl ?_
    refine g_end ?_
    refine g_in eF0_kindOf_23 mx1 ?_
    cases h
    rw [k0 _ hK]
    exact g_iret rfl rfl
  · refine g_ifcn (t := 22) rfl (m_ltF c1) ?_
    refine g_in eF0_kindOf_4 mx1 ?_
    refine g_ch [(0, .ref x0), (1, .int x1)] [.ref x0, .int x1] (pc' := 6) rfl rfl rfl ?_
    obtain ⟨v2, e3, h⟩ := m_bd h
    refine g_gr q0_f40 e3 ?_
    obtain ⟨v4, e5, h⟩ := m_bd h
    refine g_len e5 ?_
    rcases m_ifd h with ⟨c6, h⟩ | ⟨c6, h⟩
    · refine g_if (t := 22) rfl (m_geT c6) ?_
      refine g_in eF0_kindOf_22 mx1 ?_
      refine g_ch [(0, .ref x0), (1, .int x1)] [.int (-1)] (pc' := 23) rfl rfl rfl ?_
      refine g_end ?_
      refine g_in eF0_kindOf_23 mx1 ?_
      cases h
      rw [k0 _ hK]
      exact g_iret rfl rfl
    · refine g_ifn (t := 22) rfl (m_geF c6) ?_
      refine g_in eF0_kindOf_13 mx1 ?_
      refine g_ch [(0, .ref x0), (1, .int x1)] [.ref x0] (pc' := 14) rfl rfl rfl ?_
      obtain ⟨v7, e8, h⟩ := m_bd h
      refine g_gr q0_f40 e8 ?_
      refine g_ch [(0, .ref x0), (1, .int x1)] [.int x1, .ref v7] (pc' := 18) rfl rfl rfl ?_
      obtain ⟨v9, e10, h⟩ := m_bd h
      refine g_ia e10 ?_
      refine g_goto (t := 23) rfl ?_
      refine g_in eF0_kindOf_23 mx1 ?_
      cases h
      rw [k0 _ hK]
      exact g_iret rfl rfl
theorem OF0_kindOf {x0 : Nat} {x1 : Int32} {hp : m_H} {x : Int32} (h : F0_kindOf x0 x1 hp = some x) : m_isO hp 0 x0 = true := (m_gdd h).1
theorem SF0_kindOf {xs : Nat → Int32} {L : Nat} {x0 : Nat} {x1 : Int32} {hp : m_H} {x : Int32} (h : F0_kindOf x0 x1 hp = some x) : m_Rn xs L 0 1 0 (lv_args 0 [.ref x0, .int x1]) [] hp (.inl (some (.int x)), hp) :=
  r_lv (SF0_kindOf_0 x0 x1 hp (K := fun y => y = x) (fun y e => by rw [e]) (m_gdd h).2 rfl) rfl ⟨rfl, rfl, trivial⟩
-- F0_numberOf: LendHouse$Act.numberOf(I)I
theorem eF0_numberOf_0 : m_Fe mi0_2 0 (m_ap [(.iload_n 1, 1)] ([(.ifCond .lt 21, 3)])) := m_Fe_of nd2 0 2 rfl
theorem eF0_numberOf_22 : m_Fe mi0_2 22 (m_ap [(.iconst 0, 1)] ([])) := m_Fe_of nd2 12 1 rfl
theorem eF0_numberOf_23 : m_Fe mi0_2 23 ([(.ireturn, 1)]) := m_Fe_of nd2 13 1 rfl
theorem eF0_numberOf_4 : m_Fe mi0_2 4 (m_ap [(.iload_n 1, 1), (.aload_n 0, 1)] ((.getfield 44, 3) :: ((.arraylength, 1) :: ([(.if_icmp .ge 12, 3)])))) := m_Fe_of nd2 2 5 rfl
theorem eF0_numberOf_13 : m_Fe mi0_2 13 (m_ap [(.aload_n 0, 1)] ((.getfield 44, 3) :: (m_ap [(.iload_n 1, 1)] ((.iaload, 1) :: ([(.goto 4, 3)]))))) := m_Fe_of nd2 7 5 rfl
theorem SF0_numberOf_0 {xs : Nat → Int32} {L : Nat} (x0 : Nat) (x1 : Int32) (hp : m_H) {r : m_O × m_H} {K : Int32 → Prop} (k0 : ∀ x, K x → r = (.inl (some (.int x)), hp)) {t : Int32} (h : F0_numberOf_0 x0 x1 hp = some t) (hK : K t) : m_Rn xs L 0 2 0 [(0, .ref x0), (1, .int x1)] [] hp r := by
  unfold F0_numberOf_0 at h
  refine g_in eF0_numberOf_0 mx2 ?_
  refine g_ch [(0, .ref x0), (1, .int x1)] [.int x1] (pc' := 1) rfl rfl rfl ?_
  rcases m_ifd h with ⟨c1, h⟩ | ⟨c1, h⟩
  · refine g_ifc (t := 22) rfl (m_ltT c1) ?_
    refine g_in eF0_numberOf_22 mx2 ?_
    refine g_ch [(0, .ref x0), (1, .int x1)] [.int 0] (pc' := 23) rfl rfl rfl ?_
    refine g_end ?_
    refine g_in eF0_numberOf_23 mx2 ?_
    cases h
    rw [k0 _ hK]
    exact g_iret rfl rfl
  · refine g_ifcn (t := 22) rfl (m_ltF c1) ?_
    refine g_in eF0_numberOf_4 mx2 ?_
    refine g_ch [(0, .ref x0), (1, .int x1)] [.ref x0, .int x1] (pc' := 6) rfl rfl rfl ?_
    obtain ⟨v2, e3, h⟩ := m_bd h
    refine g_gr q0_f44 e3 ?_
    obtain ⟨v4, e5, h⟩ := m_bd h
    refine g_len e5 ?_
    rcases m_ifd h with ⟨c6, h⟩ | ⟨c6, h⟩
    · refine g_if (t := 22) rfl (m_geT c6) ?_
      refine g_in eF0_numberOf_22 mx2 ?_
      refine g_ch [(0, .ref x0), (1, .int x1)] [.int 0] (pc' := 23) rfl rfl rfl ?_
      refine g_end ?_
      refine g_in eF0_numberOf_23 mx2 ?_
      cases h
      rw [k0 _ hK]
      exact g_iret rfl rfl
    · refine g_ifn (t := 22) rfl (m_geF c6) ?_
      refine g_in eF0_numberOf_13 mx2 ?_
      refine g_ch [(0, .ref x0), (1, .int x1)] [.ref x0] (pc' := 14) rfl rfl rfl ?_
      obtain ⟨v7, e8, h⟩ := m_bd h
      refine g_gr q0_f44 e8 ?_
      refine g_ch [(0, .ref x0), (1, .int x1)] [.int x1, .ref v7] (pc' := 18) rfl rfl rfl ?_
      obtain ⟨v9, e10, h⟩ := m_bd h
      refine g_ia e10 ?_
      refine g_goto (t := 23) rfl ?_
      refine g_in eF0_numberOf_23 mx2 ?_
      cases h
      rw [k0 _ hK]
      exact g_iret rfl rfl
theorem OF0_numberOf {x0 : Nat} {x1 : Int32} {hp : m_H} {x : Int32} (h : F0_numberOf x0 x1 hp = some x) : m_isO hp 0 x0 = true := (m_gdd h).1
theorem SF0_numberOf {xs : Nat → Int32} {L : Nat} {x0 : Nat} {x1 : Int32} {hp : m_H} {x : Int32} (h : F0_numberOf x0 x1 hp = some x) : m_Rn xs L 0 2 0 (lv_args 0 [.ref x0, .int x1]) [] hp (.inl (some (.int x)), hp) :=
  r_lv (SF0_numberOf_0 x0 x1 hp (K := fun y => y = x) (fun y e => by rw [e]) (m_gdd h).2 rfl) rfl ⟨rfl, rfl, trivial⟩
-- F0_endOf: LendHouse$Act.endOf(I)I
theorem eF0_endOf_0 : m_Fe mi0_3 0 (m_ap [(.iload_n 1, 1)] ([(.ifCond .lt 21, 3)])) := m_Fe_of nd3 0 2 rfl
theorem eF0_endOf_22 : m_Fe mi0_3 22 (m_ap [(.iconst 0, 1)] ([])) := m_Fe_of nd3 12 1 rfl
theorem eF0_endOf_23 : m_Fe mi0_3 23 ([(.ireturn, 1)]) := m_Fe_of nd3 13 1 rfl
theorem eF0_endOf_4 : m_Fe mi0_3 4 (m_ap [(.iload_n 1, 1), (.aload_n 0, 1)] ((.getfield 48, 3) :: ((.arraylength, 1) :: ([(.if_icmp .ge 12, 3)])))) := m_Fe_of nd3 2 5 rfl
theorem eF0_endOf_13 : m_Fe mi0_3 13 (m_ap [(.aload_n 0, 1)] ((.getfield 48, 3) :: (m_ap [(.iload_n 1, 1)] ((.iaload, 1) :: ([(.goto 4, 3)]))))) := m_Fe_of nd3 7 5 rfl
theorem SF0_endOf_0 {xs : Nat → Int32} {L : Nat} (x0 : Nat) (x1 : Int32) (hp : m_H) {r : m_O × m_H} {K : Int32 → Prop} (k0 : ∀ x, K x → r = (.inl (some (.int x)), hp)) {t : Int32} (h : F0_endOf_0 x0 x1 hp = some t) (hK : K t) : m_Rn xs L 0 3 0 [(0, .ref x0), (1, .int x1)] [] hp r := by
  unfold F0_endOf_0 at h
  refine g_in eF0_endOf_0 mx3 ?_
  refine g_ch [(0, .ref x0), (1, .int x1)] [.int x1] (pc' := 1) rfl rfl rfl ?_
  rcases m_ifd h with ⟨c1, h⟩ | ⟨c1, h⟩
  · refine g_ifc (t := 22) rfl (m_ltT c1) ?_
    refine g_in eF0_endOf_22 mx3 ?_
    refine g_ch [(0, .ref x0), (1, .int x1)] [.int 0] (pc' := 23) rfl rfl rfl ?_
    refine g_end ?_
    refine g_in eF0_endOf_23 mx3 ?_
    cases h
    rw [k0 _ hK]
    exact g_iret rfl rfl
  · refine g_ifcn (t := 22) rfl (m_ltF c1) ?_
    refine g_in eF0_endOf_4 mx3 ?_
    refine g_ch [(0, .ref x0), (1, .int x1)] [.ref x0, .int x1] (pc' := 6) rfl rfl rfl ?_
    obtain ⟨v2, e3, h⟩ := m_bd h
    refine g_gr q0_f48 e3 ?_
    obtain ⟨v4, e5, h⟩ := m_bd h
    refine g_len e5 ?_
    rcases m_ifd h with ⟨c6, h⟩ | ⟨c6, h⟩
    · refine g_if (t := 22) rfl (m_geT c6) ?_
      refine g_in eF0_endOf_22 mx3 ?_
      refine g_ch [(0, .ref x0), (1, .int x1)] [.int 0] (pc' := 23) rfl rfl rfl ?_
      refine g_end ?_
      refine g_in eF0_endOf_23 mx3 ?_
      cases h
      rw [k0 _ hK]
      exact g_iret rfl rfl
    · refine g_ifn (t := 22) rfl (m_geF c6) ?_
      refine g_in eF0_endOf_13 mx3 ?_
      refine g_ch [(0, .ref x0), (1, .int x1)] [.ref x0] (pc' := 14) rfl rfl rfl ?_
      obtain ⟨v7, e8, h⟩ := m_bd h
      refine g_gr q0_f48 e8 ?_
      refine g_ch [(0, .ref x0), (1, .int x1)] [.int x1, .ref v7] (pc' := 18) rfl rfl rfl ?_
      obtain ⟨v9, e10, h⟩ := m_bd h
      refine g_ia e10 ?_
      refine g_goto (t := 23) rfl ?_
      refine g_in eF0_endOf_23 mx3 ?_
      cases h
      rw [k0 _ hK]
      exact g_iret rfl rfl
theorem OF0_endOf {x0 : Nat} {x1 : Int32} {hp : m_H} {x : Int32} (h : F0_endOf x0 x1 hp = some x) : m_isO hp 0 x0 = true := (m_gdd h).1
theorem SF0_endOf {xs : Nat → Int32} {L : Nat} {x0 : Nat} {x1 : Int32} {hp : m_H} {x : Int32} (h : F0_endOf x0 x1 hp = some x) : m_Rn xs L 0 3 0 (lv_args 0 [.ref x0, .int x1]) [] hp (.inl (some (.int x)), hp) :=
  r_lv (SF0_endOf_0 x0 x1 hp (K := fun y => y = x) (fun y e => by rw [e]) (m_gdd h).2 rfl) rfl ⟨rfl, rfl, trivial⟩
-- F1_init: LendHouse$Books.<init>()V
theorem eF1_init_0 : m_Fe mi1_0 0 (m_ap [(.aload_n 0, 1)] ((.invokespecial 3, 3) :: (m_ap [(.aload_n 0, 1), (.sipush 768, 3)] ((.newarray .int, 2) :: ((.putfield 11, 3) :: ([(.return_, 1)])))))) := m_Fe_of nd200 0 7 rfl
theorem SF1_init_0 {xs : Nat → Int32} {L : Nat} (x0 : Nat) (hp : m_H) {r : m_O × m_H} {K : m_H → Prop} (k0 : ∀ x, K x → r = (.inl none, x)) {t : m_H} (h : F1_init_0 x0 hp = some t) (hK : K t) : m_Rn xs L 7 200 0 [(0, .ref x0)] [] hp r := by
  unfold F1_init_0 at h
  refine g_in eF1_init_0 mx200 ?_
  refine g_ch [(0, .ref x0)] [.ref x0] (pc' := 1) rfl rfl rfl ?_
  refine g_nat (Or.inr (Or.inr rfl)) q1_m3 rfl (z := ([], hp)) rfl (by decide) ?_
  refine g_ch [(0, .ref x0)] [.int 768, .ref x0] (pc' := 8) rfl rfl rfl ?_
  obtain ⟨h1, e2, h⟩ := m_bd h
  refine g_na rfl e2 ?_
  obtain ⟨h3, e4, h⟩ := m_bd h
  refine g_pf q1_f11 e4 ?_
  cases h
  rw [k0 _ hK]
  exact g_vret rfl
theorem OF1_init {x0 : Nat} {hp : m_H} {x : m_H} (h : F1_init x0 hp = some x) : m_isO hp 1 x0 = true := (m_gdd h).1
theorem SF1_init {xs : Nat → Int32} {L : Nat} {x0 : Nat} {hp : m_H} {x : m_H} (h : F1_init x0 hp = some x) : m_Rn xs L 7 200 0 (lv_args 0 [.ref x0]) [] hp (.inl none, x) :=
  r_lv (SF1_init_0 x0 hp (K := fun y => y = x) (fun y e => by rw [e]) (m_gdd h).2 rfl) rfl ⟨rfl, trivial⟩
-- F8_reaches: LendHouse$Table.reaches(II)Z
theorem eF8_reaches_0 : m_Fe mi8_3 0 (m_ap [(.iload_n 1, 1)] ([(.ifCond .lt 43, 3)])) := m_Fe_of nd1603 0 2 rfl
theorem eF8_reaches_44 : m_Fe mi8_3 44 (m_ap [(.iconst 0, 1)] ([])) := m_Fe_of nd1603 24 1 rfl
theorem eF8_reaches_45 : m_Fe mi8_3 45 ([(.ireturn, 1)]) := m_Fe_of nd1603 25 1 rfl
theorem eF8_reaches_4 : m_Fe mi8_3 4 (m_ap [(.iload_n 1, 1), (.aload_n 0, 1)] ((.getfield 25, 3) :: ([(.if_icmp .ge 35, 3)]))) := m_Fe_of nd1603 2 4 rfl
theorem eF8_reaches_12 : m_Fe mi8_3 12 (m_ap [(.iload_n 2, 1)] ([(.ifCond .lt 31, 3)])) := m_Fe_of nd1603 6 2 rfl
theorem eF8_reaches_16 : m_Fe mi8_3 16 (m_ap [(.iload_n 2, 1), (.aload_n 0, 1)] ((.getfield 15, 3) :: ([(.if_icmp .ge 23, 3)]))) := m_Fe_of nd1603 8 4 rfl
theorem eF8_reaches_24 : m_Fe mi8_3 24 (m_ap [(.iload_n 1, 1), (.iconst 1, 1), (.iadd, 1), (.aload_n 0, 1)] ((.getfield 15, 3) :: (m_ap [(.imul, 1), (.aload_n 0, 1)] ((.getfield 21, 3) :: ((.arraylength, 1) :: ([(.if_icmp .gt 7, 3)])))))) := m_Fe_of nd1603 12 10 rfl
theorem eF8_reaches_40 : m_Fe mi8_3 40 (m_ap [(.iconst 1, 1)] ([(.goto 4, 3)])) := m_Fe_of nd1603 22 2 rfl
theorem SF8_reaches_0 {xs : Nat → Int32} {L : Nat} (x0 : Nat) (x1 : Int32) (x2 : Int32) (hp : m_H) {r : m_O × m_H} {K : Int32 → Prop} (k0 : ∀ x, K x → r = (.inl (some (.int x)), hp)) {t : Int32} (h : F8_reaches_0 x0 x1 x2 hp = some t) (hK : K t) : m_Rn xs L 0 1603 0 [(0, .ref x0), (1, .int x1), (2, .int x2)] [] hp r := by
  unfold F8_reaches_0 at h
  refine g_in eF8_reaches_0 mx1603 ?_
  refine g_ch [(0, .ref x0), (1, .int x1), (2, .int x2)] [.int x1] (pc' := 1) rfl rfl rfl ?_
  rcases m_ifd h with ⟨c1, h⟩ | ⟨c1, h⟩
  · refine g_ifc (t := 44) rfl (m_ltT c1) ?_
    refine g_in eF8_reaches_44 mx1603 ?_
    refine g_ch [(0, .ref x0), (1, .int x1), (2, .int x2)] [.int 0] (pc' := 45) rfl rfl rfl ?_
    refine g_end ?_
    refine g_in eF8_reaches_45 mx1603 ?_
    cases h
    rw [k0 _ hK]
    exact g_iret rfl (by decide +kernel)
  · refine g_ifcn (t := 44) rfl (m_ltF c1) ?_
    refine g_in eF8_reaches_4 mx1603 ?_
    refine g_ch [(0, .ref x0), (1, .int x1), (2, .int x2)] [.ref x0, .int x1] (pc' := 6) rfl rfl rfl ?_
    obtain ⟨v2, e3, h⟩ := m_bd h
    refine g_gi q8_f25 e3 ?_
    rcases m_ifd h with ⟨c4, h⟩ | ⟨c4, h⟩
    · refine g_if (t := 44) rfl (m_geT c4) ?_
      refine g_in eF8_reaches_44 mx1603 ?_
      refine g_ch [(0, .ref x0), (1, .int x1), (2, .int x2)] [.int 0] (pc' := 45) rfl rfl rfl ?_
      refine g_end ?_
      refine g_in eF8_reaches_45 mx1603 ?_
      cases h
      rw [k0 _ hK]
      exact g_iret rfl (by decide +kernel)
    · refine g_ifn (t := 44) rfl (m_geF c4) ?_
      refine g_in eF8_reaches_12 mx1603 ?_
      refine g_ch [(0, .ref x0), (1, .int x1), (2, .int x2)] [.int x2] (pc' := 13) rfl rfl rfl ?_
      rcases m_ifd h with ⟨c5, h⟩ | ⟨c5, h⟩
      · refine g_ifc (t := 44) rfl (m_ltT c5) ?_
        refine g_in eF8_reaches_44 mx1603 ?_
        refine g_ch [(0, .ref x0), (1, .int x1), (2, .int x2)] [.int 0] (pc' := 45) rfl rfl rfl ?_
        refine g_end ?_
        refine g_in eF8_reaches_45 mx1603 ?_
        cases h
        rw [k0 _ hK]
        exact g_iret rfl (by decide +kernel)
      · refine g_ifcn (t := 44) rfl (m_ltF c5) ?_
        refine g_in eF8_reaches_16 mx1603 ?_
        refine g_ch [(0, .ref x0), (1, .int x1), (2, .int x2)] [.ref x0, .int x2] (pc' := 18) rfl rfl rfl ?_
        obtain ⟨v6, e7, h⟩ := m_bd h
        refine g_gi q8_f15 e7 ?_
        rcases m_ifd h with ⟨c8, h⟩ | ⟨c8, h⟩
        · refine g_if (t := 44) rfl (m_geT c8) ?_
          refine g_in eF8_reaches_44 mx1603 ?_
          refine g_ch [(0, .ref x0), (1, .int x1), (2, .int x2)] [.int 0] (pc' := 45) rfl rfl rfl ?_
          refine g_end ?_
          refine g_in eF8_reaches_45 mx1603 ?_
          cases h
          rw [k0 _ hK]
          exact g_iret rfl (by decide +kernel)
        · refine g_ifn (t := 44) rfl (m_geF c8) ?_
          refine g_in eF8_reaches_24 mx1603 ?_
          refine g_ch [(0, .ref x0), (1, .int x1), (2, .int x2)] [.ref x0, .int (x1 + 1)] (pc' := 28) rfl rfl rfl ?_
          obtain ⟨v9, e10, h⟩ := m_bd h
          refine g_gi q8_f15 e10 ?_
          refine g_ch [(0, .ref x0), (1, .int x1), (2, .int x2)] [.ref x0, .int ((x1 + 1) * v9)] (pc' := 33) rfl rfl rfl ?_
          obtain ⟨v11, e12, h⟩ := m_bd h
          refine g_gr q8_f21 e12 ?_
          obtain ⟨v13, e14, h⟩ := m_bd h
          refine g_len e14 ?_
          rcases m_ifd h with ⟨c15, h⟩ | ⟨c15, h⟩
          · refine g_if (t := 44) rfl (m_gtT c15) ?_
            refine g_in eF8_reaches_44 mx1603 ?_
            refine g_ch [(0, .ref x0), (1, .int x1), (2, .int x2)] [.int 0] (pc' := 45) rfl rfl rfl ?_
            refine g_end ?_
            refine g_in eF8_reaches_45 mx1603 ?_
            cases h
            rw [k0 _ hK]
            exact g_iret rfl (by decide +kernel)
          · refine g_ifn (t := 44) rfl (m_gtF c15) ?_
            refine g_in eF8_reaches_40 mx1603 ?_
            refine g_ch [(0, .ref x0), (1, .int x1), (2, .int x2)] [.int 1] (pc' := 41) rfl rfl rfl ?_
            refine g_goto (t := 45) rfl ?_
            refine g_in eF8_reaches_45 mx1603 ?_
            cases h
            rw [k0 _ hK]
            exact g_iret rfl (by decide +kernel)
theorem OF8_reaches {x0 : Nat} {x1 : Int32} {x2 : Int32} {hp : m_H} {x : Int32} (h : F8_reaches x0 x1 x2 hp = some x) : m_isO hp 6 x0 = true := (m_gdd h).1
theorem SF8_reaches {xs : Nat → Int32} {L : Nat} {x0 : Nat} {x1 : Int32} {x2 : Int32} {hp : m_H} {x : Int32} (h : F8_reaches x0 x1 x2 hp = some x) : m_Rn xs L 0 1603 0 (lv_args 0 [.ref x0, .int x1, .int x2]) [] hp (.inl (some (.int x)), hp) :=
  r_lv (SF8_reaches_0 x0 x1 x2 hp (K := fun y => y = x) (fun y e => by rw [e]) (m_gdd h).2 rfl) rfl ⟨rfl, rfl, rfl, trivial⟩
-- F8_get: LendHouse$Table.get(II)I
theorem eF8_get_0 : m_Fe mi8_4 0 (m_ap [(.aload_n 0, 1), (.iload_n 1, 1), (.iload_n 2, 1)] ((.invokevirtual 28, 3) :: ([(.ifCond .eq 19, 3)]))) := m_Fe_of nd1604 0 5 rfl
theorem eF8_get_25 : m_Fe mi8_4 25 (m_ap [(.iconst 0, 1)] ([])) := m_Fe_of nd1604 15 1 rfl
theorem eF8_get_26 : m_Fe mi8_4 26 ([(.ireturn, 1)]) := m_Fe_of nd1604 16 1 rfl
theorem eF8_get_9 : m_Fe mi8_4 9 (m_ap [(.aload_n 0, 1)] ((.getfield 21, 3) :: (m_ap [(.iload_n 1, 1), (.aload_n 0, 1)] ((.getfield 15, 3) :: (m_ap [(.imul, 1), (.iload_n 2, 1), (.iadd, 1)] ((.iaload, 1) :: ([(.goto 4, 3)]))))))) := m_Fe_of nd1604 5 10 rfl
theorem SF8_get_0 {xs : Nat → Int32} {L : Nat} (x0 : Nat) (x1 : Int32) (x2 : Int32) (hp : m_H) {r : m_O × m_H} {K : Int32 → Prop} (k0 : ∀ x, K x → r = (.inl (some (.int x)), hp)) {t : Int32} (h : F8_get_0 x0 x1 x2 hp = some t) (hK : K t) : m_Rn xs L 1 1604 0 [(0, .ref x0), (1, .int x1), (2, .int x2)] [] hp r := by
  unfold F8_get_0 at h
  refine g_in eF8_get_0 mx1604 ?_
  refine g_ch [(0, .ref x0), (1, .int x1), (2, .int x2)] [.int x2, .int x1, .ref x0] (pc' := 3) rfl rfl rfl ?_
  obtain ⟨v2, e1, h⟩ := m_bd h
  refine g_call (v := some (.int v2)) (h := hp) (st' := [.int v2]) (D1 := 0) (as := [.ref x0, .int x1, .int x2]) (Or.inr (Or.inl rfl)) q8_m28 (m_cv (as := [.int x2, .int x1]) (rest := []) (Or.inl rfl) q8_m28 jv1603 (OF8_reaches e1) rfl rfl rfl rfl) (by decide) (SF8_reaches e1) rfl ?_
  rcases m_ifd h with ⟨c3, h⟩ | ⟨c3, h⟩
  · refine g_ifc (t := 25) rfl (m_eqT c3) ?_
    refine g_in eF8_get_25 mx1604 ?_
    refine g_ch [(0, .ref x0), (1, .int x1), (2, .int x2)] [.int 0] (pc' := 26) rfl rfl rfl ?_
    refine g_end ?_
    refine g_in eF8_get_26 mx1604 ?_
    cases h
    rw [k0 _ hK]
    exact g_iret rfl rfl
  · refine g_ifcn (t := 25) rfl (m_eqF c3) ?_
    refine g_in eF8_get_9 mx1604 ?_
    refine g_ch [(0, .ref x0), (1, .int x1), (2, .int x2)] [.ref x0] (pc' := 10) rfl rfl rfl ?_
    obtain ⟨v4, e5, h⟩ := m_bd h
    refine g_gr q8_f21 e5 ?_
    refine g_ch [(0, .ref x0), (1, .int x1), (2, .int x2)] [.ref x0, .int x1, .ref v4] (pc' := 15) rfl rfl rfl ?_
    obtain ⟨v6, e7, h⟩ := m_bd h
    refine g_gi q8_f15 e7 ?_
    refine g_ch [(0, .ref x0), (1, .int x1), (2, .int x2)] [.int ((x1 * v6) + x2), .ref v4] (pc' := 21) rfl rfl rfl ?_
    obtain ⟨v8, e9, h⟩ := m_bd h
    refine g_ia e9 ?_
    refine g_goto (t := 26) rfl ?_
    refine g_in eF8_get_26 mx1604 ?_
    cases h
    rw [k0 _ hK]
    exact g_iret rfl rfl
theorem OF8_get {x0 : Nat} {x1 : Int32} {x2 : Int32} {hp : m_H} {x : Int32} (h : F8_get x0 x1 x2 hp = some x) : m_isO hp 6 x0 = true := (m_gdd h).1
theorem SF8_get {xs : Nat → Int32} {L : Nat} {x0 : Nat} {x1 : Int32} {x2 : Int32} {hp : m_H} {x : Int32} (h : F8_get x0 x1 x2 hp = some x) : m_Rn xs L 1 1604 0 (lv_args 0 [.ref x0, .int x1, .int x2]) [] hp (.inl (some (.int x)), hp) :=
  r_lv (SF8_get_0 x0 x1 x2 hp (K := fun y => y = x) (fun y e => by rw [e]) (m_gdd h).2 rfl) rfl ⟨rfl, rfl, rfl, trivial⟩
-- F3_isLent: LendHouse$House.isLent(I)Z
theorem eF3_isLent_0 : m_Fe mi3_14 0 (m_ap [(.aload_n 0, 1)] ((.getfield 29, 3) :: (m_ap [(.iload_n 1, 1), (.iconst 2, 1)] ((.invokevirtual 100, 3) :: ([(.ifCond .eq 19, 3)]))))) := m_Fe_of nd614 0 6 rfl
theorem eF3_isLent_28 : m_Fe mi3_14 28 (m_ap [(.iconst 0, 1)] ([])) := m_Fe_of nd614 14 1 rfl
theorem eF3_isLent_29 : m_Fe mi3_14 29 ([(.ireturn, 1)]) := m_Fe_of nd614 15 1 rfl
theorem eF3_isLent_12 : m_Fe mi3_14 12 (m_ap [(.aload_n 0, 1)] ((.getfield 29, 3) :: (m_ap [(.iload_n 1, 1), (.iconst 3, 1)] ((.invokevirtual 100, 3) :: ([(.ifCond .ne 7, 3)]))))) := m_Fe_of nd614 6 6 rfl
theorem eF3_isLent_24 : m_Fe mi3_14 24 (m_ap [(.iconst 1, 1)] ([(.goto 4, 3)])) := m_Fe_of nd614 12 2 rfl
theorem SF3_isLent_0 {xs : Nat → Int32} {L : Nat} (x0 : Nat) (x1 : Int32) (hp : m_H) {r : m_O × m_H} {K : Int32 → Prop} (k0 : ∀ x, K x → r = (.inl (some (.int x)), hp)) {t : Int32} (h : F3_isLent_0 x0 x1 hp = some t) (hK : K t) : m_Rn xs L 2 614 0 [(0, .ref x0), (1, .int x1)] [] hp r := by
  unfold F3_isLent_0 at h
  refine g_in eF3_isLent_0 mx614 ?_
  refine g_ch [(0, .ref x0), (1, .int x1)] [.ref x0] (pc' := 1) rfl rfl rfl ?_
  obtain ⟨v1, e2, h⟩ := m_bd h
  refine g_gr q3_f29 e2 ?_
  refine g_ch [(0, .ref x0), (1, .int x1)] [.int 2, .int x1, .ref v1] (pc' := 6) rfl rfl rfl ?_
  obtain ⟨v4, e3, h⟩ := m_bd h
  refine g_call (v := some (.int v4)) (h := hp) (st' := [.int v4]) (D1 := 1) (as := [.ref v1, .int x1, .int 2]) (Or.inr (Or.inl rfl)) q3_m100 (m_cv (as := [.int 2, .int x1]) (rest := []) (Or.inl rfl) q3_m100 jv1604 (OF8_get e3) rfl rfl rfl rfl) (by decide) (SF8_get e3) rfl ?_
  rcases m_ifd h with ⟨c5, h⟩ | ⟨c5, h⟩
  · refine g_ifc (t := 28) rfl (m_eqT c5) ?_
    refine g_in eF3_isLent_28 mx614 ?_
    refine g_ch [(0, .ref x0), (1, .int x1)] [.int 0] (pc' := 29) rfl rfl rfl ?_
    refine g_end ?_
    refine g_in eF3_isLent_29 mx614 ?_
    cases h
    rw [k0 _ hK]
    exact g_iret rfl (by decide +kernel)
  · refine g_ifcn (t := 28) rfl (m_eqF c5) ?_
    refine g_in eF3_isLent_12 mx614 ?_
    refine g_ch [(0, .ref x0), (1, .int x1)] [.ref x0] (pc' := 13) rfl rfl rfl ?_
    obtain ⟨v6, e7, h⟩ := m_bd h
    refine g_gr q3_f29 e7 ?_
    refine g_ch [(0, .ref x0), (1, .int x1)] [.int 3, .int x1, .ref v6] (pc' := 18) rfl rfl rfl ?_
    obtain ⟨v9, e8, h⟩ := m_bd h
    refine g_call (v := some (.int v9)) (h := hp) (st' := [.int v9]) (D1 := 1) (as := [.ref v6, .int x1, .int 3]) (Or.inr (Or.inl rfl)) q3_m100 (m_cv (as := [.int 3, .int x1]) (rest := []) (Or.inl rfl) q3_m100 jv1604 (OF8_get e8) rfl rfl rfl rfl) (by decide) (SF8_get e8) rfl ?_
    rcases m_ifd h with ⟨c10, h⟩ | ⟨c10, h⟩
    · refine g_ifcn (t := 28) rfl (m_neF c10) ?_
      refine g_in eF3_isLent_24 mx614 ?_
      refine g_ch [(0, .ref x0), (1, .int x1)] [.int 1] (pc' := 25) rfl rfl rfl ?_
      refine g_goto (t := 29) rfl ?_
      refine g_in eF3_isLent_29 mx614 ?_
      cases h
      rw [k0 _ hK]
      exact g_iret rfl (by decide +kernel)
    · refine g_ifc (t := 28) rfl (m_neT c10) ?_
      refine g_in eF3_isLent_28 mx614 ?_
      refine g_ch [(0, .ref x0), (1, .int x1)] [.int 0] (pc' := 29) rfl rfl rfl ?_
      refine g_end ?_
      refine g_in eF3_isLent_29 mx614 ?_
      cases h
      rw [k0 _ hK]
      exact g_iret rfl (by decide +kernel)
theorem OF3_isLent {x0 : Nat} {x1 : Int32} {hp : m_H} {x : Int32} (h : F3_isLent x0 x1 hp = some x) : m_isO hp 3 x0 = true := (m_gdd h).1
theorem SF3_isLent {xs : Nat → Int32} {L : Nat} {x0 : Nat} {x1 : Int32} {hp : m_H} {x : Int32} (h : F3_isLent x0 x1 hp = some x) : m_Rn xs L 2 614 0 (lv_args 0 [.ref x0, .int x1]) [] hp (.inl (some (.int x)), hp) :=
  r_lv (SF3_isLent_0 x0 x1 hp (K := fun y => y = x) (fun y e => by rw [e]) (m_gdd h).2 rfl) rfl ⟨rfl, rfl, trivial⟩
-- F3_crates: LendHouse$House.crates(II)I
theorem eF3_crates_0 : m_Fe mi3_16 0 (m_ap [(.aload_n 0, 1)] ((.getfield 29, 3) :: (m_ap [(.iload_n 1, 1), (.bipush 10, 2), (.iload_n 2, 1), (.iadd, 1)] ((.invokevirtual 100, 3) :: ([(.ireturn, 1)]))))) := m_Fe_of nd616 0 8 rfl
theorem SF3_crates_0 {xs : Nat → Int32} {L : Nat} (x0 : Nat) (x1 : Int32) (x2 : Int32) (hp : m_H) {r : m_O × m_H} {K : Int32 → Prop} (k0 : ∀ x, K x → r = (.inl (some (.int x)), hp)) {t : Int32} (h : F3_crates_0 x0 x1 x2 hp = some t) (hK : K t) : m_Rn xs L 2 616 0 [(0, .ref x0), (1, .int x1), (2, .int x2)] [] hp r := by
  unfold F3_crates_0 at h
  refine g_in eF3_crates_0 mx616 ?_
  refine g_ch [(0, .ref x0), (1, .int x1), (2, .int x2)] [.ref x0] (pc' := 1) rfl rfl rfl ?_
  obtain ⟨v1, e2, h⟩ := m_bd h
  refine g_gr q3_f29 e2 ?_
  refine g_ch [(0, .ref x0), (1, .int x1), (2, .int x2)] [.int (10 + x2), .int x1, .ref v1] (pc' := 9) rfl rfl rfl ?_
  obtain ⟨v4, e3, h⟩ := m_bd h
  refine g_call (v := some (.int v4)) (h := hp) (st' := [.int v4]) (D1 := 1) (as := [.ref v1, .int x1, .int (10 + x2)]) (Or.inr (Or.inl rfl)) q3_m100 (m_cv (as := [.int (10 + x2), .int x1]) (rest := []) (Or.inl rfl) q3_m100 jv1604 (OF8_get e3) rfl rfl rfl rfl) (by decide) (SF8_get e3) rfl ?_
  cases h
  rw [k0 _ hK]
  exact g_iret rfl rfl
theorem OF3_crates {x0 : Nat} {x1 : Int32} {x2 : Int32} {hp : m_H} {x : Int32} (h : F3_crates x0 x1 x2 hp = some x) : m_isO hp 3 x0 = true := (m_gdd h).1
theorem SF3_crates {xs : Nat → Int32} {L : Nat} {x0 : Nat} {x1 : Int32} {x2 : Int32} {hp : m_H} {x : Int32} (h : F3_crates x0 x1 x2 hp = some x) : m_Rn xs L 2 616 0 (lv_args 0 [.ref x0, .int x1, .int x2]) [] hp (.inl (some (.int x)), hp) :=
  r_lv (SF3_crates_0 x0 x1 x2 hp (K := fun y => y = x) (fun y e => by rw [e]) (m_gdd h).2 rfl) rfl ⟨rfl, rfl, rfl, trivial⟩
-- F1_raise: LendHouse$Books.raise(IIZ)V
theorem eF1_raise_0 : m_Fe mi1_2 0 (m_ap [(.iload_n 1, 1)] ([(.ifCond .lt 34, 3)])) := m_Fe_of nd202 0 2 rfl
theorem eF1_raise_35 : m_Fe mi1_2 35 ([(.return_, 1)]) := m_Fe_of nd202 21 1 rfl
theorem eF1_raise_4 : m_Fe mi1_2 4 (m_ap [(.iload_n 1, 1), (.aload_n 0, 1)] ((.getfield 11, 3) :: ((.arraylength, 1) :: ([(.if_icmp .ge 25, 3)])))) := m_Fe_of nd202 2 5 rfl
theorem eF1_raise_13 : m_Fe mi1_2 13 (m_ap [(.aload_n 0, 1)] ((.getfield 11, 3) :: (m_ap [(.iload_n 1, 1), (.iload_n 3, 1)] ([(.ifCond .eq 14, 3)])))) := m_Fe_of nd202 7 5 rfl
theorem eF1_raise_33 : m_Fe mi1_2 33 (m_ap [(.iload_n 2, 1)] ([])) := m_Fe_of nd202 19 1 rfl
theorem eF1_raise_34 : m_Fe mi1_2 34 ([(.iastore, 1)]) := m_Fe_of nd202 20 1 rfl
theorem eF1_raise_22 : m_Fe mi1_2 22 (m_ap [(.aload_n 0, 1)] ((.getfield 11, 3) :: (m_ap [(.iload_n 1, 1)] ((.iaload, 1) :: (m_ap [(.iload_n 2, 1), (.iadd, 1)] ([(.goto 4, 3)])))))) := m_Fe_of nd202 12 7 rfl
theorem SF1_raise_0 {xs : Nat → Int32} {L : Nat} (x0 : Nat) (x1 : Int32) (x2 : Int32) (x3 : Int32) (hp : m_H) {r : m_O × m_H} {K : m_H → Prop} (k0 : ∀ x, K x → r = (.inl none, x)) {t : m_H} (h : F1_raise_0 x0 x1 x2 x3 hp = some t) (hK : K t) : m_Rn xs L 0 202 0 [(0, .ref x0), (1, .int x1), (2, .int x2), (3, .int x3)] [] hp r := by
  unfold F1_raise_0 at h
  refine g_in eF1_raise_0 mx202 ?_
  refine g_ch [(0, .ref x0), (1, .int x1), (2, .int x2), (3, .int x3)] [.int x1] (pc' := 1) rfl rfl rfl ?_
  rcases m_ifd h with ⟨c1, h⟩ | ⟨c1, h⟩
  · refine g_ifc (t := 35) rfl (m_ltT c1) ?_
    refine g_in eF1_raise_35 mx202 ?_
    cases h
    rw [k0 _ hK]
    exact g_vret rfl
  · refine g_ifcn (t := 35) rfl (m_ltF c1) ?_
    refine g_in eF1_raise_4 mx202 ?_
    refine g_ch [(0, .ref x0), (1, .int x1), (2, .int x2), (3, .int x3)] [.ref x0, .int x1] (pc' := 6) rfl rfl rfl ?_
    obtain ⟨v2, e3, h⟩ := m_bd h
    refine g_gr q1_f11 e3 ?_
    obtain ⟨v4, e5, h⟩ := m_bd h
    refine g_len e5 ?_
    rcases m_ifd h with ⟨c6, h⟩ | ⟨c6, h⟩
    · refine g_if (t := 35) rfl (m_geT c6) ?_
      refine g_in eF1_raise_35 mx202 ?_
      cases h
      rw [k0 _ hK]
      exact g_vret rfl
    · refine g_ifn (t := 35) rfl (m_geF c6) ?_
      refine g_in eF1_raise_13 mx202 ?_
      refine g_ch [(0, .ref x0), (1, .int x1), (2, .int x2), (3, .int x3)] [.ref x0] (pc' := 14) rfl rfl rfl ?_
      obtain ⟨v7, e8, h⟩ := m_bd h
      refine g_gr q1_f11 e8 ?_
      refine g_ch [(0, .ref x0), (1, .int x1), (2, .int x2), (3, .int x3)] [.int x3, .int x1, .ref v7] (pc' := 19) rfl rfl rfl ?_
      rcases m_ifd h with ⟨c9, h⟩ | ⟨c9, h⟩
      · refine g_ifc (t := 33) rfl (m_eqT c9) ?_
        refine g_in eF1_raise_33 mx202 ?_
        refine g_ch [(0, .ref x0), (1, .int x1), (2, .int x2), (3, .int x3)] [.int x2, .int x1, .ref v7] (pc' := 34) rfl rfl rfl ?_
        refine g_end ?_
        refine g_in eF1_raise_34 mx202 ?_
        obtain ⟨h10, e11, h⟩ := m_bd h
        refine g_is e11 ?_
        refine g_end ?_
        refine g_in eF1_raise_35 mx202 ?_
        cases h
        rw [k0 _ hK]
        exact g_vret rfl
      · refine g_ifcn (t := 33) rfl (m_eqF c9) ?_
        refine g_in eF1_raise_22 mx202 ?_
        refine g_ch [(0, .ref x0), (1, .int x1), (2, .int x2), (3, .int x3)] [.ref x0, .int x1, .ref v7] (pc' := 23) rfl rfl rfl ?_
        obtain ⟨v12, e13, h⟩ := m_bd h
        refine g_gr q1_f11 e13 ?_
        refine g_ch [(0, .ref x0), (1, .int x1), (2, .int x2), (3, .int x3)] [.int x1, .ref v12, .int x1, .ref v7] (pc' := 27) rfl rfl rfl ?_
        obtain ⟨v14, e15, h⟩ := m_bd h
        refine g_ia e15 ?_
        refine g_ch [(0, .ref x0), (1, .int x1), (2, .int x2), (3, .int x3)] [.int (v14 + x2), .int x1, .ref v7] (pc' := 30) rfl rfl rfl ?_
        refine g_goto (t := 34) rfl ?_
        refine g_in eF1_raise_34 mx202 ?_
        obtain ⟨h16, e17, h⟩ := m_bd h
        refine g_is e17 ?_
        refine g_end ?_
        refine g_in eF1_raise_35 mx202 ?_
        cases h
        rw [k0 _ hK]
        exact g_vret rfl
theorem OF1_raise {x0 : Nat} {x1 : Int32} {x2 : Int32} {x3 : Int32} {hp : m_H} {x : m_H} (h : F1_raise x0 x1 x2 x3 hp = some x) : m_isO hp 1 x0 = true := (m_gdd h).1
theorem SF1_raise {xs : Nat → Int32} {L : Nat} {x0 : Nat} {x1 : Int32} {x2 : Int32} {x3 : Int32} {hp : m_H} {x : m_H} (h : F1_raise x0 x1 x2 x3 hp = some x) : m_Rn xs L 0 202 0 (lv_args 0 [.ref x0, .int x1, .int x2, .int x3]) [] hp (.inl none, x) :=
  r_lv (SF1_raise_0 x0 x1 x2 x3 hp (K := fun y => y = x) (fun y e => by rw [e]) (m_gdd h).2 rfl) rfl ⟨rfl, rfl, rfl, rfl, trivial⟩
-- F1_makeRoom: LendHouse$Books.makeRoom(I)V
theorem eF1_makeRoom_0 : m_Fe mi1_3 0 (m_ap [(.sipush 24048, 3), (.istore_n 2, 1), (.iload_n 1, 1), (.aload_n 0, 1)] ((.getfield 11, 3) :: ((.arraylength, 1) :: ([(.if_icmp .le 34, 3)])))) := m_Fe_of nd203 0 7 rfl
theorem eF1_makeRoom_44 : m_Fe mi1_3 44 ([(.return_, 1)]) := m_Fe_of nd203 24 1 rfl
theorem eF1_makeRoom_13 : m_Fe mi1_3 13 (m_ap [(.iload_n 1, 1), (.iload_n 2, 1)] ([(.if_icmp .gt 29, 3)])) := m_Fe_of nd203 7 3 rfl
theorem eF1_makeRoom_18 : m_Fe mi1_3 18 (m_ap [(.aload_n 0, 1), (.aload_n 0, 1)] ((.getfield 11, 3) :: (m_ap [(.iload_n 2, 1), (.iload_n 1, 1), (.iconst 2, 1), (.aload_n 0, 1)] ((.getfield 11, 3) :: ((.arraylength, 1) :: (m_ap [(.imul, 1)] ((.invokestatic 52, 3) :: ((.invokestatic 57, 3) :: ((.invokestatic 60, 3) :: ([(.putfield 11, 3)])))))))))) := m_Fe_of nd203 10 14 rfl
theorem SF1_makeRoom_0 {xs : Nat → Int32} {L : Nat} (x0 : Nat) (x1 : Int32) (hp : m_H) {r : m_O × m_H} {K : m_H → Prop} (k0 : ∀ x, K x → r = (.inl none, x)) {t : m_H} (h : F1_makeRoom_0 x0 x1 hp = some t) (hK : K t) : m_Rn xs L 7 203 0 [(0, .ref x0), (1, .int x1)] [] hp r := by
  unfold F1_makeRoom_0 at h
  refine g_in eF1_makeRoom_0 mx203 ?_
  refine g_ch [(2, .int 24048), (0, .ref x0), (1, .int x1)] [.ref x0, .int x1] (pc' := 6) rfl rfl rfl ?_
  obtain ⟨v1, e2, h⟩ := m_bd h
  refine g_gr q1_f11 e2 ?_
  obtain ⟨v3, e4, h⟩ := m_bd h
  refine g_len e4 ?_
  rcases m_ifd h with ⟨c5, h⟩ | ⟨c5, h⟩
  · refine g_if (t := 44) rfl (m_leT c5) ?_
    refine g_in eF1_makeRoom_44 mx203 ?_
    cases h
    rw [k0 _ hK]
    exact g_vret rfl
  · refine g_ifn (t := 44) rfl (m_leF c5) ?_
    refine g_in eF1_makeRoom_13 mx203 ?_
    refine g_ch [(2, .int 24048), (0, .ref x0), (1, .int x1)] [.int 24048, .int x1] (pc' := 15) rfl rfl rfl ?_
    rcases m_ifd h with ⟨c6, h⟩ | ⟨c6, h⟩
    · refine g_if (t := 44) rfl (m_gtT c6) ?_
      refine g_in eF1_makeRoom_44 mx203 ?_
      cases h
      rw [k0 _ hK]
      exact g_vret rfl
    · refine g_ifn (t := 44) rfl (m_gtF c6) ?_
      refine g_in eF1_makeRoom_18 mx203 ?_
      refine g_ch [(2, .int 24048), (0, .ref x0), (1, .int x1)] [.ref x0, .ref x0] (pc' := 20) rfl rfl rfl ?_
      obtain ⟨v7, e8, h⟩ := m_bd h
      refine g_gr q1_f11 e8 ?_
      refine g_ch [(2, .int 24048), (0, .ref x0), (1, .int x1)] [.ref x0, .int 2, .int x1, .int 24048, .ref v7, .ref x0] (pc' := 27) rfl rfl rfl ?_
      obtain ⟨v9, e10, h⟩ := m_bd h
      refine g_gr q1_f11 e10 ?_
      obtain ⟨v11, e12, h⟩ := m_bd h
      refine g_len e12 ?_
      refine g_ch [(2, .int 24048), (0, .ref x0), (1, .int x1)] [.int (2 * v11), .int x1, .int 24048, .ref v7, .ref x0] (pc' := 32) rfl rfl rfl ?_
      refine g_nat (Or.inl rfl) q1_m52 rfl (z := ([.int (m_max x1 (2 * v11)), .int 24048, .ref v7, .ref x0], hp)) rfl (by decide) ?_
      refine g_nat (Or.inl rfl) q1_m57 rfl (z := ([.int (m_min 24048 (m_max x1 (2 * v11))), .ref v7, .ref x0], hp)) rfl (by decide) ?_
      obtain ⟨h14, e13, h⟩ := m_bd h
      refine g_nat (Or.inl rfl) q1_m60 rfl (z := ([.ref (m_id hp), .ref x0], h14)) (m_z5 e13) (by decide) ?_
      obtain ⟨h15, e16, h⟩ := m_bd h
      refine g_pf q1_f11 e16 ?_
      refine g_end ?_
      refine g_in eF1_makeRoom_44 mx203 ?_
      cases h
      rw [k0 _ hK]
      exact g_vret rfl
theorem OF1_makeRoom {x0 : Nat} {x1 : Int32} {hp : m_H} {x : m_H} (h : F1_makeRoom x0 x1 hp = some x) : m_isO hp 1 x0 = true := (m_gdd h).1
theorem SF1_makeRoom {xs : Nat → Int32} {L : Nat} {x0 : Nat} {x1 : Int32} {hp : m_H} {x : m_H} (h : F1_makeRoom x0 x1 hp = some x) : m_Rn xs L 7 203 0 (lv_args 0 [.ref x0, .int x1]) [] hp (.inl none, x) :=
  r_lv (SF1_makeRoom_0 x0 x1 hp (K := fun y => y = x) (fun y e => by rw [e]) (m_gdd h).2 rfl) rfl ⟨rfl, rfl, trivial⟩
-- F3_tradeRow: LendHouse$House.tradeRow(II)I
theorem eF3_tradeRow_0 : m_Fe mi3_3 0 (m_ap [(.iload_n 0, 1), (.bipush 8, 2), (.imul, 1), (.iload_n 1, 1), (.iadd, 1)] ([(.ireturn, 1)])) := m_Fe_of nd603 0 6 rfl
theorem SF3_tradeRow_0 {xs : Nat → Int32} {L : Nat} (x0 : Int32) (x1 : Int32) (hp : m_H) {r : m_O × m_H} {K : Int32 → Prop} (k0 : ∀ x, K x → r = (.inl (some (.int x)), hp)) {t : Int32} (h : F3_tradeRow_0 x0 x1 hp = some t) (hK : K t) : m_Rn xs L 0 603 0 [(0, .int x0), (1, .int x1)] [] hp r := by
  unfold F3_tradeRow_0 at h
  refine g_in eF3_tradeRow_0 mx603 ?_
  refine g_ch [(0, .int x0), (1, .int x1)] [.int ((x0 * 8) + x1)] (pc' := 6) rfl rfl rfl ?_
  cases h
  rw [k0 _ hK]
  exact g_iret rfl rfl
theorem SF3_tradeRow {xs : Nat → Int32} {L : Nat} {x0 : Int32} {x1 : Int32} {hp : m_H} {x : Int32} (h : F3_tradeRow x0 x1 hp = some x) : m_Rn xs L 0 603 0 (lv_args 0 [.int x0, .int x1]) [] hp (.inl (some (.int x)), hp) :=
  r_lv (SF3_tradeRow_0 x0 x1 hp (K := fun y => y = x) (fun y e => by rw [e]) h rfl) rfl ⟨rfl, rfl, trivial⟩
-- F1_write: LendHouse$Books.write(LLendHouse$House;)V
theorem eF1_write_0 : m_Fe mi1_1 0 (m_ap [(.aload_n 1, 1)] ((.getfield 15, 3) :: (m_ap [(.bipush 48, 2), (.imul, 1), (.istore_n 2, 1), (.aload_n 0, 1), (.iload_n 2, 1), (.bipush 48, 2), (.iadd, 1)] ((.invokevirtual 21, 3) :: (m_ap [(.iconst 0, 1), (.istore_n 3, 1)] ([])))))) := m_Fe_of nd201 0 12 rfl
theorem eF1_write_18 : m_Fe mi1_1 18 (m_ap [(.iload_n 3, 1), (.bipush 48, 2)] ([(.if_icmp .ge 18, 3)])) := m_Fe_of nd201 12 3 rfl
theorem eF1_write_39 : m_Fe mi1_1 39 (m_ap [(.iconst 0, 1), (.istore_n 3, 1)] ([])) := m_Fe_of nd201 24 2 rfl
theorem eF1_write_24 : m_Fe mi1_1 24 (m_ap [(.aload_n 0, 1), (.iload_n 2, 1), (.iload_n 3, 1), (.iadd, 1), (.iconst 0, 1), (.iconst 0, 1)] ((.invokevirtual 25, 3) :: (m_ap [(.iinc 3 1, 3)] ([(.goto (-18), 3)])))) := m_Fe_of nd201 15 9 rfl
theorem eF1_write_41 : m_Fe mi1_1 41 (m_ap [(.iload_n 3, 1), (.aload_n 1, 1)] ((.getfield 29, 3) :: ((.getfield 33, 3) :: ([(.if_icmp .ge 64, 3)])))) := m_Fe_of nd201 26 5 rfl
theorem eF1_write_113 : m_Fe mi1_1 113 ([(.return_, 1)]) := m_Fe_of nd201 63 1 rfl
theorem eF1_write_52 : m_Fe mi1_1 52 (m_ap [(.aload_n 1, 1), (.iload_n 3, 1), (.iconst 3, 1)] ((.invokevirtual 38, 3) :: (m_ap [(.istore 4, 2), (.iload 4, 2)] ([(.ifCond .le 45, 3)])))) := m_Fe_of nd201 31 7 rfl
theorem eF1_write_107 : m_Fe mi1_1 107 (m_ap [(.iinc 3 1, 3)] ([(.goto (-69), 3)])) := m_Fe_of nd201 61 2 rfl
theorem eF1_write_65 : m_Fe mi1_1 65 (m_ap [(.aload_n 1, 1), (.iload_n 3, 1)] ((.invokevirtual 42, 3) :: ([(.ifCond .eq 37, 3)]))) := m_Fe_of nd201 38 4 rfl
theorem eF1_write_73 : m_Fe mi1_1 73 (m_ap [(.aload_n 1, 1)] ((.getfield 29, 3) :: (m_ap [(.iload_n 3, 1), (.iconst 2, 1)] ((.invokevirtual 46, 3) :: (m_ap [(.aload_n 1, 1)] ((.getfield 29, 3) :: (m_ap [(.iload_n 3, 1), (.iconst 0, 1)] ((.invokevirtual 46, 3) :: ((.invokestatic 49, 3) :: (m_ap [(.istore 5, 2), (.aload_n 0, 1), (.iload_n 2, 1), (.iload 5, 2), (.iadd, 1), (.iload 4, 2), (.iconst 1, 1)] ([(.invokevirtual 25, 3)]))))))))))) := m_Fe_of nd201 42 19 rfl
theorem SF1_write_41b {xs : Nat → Int32} {L : Nat} (x0 : Nat) (x1 : Nat) (x2 : Int32) (s : Int32 × m_H) {r : m_O × m_H} {K : ((Int32 × m_H) ⊕ m_H) → Prop} (k0 : ∀ x, K (.inr x) → r = (.inl none, x)) (k1 : ∀ s, K (.inl s) → m_Rn xs L 8 201 41 [(0, .ref x0), (1, .ref x1), (2, .int x2), (3, .int s.1)] [] s.2 r) {t : (Int32 × m_H) ⊕ m_H} (h : F1_write_41b x0 x1 x2 s = some t) (hK : K t) : m_Rn xs L 8 201 41 [(0, .ref x0), (1, .ref x1), (2, .int x2), (3, .int s.1)] [] s.2 r := by
  unfold F1_write_41b at h
  refine g_in eF1_write_41 mx201 ?_
  refine g_ch [(0, .ref x0), (1, .ref x1), (2, .int x2), (3, .int s.1)] [.ref x1, .int s.1] (pc' := 43) rfl rfl rfl ?_
  obtain ⟨v1, e2, h⟩ := m_bd h
  refine g_gr q1_f29 e2 ?_
  obtain ⟨v3, e4, h⟩ := m_bd h
  refine g_gi q1_f33 e4 ?_
  rcases m_ifd h with ⟨c5, h⟩ | ⟨c5, h⟩
  · refine g_if (t := 113) rfl (m_geT c5) ?_
    refine g_in eF1_write_113 mx201 ?_
    cases h
    rw [k0 _ hK]
    exact g_vret rfl
  · refine g_ifn (t := 113) rfl (m_geF c5) ?_
    refine g_in eF1_write_52 mx201 ?_
    refine g_ch [(0, .ref x0), (1, .ref x1), (2, .int x2), (3, .int s.1)] [.int 3, .int s.1, .ref x1] (pc' := 55) rfl rfl rfl ?_
    obtain ⟨v7, e6, h⟩ := m_bd h
    refine g_call (v := some (.int v7)) (h := s.2) (st' := [.int v7]) (D1 := 2) (as := [.ref x1, .int s.1, .int 3]) (Or.inr (Or.inl rfl)) q1_m38 (m_cv (as := [.int 3, .int s.1]) (rest := []) (Or.inl rfl) q1_m38 jv616 (OF3_crates e6) rfl rfl rfl rfl) (by decide) (SF3_crates e6) rfl ?_
    refine g_ch [(4, .int v7), (0, .ref x0), (1, .ref x1), (2, .int x2), (3, .int s.1)] [.int v7] (pc' := 62) rfl rfl rfl ?_
    rcases m_ifd h with ⟨c8, h⟩ | ⟨c8, h⟩
    · refine g_ifc (t := 107) rfl (m_leT c8) ?_
      refine g_in eF1_write_107 mx201 ?_
      refine g_ch [(3, .int (s.1 + 1)), (4, .int v7), (0, .ref x0), (1, .ref x1), (2, .int x2)] [] (pc' := 110) rfl rfl rfl ?_
      refine g_goto (t := 41) rfl ?_
      cases h
      exact r_lv (k1 ((s.1 + 1), s.2) hK) rfl ⟨rfl, rfl, rfl, rfl, trivial⟩
    · refine g_ifcn (t := 107) rfl (m_leF c8) ?_
      refine g_in eF1_write_65 mx201 ?_
      refine g_ch [(4, .int v7), (0, .ref x0), (1, .ref x1), (2, .int x2), (3, .int s.1)] [.int s.1, .ref x1] (pc' := 67) rfl rfl rfl ?_
      obtain ⟨v10, e9, h⟩ := m_bd h
      refine g_call (v := some (.int v10)) (h := s.2) (st' := [.int v10]) (D1 := 2) (as := [.ref x1, .int s.1]) (Or.inr (Or.inl rfl)) q1_m42 (m_cv (as := [.int s.1]) (rest := []) (Or.inl rfl) q1_m42 jv614 (OF3_isLent e9) rfl rfl rfl rfl) (by decide) (SF3_isLent e9) rfl ?_
      rcases m_ifd h with ⟨c11, h⟩ | ⟨c11, h⟩
      · refine g_ifc (t := 107) rfl (m_eqT c11) ?_
        refine g_in eF1_write_107 mx201 ?_
        refine g_ch [(3, .int (s.1 + 1)), (4, .int v7), (0, .ref x0), (1, .ref x1), (2, .int x2)] [] (pc' := 110) rfl rfl rfl ?_
        refine g_goto (t := 41) rfl ?_
        cases h
        exact r_lv (k1 ((s.1 + 1), s.2) hK) rfl ⟨rfl, rfl, rfl, rfl, trivial⟩
      · refine g_ifcn (t := 107) rfl (m_eqF c11) ?_
        refine g_in eF1_write_73 mx201 ?_
        refine g_ch [(4, .int v7), (0, .ref x0), (1, .ref x1), (2, .int x2), (3, .int s.1)] [.ref x1] (pc' := 74) rfl rfl rfl ?_
        obtain ⟨v12, e13, h⟩ := m_bd h
        refine g_gr q1_f29 e13 ?_
        refine g_ch [(4, .int v7), (0, .ref x0), (1, .ref x1), (2, .int x2), (3, .int s.1)] [.int 2, .int s.1, .ref v12] (pc' := 79) rfl rfl rfl ?_
        obtain ⟨v15, e14, h⟩ := m_bd h
        refine g_call (v := some (.int v15)) (h := s.2) (st' := [.int v15]) (D1 := 1) (as := [.ref v12, .int s.1, .int 2]) (Or.inr (Or.inl rfl)) q1_m46 (m_cv (as := [.int 2, .int s.1]) (rest := []) (Or.inl rfl) q1_m46 jv1604 (OF8_get e14) rfl rfl rfl rfl) (by decide) (SF8_get e14) rfl ?_
        refine g_ch [(4, .int v7), (0, .ref x0), (1, .ref x1), (2, .int x2), (3, .int s.1)] [.ref x1, .int v15] (pc' := 83) rfl rfl rfl ?_
        obtain ⟨v16, e17, h⟩ := m_bd h
        refine g_gr q1_f29 e17 ?_
        refine g_ch [(4, .int v7), (0, .ref x0), (1, .ref x1), (2, .int x2), (3, .int s.1)] [.int 0, .int s.1, .ref v16, .int v15] (pc' := 88) rfl rfl rfl ?_
        obtain ⟨v19, e18, h⟩ := m_bd h
        refine g_call (v := some (.int v19)) (h := s.2) (st' := [.int v19, .int v15]) (D1 := 1) (as := [.ref v16, .int s.1, .int 0]) (Or.inr (Or.inl rfl)) q1_m46 (m_cv (as := [.int 0, .int s.1]) (rest := [.int v15]) (Or.inl rfl) q1_m46 jv1604 (OF8_get e18) rfl rfl rfl rfl) (by decide) (SF8_get e18) rfl ?_
        obtain ⟨v21, e20, h⟩ := m_bd h
        refine g_call (v := some (.int v21)) (h := s.2) (st' := [.int v21]) (D1 := 0) (as := [.int v15, .int v19]) (Or.inl rfl) q1_m49 (m_cs (as := [.int v19, .int v15]) (rest := []) q1_m49 jv603 rfl rfl rfl rfl rfl) (by decide) (SF3_tradeRow e20) rfl ?_
        refine g_ch [(5, .int v21), (4, .int v7), (0, .ref x0), (1, .ref x1), (2, .int x2), (3, .int s.1)] [.int 1, .int v7, .int (x2 + v21), .ref x0] (pc' := 104) rfl rfl rfl ?_
        obtain ⟨h23, e22, h⟩ := m_bd h
        refine g_call (v := none) (h := h23) (st' := []) (D1 := 0) (as := [.ref x0, .int (x2 + v21), .int v7, .int 1]) (Or.inr (Or.inl rfl)) q1_m25 (m_cv (as := [.int 1, .int v7, .int (x2 + v21)]) (rest := []) (Or.inl rfl) q1_m25 jv202 (OF1_raise e22) rfl rfl rfl rfl) (by decide) (SF1_raise e22) rfl ?_
        refine g_end ?_
        refine g_in eF1_write_107 mx201 ?_
        refine g_ch [(3, .int (s.1 + 1)), (5, .int v21), (4, .int v7), (0, .ref x0), (1, .ref x1), (2, .int x2)] [] (pc' := 110) rfl rfl rfl ?_
        refine g_goto (t := 41) rfl ?_
        cases h
        exact r_lv (k1 ((s.1 + 1), h23) hK) rfl ⟨rfl, rfl, rfl, rfl, trivial⟩
theorem SF1_write_41 {xs : Nat → Int32} {L : Nat} (x0 : Nat) (x1 : Nat) (x2 : Int32) (x3 : Int32) (hp : m_H) {r : m_O × m_H} {K : m_H → Prop} (k0 : ∀ x, K x → r = (.inl none, x)) {t : m_H} (h : F1_write_41 x0 x1 x2 x3 hp = some t) (hK : K t) : m_Rn xs L 8 201 41 [(0, .ref x0), (1, .ref x1), (2, .int x2), (3, .int x3)] [] hp r :=
  m_wh_ok (P := fun s => m_Rn xs L 8 201 41 [(0, .ref x0), (1, .ref x1), (2, .int x2), (3, .int s.1)] [] s.2 r) (Q := K) (fun s t hb hK => SF1_write_41b x0 x1 x2 s (K := m_KK (fun s => m_Rn xs L 8 201 41 [(0, .ref x0), (1, .ref x1), (2, .int x2), (3, .int s.1)] [] s.2 r) K) k0 (fun _ q => q) hb hK) m_N _ _ h hK
theorem SF1_write_18b {xs : Nat → Int32} {L : Nat} (x0 : Nat) (x1 : Nat) (x2 : Int32) (s : Int32 × m_H) {r : m_O × m_H} {K : ((Int32 × m_H) ⊕ m_H) → Prop} (k0 : ∀ x, K (.inr x) → r = (.inl none, x)) (k1 : ∀ s, K (.inl s) → m_Rn xs L 8 201 18 [(0, .ref x0), (1, .ref x1), (2, .int x2), (3, .int s.1)] [] s.2 r) {t : (Int32 × m_H) ⊕ m_H} (h : F1_write_18b x0 x1 x2 s = some t) (hK : K t) : m_Rn xs L 8 201 18 [(0, .ref x0), (1, .ref x1), (2, .int x2), (3, .int s.1)] [] s.2 r := by
  unfold F1_write_18b at h
  refine g_in eF1_write_18 mx201 ?_
  refine g_ch [(0, .ref x0), (1, .ref x1), (2, .int x2), (3, .int s.1)] [.int 48, .int s.1] (pc' := 21) rfl rfl rfl ?_
  rcases m_ifd h with ⟨c1, h⟩ | ⟨c1, h⟩
  · refine g_if (t := 39) rfl (m_geT c1) ?_
    refine g_in eF1_write_39 mx201 ?_
    refine g_ch [(3, .int 0), (0, .ref x0), (1, .ref x1), (2, .int x2)] [] (pc' := 41) rfl rfl rfl ?_
    refine g_end ?_
    obtain ⟨t', h2, rfl⟩ := Option.map_eq_some_iff.mp h
    exact r_lv (SF1_write_41 x0 x1 x2 0 s.2 (K := fun t => K (.inr t)) k0 h2 hK) rfl ⟨rfl, rfl, rfl, rfl, trivial⟩
  · refine g_ifn (t := 39) rfl (m_geF c1) ?_
    refine g_in eF1_write_24 mx201 ?_
    refine g_ch [(0, .ref x0), (1, .ref x1), (2, .int x2), (3, .int s.1)] [.int 0, .int 0, .int (x2 + s.1), .ref x0] (pc' := 30) rfl rfl rfl ?_
    obtain ⟨h3, e2, h⟩ := m_bd h
    refine g_call (v := none) (h := h3) (st' := []) (D1 := 0) (as := [.ref x0, .int (x2 + s.1), .int 0, .int 0]) (Or.inr (Or.inl rfl)) q1_m25 (m_cv (as := [.int 0, .int 0, .int (x2 + s.1)]) (rest := []) (Or.inl rfl) q1_m25 jv202 (OF1_raise e2) rfl rfl rfl rfl) (by decide) (SF1_raise e2) rfl ?_
    refine g_ch [(3, .int (s.1 + 1)), (0, .ref x0), (1, .ref x1), (2, .int x2)] [] (pc' := 36) rfl rfl rfl ?_
    refine g_goto (t := 18) rfl ?_
    cases h
    exact r_lv (k1 ((s.1 + 1), h3) hK) rfl ⟨rfl, rfl, rfl, rfl, trivial⟩
theorem SF1_write_18 {xs : Nat → Int32} {L : Nat} (x0 : Nat) (x1 : Nat) (x2 : Int32) (x3 : Int32) (hp : m_H) {r : m_O × m_H} {K : m_H → Prop} (k0 : ∀ x, K x → r = (.inl none, x)) {t : m_H} (h : F1_write_18 x0 x1 x2 x3 hp = some t) (hK : K t) : m_Rn xs L 8 201 18 [(0, .ref x0), (1, .ref x1), (2, .int x2), (3, .int x3)] [] hp r :=
  m_wh_ok (P := fun s => m_Rn xs L 8 201 18 [(0, .ref x0), (1, .ref x1), (2, .int x2), (3, .int s.1)] [] s.2 r) (Q := K) (fun s t hb hK => SF1_write_18b x0 x1 x2 s (K := m_KK (fun s => m_Rn xs L 8 201 18 [(0, .ref x0), (1, .ref x1), (2, .int x2), (3, .int s.1)] [] s.2 r) K) k0 (fun _ q => q) hb hK) m_N _ _ h hK
theorem SF1_write_0 {xs : Nat → Int32} {L : Nat} (x0 : Nat) (x1 : Nat) (hp : m_H) {r : m_O × m_H} {K : m_H → Prop} (k0 : ∀ x, K x → r = (.inl none, x)) {t : m_H} (h : F1_write_0 x0 x1 hp = some t) (hK : K t) : m_Rn xs L 8 201 0 [(0, .ref x0), (1, .ref x1)] [] hp r := by
  unfold F1_write_0 at h
  refine g_in eF1_write_0 mx201 ?_
  refine g_ch [(0, .ref x0), (1, .ref x1)] [.ref x1] (pc' := 1) rfl rfl rfl ?_
  obtain ⟨v1, e2, h⟩ := m_bd h
  refine g_gi q1_f15 e2 ?_
  refine g_ch [(2, .int (v1 * 48)), (0, .ref x0), (1, .ref x1)] [.int ((v1 * 48) + 48), .ref x0] (pc' := 13) rfl rfl rfl ?_
  obtain ⟨h4, e3, h⟩ := m_bd h
  refine g_call (v := none) (h := h4) (st' := []) (D1 := 7) (as := [.ref x0, .int ((v1 * 48) + 48)]) (Or.inr (Or.inl rfl)) q1_m21 (m_cv (as := [.int ((v1 * 48) + 48)]) (rest := []) (Or.inl rfl) q1_m21 jv203 (OF1_makeRoom e3) rfl rfl rfl rfl) (by decide) (SF1_makeRoom e3) rfl ?_
  refine g_ch [(3, .int 0), (2, .int (v1 * 48)), (0, .ref x0), (1, .ref x1)] [] (pc' := 18) rfl rfl rfl ?_
  refine g_end ?_
  exact r_lv (SF1_write_18 x0 x1 (v1 * 48) 0 h4 (K := K) k0 h hK) rfl ⟨rfl, rfl, rfl, rfl, trivial⟩
theorem OF1_write {x0 : Nat} {x1 : Nat} {hp : m_H} {x : m_H} (h : F1_write x0 x1 hp = some x) : m_isO hp 1 x0 = true := (m_gdd h).1
theorem SF1_write {xs : Nat → Int32} {L : Nat} {x0 : Nat} {x1 : Nat} {hp : m_H} {x : m_H} (h : F1_write x0 x1 hp = some x) : m_Rn xs L 8 201 0 (lv_args 0 [.ref x0, .ref x1]) [] hp (.inl none, x) :=
  r_lv (SF1_write_0 x0 x1 hp (K := fun y => y = x) (fun y e => by rw [e]) (m_gdd h).2 rfl) rfl ⟨rfl, rfl, trivial⟩
-- F1_at: LendHouse$Books.at(III)I
theorem eF1_at_0 : m_Fe mi1_4 0 (m_ap [(.iload_n 1, 1), (.bipush 48, 2), (.imul, 1), (.iload_n 2, 1), (.iload_n 3, 1)] ((.invokestatic 49, 3) :: (m_ap [(.iadd, 1), (.istore 4, 2), (.iload 4, 2)] ([(.ifCond .lt 23, 3)])))) := m_Fe_of nd204 0 10 rfl
theorem eF1_at_37 : m_Fe mi1_4 37 (m_ap [(.iconst 0, 1)] ([])) := m_Fe_of nd204 20 1 rfl
theorem eF1_at_38 : m_Fe mi1_4 38 ([(.ireturn, 1)]) := m_Fe_of nd204 21 1 rfl
theorem eF1_at_17 : m_Fe mi1_4 17 (m_ap [(.iload 4, 2), (.aload_n 0, 1)] ((.getfield 11, 3) :: ((.arraylength, 1) :: ([(.if_icmp .ge 13, 3)])))) := m_Fe_of nd204 10 5 rfl
theorem eF1_at_27 : m_Fe mi1_4 27 (m_ap [(.aload_n 0, 1)] ((.getfield 11, 3) :: (m_ap [(.iload 4, 2)] ((.iaload, 1) :: ([(.goto 4, 3)]))))) := m_Fe_of nd204 15 5 rfl
theorem SF1_at_0 {xs : Nat → Int32} {L : Nat} (x0 : Nat) (x1 : Int32) (x2 : Int32) (x3 : Int32) (hp : m_H) {r : m_O × m_H} {K : Int32 → Prop} (k0 : ∀ x, K x → r = (.inl (some (.int x)), hp)) {t : Int32} (h : F1_at_0 x0 x1 x2 x3 hp = some t) (hK : K t) : m_Rn xs L 1 204 0 [(0, .ref x0), (1, .int x1), (2, .int x2), (3, .int x3)] [] hp r := by
  unfold F1_at_0 at h
  refine g_in eF1_at_0 mx204 ?_
  refine g_ch [(0, .ref x0), (1, .int x1), (2, .int x2), (3, .int x3)] [.int x3, .int x2, .int (x1 * 48)] (pc' := 6) rfl rfl rfl ?_
  obtain ⟨v2, e1, h⟩ := m_bd h
  refine g_call (v := some (.int v2)) (h := hp) (st' := [.int v2, .int (x1 * 48)]) (D1 := 0) (as := [.int x2, .int x3]) (Or.inl rfl) q1_m49 (m_cs (as := [.int x3, .int x2]) (rest := [.int (x1 * 48)]) q1_m49 jv603 rfl rfl rfl rfl rfl) (by decide) (SF3_tradeRow e1) rfl ?_
  refine g_ch [(4, .int ((x1 * 48) + v2)), (0, .ref x0), (1, .int x1), (2, .int x2), (3, .int x3)] [.int ((x1 * 48) + v2)] (pc' := 14) rfl rfl rfl ?_
  rcases m_ifd h with ⟨c3, h⟩ | ⟨c3, h⟩
  · refine g_ifc (t := 37) rfl (m_ltT c3) ?_
    refine g_in eF1_at_37 mx204 ?_
    refine g_ch [(4, .int ((x1 * 48) + v2)), (0, .ref x0), (1, .int x1), (2, .int x2), (3, .int x3)] [.int 0] (pc' := 38) rfl rfl rfl ?_
    refine g_end ?_
    refine g_in eF1_at_38 mx204 ?_
    cases h
    rw [k0 _ hK]
    exact g_iret rfl rfl
  · refine g_ifcn (t := 37) rfl (m_ltF c3) ?_
    refine g_in eF1_at_17 mx204 ?_
    refine g_ch [(4, .int ((x1 * 48) + v2)), (0, .ref x0), (1, .int x1), (2, .int x2), (3, .int x3)] [.ref x0, .int ((x1 * 48) + v2)] (pc' := 20) rfl rfl rfl ?_
    obtain ⟨v4, e5, h⟩ := m_bd h
    refine g_gr q1_f11 e5 ?_
    obtain ⟨v6, e7, h⟩ := m_bd h
    refine g_len e7 ?_
    rcases m_ifd h with ⟨c8, h⟩ | ⟨c8, h⟩
    · refine g_if (t := 37) rfl (m_geT c8) ?_
      refine g_in eF1_at_37 mx204 ?_
      refine g_ch [(4, .int ((x1 * 48) + v2)), (0, .ref x0), (1, .int x1), (2, .int x2), (3, .int x3)] [.int 0] (pc' := 38) rfl rfl rfl ?_
      refine g_end ?_
      refine g_in eF1_at_38 mx204 ?_
      cases h
      rw [k0 _ hK]
      exact g_iret rfl rfl
    · refine g_ifn (t := 37) rfl (m_geF c8) ?_
      refine g_in eF1_at_27 mx204 ?_
      refine g_ch [(4, .int ((x1 * 48) + v2)), (0, .ref x0), (1, .int x1), (2, .int x2), (3, .int x3)] [.ref x0] (pc' := 28) rfl rfl rfl ?_
      obtain ⟨v9, e10, h⟩ := m_bd h
      refine g_gr q1_f11 e10 ?_
      refine g_ch [(4, .int ((x1 * 48) + v2)), (0, .ref x0), (1, .int x1), (2, .int x2), (3, .int x3)] [.int ((x1 * 48) + v2), .ref v9] (pc' := 33) rfl rfl rfl ?_
      obtain ⟨v11, e12, h⟩ := m_bd h
      refine g_ia e12 ?_
      refine g_goto (t := 38) rfl ?_
      refine g_in eF1_at_38 mx204 ?_
      cases h
      rw [k0 _ hK]
      exact g_iret rfl rfl
theorem OF1_at {x0 : Nat} {x1 : Int32} {x2 : Int32} {x3 : Int32} {hp : m_H} {x : Int32} (h : F1_at x0 x1 x2 x3 hp = some x) : m_isO hp 1 x0 = true := (m_gdd h).1
theorem SF1_at {xs : Nat → Int32} {L : Nat} {x0 : Nat} {x1 : Int32} {x2 : Int32} {x3 : Int32} {hp : m_H} {x : Int32} (h : F1_at x0 x1 x2 x3 hp = some x) : m_Rn xs L 1 204 0 (lv_args 0 [.ref x0, .int x1, .int x2, .int x3]) [] hp (.inl (some (.int x)), hp) :=
  r_lv (SF1_at_0 x0 x1 x2 x3 hp (K := fun y => y = x) (fun y e => by rw [e]) (m_gdd h).2 rfl) rfl ⟨rfl, rfl, rfl, rfl, trivial⟩
-- F1_copyFrom: LendHouse$Books.copyFrom(LLendHouse$Books;I)V
theorem eF1_copyFrom_0 : m_Fe mi1_5 0 (m_ap [(.iload_n 2, 1), (.bipush 48, 2), (.imul, 1), (.istore_n 3, 1), (.aload_n 0, 1), (.iload_n 3, 1)] ((.invokevirtual 21, 3) :: (m_ap [(.iload_n 3, 1)] ([(.ifCond .lt 35, 3)])))) := m_Fe_of nd205 0 9 rfl
theorem eF1_copyFrom_46 : m_Fe mi1_5 46 ([(.return_, 1)]) := m_Fe_of nd205 27 1 rfl
theorem eF1_copyFrom_14 : m_Fe mi1_5 14 (m_ap [(.iload_n 3, 1), (.aload_n 0, 1)] ((.getfield 11, 3) :: ((.arraylength, 1) :: ([(.if_icmp .gt 26, 3)])))) := m_Fe_of nd205 9 5 rfl
theorem eF1_copyFrom_23 : m_Fe mi1_5 23 (m_ap [(.iload_n 3, 1), (.aload_n 1, 1)] ((.getfield 11, 3) :: ((.arraylength, 1) :: ([(.if_icmp .gt 17, 3)])))) := m_Fe_of nd205 14 5 rfl
theorem eF1_copyFrom_32 : m_Fe mi1_5 32 (m_ap [(.aload_n 1, 1)] ((.getfield 11, 3) :: (m_ap [(.iconst 0, 1), (.aload_n 0, 1)] ((.getfield 11, 3) :: (m_ap [(.iconst 0, 1), (.iload_n 3, 1)] ([(.invokestatic 66, 3)])))))) := m_Fe_of nd205 19 8 rfl
theorem SF1_copyFrom_0 {xs : Nat → Int32} {L : Nat} (x0 : Nat) (x1 : Nat) (x2 : Int32) (hp : m_H) {r : m_O × m_H} {K : m_H → Prop} (k0 : ∀ x, K x → r = (.inl none, x)) {t : m_H} (h : F1_copyFrom_0 x0 x1 x2 hp = some t) (hK : K t) : m_Rn xs L 8 205 0 [(0, .ref x0), (1, .ref x1), (2, .int x2)] [] hp r := by
  unfold F1_copyFrom_0 at h
  refine g_in eF1_copyFrom_0 mx205 ?_
  refine g_ch [(3, .int (x2 * 48)), (0, .ref x0), (1, .ref x1), (2, .int x2)] [.int (x2 * 48), .ref x0] (pc' := 7) rfl rfl rfl ?_
  obtain ⟨h2, e1, h⟩ := m_bd h
  refine g_call (v := none) (h := h2) (st' := []) (D1 := 7) (as := [.ref x0, .int (x2 * 48)]) (Or.inr (Or.inl rfl)) q1_m21 (m_cv (as := [.int (x2 * 48)]) (rest := []) (Or.inl rfl) q1_m21 jv203 (OF1_makeRoom e1) rfl rfl rfl rfl) (by decide) (SF1_makeRoom e1) rfl ?_
  refine g_ch [(3, .int (x2 * 48)), (0, .ref x0), (1, .ref x1), (2, .int x2)] [.int (x2 * 48)] (pc' := 11) rfl rfl rfl ?_
  rcases m_ifd h with ⟨c3, h⟩ | ⟨c3, h⟩
  · refine g_ifc (t := 46) rfl (m_ltT c3) ?_
    refine g_in eF1_copyFrom_46 mx205 ?_
    cases h
    rw [k0 _ hK]
    exact g_vret rfl
  · refine g_ifcn (t := 46) rfl (m_ltF c3) ?_
    refine g_in eF1_copyFrom_14 mx205 ?_
    refine g_ch [(3, .int (x2 * 48)), (0, .ref x0), (1, .ref x1), (2, .int x2)] [.ref x0, .int (x2 * 48)] (pc' := 16) rfl rfl rfl ?_
    obtain ⟨v4, e5, h⟩ := m_bd h
    refine g_gr q1_f11 e5 ?_
    obtain ⟨v6, e7, h⟩ := m_bd h
    refine g_len e7 ?_
    rcases m_ifd h with ⟨c8, h⟩ | ⟨c8, h⟩
    · refine g_if (t := 46) rfl (m_gtT c8) ?_
      refine g_in eF1_copyFrom_46 mx205 ?_
      cases h
      rw [k0 _ hK]
      exact g_vret rfl
    · refine g_ifn (t := 46) rfl (m_gtF c8) ?_
      refine g_in eF1_copyFrom_23 mx205 ?_
      refine g_ch [(3, .int (x2 * 48)), (0, .ref x0), (1, .ref x1), (2, .int x2)] [.ref x1, .int (x2 * 48)] (pc' := 25) rfl rfl rfl ?_
      obtain ⟨v9, e10, h⟩ := m_bd h
      refine g_gr q1_f11 e10 ?_
      obtain ⟨v11, e12, h⟩ := m_bd h
      refine g_len e12 ?_
      rcases m_ifd h with ⟨c13, h⟩ | ⟨c13, h⟩
      · refine g_if (t := 46) rfl (m_gtT c13) ?_
        refine g_in eF1_copyFrom_46 mx205 ?_
        cases h
        rw [k0 _ hK]
        exact g_vret rfl
      · refine g_ifn (t := 46) rfl (m_gtF c13) ?_
        refine g_in eF1_copyFrom_32 mx205 ?_
        refine g_ch [(3, .int (x2 * 48)), (0, .ref x0), (1, .ref x1), (2, .int x2)] [.ref x1] (pc' := 33) rfl rfl rfl ?_
        obtain ⟨v14, e15, h⟩ := m_bd h
        refine g_gr q1_f11 e15 ?_
        refine g_ch [(3, .int (x2 * 48)), (0, .ref x0), (1, .ref x1), (2, .int x2)] [.ref x0, .int 0, .ref v14] (pc' := 38) rfl rfl rfl ?_
        obtain ⟨v16, e17, h⟩ := m_bd h
        refine g_gr q1_f11 e17 ?_
        refine g_ch [(3, .int (x2 * 48)), (0, .ref x0), (1, .ref x1), (2, .int x2)] [.int (x2 * 48), .int 0, .ref v16, .int 0, .ref v14] (pc' := 43) rfl rfl rfl ?_
        obtain ⟨h19, e18, h⟩ := m_bd h
        refine g_nat (Or.inl rfl) q1_m66 rfl (z := ([], h19)) (m_z4 e18) (by decide) ?_
        refine g_end ?_
        refine g_in eF1_copyFrom_46 mx205 ?_
        cases h
        rw [k0 _ hK]
        exact g_vret rfl
theorem OF1_copyFrom {x0 : Nat} {x1 : Nat} {x2 : Int32} {hp : m_H} {x : m_H} (h : F1_copyFrom x0 x1 x2 hp = some x) : m_isO hp 1 x0 = true := (m_gdd h).1
theorem SF1_copyFrom {xs : Nat → Int32} {L : Nat} {x0 : Nat} {x1 : Nat} {x2 : Int32} {hp : m_H} {x : m_H} (h : F1_copyFrom x0 x1 x2 hp = some x) : m_Rn xs L 8 205 0 (lv_args 0 [.ref x0, .ref x1, .int x2]) [] hp (.inl none, x) :=
  r_lv (SF1_copyFrom_0 x0 x1 x2 hp (K := fun y => y = x) (fun y e => by rw [e]) (m_gdd h).2 rfl) rfl ⟨rfl, rfl, rfl, trivial⟩
-- F2_init: LendHouse$Court.<init>()V
theorem eF2_init_0 : m_Fe mi2_0 0 (m_ap [(.aload_n 0, 1)] ((.invokespecial 3, 3) :: (m_ap [(.aload_n 0, 1), (.bipush 60, 2)] ((.newarray .int, 2) :: ((.putfield 11, 3) :: (m_ap [(.aload_n 0, 1), (.bipush 60, 2)] ((.newarray .boolean, 2) :: ((.putfield 17, 3) :: (m_ap [(.aload_n 0, 1), (.bipush 10, 2)] ((.newarray .int, 2) :: ((.putfield 21, 3) :: (m_ap [(.aload_n 0, 1), (.sipush 400, 3)] ((.newarray .long, 2) :: ((.putfield 26, 3) :: ([(.return_, 1)]))))))))))))))) := m_Fe_of nd400 0 19 rfl
theorem SF2_init_0 {xs : Nat → Int32} {L : Nat} (x0 : Nat) (hp : m_H) {r : m_O × m_H} {K : m_H → Prop} (k0 : ∀ x, K x → r = (.inl none, x)) {t : m_H} (h : F2_init_0 x0 hp = some t) (hK : K t) : m_Rn xs L 7 400 0 [(0, .ref x0)] [] hp r := by
  unfold F2_init_0 at h
  refine g_in eF2_init_0 mx400 ?_
  refine g_ch [(0, .ref x0)] [.ref x0] (pc' := 1) rfl rfl rfl ?_
  refine g_nat (Or.inr (Or.inr rfl)) q2_m3 rfl (z := ([], hp)) rfl (by decide) ?_
  refine g_ch [(0, .ref x0)] [.int 60, .ref x0] (pc' := 7) rfl rfl rfl ?_
  obtain ⟨h1, e2, h⟩ := m_bd h
  refine g_na rfl e2 ?_
  obtain ⟨h3, e4, h⟩ := m_bd h
  refine g_pf q2_f11 e4 ?_
  refine g_ch [(0, .ref x0)] [.int 60, .ref x0] (pc' := 15) rfl rfl rfl ?_
  obtain ⟨h5, e6, h⟩ := m_bd h
  refine g_na rfl e6 ?_
  obtain ⟨h7, e8, h⟩ := m_bd h
  refine g_pf q2_f17 e8 ?_
  refine g_ch [(0, .ref x0)] [.int 10, .ref x0] (pc' := 23) rfl rfl rfl ?_
  obtain ⟨h9, e10, h⟩ := m_bd h
  refine g_na rfl e10 ?_
  obtain ⟨h11, e12, h⟩ := m_bd h
  refine g_pf q2_f21 e12 ?_
  refine g_ch [(0, .ref x0)] [.int 400, .ref x0] (pc' := 32) rfl rfl rfl ?_
  obtain ⟨h13, e14, h⟩ := m_bd h
  refine g_na rfl e14 ?_
  obtain ⟨h15, e16, h⟩ := m_bd h
  refine g_pf q2_f26 e16 ?_
  cases h
  rw [k0 _ hK]
  exact g_vret rfl
theorem OF2_init {x0 : Nat} {hp : m_H} {x : m_H} (h : F2_init x0 hp = some x) : m_isO hp 2 x0 = true := (m_gdd h).1
theorem SF2_init {xs : Nat → Int32} {L : Nat} {x0 : Nat} {hp : m_H} {x : m_H} (h : F2_init x0 hp = some x) : m_Rn xs L 7 400 0 (lv_args 0 [.ref x0]) [] hp (.inl none, x) :=
  r_lv (SF2_init_0 x0 hp (K := fun y => y = x) (fun y e => by rw [e]) (m_gdd h).2 rfl) rfl ⟨rfl, trivial⟩
-- F8_has: LendHouse$Table.has(I)Z
theorem eF8_has_0 : m_Fe mi8_1 0 (m_ap [(.iload_n 1, 1)] ([(.ifCond .lt 15, 3)])) := m_Fe_of nd1601 0 2 rfl
theorem eF8_has_16 : m_Fe mi8_1 16 (m_ap [(.iconst 0, 1)] ([])) := m_Fe_of nd1601 8 1 rfl
theorem eF8_has_17 : m_Fe mi8_1 17 ([(.ireturn, 1)]) := m_Fe_of nd1601 9 1 rfl
theorem eF8_has_4 : m_Fe mi8_1 4 (m_ap [(.iload_n 1, 1), (.aload_n 0, 1)] ((.getfield 25, 3) :: ([(.if_icmp .ge 7, 3)]))) := m_Fe_of nd1601 2 4 rfl
theorem eF8_has_12 : m_Fe mi8_1 12 (m_ap [(.iconst 1, 1)] ([(.goto 4, 3)])) := m_Fe_of nd1601 6 2 rfl
theorem SF8_has_0 {xs : Nat → Int32} {L : Nat} (x0 : Nat) (x1 : Int32) (hp : m_H) {r : m_O × m_H} {K : Int32 → Prop} (k0 : ∀ x, K x → r = (.inl (some (.int x)), hp)) {t : Int32} (h : F8_has_0 x0 x1 hp = some t) (hK : K t) : m_Rn xs L 0 1601 0 [(0, .ref x0), (1, .int x1)] [] hp r := by
  unfold F8_has_0 at h
  refine g_in eF8_has_0 mx1601 ?_
  refine g_ch [(0, .ref x0), (1, .int x1)] [.int x1] (pc' := 1) rfl rfl rfl ?_
  rcases m_ifd h with ⟨c1, h⟩ | ⟨c1, h⟩
  · refine g_ifc (t := 16) rfl (m_ltT c1) ?_
    refine g_in eF8_has_16 mx1601 ?_
    refine g_ch [(0, .ref x0), (1, .int x1)] [.int 0] (pc' := 17) rfl rfl rfl ?_
    refine g_end ?_
    refine g_in eF8_has_17 mx1601 ?_
    cases h
    rw [k0 _ hK]
    exact g_iret rfl (by decide +kernel)
  · refine g_ifcn (t := 16) rfl (m_ltF c1) ?_
    refine g_in eF8_has_4 mx1601 ?_
    refine g_ch [(0, .ref x0), (1, .int x1)] [.ref x0, .int x1] (pc' := 6) rfl rfl rfl ?_
    obtain ⟨v2, e3, h⟩ := m_bd h
    refine g_gi q8_f25 e3 ?_
    rcases m_ifd h with ⟨c4, h⟩ | ⟨c4, h⟩
    · refine g_if (t := 16) rfl (m_geT c4) ?_
      refine g_in eF8_has_16 mx1601 ?_
      refine g_ch [(0, .ref x0), (1, .int x1)] [.int 0] (pc' := 17) rfl rfl rfl ?_
      refine g_end ?_
      refine g_in eF8_has_17 mx1601 ?_
      cases h
      rw [k0 _ hK]
      exact g_iret rfl (by decide +kernel)
    · refine g_ifn (t := 16) rfl (m_geF c4) ?_
      refine g_in eF8_has_12 mx1601 ?_
      refine g_ch [(0, .ref x0), (1, .int x1)] [.int 1] (pc' := 13) rfl rfl rfl ?_
      refine g_goto (t := 17) rfl ?_
      refine g_in eF8_has_17 mx1601 ?_
      cases h
      rw [k0 _ hK]
      exact g_iret rfl (by decide +kernel)
theorem OF8_has {x0 : Nat} {x1 : Int32} {hp : m_H} {x : Int32} (h : F8_has x0 x1 hp = some x) : m_isO hp 6 x0 = true := (m_gdd h).1
theorem SF8_has {xs : Nat → Int32} {L : Nat} {x0 : Nat} {x1 : Int32} {hp : m_H} {x : Int32} (h : F8_has x0 x1 hp = some x) : m_Rn xs L 0 1601 0 (lv_args 0 [.ref x0, .int x1]) [] hp (.inl (some (.int x)), hp) :=
  r_lv (SF8_has_0 x0 x1 hp (K := fun y => y = x) (fun y e => by rw [e]) (m_gdd h).2 rfl) rfl ⟨rfl, rfl, trivial⟩
-- F3_lackOf: LendHouse$House.lackOf(I)I
theorem eF3_lackOf_0 : m_Fe mi3_25 0 (m_ap [(.aload_n 0, 1)] ((.getfield 32, 3) :: (m_ap [(.iload_n 1, 1), (.iconst 2, 1)] ((.invokevirtual 100, 3) :: (m_ap [(.aload_n 0, 1)] ((.getfield 32, 3) :: (m_ap [(.iload_n 1, 1), (.iconst 4, 1)] ((.invokevirtual 100, 3) :: (m_ap [(.isub, 1)] ([(.ireturn, 1)])))))))))) := m_Fe_of nd625 0 12 rfl
theorem SF3_lackOf_0 {xs : Nat → Int32} {L : Nat} (x0 : Nat) (x1 : Int32) (hp : m_H) {r : m_O × m_H} {K : Int32 → Prop} (k0 : ∀ x, K x → r = (.inl (some (.int x)), hp)) {t : Int32} (h : F3_lackOf_0 x0 x1 hp = some t) (hK : K t) : m_Rn xs L 2 625 0 [(0, .ref x0), (1, .int x1)] [] hp r := by
  unfold F3_lackOf_0 at h
  refine g_in eF3_lackOf_0 mx625 ?_
  refine g_ch [(0, .ref x0), (1, .int x1)] [.ref x0] (pc' := 1) rfl rfl rfl ?_
  obtain ⟨v1, e2, h⟩ := m_bd h
  refine g_gr q3_f32 e2 ?_
  refine g_ch [(0, .ref x0), (1, .int x1)] [.int 2, .int x1, .ref v1] (pc' := 6) rfl rfl rfl ?_
  obtain ⟨v4, e3, h⟩ := m_bd h
  refine g_call (v := some (.int v4)) (h := hp) (st' := [.int v4]) (D1 := 1) (as := [.ref v1, .int x1, .int 2]) (Or.inr (Or.inl rfl)) q3_m100 (m_cv (as := [.int 2, .int x1]) (rest := []) (Or.inl rfl) q3_m100 jv1604 (OF8_get e3) rfl rfl rfl rfl) (by decide) (SF8_get e3) rfl ?_
  refine g_ch [(0, .ref x0), (1, .int x1)] [.ref x0, .int v4] (pc' := 10) rfl rfl rfl ?_
  obtain ⟨v5, e6, h⟩ := m_bd h
  refine g_gr q3_f32 e6 ?_
  refine g_ch [(0, .ref x0), (1, .int x1)] [.int 4, .int x1, .ref v5, .int v4] (pc' := 15) rfl rfl rfl ?_
  obtain ⟨v8, e7, h⟩ := m_bd h
  refine g_call (v := some (.int v8)) (h := hp) (st' := [.int v8, .int v4]) (D1 := 1) (as := [.ref v5, .int x1, .int 4]) (Or.inr (Or.inl rfl)) q3_m100 (m_cv (as := [.int 4, .int x1]) (rest := [.int v4]) (Or.inl rfl) q3_m100 jv1604 (OF8_get e7) rfl rfl rfl rfl) (by decide) (SF8_get e7) rfl ?_
  refine g_ch [(0, .ref x0), (1, .int x1)] [.int (v4 - v8)] (pc' := 19) rfl rfl rfl ?_
  cases h
  rw [k0 _ hK]
  exact g_iret rfl rfl
theorem OF3_lackOf {x0 : Nat} {x1 : Int32} {hp : m_H} {x : Int32} (h : F3_lackOf x0 x1 hp = some x) : m_isO hp 3 x0 = true := (m_gdd h).1
theorem SF3_lackOf {xs : Nat → Int32} {L : Nat} {x0 : Nat} {x1 : Int32} {hp : m_H} {x : Int32} (h : F3_lackOf x0 x1 hp = some x) : m_Rn xs L 2 625 0 (lv_args 0 [.ref x0, .int x1]) [] hp (.inl (some (.int x)), hp) :=
  r_lv (SF3_lackOf_0 x0 x1 hp (K := fun y => y = x) (fun y e => by rw [e]) (m_gdd h).2 rfl) rfl ⟨rfl, rfl, trivial⟩
-- F3_actInForce: LendHouse$House.actInForce()LLendHouse$Act;
theorem eF3_actInForce_0 : m_Fe mi3_9 0 (m_ap [(.aconst_null, 1), (.astore_n 1, 1), (.iconst 0, 1), (.istore_n 2, 1)] ([])) := m_Fe_of nd609 0 4 rfl
theorem eF3_actInForce_4 : m_Fe mi3_9 4 (m_ap [(.iload_n 2, 1), (.aload_n 0, 1)] ((.getfield 90, 3) :: ([(.if_icmp .ge 57, 3)]))) := m_Fe_of nd609 4 4 rfl
theorem eF3_actInForce_66 : m_Fe mi3_9 66 (m_ap [(.aload_n 1, 1)] ([(.areturn, 1)])) := m_Fe_of nd609 36 2 rfl
theorem eF3_actInForce_12 : m_Fe mi3_9 12 (m_ap [(.iload_n 2, 1), (.aload_n 0, 1)] ((.getfield 13, 3) :: ((.arraylength, 1) :: ([(.if_icmp .ge 48, 3)])))) := m_Fe_of nd609 8 5 rfl
theorem eF3_actInForce_21 : m_Fe mi3_9 21 (m_ap [(.aload_n 0, 1)] ((.getfield 13, 3) :: (m_ap [(.iload_n 2, 1)] ((.aaload, 1) :: (m_ap [(.astore_n 3, 1), (.aload_n 3, 1)] ([(.ifnull 31, 3)])))))) := m_Fe_of nd609 13 7 rfl
theorem eF3_actInForce_60 : m_Fe mi3_9 60 (m_ap [(.iinc 2 1, 3)] ([(.goto (-59), 3)])) := m_Fe_of nd609 34 2 rfl
theorem eF3_actInForce_32 : m_Fe mi3_9 32 (m_ap [(.aload_n 3, 1)] ((.getfield 108, 3) :: (m_ap [(.aload_n 0, 1)] ((.getfield 76, 3) :: ([(.if_icmp .gt 20, 3)]))))) := m_Fe_of nd609 20 5 rfl
theorem eF3_actInForce_43 : m_Fe mi3_9 43 (m_ap [(.aload_n 1, 1)] ([(.ifnull 14, 3)])) := m_Fe_of nd609 25 2 rfl
theorem eF3_actInForce_58 : m_Fe mi3_9 58 (m_ap [(.aload_n 3, 1), (.astore_n 1, 1)] ([])) := m_Fe_of nd609 32 2 rfl
theorem eF3_actInForce_47 : m_Fe mi3_9 47 (m_ap [(.aload_n 3, 1)] ((.getfield 108, 3) :: (m_ap [(.aload_n 1, 1)] ((.getfield 108, 3) :: ([(.if_icmp .lt 5, 3)]))))) := m_Fe_of nd609 27 5 rfl
theorem SF3_actInForce_4b {xs : Nat → Int32} {L : Nat} (x0 : Nat) (hp : m_H) (s : Option Nat × Int32) {r : m_O × m_H} {K : ((Option Nat × Int32) ⊕ (Option Nat)) → Prop} (k0 : ∀ x, K (.inr x) → r = (.inl (some (va_rf x)), hp)) (k1 : ∀ s, K (.inl s) → m_Rn xs L 0 609 4 [(0, .ref x0), (1, va_rf s.1), (2, .int s.2)] [] hp r) {t : (Option Nat × Int32) ⊕ (Option Nat)} (h : F3_actInForce_4b x0 hp s = some t) (hK : K t) : m_Rn xs L 0 609 4 [(0, .ref x0), (1, va_rf s.1), (2, .int s.2)] [] hp r := by
  unfold F3_actInForce_4b at h
  refine g_in eF3_actInForce_4 mx609 ?_
  refine g_ch [(0, .ref x0), (1, va_rf s.1), (2, .int s.2)] [.ref x0, .int s.2] (pc' := 6) rfl (by cases hN0 : s.1 <;> rfl) rfl ?_
  obtain ⟨v1, e2, h⟩ := m_bd h
  refine g_gi q3_f90 e2 ?_
  rcases m_ifd h with ⟨c3, h⟩ | ⟨c3, h⟩
  · refine g_if (t := 66) rfl (m_geT c3) ?_
    refine g_in eF3_actInForce_66 mx609 ?_
    refine g_ch [(0, .ref x0), (1, va_rf s.1), (2, .int s.2)] [va_rf s.1] (pc' := 67) rfl (by cases hN0 : s.1 <;> rfl) rfl ?_
    cases h
    rw [k0 _ hK]
    exact g_aret (v := s.1) rfl
  · refine g_ifn (t := 66) rfl (m_geF c3) ?_
    refine g_in eF3_actInForce_12 mx609 ?_
    refine g_ch [(0, .ref x0), (1, va_rf s.1), (2, .int s.2)] [.ref x0, .int s.2] (pc' := 14) rfl (by cases hN0 : s.1 <;> rfl) rfl ?_
    obtain ⟨v4, e5, h⟩ := m_bd h
    refine g_gr q3_f13 e5 ?_
    obtain ⟨v6, e7, h⟩ := m_bd h
    refine g_len e7 ?_
    rcases m_ifd h with ⟨c8, h⟩ | ⟨c8, h⟩
    · refine g_if (t := 66) rfl (m_geT c8) ?_
      refine g_in eF3_actInForce_66 mx609 ?_
      refine g_ch [(0, .ref x0), (1, va_rf s.1), (2, .int s.2)] [va_rf s.1] (pc' := 67) rfl (by cases hN0 : s.1 <;> rfl) rfl ?_
      cases h
      rw [k0 _ hK]
      exact g_aret (v := s.1) rfl
    · refine g_ifn (t := 66) rfl (m_geF c8) ?_
      refine g_in eF3_actInForce_21 mx609 ?_
      refine g_ch [(0, .ref x0), (1, va_rf s.1), (2, .int s.2)] [.ref x0] (pc' := 22) rfl (by cases hN0 : s.1 <;> rfl) rfl ?_
      obtain ⟨v9, e10, h⟩ := m_bd h
      refine g_gr q3_f13 e10 ?_
      refine g_ch [(0, .ref x0), (1, va_rf s.1), (2, .int s.2)] [.int s.2, .ref v9] (pc' := 26) rfl (by cases hN0 : s.1 <;> rfl) rfl ?_
      obtain ⟨v11, e12, h⟩ := m_bd h
      refine g_aa e12 ?_
      refine g_ch [(3, va_rf v11), (0, .ref x0), (1, va_rf s.1), (2, .int s.2)] [va_rf v11] (pc' := 29) rfl (by cases hN0 : s.1 <;> cases hN1 : v11 <;> rfl) rfl ?_
      rcases m_ond h with ⟨e14, h⟩ | ⟨a13, e14, h⟩
      · rw [e14]
        refine g_nul (t := 60) rfl ?_
        refine g_in eF3_actInForce_60 mx609 ?_
        refine g_ch [(2, .int (s.2 + 1)), (3, .null), (0, .ref x0), (1, va_rf s.1)] [] (pc' := 63) rfl (by cases hN0 : s.1 <;> rfl) rfl ?_
        refine g_goto (t := 4) rfl ?_
        cases h
        exact r_lv (k1 (s.1, (s.2 + 1)) hK) rfl ⟨rfl, rfl, rfl, trivial⟩
      · rw [e14]
        refine g_nuln ?_
        refine g_in eF3_actInForce_32 mx609 ?_
        refine g_ch [(3, va_rf (some a13)), (0, .ref x0), (1, va_rf s.1), (2, .int s.2)] [va_rf (some a13)] (pc' := 33) rfl (by cases hN0 : s.1 <;> rfl) rfl ?_
        obtain ⟨v15, e16, h⟩ := m_bd h
        refine g_gi q3_f108 e16 ?_
        refine g_ch [(3, va_rf (some a13)), (0, .ref x0), (1, va_rf s.1), (2, .int s.2)] [.ref x0, .int v15] (pc' := 37) rfl (by cases hN0 : s.1 <;> rfl) rfl ?_
        obtain ⟨v17, e18, h⟩ := m_bd h
        refine g_gi q3_f76 e18 ?_
        rcases m_ifd h with ⟨c19, h⟩ | ⟨c19, h⟩
        · refine g_if (t := 60) rfl (m_gtT c19) ?_
          refine g_in eF3_actInForce_60 mx609 ?_
          refine g_ch [(2, .int (s.2 + 1)), (3, va_rf (some a13)), (0, .ref x0), (1, va_rf s.1)] [] (pc' := 63) rfl (by cases hN0 : s.1 <;> rfl) rfl ?_
          refine g_goto (t := 4) rfl ?_
          cases h
          exact r_lv (k1 (s.1, (s.2 + 1)) hK) rfl ⟨rfl, rfl, rfl, trivial⟩
        · refine g_ifn (t := 60) rfl (m_gtF c19) ?_
          refine g_in eF3_actInForce_43 mx609 ?_
          refine g_ch [(3, va_rf (some a13)), (0, .ref x0), (1, va_rf s.1), (2, .int s.2)] [va_rf s.1] (pc' := 44) rfl (by cases hN0 : s.1 <;> rfl) rfl ?_
          rcases m_ond h with ⟨e21, h⟩ | ⟨a20, e21, h⟩
          · rw [e21]
            refine g_nul (t := 58) rfl ?_
            refine g_in eF3_actInForce_58 mx609 ?_
            refine g_ch [(1, va_rf (some a13)), (3, va_rf (some a13)), (0, .ref x0), (2, .int s.2)] [] (pc' := 60) rfl rfl rfl ?_
            refine g_end ?_
            refine g_in eF3_actInForce_60 mx609 ?_
            refine g_ch [(2, .int (s.2 + 1)), (1, va_rf (some a13)), (3, va_rf (some a13)), (0, .ref x0)] [] (pc' := 63) rfl rfl rfl ?_
            refine g_goto (t := 4) rfl ?_
            cases h
            exact r_lv (k1 ((some a13), (s.2 + 1)) hK) rfl ⟨rfl, rfl, rfl, trivial⟩
          · rw [e21]
            refine g_nuln ?_
            refine g_in eF3_actInForce_47 mx609 ?_
            refine g_ch [(3, va_rf (some a13)), (0, .ref x0), (1, va_rf (some a20)), (2, .int s.2)] [va_rf (some a13)] (pc' := 48) rfl rfl rfl ?_
            obtain ⟨v22, e23, h⟩ := m_bd h
            refine g_gi q3_f108 e23 ?_
            refine g_ch [(3, va_rf (some a13)), (0, .ref x0), (1, va_rf (some a20)), (2, .int s.2)] [va_rf (some a20), .int v22] (pc' := 52) rfl rfl rfl ?_
            obtain ⟨v24, e25, h⟩ := m_bd h
            refine g_gi q3_f108 e25 ?_
            rcases m_ifd h with ⟨c26, h⟩ | ⟨c26, h⟩
            · refine g_if (t := 60) rfl (m_ltT c26) ?_
              refine g_in eF3_actInForce_60 mx609 ?_
              refine g_ch [(2, .int (s.2 + 1)), (3, va_rf (some a13)), (0, .ref x0), (1, va_rf (some a20))] [] (pc' := 63) rfl rfl rfl ?_
              refine g_goto (t := 4) rfl ?_
              cases h
              exact r_lv (k1 ((some a20), (s.2 + 1)) hK) rfl ⟨rfl, rfl, rfl, trivial⟩
            · refine g_ifn (t := 60) rfl (m_ltF c26) ?_
              refine g_in eF3_actInForce_58 mx609 ?_
              refine g_ch [(1, va_rf (some a13)), (3, va_rf (some a13)), (0, .ref x0), (2, .int s.2)] [] (pc' := 60) rfl rfl rfl ?_
              refine g_end ?_
              refine g_in eF3_actInForce_60 mx609 ?_
              refine g_ch [(2, .int (s.2 + 1)), (1, va_rf (some a13)), (3, va_rf (some a13)), (0, .ref x0)] [] (pc' := 63) rfl rfl rfl ?_
              refine g_goto (t := 4) rfl ?_
              cases h
              exact r_lv (k1 ((some a13), (s.2 + 1)) hK) rfl ⟨rfl, rfl, rfl, trivial⟩
theorem SF3_actInForce_4 {xs : Nat → Int32} {L : Nat} (x0 : Nat) (x1 : Option Nat) (x2 : Int32) (hp : m_H) {r : m_O × m_H} {K : Option Nat → Prop} (k0 : ∀ x, K x → r = (.inl (some (va_rf x)), hp)) {t : Option Nat} (h : F3_actInForce_4 x0 x1 x2 hp = some t) (hK : K t) : m_Rn xs L 0 609 4 [(0, .ref x0), (1, va_rf x1), (2, .int x2)] [] hp r :=
  m_wh_ok (P := fun s => m_Rn xs L 0 609 4 [(0, .ref x0), (1, va_rf s.1), (2, .int s.2)] [] hp r) (Q := K) (fun s t hb hK => SF3_actInForce_4b x0 hp s (K := m_KK (fun s => m_Rn xs L 0 609 4 [(0, .ref x0), (1, va_rf s.1), (2, .int s.2)] [] hp r) K) k0 (fun _ q => q) hb hK) m_N _ _ h hK
theorem SF3_actInForce_0 {xs : Nat → Int32} {L : Nat} (x0 : Nat) (hp : m_H) {r : m_O × m_H} {K : (Option Nat) → Prop} (k0 : ∀ x, K x → r = (.inl (some (va_rf x)), hp)) {t : Option Nat} (h : F3_actInForce_0 x0 hp = some t) (hK : K t) : m_Rn xs L 0 609 0 [(0, .ref x0)] [] hp r := by
  unfold F3_actInForce_0 at h
  refine g_in eF3_actInForce_0 mx609 ?_
  refine g_ch [(2, .int 0), (1, .null), (0, .ref x0)] [] (pc' := 4) rfl rfl rfl ?_
  refine g_end ?_
  exact r_lv (SF3_actInForce_4 x0 none 0 hp (K := K) k0 h hK) rfl ⟨rfl, rfl, rfl, trivial⟩
theorem OF3_actInForce {x0 : Nat} {hp : m_H} {x : Option Nat} (h : F3_actInForce x0 hp = some x) : m_isO hp 3 x0 = true := (m_gdd h).1
theorem SF3_actInForce {xs : Nat → Int32} {L : Nat} {x0 : Nat} {hp : m_H} {x : Option Nat} (h : F3_actInForce x0 hp = some x) : m_Rn xs L 0 609 0 (lv_args 0 [.ref x0]) [] hp (.inl (some (va_rf x)), hp) :=
  r_lv (SF3_actInForce_0 x0 hp (K := fun y => y = x) (fun y e => by rw [e]) (m_gdd h).2 rfl) rfl ⟨rfl, trivial⟩
-- F3_basesOf: LendHouse$House.basesOf(I)I
theorem eF3_basesOf_0 : m_Fe mi3_27 0 (m_ap [(.iconst 0, 1), (.istore_n 2, 1), (.iconst 0, 1), (.istore_n 3, 1)] ([])) := m_Fe_of nd627 0 4 rfl
theorem eF3_basesOf_4 : m_Fe mi3_27 4 (m_ap [(.iload_n 3, 1), (.aload_n 0, 1)] ((.getfield 53, 3) :: ((.getfield 97, 3) :: ([(.if_icmp .ge 55, 3)])))) := m_Fe_of nd627 4 5 rfl
theorem eF3_basesOf_67 : m_Fe mi3_27 67 (m_ap [(.iload_n 2, 1)] ([(.ireturn, 1)])) := m_Fe_of nd627 35 2 rfl
theorem eF3_basesOf_15 : m_Fe mi3_27 15 (m_ap [(.aload_n 0, 1)] ((.getfield 76, 3) :: (m_ap [(.aload_n 0, 1)] ((.getfield 53, 3) :: (m_ap [(.iload_n 3, 1), (.iconst 1, 1)] ((.invokevirtual 100, 3) :: (m_ap [(.isub, 1), (.istore 4, 2), (.aload_n 0, 1)] ((.getfield 53, 3) :: (m_ap [(.iload_n 3, 1), (.iconst 0, 1)] ((.invokevirtual 100, 3) :: (m_ap [(.iload_n 1, 1)] ([(.if_icmp .ne 20, 3)])))))))))))) := m_Fe_of nd627 9 16 rfl
theorem eF3_basesOf_61 : m_Fe mi3_27 61 (m_ap [(.iinc 3 1, 3)] ([(.goto (-60), 3)])) := m_Fe_of nd627 33 2 rfl
theorem eF3_basesOf_44 : m_Fe mi3_27 44 (m_ap [(.iload 4, 2), (.aload_n 0, 1)] ((.getfield 53, 3) :: (m_ap [(.iload_n 3, 1), (.iconst 2, 1)] ((.invokevirtual 100, 3) :: ([(.if_icmp .ge 6, 3)]))))) := m_Fe_of nd627 25 7 rfl
theorem eF3_basesOf_58 : m_Fe mi3_27 58 (m_ap [(.iinc 2 1, 3)] ([])) := m_Fe_of nd627 32 1 rfl
theorem SF3_basesOf_4b {xs : Nat → Int32} {L : Nat} (x0 : Nat) (x1 : Int32) (hp : m_H) (s : Int32 × Int32) {r : m_O × m_H} {K : ((Int32 × Int32) ⊕ Int32) → Prop} (k0 : ∀ x, K (.inr x) → r = (.inl (some (.int x)), hp)) (k1 : ∀ s, K (.inl s) → m_Rn xs L 2 627 4 [(0, .ref x0), (1, .int x1), (2, .int s.1), (3, .int s.2)] [] hp r) {t : (Int32 × Int32) ⊕ Int32} (h : F3_basesOf_4b x0 x1 hp s = some t) (hK : K t) : m_Rn xs L 2 627 4 [(0, .ref x0), (1, .int x1), (2, .int s.1), (3, .int s.2)] [] hp r := by
  unfold F3_basesOf_4b at h
  refine g_in eF3_basesOf_4 mx627 ?_
  refine g_ch [(0, .ref x0), (1, .int x1), (2, .int s.1), (3, .int s.2)] [.ref x0, .int s.2] (pc' := 6) rfl rfl rfl ?_
  obtain ⟨v1, e2, h⟩ := m_bd h
  refine g_gr q3_f53 e2 ?_
  obtain ⟨v3, e4, h⟩ := m_bd h
  refine g_gi q3_f97 e4 ?_
  rcases m_ifd h with ⟨c5, h⟩ | ⟨c5, h⟩
  · refine g_if (t := 67) rfl (m_geT c5) ?_
    refine g_in eF3_basesOf_67 mx627 ?_
    refine g_ch [(0, .ref x0), (1, .int x1), (2, .int s.1), (3, .int s.2)] [.int s.1] (pc' := 68) rfl rfl rfl ?_
    cases h
    rw [k0 _ hK]
    exact g_iret rfl rfl
  · refine g_ifn (t := 67) rfl (m_geF c5) ?_
    refine g_in eF3_basesOf_15 mx627 ?_
    refine g_ch [(0, .ref x0), (1, .int x1), (2, .int s.1), (3, .int s.2)] [.ref x0] (pc' := 16) rfl rfl rfl ?_
    obtain ⟨v6, e7, h⟩ := m_bd h
    refine g_gi q3_f76 e7 ?_
    refine g_ch [(0, .ref x0), (1, .int x1), (2, .int s.1), (3, .int s.2)] [.ref x0, .int v6] (pc' := 20) rfl rfl rfl ?_
    obtain ⟨v8, e9, h⟩ := m_bd h
    refine g_gr q3_f53 e9 ?_
    refine g_ch [(0, .ref x0), (1, .int x1), (2, .int s.1), (3, .int s.2)] [.int 1, .int s.2, .ref v8, .int v6] (pc' := 25) rfl rfl rfl ?_
    obtain ⟨v11, e10, h⟩ := m_bd h
    refine g_call (v := some (.int v11)) (h := hp) (st' := [.int v11, .int v6]) (D1 := 1) (as := [.ref v8, .int s.2, .int 1]) (Or.inr (Or.inl rfl)) q3_m100 (m_cv (as := [.int 1, .int s.2]) (rest := [.int v6]) (Or.inl rfl) q3_m100 jv1604 (OF8_get e10) rfl rfl rfl rfl) (by decide) (SF8_get e10) rfl ?_
    refine g_ch [(4, .int (v6 - v11)), (0, .ref x0), (1, .int x1), (2, .int s.1), (3, .int s.2)] [.ref x0] (pc' := 32) rfl rfl rfl ?_
    obtain ⟨v12, e13, h⟩ := m_bd h
    refine g_gr q3_f53 e13 ?_
    refine g_ch [(4, .int (v6 - v11)), (0, .ref x0), (1, .int x1), (2, .int s.1), (3, .int s.2)] [.int 0, .int s.2, .ref v12] (pc' := 37) rfl rfl rfl ?_
    obtain ⟨v15, e14, h⟩ := m_bd h
    refine g_call (v := some (.int v15)) (h := hp) (st' := [.int v15]) (D1 := 1) (as := [.ref v12, .int s.2, .int 0]) (Or.inr (Or.inl rfl)) q3_m100 (m_cv (as := [.int 0, .int s.2]) (rest := []) (Or.inl rfl) q3_m100 jv1604 (OF8_get e14) rfl rfl rfl rfl) (by decide) (SF8_get e14) rfl ?_
    refine g_ch [(4, .int (v6 - v11)), (0, .ref x0), (1, .int x1), (2, .int s.1), (3, .int s.2)] [.int x1, .int v15] (pc' := 41) rfl rfl rfl ?_
    rcases m_ifd h with ⟨c16, h⟩ | ⟨c16, h⟩
    · refine g_ifn (t := 61) rfl (m_neF c16) ?_
      refine g_in eF3_basesOf_44 mx627 ?_
      refine g_ch [(4, .int (v6 - v11)), (0, .ref x0), (1, .int x1), (2, .int s.1), (3, .int s.2)] [.ref x0, .int (v6 - v11)] (pc' := 47) rfl rfl rfl ?_
      obtain ⟨v17, e18, h⟩ := m_bd h
      refine g_gr q3_f53 e18 ?_
      refine g_ch [(4, .int (v6 - v11)), (0, .ref x0), (1, .int x1), (2, .int s.1), (3, .int s.2)] [.int 2, .int s.2, .ref v17, .int (v6 - v11)] (pc' := 52) rfl rfl rfl ?_
      obtain ⟨v20, e19, h⟩ := m_bd h
      refine g_call (v := some (.int v20)) (h := hp) (st' := [.int v20, .int (v6 - v11)]) (D1 := 1) (as := [.ref v17, .int s.2, .int 2]) (Or.inr (Or.inl rfl)) q3_m100 (m_cv (as := [.int 2, .int s.2]) (rest := [.int (v6 - v11)]) (Or.inl rfl) q3_m100 jv1604 (OF8_get e19) rfl rfl rfl rfl) (by decide) (SF8_get e19) rfl ?_
      rcases m_ifd h with ⟨c21, h⟩ | ⟨c21, h⟩
      · refine g_if (t := 61) rfl (m_geT c21) ?_
        refine g_in eF3_basesOf_61 mx627 ?_
        refine g_ch [(3, .int (s.2 + 1)), (4, .int (v6 - v11)), (0, .ref x0), (1, .int x1), (2, .int s.1)] [] (pc' := 64) rfl rfl rfl ?_
        refine g_goto (t := 4) rfl ?_
        cases h
        exact r_lv (k1 (s.1, (s.2 + 1)) hK) rfl ⟨rfl, rfl, rfl, rfl, trivial⟩
      · refine g_ifn (t := 61) rfl (m_geF c21) ?_
        refine g_in eF3_basesOf_58 mx627 ?_
        refine g_ch [(2, .int (s.1 + 1)), (4, .int (v6 - v11)), (0, .ref x0), (1, .int x1), (3, .int s.2)] [] (pc' := 61) rfl rfl rfl ?_
        refine g_end ?_
        refine g_in eF3_basesOf_61 mx627 ?_
        refine g_ch [(3, .int (s.2 + 1)), (2, .int (s.1 + 1)), (4, .int (v6 - v11)), (0, .ref x0), (1, .int x1)] [] (pc' := 64) rfl rfl rfl ?_
        refine g_goto (t := 4) rfl ?_
        cases h
        exact r_lv (k1 ((s.1 + 1), (s.2 + 1)) hK) rfl ⟨rfl, rfl, rfl, rfl, trivial⟩
    · refine g_if (t := 61) rfl (m_neT c16) ?_
      refine g_in eF3_basesOf_61 mx627 ?_
      refine g_ch [(3, .int (s.2 + 1)), (4, .int (v6 - v11)), (0, .ref x0), (1, .int x1), (2, .int s.1)] [] (pc' := 64) rfl rfl rfl ?_
      refine g_goto (t := 4) rfl ?_
      cases h
      exact r_lv (k1 (s.1, (s.2 + 1)) hK) rfl ⟨rfl, rfl, rfl, rfl, trivial⟩
theorem SF3_basesOf_4 {xs : Nat → Int32} {L : Nat} (x0 : Nat) (x1 : Int32) (x2 : Int32) (x3 : Int32) (hp : m_H) {r : m_O × m_H} {K : Int32 → Prop} (k0 : ∀ x, K x → r = (.inl (some (.int x)), hp)) {t : Int32} (h : F3_basesOf_4 x0 x1 x2 x3 hp = some t) (hK : K t) : m_Rn xs L 2 627 4 [(0, .ref x0), (1, .int x1), (2, .int x2), (3, .int x3)] [] hp r :=
  m_wh_ok (P := fun s => m_Rn xs L 2 627 4 [(0, .ref x0), (1, .int x1), (2, .int s.1), (3, .int s.2)] [] hp r) (Q := K) (fun s t hb hK => SF3_basesOf_4b x0 x1 hp s (K := m_KK (fun s => m_Rn xs L 2 627 4 [(0, .ref x0), (1, .int x1), (2, .int s.1), (3, .int s.2)] [] hp r) K) k0 (fun _ q => q) hb hK) m_N _ _ h hK
theorem SF3_basesOf_0 {xs : Nat → Int32} {L : Nat} (x0 : Nat) (x1 : Int32) (hp : m_H) {r : m_O × m_H} {K : Int32 → Prop} (k0 : ∀ x, K x → r = (.inl (some (.int x)), hp)) {t : Int32} (h : F3_basesOf_0 x0 x1 hp = some t) (hK : K t) : m_Rn xs L 2 627 0 [(0, .ref x0), (1, .int x1)] [] hp r := by
  unfold F3_basesOf_0 at h
  refine g_in eF3_basesOf_0 mx627 ?_
  refine g_ch [(3, .int 0), (2, .int 0), (0, .ref x0), (1, .int x1)] [] (pc' := 4) rfl rfl rfl ?_
  refine g_end ?_
  exact r_lv (SF3_basesOf_4 x0 x1 0 0 hp (K := K) k0 h hK) rfl ⟨rfl, rfl, rfl, rfl, trivial⟩
theorem OF3_basesOf {x0 : Nat} {x1 : Int32} {hp : m_H} {x : Int32} (h : F3_basesOf x0 x1 hp = some x) : m_isO hp 3 x0 = true := (m_gdd h).1
theorem SF3_basesOf {xs : Nat → Int32} {L : Nat} {x0 : Nat} {x1 : Int32} {hp : m_H} {x : Int32} (h : F3_basesOf x0 x1 hp = some x) : m_Rn xs L 2 627 0 (lv_args 0 [.ref x0, .int x1]) [] hp (.inl (some (.int x)), hp) :=
  r_lv (SF3_basesOf_0 x0 x1 hp (K := fun y => y = x) (fun y e => by rw [e]) (m_gdd h).2 rfl) rfl ⟨rfl, rfl, trivial⟩
-- F2_state: LendHouse$Court.state(II)V
theorem eF2_state_0 : m_Fe mi2_6 0 (m_ap [(.iload_n 1, 1)] ([(.ifCond .lt 19, 3)])) := m_Fe_of nd406 0 2 rfl
theorem eF2_state_20 : m_Fe mi2_6 20 ([(.return_, 1)]) := m_Fe_of nd406 12 1 rfl
theorem eF2_state_4 : m_Fe mi2_6 4 (m_ap [(.iload_n 1, 1), (.aload_n 0, 1)] ((.getfield 21, 3) :: ((.arraylength, 1) :: ([(.if_icmp .ge 10, 3)])))) := m_Fe_of nd406 2 5 rfl
theorem eF2_state_13 : m_Fe mi2_6 13 (m_ap [(.aload_n 0, 1)] ((.getfield 21, 3) :: (m_ap [(.iload_n 1, 1), (.iload_n 2, 1)] ([(.iastore, 1)])))) := m_Fe_of nd406 7 5 rfl
theorem SF2_state_0 {xs : Nat → Int32} {L : Nat} (x0 : Nat) (x1 : Int32) (x2 : Int32) (hp : m_H) {r : m_O × m_H} {K : m_H → Prop} (k0 : ∀ x, K x → r = (.inl none, x)) {t : m_H} (h : F2_state_0 x0 x1 x2 hp = some t) (hK : K t) : m_Rn xs L 0 406 0 [(0, .ref x0), (1, .int x1), (2, .int x2)] [] hp r := by
  unfold F2_state_0 at h
  refine g_in eF2_state_0 mx406 ?_
  refine g_ch [(0, .ref x0), (1, .int x1), (2, .int x2)] [.int x1] (pc' := 1) rfl rfl rfl ?_
  rcases m_ifd h with ⟨c1, h⟩ | ⟨c1, h⟩
  · refine g_ifc (t := 20) rfl (m_ltT c1) ?_
    refine g_in eF2_state_20 mx406 ?_
    cases h
    rw [k0 _ hK]
    exact g_vret rfl
  · refine g_ifcn (t := 20) rfl (m_ltF c1) ?_
    refine g_in eF2_state_4 mx406 ?_
    refine g_ch [(0, .ref x0), (1, .int x1), (2, .int x2)] [.ref x0, .int x1] (pc' := 6) rfl rfl rfl ?_
    obtain ⟨v2, e3, h⟩ := m_bd h
    refine g_gr q2_f21 e3 ?_
    obtain ⟨v4, e5, h⟩ := m_bd h
    refine g_len e5 ?_
    rcases m_ifd h with ⟨c6, h⟩ | ⟨c6, h⟩
    · refine g_if (t := 20) rfl (m_geT c6) ?_
      refine g_in eF2_state_20 mx406 ?_
      cases h
      rw [k0 _ hK]
      exact g_vret rfl
    · refine g_ifn (t := 20) rfl (m_geF c6) ?_
      refine g_in eF2_state_13 mx406 ?_
      refine g_ch [(0, .ref x0), (1, .int x1), (2, .int x2)] [.ref x0] (pc' := 14) rfl rfl rfl ?_
      obtain ⟨v7, e8, h⟩ := m_bd h
      refine g_gr q2_f21 e8 ?_
      refine g_ch [(0, .ref x0), (1, .int x1), (2, .int x2)] [.int x2, .int x1, .ref v7] (pc' := 19) rfl rfl rfl ?_
      obtain ⟨h9, e10, h⟩ := m_bd h
      refine g_is e10 ?_
      refine g_end ?_
      refine g_in eF2_state_20 mx406 ?_
      cases h
      rw [k0 _ hK]
      exact g_vret rfl
theorem OF2_state {x0 : Nat} {x1 : Int32} {x2 : Int32} {hp : m_H} {x : m_H} (h : F2_state x0 x1 x2 hp = some x) : m_isO hp 2 x0 = true := (m_gdd h).1
theorem SF2_state {xs : Nat → Int32} {L : Nat} {x0 : Nat} {x1 : Int32} {x2 : Int32} {hp : m_H} {x : m_H} (h : F2_state x0 x1 x2 hp = some x) : m_Rn xs L 0 406 0 (lv_args 0 [.ref x0, .int x1, .int x2]) [] hp (.inl none, x) :=
  r_lv (SF2_state_0 x0 x1 x2 hp (K := fun y => y = x) (fun y e => by rw [e]) (m_gdd h).2 rfl) rfl ⟨rfl, rfl, rfl, trivial⟩
-- F3_toldFor: LendHouse$House.toldFor(LLendHouse$Table;II)I
theorem eF3_toldFor_0 : m_Fe mi3_5 0 (m_ap [(.iconst (-1), 1), (.istore_n 3, 1), (.iconst 0, 1), (.istore 4, 2), (.iconst 0, 1), (.istore 5, 2)] ([])) := m_Fe_of nd605 0 6 rfl
theorem eF3_toldFor_8 : m_Fe mi3_5 8 (m_ap [(.iload 5, 2), (.aload_n 0, 1)] ((.getfield 97, 3) :: ([(.if_icmp .ge 53, 3)]))) := m_Fe_of nd605 6 4 rfl
theorem eF3_toldFor_67 : m_Fe mi3_5 67 (m_ap [(.iload 4, 2)] ([(.ireturn, 1)])) := m_Fe_of nd605 36 2 rfl
theorem eF3_toldFor_17 : m_Fe mi3_5 17 (m_ap [(.aload_n 0, 1), (.iload 5, 2), (.iconst 1, 1)] ((.invokevirtual 100, 3) :: (m_ap [(.istore 6, 2), (.aload_n 0, 1), (.iload 5, 2), (.iconst 0, 1)] ((.invokevirtual 100, 3) :: (m_ap [(.iload_n 1, 1)] ([(.if_icmp .ne 27, 3)])))))) := m_Fe_of nd605 10 11 rfl
theorem eF3_toldFor_61 : m_Fe mi3_5 61 (m_ap [(.iinc 5 1, 3)] ([(.goto (-56), 3)])) := m_Fe_of nd605 34 2 rfl
theorem eF3_toldFor_37 : m_Fe mi3_5 37 (m_ap [(.iload 6, 2), (.iload_n 2, 1)] ([(.if_icmp .gt 21, 3)])) := m_Fe_of nd605 21 3 rfl
theorem eF3_toldFor_43 : m_Fe mi3_5 43 (m_ap [(.iload 6, 2), (.iload_n 3, 1)] ([(.if_icmp .lt 15, 3)])) := m_Fe_of nd605 24 3 rfl
theorem eF3_toldFor_49 : m_Fe mi3_5 49 (m_ap [(.iload 6, 2), (.istore_n 3, 1), (.aload_n 0, 1), (.iload 5, 2), (.iconst 2, 1)] ((.invokevirtual 100, 3) :: (m_ap [(.istore 4, 2)] ([])))) := m_Fe_of nd605 27 7 rfl
theorem SF3_toldFor_8b {xs : Nat → Int32} {L : Nat} (x0 : Nat) (x1 : Int32) (x2 : Int32) (hp : m_H) (s : Int32 × Int32 × Int32) {r : m_O × m_H} {K : ((Int32 × Int32 × Int32) ⊕ Int32) → Prop} (k0 : ∀ x, K (.inr x) → r = (.inl (some (.int x)), hp)) (k1 : ∀ s, K (.inl s) → m_Rn xs L 2 605 8 [(0, .ref x0), (1, .int x1), (2, .int x2), (3, .int s.1), (4, .int s.2.1), (5, .int s.2.2)] [] hp r) {t : (Int32 × Int32 × Int32) ⊕ Int32} (h : F3_toldFor_8b x0 x1 x2 hp s = some t) (hK : K t) : m_Rn xs L 2 605 8 [(0, .ref x0), (1, .int x1), (2, .int x2), (3, .int s.1), (4, .int s.2.1), (5, .int s.2.2)] [] hp r := by
  unfold F3_toldFor_8b at h
  refine g_in eF3_toldFor_8 mx605 ?_
  refine g_ch [(0, .ref x0), (1, .int x1), (2, .int x2), (3, .int s.1), (4, .int s.2.1), (5, .int s.2.2)] [.ref x0, .int s.2.2] (pc' := 11) rfl rfl rfl ?_
  obtain ⟨v1, e2, h⟩ := m_bd h
  refine g_gi q3_f97 e2 ?_
  rcases m_ifd h with ⟨c3, h⟩ | ⟨c3, h⟩
  · refine g_if (t := 67) rfl (m_geT c3) ?_
    refine g_in eF3_toldFor_67 mx605 ?_
    refine g_ch [(0, .ref x0), (1, .int x1), (2, .int x2), (3, .int s.1), (4, .int s.2.1), (5, .int s.2.2)] [.int s.2.1] (pc' := 69) rfl rfl rfl ?_
    cases h
    rw [k0 _ hK]
    exact g_iret rfl rfl
  · refine g_ifn (t := 67) rfl (m_geF c3) ?_
    refine g_in eF3_toldFor_17 mx605 ?_
    refine g_ch [(0, .ref x0), (1, .int x1), (2, .int x2), (3, .int s.1), (4, .int s.2.1), (5, .int s.2.2)] [.int 1, .int s.2.2, .ref x0] (pc' := 21) rfl rfl rfl ?_
    obtain ⟨v5, e4, h⟩ := m_bd h
    refine g_call (v := some (.int v5)) (h := hp) (st' := [.int v5]) (D1 := 1) (as := [.ref x0, .int s.2.2, .int 1]) (Or.inr (Or.inl rfl)) q3_m100 (m_cv (as := [.int 1, .int s.2.2]) (rest := []) (Or.inl rfl) q3_m100 jv1604 (OF8_get e4) rfl rfl rfl rfl) (by decide) (SF8_get e4) rfl ?_
    refine g_ch [(6, .int v5), (0, .ref x0), (1, .int x1), (2, .int x2), (3, .int s.1), (4, .int s.2.1), (5, .int s.2.2)] [.int 0, .int s.2.2, .ref x0] (pc' := 30) rfl rfl rfl ?_
    obtain ⟨v7, e6, h⟩ := m_bd h
    refine g_call (v := some (.int v7)) (h := hp) (st' := [.int v7]) (D1 := 1) (as := [.ref x0, .int s.2.2, .int 0]) (Or.inr (Or.inl rfl)) q3_m100 (m_cv (as := [.int 0, .int s.2.2]) (rest := []) (Or.inl rfl) q3_m100 jv1604 (OF8_get e6) rfl rfl rfl rfl) (by decide) (SF8_get e6) rfl ?_
    refine g_ch [(6, .int v5), (0, .ref x0), (1, .int x1), (2, .int x2), (3, .int s.1), (4, .int s.2.1), (5, .int s.2.2)] [.int x1, .int v7] (pc' := 34) rfl rfl rfl ?_
    rcases m_ifd h with ⟨c8, h⟩ | ⟨c8, h⟩
    · refine g_ifn (t := 61) rfl (m_neF c8) ?_
      refine g_in eF3_toldFor_37 mx605 ?_
      refine g_ch [(6, .int v5), (0, .ref x0), (1, .int x1), (2, .int x2), (3, .int s.1), (4, .int s.2.1), (5, .int s.2.2)] [.int x2, .int v5] (pc' := 40) rfl rfl rfl ?_
      rcases m_ifd h with ⟨c9, h⟩ | ⟨c9, h⟩
      · refine g_if (t := 61) rfl (m_gtT c9) ?_
        refine g_in eF3_toldFor_61 mx605 ?_
        refine g_ch [(5, .int (s.2.2 + 1)), (6, .int v5), (0, .ref x0), (1, .int x1), (2, .int x2), (3, .int s.1), (4, .int s.2.1)] [] (pc' := 64) rfl rfl rfl ?_
        refine g_goto (t := 8) rfl ?_
        cases h
        exact r_lv (k1 (s.1, s.2.1, (s.2.2 + 1)) hK) rfl ⟨rfl, rfl, rfl, rfl, rfl, rfl, trivial⟩
      · refine g_ifn (t := 61) rfl (m_gtF c9) ?_
        refine g_in eF3_toldFor_43 mx605 ?_
        refine g_ch [(6, .int v5), (0, .ref x0), (1, .int x1), (2, .int x2), (3, .int s.1), (4, .int s.2.1), (5, .int s.2.2)] [.int s.1, .int v5] (pc' := 46) rfl rfl rfl ?_
        rcases m_ifd h with ⟨c10, h⟩ | ⟨c10, h⟩
        · refine g_if (t := 61) rfl (m_ltT c10) ?_
          refine g_in eF3_toldFor_61 mx605 ?_
          refine g_ch [(5, .int (s.2.2 + 1)), (6, .int v5), (0, .ref x0), (1, .int x1), (2, .int x2), (3, .int s.1), (4, .int s.2.1)] [] (pc' := 64) rfl rfl rfl ?_
          refine g_goto (t := 8) rfl ?_
          cases h
          exact r_lv (k1 (s.1, s.2.1, (s.2.2 + 1)) hK) rfl ⟨rfl, rfl, rfl, rfl, rfl, rfl, trivial⟩
        · refine g_ifn (t := 61) rfl (m_ltF c10) ?_
          refine g_in eF3_toldFor_49 mx605 ?_
          refine g_ch [(3, .int v5), (6, .int v5), (0, .ref x0), (1, .int x1), (2, .int x2), (4, .int s.2.1), (5, .int s.2.2)] [.int 2, .int s.2.2, .ref x0] (pc' := 56) rfl rfl rfl ?_
          obtain ⟨v12, e11, h⟩ := m_bd h
          refine g_call (v := some (.int v12)) (h := hp) (st' := [.int v12]) (D1 := 1) (as := [.ref x0, .int s.2.2, .int 2]) (Or.inr (Or.inl rfl)) q3_m100 (m_cv (as := [.int 2, .int s.2.2]) (rest := []) (Or.inl rfl) q3_m100 jv1604 (OF8_get e11) rfl rfl rfl rfl) (by decide) (SF8_get e11) rfl ?_
          refine g_ch [(4, .int v12), (3, .int v5), (6, .int v5), (0, .ref x0), (1, .int x1), (2, .int x2), (5, .int s.2.2)] [] (pc' := 61) rfl rfl rfl ?_
          refine g_end ?_
          refine g_in eF3_toldFor_61 mx605 ?_
          refine g_ch [(5, .int (s.2.2 + 1)), (4, .int v12), (3, .int v5), (6, .int v5), (0, .ref x0), (1, .int x1), (2, .int x2)] [] (pc' := 64) rfl rfl rfl ?_
          refine g_goto (t := 8) rfl ?_
          cases h
          exact r_lv (k1 (v5, v12, (s.2.2 + 1)) hK) rfl ⟨rfl, rfl, rfl, rfl, rfl, rfl, trivial⟩
    · refine g_if (t := 61) rfl (m_neT c8) ?_
      refine g_in eF3_toldFor_61 mx605 ?_
      refine g_ch [(5, .int (s.2.2 + 1)), (6, .int v5), (0, .ref x0), (1, .int x1), (2, .int x2), (3, .int s.1), (4, .int s.2.1)] [] (pc' := 64) rfl rfl rfl ?_
      refine g_goto (t := 8) rfl ?_
      cases h
      exact r_lv (k1 (s.1, s.2.1, (s.2.2 + 1)) hK) rfl ⟨rfl, rfl, rfl, rfl, rfl, rfl, trivial⟩
theorem SF3_toldFor_8 {xs : Nat → Int32} {L : Nat} (x0 : Nat) (x1 : Int32) (x2 : Int32) (x3 : Int32) (x4 : Int32) (x5 : Int32) (hp : m_H) {r : m_O × m_H} {K : Int32 → Prop} (k0 : ∀ x, K x → r = (.inl (some (.int x)), hp)) {t : Int32} (h : F3_toldFor_8 x0 x1 x2 x3 x4 x5 hp = some t) (hK : K t) : m_Rn xs L 2 605 8 [(0, .ref x0), (1, .int x1), (2, .int x2), (3, .int x3), (4, .int x4), (5, .int x5)] [] hp r :=
  m_wh_ok (P := fun s => m_Rn xs L 2 605 8 [(0, .ref x0), (1, .int x1), (2, .int x2), (3, .int s.1), (4, .int s.2.1), (5, .int s.2.2)] [] hp r) (Q := K) (fun s t hb hK => SF3_toldFor_8b x0 x1 x2 hp s (K := m_KK (fun s => m_Rn xs L 2 605 8 [(0, .ref x0), (1, .int x1), (2, .int x2), (3, .int s.1), (4, .int s.2.1), (5, .int s.2.2)] [] hp r) K) k0 (fun _ q => q) hb hK) m_N _ _ h hK
theorem SF3_toldFor_0 {xs : Nat → Int32} {L : Nat} (x0 : Nat) (x1 : Int32) (x2 : Int32) (hp : m_H) {r : m_O × m_H} {K : Int32 → Prop} (k0 : ∀ x, K x → r = (.inl (some (.int x)), hp)) {t : Int32} (h : F3_toldFor_0 x0 x1 x2 hp = some t) (hK : K t) : m_Rn xs L 2 605 0 [(0, .ref x0), (1, .int x1), (2, .int x2)] [] hp r := by
  unfold F3_toldFor_0 at h
  refine g_in eF3_toldFor_0 mx605 ?_
  refine g_ch [(5, .int 0), (4, .int 0), (3, .int (-1)), (0, .ref x0), (1, .int x1), (2, .int x2)] [] (pc' := 8) rfl rfl rfl ?_
  refine g_end ?_
  exact r_lv (SF3_toldFor_8 x0 x1 x2 (-1) 0 0 hp (K := K) k0 h hK) rfl ⟨rfl, rfl, rfl, rfl, rfl, rfl, trivial⟩
theorem SF3_toldFor {xs : Nat → Int32} {L : Nat} {x0 : Nat} {x1 : Int32} {x2 : Int32} {hp : m_H} {x : Int32} (h : F3_toldFor x0 x1 x2 hp = some x) : m_Rn xs L 2 605 0 (lv_args 0 [.ref x0, .int x1, .int x2]) [] hp (.inl (some (.int x)), hp) :=
  r_lv (SF3_toldFor_0 x0 x1 x2 hp (K := fun y => y = x) (fun y e => by rw [e]) h rfl) rfl ⟨rfl, rfl, rfl, trivial⟩
-- F3_priceIn: LendHouse$House.priceIn(II)I
theorem eF3_priceIn_0 : m_Fe mi3_6 0 (m_ap [(.aload_n 0, 1)] ((.getfield 26, 3) :: (m_ap [(.iload_n 1, 1), (.iload_n 2, 1)] ((.invokestatic 104, 3) :: ([(.ireturn, 1)]))))) := m_Fe_of nd606 0 6 rfl
theorem SF3_priceIn_0 {xs : Nat → Int32} {L : Nat} (x0 : Nat) (x1 : Int32) (x2 : Int32) (hp : m_H) {r : m_O × m_H} {K : Int32 → Prop} (k0 : ∀ x, K x → r = (.inl (some (.int x)), hp)) {t : Int32} (h : F3_priceIn_0 x0 x1 x2 hp = some t) (hK : K t) : m_Rn xs L 3 606 0 [(0, .ref x0), (1, .int x1), (2, .int x2)] [] hp r := by
  unfold F3_priceIn_0 at h
  refine g_in eF3_priceIn_0 mx606 ?_
  refine g_ch [(0, .ref x0), (1, .int x1), (2, .int x2)] [.ref x0] (pc' := 1) rfl rfl rfl ?_
  obtain ⟨v1, e2, h⟩ := m_bd h
  refine g_gr q3_f26 e2 ?_
  refine g_ch [(0, .ref x0), (1, .int x1), (2, .int x2)] [.int x2, .int x1, .ref v1] (pc' := 6) rfl rfl rfl ?_
  obtain ⟨v4, e3, h⟩ := m_bd h
  refine g_call (v := some (.int v4)) (h := hp) (st' := [.int v4]) (D1 := 2) (as := [.ref v1, .int x1, .int x2]) (Or.inl rfl) q3_m104 (m_cs (as := [.int x2, .int x1, .ref v1]) (rest := []) q3_m104 jv605 rfl rfl rfl rfl rfl) (by decide) (SF3_toldFor e3) rfl ?_
  cases h
  rw [k0 _ hK]
  exact g_iret rfl rfl
theorem OF3_priceIn {x0 : Nat} {x1 : Int32} {x2 : Int32} {hp : m_H} {x : Int32} (h : F3_priceIn x0 x1 x2 hp = some x) : m_isO hp 3 x0 = true := (m_gdd h).1
theorem SF3_priceIn {xs : Nat → Int32} {L : Nat} {x0 : Nat} {x1 : Int32} {x2 : Int32} {hp : m_H} {x : Int32} (h : F3_priceIn x0 x1 x2 hp = some x) : m_Rn xs L 3 606 0 (lv_args 0 [.ref x0, .int x1, .int x2]) [] hp (.inl (some (.int x)), hp) :=
  r_lv (SF3_priceIn_0 x0 x1 x2 hp (K := fun y => y = x) (fun y e => by rw [e]) (m_gdd h).2 rfl) rfl ⟨rfl, rfl, rfl, trivial⟩
-- F2_gather: LendHouse$Court.gather(LLendHouse$House;IIII)V
theorem eF2_gather_0 : m_Fe mi2_5 0 (m_ap [(.aload_n 0, 1), (.aload_n 1, 1)] ((.invokevirtual 64, 3) :: ((.putfield 68, 3) :: (m_ap [(.aload_n 0, 1), (.iconst 0, 1), (.iload_n 2, 1)] ((.invokevirtual 72, 3) :: (m_ap [(.aload_n 0, 1), (.iconst 1, 1), (.iload_n 3, 1)] ((.invokevirtual 72, 3) :: (m_ap [(.aload_n 0, 1), (.iconst 2, 1), (.aload_n 1, 1)] ((.getfield 76, 3) :: ((.invokevirtual 72, 3) :: (m_ap [(.aload_n 0, 1), (.iconst 3, 1), (.iload 4, 2)] ((.invokevirtual 72, 3) :: (m_ap [(.aload_n 0, 1), (.iconst 4, 1), (.iload 4, 2), (.aload_n 1, 1)] ((.getfield 80, 3) :: (m_ap [(.iload_n 3, 1), (.iconst 0, 1)] ((.invokevirtual 44, 3) :: (m_ap [(.imul, 1)] ((.invokevirtual 72, 3) :: (m_ap [(.aload_n 0, 1), (.iconst 5, 1), (.aload_n 1, 1), (.iload_n 3, 1), (.aload_n 1, 1)] ((.getfield 76, 3) :: ((.invokevirtual 83, 3) :: ((.invokevirtual 72, 3) :: (m_ap [(.aload_n 0, 1), (.bipush 6, 2), (.aload_n 1, 1)] ((.getfield 86, 3) :: (m_ap [(.iload_n 2, 1), (.iload_n 3, 1)] ((.invokestatic 89, 3) :: (m_ap [(.iconst 1, 1)] ((.invokevirtual 44, 3) :: ((.invokevirtual 72, 3) :: (m_ap [(.aload_n 0, 1), (.bipush 7, 2), (.aload_n 1, 1)] ((.getfield 92, 3) :: (m_ap [(.iload_n 2, 1), (.iconst 0, 1)] ((.invokevirtual 44, 3) :: ((.invokevirtual 72, 3) :: (m_ap [(.aload_n 0, 1), (.bipush 8, 2), (.aload_n 1, 1), (.iload_n 2, 1)] ((.invokevirtual 95, 3) :: ((.invokevirtual 72, 3) :: (m_ap [(.aload_n 0, 1), (.bipush 9, 2), (.iload 5, 2)] ((.invokevirtual 72, 3) :: ([(.return_, 1)])))))))))))))))))))))))))))))))))))))))) := m_Fe_of nd405 0 68 rfl
theorem SF2_gather_0 {xs : Nat → Int32} {L : Nat} (x0 : Nat) (x1 : Nat) (x2 : Int32) (x3 : Int32) (x4 : Int32) (x5 : Int32) (hp : m_H) {r : m_O × m_H} {K : m_H → Prop} (k0 : ∀ x, K x → r = (.inl none, x)) {t : m_H} (h : F2_gather_0 x0 x1 x2 x3 x4 x5 hp = some t) (hK : K t) : m_Rn xs L 4 405 0 [(0, .ref x0), (1, .ref x1), (2, .int x2), (3, .int x3), (4, .int x4), (5, .int x5)] [] hp r := by
  unfold F2_gather_0 at h
  refine g_in eF2_gather_0 mx405 ?_
  refine g_ch [(0, .ref x0), (1, .ref x1), (2, .int x2), (3, .int x3), (4, .int x4), (5, .int x5)] [.ref x1, .ref x0] (pc' := 2) rfl rfl rfl ?_
  obtain ⟨v2, e1, h⟩ := m_bd h
  refine g_call (v := some (va_rf v2)) (h := hp) (st' := [va_rf v2, .ref x0]) (D1 := 0) (as := [.ref x1]) (Or.inr (Or.inl rfl)) q2_m64 (m_cv (as := []) (rest := [.ref x0]) (Or.inl rfl) q2_m64 jv609 (OF3_actInForce e1) rfl rfl rfl rfl) (by decide) (SF3_actInForce e1) rfl ?_
  obtain ⟨h3, e4, h⟩ := m_bd h
  refine g_pf q2_f68 e4 ?_
  refine g_ch [(0, .ref x0), (1, .ref x1), (2, .int x2), (3, .int x3), (4, .int x4), (5, .int x5)] [.int x2, .int 0, .ref x0] (pc' := 11) rfl rfl rfl ?_
  obtain ⟨h6, e5, h⟩ := m_bd h
  refine g_call (v := none) (h := h6) (st' := []) (D1 := 0) (as := [.ref x0, .int 0, .int x2]) (Or.inr (Or.inl rfl)) q2_m72 (m_cv (as := [.int x2, .int 0]) (rest := []) (Or.inl rfl) q2_m72 jv406 (OF2_state e5) rfl rfl rfl rfl) (by decide) (SF2_state e5) rfl ?_
  refine g_ch [(0, .ref x0), (1, .ref x1), (2, .int x2), (3, .int x3), (4, .int x4), (5, .int x5)] [.int x3, .int 1, .ref x0] (pc' := 17) rfl rfl rfl ?_
  obtain ⟨h8, e7, h⟩ := m_bd h
  refine g_call (v := none) (h := h8) (st' := []) (D1 := 0) (as := [.ref x0, .int 1, .int x3]) (Or.inr (Or.inl rfl)) q2_m72 (m_cv (as := [.int x3, .int 1]) (rest := []) (Or.inl rfl) q2_m72 jv406 (OF2_state e7) rfl rfl rfl rfl) (by decide) (SF2_state e7) rfl ?_
  refine g_ch [(0, .ref x0), (1, .ref x1), (2, .int x2), (3, .int x3), (4, .int x4), (5, .int x5)] [.ref x1, .int 2, .ref x0] (pc' := 23) rfl rfl rfl ?_
  obtain ⟨v9, e10, h⟩ := m_bd h
  refine g_gi q2_f76 e10 ?_
  obtain ⟨h12, e11, h⟩ := m_bd h
  refine g_call (v := none) (h := h12) (st' := []) (D1 := 0) (as := [.ref x0, .int 2, .int v9]) (Or.inr (Or.inl rfl)) q2_m72 (m_cv (as := [.int v9, .int 2]) (rest := []) (Or.inl rfl) q2_m72 jv406 (OF2_state e11) rfl rfl rfl rfl) (by decide) (SF2_state e11) rfl ?_
  refine g_ch [(0, .ref x0), (1, .ref x1), (2, .int x2), (3, .int x3), (4, .int x4), (5, .int x5)] [.int x4, .int 3, .ref x0] (pc' := 33) rfl rfl rfl ?_
  obtain ⟨h14, e13, h⟩ := m_bd h
  refine g_call (v := none) (h := h14) (st' := []) (D1 := 0) (as := [.ref x0, .int 3, .int x4]) (Or.inr (Or.inl rfl)) q2_m72 (m_cv (as := [.int x4, .int 3]) (rest := []) (Or.inl rfl) q2_m72 jv406 (OF2_state e13) rfl rfl rfl rfl) (by decide) (SF2_state e13) rfl ?_
  refine g_ch [(0, .ref x0), (1, .ref x1), (2, .int x2), (3, .int x3), (4, .int x4), (5, .int x5)] [.ref x1, .int x4, .int 4, .ref x0] (pc' := 41) rfl rfl rfl ?_
  obtain ⟨v15, e16, h⟩ := m_bd h
  refine g_gr q2_f80 e16 ?_
  refine g_ch [(0, .ref x0), (1, .ref x1), (2, .int x2), (3, .int x3), (4, .int x4), (5, .int x5)] [.int 0, .int x3, .ref v15, .int x4, .int 4, .ref x0] (pc' := 46) rfl rfl rfl ?_
  obtain ⟨v18, e17, h⟩ := m_bd h
  refine g_call (v := some (.int v18)) (h := h14) (st' := [.int v18, .int x4, .int 4, .ref x0]) (D1 := 1) (as := [.ref v15, .int x3, .int 0]) (Or.inr (Or.inl rfl)) q2_m44 (m_cv (as := [.int 0, .int x3]) (rest := [.int x4, .int 4, .ref x0]) (Or.inl rfl) q2_m44 jv1604 (OF8_get e17) rfl rfl rfl rfl) (by decide) (SF8_get e17) rfl ?_
  refine g_ch [(0, .ref x0), (1, .ref x1), (2, .int x2), (3, .int x3), (4, .int x4), (5, .int x5)] [.int (x4 * v18), .int 4, .ref x0] (pc' := 50) rfl rfl rfl ?_
  obtain ⟨h20, e19, h⟩ := m_bd h
  refine g_call (v := none) (h := h20) (st' := []) (D1 := 0) (as := [.ref x0, .int 4, .int (x4 * v18)]) (Or.inr (Or.inl rfl)) q2_m72 (m_cv (as := [.int (x4 * v18), .int 4]) (rest := []) (Or.inl rfl) q2_m72 jv406 (OF2_state e19) rfl rfl rfl rfl) (by decide) (SF2_state e19) rfl ?_
  refine g_ch [(0, .ref x0), (1, .ref x1), (2, .int x2), (3, .int x3), (4, .int x4), (5, .int x5)] [.ref x1, .int x3, .ref x1, .int 5, .ref x0] (pc' := 58) rfl rfl rfl ?_
  obtain ⟨v21, e22, h⟩ := m_bd h
  refine g_gi q2_f76 e22 ?_
  obtain ⟨v24, e23, h⟩ := m_bd h
  refine g_call (v := some (.int v24)) (h := h20) (st' := [.int v24, .int 5, .ref x0]) (D1 := 3) (as := [.ref x1, .int x3, .int v21]) (Or.inr (Or.inl rfl)) q2_m83 (m_cv (as := [.int v21, .int x3]) (rest := [.int 5, .ref x0]) (Or.inl rfl) q2_m83 jv606 (OF3_priceIn e23) rfl rfl rfl rfl) (by decide) (SF3_priceIn e23) rfl ?_
  obtain ⟨h26, e25, h⟩ := m_bd h
  refine g_call (v := none) (h := h26) (st' := []) (D1 := 0) (as := [.ref x0, .int 5, .int v24]) (Or.inr (Or.inl rfl)) q2_m72 (m_cv (as := [.int v24, .int 5]) (rest := []) (Or.inl rfl) q2_m72 jv406 (OF2_state e25) rfl rfl rfl rfl) (by decide) (SF2_state e25) rfl ?_
  refine g_ch [(0, .ref x0), (1, .ref x1), (2, .int x2), (3, .int x3), (4, .int x4), (5, .int x5)] [.ref x1, .int 6, .ref x0] (pc' := 71) rfl rfl rfl ?_
  obtain ⟨v27, e28, h⟩ := m_bd h
  refine g_gr q2_f86 e28 ?_
  refine g_ch [(0, .ref x0), (1, .ref x1), (2, .int x2), (3, .int x3), (4, .int x4), (5, .int x5)] [.int x3, .int x2, .ref v27, .int 6, .ref x0] (pc' := 76) rfl rfl rfl ?_
  obtain ⟨v30, e29, h⟩ := m_bd h
  refine g_call (v := some (.int v30)) (h := h26) (st' := [.int v30, .ref v27, .int 6, .ref x0]) (D1 := 0) (as := [.int x2, .int x3]) (Or.inl rfl) q2_m89 (m_cs (as := [.int x3, .int x2]) (rest := [.ref v27, .int 6, .ref x0]) q2_m89 jv603 rfl rfl rfl rfl rfl) (by decide) (SF3_tradeRow e29) rfl ?_
  refine g_ch [(0, .ref x0), (1, .ref x1), (2, .int x2), (3, .int x3), (4, .int x4), (5, .int x5)] [.int 1, .int v30, .ref v27, .int 6, .ref x0] (pc' := 80) rfl rfl rfl ?_
  obtain ⟨v32, e31, h⟩ := m_bd h
  refine g_call (v := some (.int v32)) (h := h26) (st' := [.int v32, .int 6, .ref x0]) (D1 := 1) (as := [.ref v27, .int v30, .int 1]) (Or.inr (Or.inl rfl)) q2_m44 (m_cv (as := [.int 1, .int v30]) (rest := [.int 6, .ref x0]) (Or.inl rfl) q2_m44 jv1604 (OF8_get e31) rfl rfl rfl rfl) (by decide) (SF8_get e31) rfl ?_
  obtain ⟨h34, e33, h⟩ := m_bd h
  refine g_call (v := none) (h := h34) (st' := []) (D1 := 0) (as := [.ref x0, .int 6, .int v32]) (Or.inr (Or.inl rfl)) q2_m72 (m_cv (as := [.int v32, .int 6]) (rest := []) (Or.inl rfl) q2_m72 jv406 (OF2_state e33) rfl rfl rfl rfl) (by decide) (SF2_state e33) rfl ?_
  refine g_ch [(0, .ref x0), (1, .ref x1), (2, .int x2), (3, .int x3), (4, .int x4), (5, .int x5)] [.ref x1, .int 7, .ref x0] (pc' := 90) rfl rfl rfl ?_
  obtain ⟨v35, e36, h⟩ := m_bd h
  refine g_gr q2_f92 e36 ?_
  refine g_ch [(0, .ref x0), (1, .ref x1), (2, .int x2), (3, .int x3), (4, .int x4), (5, .int x5)] [.int 0, .int x2, .ref v35, .int 7, .ref x0] (pc' := 95) rfl rfl rfl ?_
  obtain ⟨v38, e37, h⟩ := m_bd h
  refine g_call (v := some (.int v38)) (h := h34) (st' := [.int v38, .int 7, .ref x0]) (D1 := 1) (as := [.ref v35, .int x2, .int 0]) (Or.inr (Or.inl rfl)) q2_m44 (m_cv (as := [.int 0, .int x2]) (rest := [.int 7, .ref x0]) (Or.inl rfl) q2_m44 jv1604 (OF8_get e37) rfl rfl rfl rfl) (by decide) (SF8_get e37) rfl ?_
  obtain ⟨h40, e39, h⟩ := m_bd h
  refine g_call (v := none) (h := h40) (st' := []) (D1 := 0) (as := [.ref x0, .int 7, .int v38]) (Or.inr (Or.inl rfl)) q2_m72 (m_cv (as := [.int v38, .int 7]) (rest := []) (Or.inl rfl) q2_m72 jv406 (OF2_state e39) rfl rfl rfl rfl) (by decide) (SF2_state e39) rfl ?_
  refine g_ch [(0, .ref x0), (1, .ref x1), (2, .int x2), (3, .int x3), (4, .int x4), (5, .int x5)] [.int x2, .ref x1, .int 8, .ref x0] (pc' := 106) rfl rfl rfl ?_
  obtain ⟨v42, e41, h⟩ := m_bd h
  refine g_call (v := some (.int v42)) (h := h40) (st' := [.int v42, .int 8, .ref x0]) (D1 := 2) (as := [.ref x1, .int x2]) (Or.inr (Or.inl rfl)) q2_m95 (m_cv (as := [.int x2]) (rest := [.int 8, .ref x0]) (Or.inl rfl) q2_m95 jv627 (OF3_basesOf e41) rfl rfl rfl rfl) (by decide) (SF3_basesOf e41) rfl ?_
  obtain ⟨h44, e43, h⟩ := m_bd h
  refine g_call (v := none) (h := h44) (st' := []) (D1 := 0) (as := [.ref x0, .int 8, .int v42]) (Or.inr (Or.inl rfl)) q2_m72 (m_cv (as := [.int v42, .int 8]) (rest := []) (Or.inl rfl) q2_m72 jv406 (OF2_state e43) rfl rfl rfl rfl) (by decide) (SF2_state e43) rfl ?_
  refine g_ch [(0, .ref x0), (1, .ref x1), (2, .int x2), (3, .int x3), (4, .int x4), (5, .int x5)] [.int x5, .int 9, .ref x0] (pc' := 117) rfl rfl rfl ?_
  obtain ⟨h46, e45, h⟩ := m_bd h
  refine g_call (v := none) (h := h46) (st' := []) (D1 := 0) (as := [.ref x0, .int 9, .int x5]) (Or.inr (Or.inl rfl)) q2_m72 (m_cv (as := [.int x5, .int 9]) (rest := []) (Or.inl rfl) q2_m72 jv406 (OF2_state e45) rfl rfl rfl rfl) (by decide) (SF2_state e45) rfl ?_
  cases h
  rw [k0 _ hK]
  exact g_vret rfl
theorem OF2_gather {x0 : Nat} {x1 : Nat} {x2 : Int32} {x3 : Int32} {x4 : Int32} {x5 : Int32} {hp : m_H} {x : m_H} (h : F2_gather x0 x1 x2 x3 x4 x5 hp = some x) : m_isO hp 2 x0 = true := (m_gdd h).1
theorem SF2_gather {xs : Nat → Int32} {L : Nat} {x0 : Nat} {x1 : Nat} {x2 : Int32} {x3 : Int32} {x4 : Int32} {x5 : Int32} {hp : m_H} {x : m_H} (h : F2_gather x0 x1 x2 x3 x4 x5 hp = some x) : m_Rn xs L 4 405 0 (lv_args 0 [.ref x0, .ref x1, .int x2, .int x3, .int x4, .int x5]) [] hp (.inl none, x) :=
  r_lv (SF2_gather_0 x0 x1 x2 x3 x4 x5 hp (K := fun y => y = x) (fun y e => by rw [e]) (m_gdd h).2 rfl) rfl ⟨rfl, rfl, rfl, rfl, rfl, rfl, trivial⟩
-- F2_hear: LendHouse$Court.hear(LLendHouse$House;II)V
theorem eF2_hear_0 : m_Fe mi2_4 0 (m_ap [(.aload_n 0, 1), (.aload_n 1, 1), (.aload_n 1, 1)] ((.getfield 30, 3) :: (m_ap [(.iload_n 2, 1), (.iconst 0, 1)] ((.invokevirtual 44, 3) :: (m_ap [(.aload_n 1, 1)] ((.getfield 30, 3) :: (m_ap [(.iload_n 2, 1), (.iconst 1, 1)] ((.invokevirtual 44, 3) :: (m_ap [(.iload_n 3, 1), (.iconst 0, 1)] ((.invokevirtual 60, 3) :: ([(.return_, 1)]))))))))))) := m_Fe_of nd404 0 16 rfl
theorem SF2_hear_0 {xs : Nat → Int32} {L : Nat} (x0 : Nat) (x1 : Nat) (x2 : Int32) (x3 : Int32) (hp : m_H) {r : m_O × m_H} {K : m_H → Prop} (k0 : ∀ x, K x → r = (.inl none, x)) {t : m_H} (h : F2_hear_0 x0 x1 x2 x3 hp = some t) (hK : K t) : m_Rn xs L 5 404 0 [(0, .ref x0), (1, .ref x1), (2, .int x2), (3, .int x3)] [] hp r := by
  unfold F2_hear_0 at h
  refine g_in eF2_hear_0 mx404 ?_
  refine g_ch [(0, .ref x0), (1, .ref x1), (2, .int x2), (3, .int x3)] [.ref x1, .ref x1, .ref x0] (pc' := 3) rfl rfl rfl ?_
  obtain ⟨v1, e2, h⟩ := m_bd h
  refine g_gr q2_f30 e2 ?_
  refine g_ch [(0, .ref x0), (1, .ref x1), (2, .int x2), (3, .int x3)] [.int 0, .int x2, .ref v1, .ref x1, .ref x0] (pc' := 8) rfl rfl rfl ?_
  obtain ⟨v4, e3, h⟩ := m_bd h
  refine g_call (v := some (.int v4)) (h := hp) (st' := [.int v4, .ref x1, .ref x0]) (D1 := 1) (as := [.ref v1, .int x2, .int 0]) (Or.inr (Or.inl rfl)) q2_m44 (m_cv (as := [.int 0, .int x2]) (rest := [.ref x1, .ref x0]) (Or.inl rfl) q2_m44 jv1604 (OF8_get e3) rfl rfl rfl rfl) (by decide) (SF8_get e3) rfl ?_
  refine g_ch [(0, .ref x0), (1, .ref x1), (2, .int x2), (3, .int x3)] [.ref x1, .int v4, .ref x1, .ref x0] (pc' := 12) rfl rfl rfl ?_
  obtain ⟨v5, e6, h⟩ := m_bd h
  refine g_gr q2_f30 e6 ?_
  refine g_ch [(0, .ref x0), (1, .ref x1), (2, .int x2), (3, .int x3)] [.int 1, .int x2, .ref v5, .int v4, .ref x1, .ref x0] (pc' := 17) rfl rfl rfl ?_
  obtain ⟨v8, e7, h⟩ := m_bd h
  refine g_call (v := some (.int v8)) (h := hp) (st' := [.int v8, .int v4, .ref x1, .ref x0]) (D1 := 1) (as := [.ref v5, .int x2, .int 1]) (Or.inr (Or.inl rfl)) q2_m44 (m_cv (as := [.int 1, .int x2]) (rest := [.int v4, .ref x1, .ref x0]) (Or.inl rfl) q2_m44 jv1604 (OF8_get e7) rfl rfl rfl rfl) (by decide) (SF8_get e7) rfl ?_
  refine g_ch [(0, .ref x0), (1, .ref x1), (2, .int x2), (3, .int x3)] [.int 0, .int x3, .int v8, .int v4, .ref x1, .ref x0] (pc' := 22) rfl rfl rfl ?_
  obtain ⟨h10, e9, h⟩ := m_bd h
  refine g_call (v := none) (h := h10) (st' := []) (D1 := 4) (as := [.ref x0, .ref x1, .int v4, .int v8, .int x3, .int 0]) (Or.inr (Or.inl rfl)) q2_m60 (m_cv (as := [.int 0, .int x3, .int v8, .int v4, .ref x1]) (rest := []) (Or.inl rfl) q2_m60 jv405 (OF2_gather e9) rfl rfl rfl rfl) (by decide) (SF2_gather e9) rfl ?_
  cases h
  rw [k0 _ hK]
  exact g_vret rfl
theorem OF2_hear {x0 : Nat} {x1 : Nat} {x2 : Int32} {x3 : Int32} {hp : m_H} {x : m_H} (h : F2_hear x0 x1 x2 x3 hp = some x) : m_isO hp 2 x0 = true := (m_gdd h).1
theorem SF2_hear {xs : Nat → Int32} {L : Nat} {x0 : Nat} {x1 : Nat} {x2 : Int32} {x3 : Int32} {hp : m_H} {x : m_H} (h : F2_hear x0 x1 x2 x3 hp = some x) : m_Rn xs L 5 404 0 (lv_args 0 [.ref x0, .ref x1, .int x2, .int x3]) [] hp (.inl none, x) :=
  r_lv (SF2_hear_0 x0 x1 x2 x3 hp (K := fun y => y = x) (fun y e => by rw [e]) (m_gdd h).2 rfl) rfl ⟨rfl, rfl, rfl, rfl, trivial⟩
-- F2_joined: LendHouse$Court.joined(IJJ)J
theorem eF2_joined_0 : m_Fe mi2_12 0 (m_ap [(.iload_n 0, 1)] ([(.tableswitch 81 (-5) (-1) #[63, 81, 51, 39, 35], 35)])) := m_Fe_of nd412 0 2 rfl
theorem eF2_joined_82 : m_Fe mi2_12 82 (m_ap [(.lload_n 1, 1), (.lconst 0, 1), (.lcmp, 1)] ([(.ifCond .ne 9, 3)])) := m_Fe_of nd412 34 4 rfl
theorem eF2_joined_94 : m_Fe mi2_12 94 (m_ap [(.lconst 1, 1)] ([(.goto 4, 3)])) := m_Fe_of nd412 42 2 rfl
theorem eF2_joined_99 : m_Fe mi2_12 99 ([(.lreturn, 1)]) := m_Fe_of nd412 45 1 rfl
theorem eF2_joined_88 : m_Fe mi2_12 88 (m_ap [(.lload_n 3, 1), (.lconst 0, 1), (.lcmp, 1)] ([(.ifCond .eq 7, 3)])) := m_Fe_of nd412 38 4 rfl
theorem eF2_joined_98 : m_Fe mi2_12 98 (m_ap [(.lconst 0, 1)] ([])) := m_Fe_of nd412 44 1 rfl
theorem eF2_joined_64 : m_Fe mi2_12 64 (m_ap [(.lload_n 1, 1), (.lconst 0, 1), (.lcmp, 1)] ([(.ifCond .eq 13, 3)])) := m_Fe_of nd412 22 4 rfl
theorem eF2_joined_80 : m_Fe mi2_12 80 (m_ap [(.lconst 0, 1)] ([])) := m_Fe_of nd412 32 1 rfl
theorem eF2_joined_81 : m_Fe mi2_12 81 ([(.lreturn, 1)]) := m_Fe_of nd412 33 1 rfl
theorem eF2_joined_70 : m_Fe mi2_12 70 (m_ap [(.lload_n 3, 1), (.lconst 0, 1), (.lcmp, 1)] ([(.ifCond .eq 7, 3)])) := m_Fe_of nd412 26 4 rfl
theorem eF2_joined_76 : m_Fe mi2_12 76 (m_ap [(.lconst 1, 1)] ([(.goto 4, 3)])) := m_Fe_of nd412 30 2 rfl
theorem eF2_joined_52 : m_Fe mi2_12 52 (m_ap [(.lload_n 1, 1), (.lload_n 3, 1), (.lcmp, 1)] ([(.ifCond .le 7, 3)])) := m_Fe_of nd412 14 4 rfl
theorem eF2_joined_62 : m_Fe mi2_12 62 (m_ap [(.lconst 0, 1)] ([])) := m_Fe_of nd412 20 1 rfl
theorem eF2_joined_63 : m_Fe mi2_12 63 ([(.lreturn, 1)]) := m_Fe_of nd412 21 1 rfl
theorem eF2_joined_58 : m_Fe mi2_12 58 (m_ap [(.lconst 1, 1)] ([(.goto 4, 3)])) := m_Fe_of nd412 18 2 rfl
theorem eF2_joined_40 : m_Fe mi2_12 40 (m_ap [(.lload_n 1, 1), (.lload_n 3, 1), (.lcmp, 1)] ([(.ifCond .ge 7, 3)])) := m_Fe_of nd412 6 4 rfl
theorem eF2_joined_50 : m_Fe mi2_12 50 (m_ap [(.lconst 0, 1)] ([])) := m_Fe_of nd412 12 1 rfl
theorem eF2_joined_51 : m_Fe mi2_12 51 ([(.lreturn, 1)]) := m_Fe_of nd412 13 1 rfl
theorem eF2_joined_46 : m_Fe mi2_12 46 (m_ap [(.lconst 1, 1)] ([(.goto 4, 3)])) := m_Fe_of nd412 10 2 rfl
theorem eF2_joined_36 : m_Fe mi2_12 36 (m_ap [(.lload_n 1, 1), (.lload_n 3, 1), (.ladd, 1)] ([(.lreturn, 1)])) := m_Fe_of nd412 2 4 rfl
theorem SF2_joined_0 {xs : Nat → Int32} {L : Nat} (x0 : Int32) (x1 : Int64) (x3 : Int64) (hp : m_H) {r : m_O × m_H} {K : Int64 → Prop} (k0 : ∀ x, K x → r = (.inl (some (.long x)), hp)) {t : Int64} (h : F2_joined_0 x0 x1 x3 hp = some t) (hK : K t) : m_Rn xs L 0 412 0 [(0, .int x0), (1, .long x1), (3, .long x3)] [] hp r := by
  unfold F2_joined_0 at h
  refine g_in eF2_joined_0 mx412 ?_
  refine g_ch [(0, .int x0), (1, .long x1), (3, .long x3)] [.int x0] (pc' := 1) rfl rfl rfl ?_
  rcases m_swd h with ⟨e2, h⟩ | ⟨w1, e2, h⟩
  · refine g_swd e2 (t := 82) rfl ?_
    refine g_in eF2_joined_82 mx412 ?_
    refine g_ch [(0, .int x0), (1, .long x1), (3, .long x3)] [.int (lg_cmp x1 0)] (pc' := 85) rfl rfl rfl ?_
    rcases m_ifd h with ⟨c3, h⟩ | ⟨c3, h⟩
    · refine g_ifcn (t := 94) rfl (m_neF c3) ?_
      refine g_in eF2_joined_88 mx412 ?_
      refine g_ch [(0, .int x0), (1, .long x1), (3, .long x3)] [.int (lg_cmp x3 0)] (pc' := 91) rfl rfl rfl ?_
      rcases m_ifd h with ⟨c4, h⟩ | ⟨c4, h⟩
      · refine g_ifc (t := 98) rfl (m_eqT c4) ?_
        refine g_in eF2_joined_98 mx412 ?_
        refine g_ch [(0, .int x0), (1, .long x1), (3, .long x3)] [.long 0] (pc' := 99) rfl rfl rfl ?_
        refine g_end ?_
        refine g_in eF2_joined_99 mx412 ?_
        cases h
        rw [k0 _ hK]
        exact g_lret rfl
      · refine g_ifcn (t := 98) rfl (m_eqF c4) ?_
        refine g_in eF2_joined_94 mx412 ?_
        refine g_ch [(0, .int x0), (1, .long x1), (3, .long x3)] [.long 1] (pc' := 95) rfl rfl rfl ?_
        refine g_goto (t := 99) rfl ?_
        refine g_in eF2_joined_99 mx412 ?_
        cases h
        rw [k0 _ hK]
        exact g_lret rfl
    · refine g_ifc (t := 94) rfl (m_neT c3) ?_
      refine g_in eF2_joined_94 mx412 ?_
      refine g_ch [(0, .int x0), (1, .long x1), (3, .long x3)] [.long 1] (pc' := 95) rfl rfl rfl ?_
      refine g_goto (t := 99) rfl ?_
      refine g_in eF2_joined_99 mx412 ?_
      cases h
      rw [k0 _ hK]
      exact g_lret rfl
  · rcases m_ifd h with ⟨c5, hc5⟩ | ⟨c5, h⟩
    · subst c5
      have h := hc5
      refine g_sw (o := 63) (t := 64) e2 rfl rfl ?_
      refine g_in eF2_joined_64 mx412 ?_
      refine g_ch [(0, .int x0), (1, .long x1), (3, .long x3)] [.int (lg_cmp x1 0)] (pc' := 67) rfl rfl rfl ?_
      rcases m_ifd h with ⟨c6, h⟩ | ⟨c6, h⟩
      · refine g_ifc (t := 80) rfl (m_eqT c6) ?_
        refine g_in eF2_joined_80 mx412 ?_
        refine g_ch [(0, .int x0), (1, .long x1), (3, .long x3)] [.long 0] (pc' := 81) rfl rfl rfl ?_
        refine g_end ?_
        refine g_in eF2_joined_81 mx412 ?_
        cases h
        rw [k0 _ hK]
        exact g_lret rfl
      · refine g_ifcn (t := 80) rfl (m_eqF c6) ?_
        refine g_in eF2_joined_70 mx412 ?_
        refine g_ch [(0, .int x0), (1, .long x1), (3, .long x3)] [.int (lg_cmp x3 0)] (pc' := 73) rfl rfl rfl ?_
        rcases m_ifd h with ⟨c7, h⟩ | ⟨c7, h⟩
        · refine g_ifc (t := 80) rfl (m_eqT c7) ?_
          refine g_in eF2_joined_80 mx412 ?_
          refine g_ch [(0, .int x0), (1, .long x1), (3, .long x3)] [.long 0] (pc' := 81) rfl rfl rfl ?_
          refine g_end ?_
          refine g_in eF2_joined_81 mx412 ?_
          cases h
          rw [k0 _ hK]
          exact g_lret rfl
        · refine g_ifcn (t := 80) rfl (m_eqF c7) ?_
          refine g_in eF2_joined_76 mx412 ?_
          refine g_ch [(0, .int x0), (1, .long x1), (3, .long x3)] [.long 1] (pc' := 77) rfl rfl rfl ?_
          refine g_goto (t := 81) rfl ?_
          refine g_in eF2_joined_81 mx412 ?_
          cases h
          rw [k0 _ hK]
          exact g_lret rfl
    rcases m_ifd h with ⟨c8, hc8⟩ | ⟨c8, h⟩
    · subst c8
      have h := hc8
      refine g_sw (o := 81) (t := 82) e2 rfl rfl ?_
      refine g_in eF2_joined_82 mx412 ?_
      refine g_ch [(0, .int x0), (1, .long x1), (3, .long x3)] [.int (lg_cmp x1 0)] (pc' := 85) rfl rfl rfl ?_
      rcases m_ifd h with ⟨c9, h⟩ | ⟨c9, h⟩
      · refine g_ifcn (t := 94) rfl (m_neF c9) ?_
        refine g_in eF2_joined_88 mx412 ?_
        refine g_ch [(0, .int x0), (1, .long x1), (3, .long x3)] [.int (lg_cmp x3 0)] (pc' := 91) rfl rfl rfl ?_
        rcases m_ifd h with ⟨c10, h⟩ | ⟨c10, h⟩
        · refine g_ifc (t := 98) rfl (m_eqT c10) ?_
          refine g_in eF2_joined_98 mx412 ?_
          refine g_ch [(0, .int x0), (1, .long x1), (3, .long x3)] [.long 0] (pc' := 99) rfl rfl rfl ?_
          refine g_end ?_
          refine g_in eF2_joined_99 mx412 ?_
          cases h
          rw [k0 _ hK]
          exact g_lret rfl
        · refine g_ifcn (t := 98) rfl (m_eqF c10) ?_
          refine g_in eF2_joined_94 mx412 ?_
          refine g_ch [(0, .int x0), (1, .long x1), (3, .long x3)] [.long 1] (pc' := 95) rfl rfl rfl ?_
          refine g_goto (t := 99) rfl ?_
          refine g_in eF2_joined_99 mx412 ?_
          cases h
          rw [k0 _ hK]
          exact g_lret rfl
      · refine g_ifc (t := 94) rfl (m_neT c9) ?_
        refine g_in eF2_joined_94 mx412 ?_
        refine g_ch [(0, .int x0), (1, .long x1), (3, .long x3)] [.long 1] (pc' := 95) rfl rfl rfl ?_
        refine g_goto (t := 99) rfl ?_
        refine g_in eF2_joined_99 mx412 ?_
        cases h
        rw [k0 _ hK]
        exact g_lret rfl
    rcases m_ifd h with ⟨c11, hc11⟩ | ⟨c11, h⟩
    · subst c11
      have h := hc11
      refine g_sw (o := 51) (t := 52) e2 rfl rfl ?_
      refine g_in eF2_joined_52 mx412 ?_
      refine g_ch [(0, .int x0), (1, .long x1), (3, .long x3)] [.int (lg_cmp x1 x3)] (pc' := 55) rfl rfl rfl ?_
      rcases m_ifd h with ⟨c12, h⟩ | ⟨c12, h⟩
      · refine g_ifc (t := 62) rfl (m_leT c12) ?_
        refine g_in eF2_joined_62 mx412 ?_
        refine g_ch [(0, .int x0), (1, .long x1), (3, .long x3)] [.long 0] (pc' := 63) rfl rfl rfl ?_
        refine g_end ?_
        refine g_in eF2_joined_63 mx412 ?_
        cases h
        rw [k0 _ hK]
        exact g_lret rfl
      · refine g_ifcn (t := 62) rfl (m_leF c12) ?_
        refine g_in eF2_joined_58 mx412 ?_
        refine g_ch [(0, .int x0), (1, .long x1), (3, .long x3)] [.long 1] (pc' := 59) rfl rfl rfl ?_
        refine g_goto (t := 63) rfl ?_
        refine g_in eF2_joined_63 mx412 ?_
        cases h
        rw [k0 _ hK]
        exact g_lret rfl
    rcases m_ifd h with ⟨c13, hc13⟩ | ⟨c13, h⟩
    · subst c13
      have h := hc13
      refine g_sw (o := 39) (t := 40) e2 rfl rfl ?_
      refine g_in eF2_joined_40 mx412 ?_
      refine g_ch [(0, .int x0), (1, .long x1), (3, .long x3)] [.int (lg_cmp x1 x3)] (pc' := 43) rfl rfl rfl ?_
      rcases m_ifd h with ⟨c14, h⟩ | ⟨c14, h⟩
      · refine g_ifc (t := 50) rfl (m_geT c14) ?_
        refine g_in eF2_joined_50 mx412 ?_
        refine g_ch [(0, .int x0), (1, .long x1), (3, .long x3)] [.long 0] (pc' := 51) rfl rfl rfl ?_
        refine g_end ?_
        refine g_in eF2_joined_51 mx412 ?_
        cases h
        rw [k0 _ hK]
        exact g_lret rfl
      · refine g_ifcn (t := 50) rfl (m_geF c14) ?_
        refine g_in eF2_joined_46 mx412 ?_
        refine g_ch [(0, .int x0), (1, .long x1), (3, .long x3)] [.long 1] (pc' := 47) rfl rfl rfl ?_
        refine g_goto (t := 51) rfl ?_
        refine g_in eF2_joined_51 mx412 ?_
        cases h
        rw [k0 _ hK]
        exact g_lret rfl
    rcases m_ifd h with ⟨c15, hc15⟩ | ⟨c15, h⟩
    · subst c15
      have h := hc15
      refine g_sw (o := 35) (t := 36) e2 rfl rfl ?_
      refine g_in eF2_joined_36 mx412 ?_
      refine g_ch [(0, .int x0), (1, .long x1), (3, .long x3)] [.long (x1 + x3)] (pc' := 39) rfl rfl rfl ?_
      cases h
      rw [k0 _ hK]
      exact g_lret rfl
    cases h
theorem SF2_joined {xs : Nat → Int32} {L : Nat} {x0 : Int32} {x1 : Int64} {x3 : Int64} {hp : m_H} {x : Int64} (h : F2_joined x0 x1 x3 hp = some x) : m_Rn xs L 0 412 0 (lv_args 0 [.int x0, .long x1, .long x3]) [] hp (.inl (some (.long x)), hp) :=
  r_lv (SF2_joined_0 x0 x1 x3 hp (K := fun y => y = x) (fun y e => by rw [e]) h rfl) rfl ⟨rfl, rfl, rfl, trivial⟩
-- F2_push: LendHouse$Court.push(J)V
theorem eF2_push_0 : m_Fe mi2_13 0 (m_ap [(.aload_n 0, 1)] ((.getfield 127, 3) :: ([(.ifCond .lt 35, 3)]))) := m_Fe_of nd413 0 3 rfl
theorem eF2_push_39 : m_Fe mi2_13 39 ([(.return_, 1)]) := m_Fe_of nd413 21 1 rfl
theorem eF2_push_7 : m_Fe mi2_13 7 (m_ap [(.aload_n 0, 1)] ((.getfield 127, 3) :: (m_ap [(.aload_n 0, 1)] ((.getfield 26, 3) :: ((.arraylength, 1) :: ([(.if_icmp .ge 23, 3)])))))) := m_Fe_of nd413 3 6 rfl
theorem eF2_push_19 : m_Fe mi2_13 19 (m_ap [(.aload_n 0, 1)] ((.getfield 26, 3) :: (m_ap [(.aload_n 0, 1)] ((.getfield 127, 3) :: (m_ap [(.lload_n 1, 1)] ((.lastore, 1) :: (m_ap [(.aload_n 0, 1), (.dup, 1)] ((.getfield 127, 3) :: (m_ap [(.iconst 1, 1), (.iadd, 1)] ([(.putfield 127, 3)])))))))))) := m_Fe_of nd413 9 12 rfl
theorem SF2_push_0 {xs : Nat → Int32} {L : Nat} (x0 : Nat) (x1 : Int64) (hp : m_H) {r : m_O × m_H} {K : m_H → Prop} (k0 : ∀ x, K x → r = (.inl none, x)) {t : m_H} (h : F2_push_0 x0 x1 hp = some t) (hK : K t) : m_Rn xs L 0 413 0 [(0, .ref x0), (1, .long x1)] [] hp r := by
  unfold F2_push_0 at h
  refine g_in eF2_push_0 mx413 ?_
  refine g_ch [(0, .ref x0), (1, .long x1)] [.ref x0] (pc' := 1) rfl rfl rfl ?_
  obtain ⟨v1, e2, h⟩ := m_bd h
  refine g_gi q2_f127 e2 ?_
  rcases m_ifd h with ⟨c3, h⟩ | ⟨c3, h⟩
  · refine g_ifc (t := 39) rfl (m_ltT c3) ?_
    refine g_in eF2_push_39 mx413 ?_
    cases h
    rw [k0 _ hK]
    exact g_vret rfl
  · refine g_ifcn (t := 39) rfl (m_ltF c3) ?_
    refine g_in eF2_push_7 mx413 ?_
    refine g_ch [(0, .ref x0), (1, .long x1)] [.ref x0] (pc' := 8) rfl rfl rfl ?_
    obtain ⟨v4, e5, h⟩ := m_bd h
    refine g_gi q2_f127 e5 ?_
    refine g_ch [(0, .ref x0), (1, .long x1)] [.ref x0, .int v4] (pc' := 12) rfl rfl rfl ?_
    obtain ⟨v6, e7, h⟩ := m_bd h
    refine g_gr q2_f26 e7 ?_
    obtain ⟨v8, e9, h⟩ := m_bd h
    refine g_len e9 ?_
    rcases m_ifd h with ⟨c10, h⟩ | ⟨c10, h⟩
    · refine g_if (t := 39) rfl (m_geT c10) ?_
      refine g_in eF2_push_39 mx413 ?_
      cases h
      rw [k0 _ hK]
      exact g_vret rfl
    · refine g_ifn (t := 39) rfl (m_geF c10) ?_
      refine g_in eF2_push_19 mx413 ?_
      refine g_ch [(0, .ref x0), (1, .long x1)] [.ref x0] (pc' := 20) rfl rfl rfl ?_
      obtain ⟨v11, e12, h⟩ := m_bd h
      refine g_gr q2_f26 e12 ?_
      refine g_ch [(0, .ref x0), (1, .long x1)] [.ref x0, .ref v11] (pc' := 24) rfl rfl rfl ?_
      obtain ⟨v13, e14, h⟩ := m_bd h
      refine g_gi q2_f127 e14 ?_
      refine g_ch [(0, .ref x0), (1, .long x1)] [.long x1, .int v13, .ref v11] (pc' := 28) rfl rfl rfl ?_
      obtain ⟨h15, e16, h⟩ := m_bd h
      refine g_ls e16 ?_
      refine g_ch [(0, .ref x0), (1, .long x1)] [.ref x0, .ref x0] (pc' := 31) rfl rfl rfl ?_
      obtain ⟨v17, e18, h⟩ := m_bd h
      refine g_gi q2_f127 e18 ?_
      refine g_ch [(0, .ref x0), (1, .long x1)] [.int (v17 + 1), .ref x0] (pc' := 36) rfl rfl rfl ?_
      obtain ⟨h19, e20, h⟩ := m_bd h
      refine g_pf q2_f127 e20 ?_
      refine g_end ?_
      refine g_in eF2_push_39 mx413 ?_
      cases h
      rw [k0 _ hK]
      exact g_vret rfl
theorem OF2_push {x0 : Nat} {x1 : Int64} {hp : m_H} {x : m_H} (h : F2_push x0 x1 hp = some x) : m_isO hp 2 x0 = true := (m_gdd h).1
theorem SF2_push {xs : Nat → Int32} {L : Nat} {x0 : Nat} {x1 : Int64} {hp : m_H} {x : m_H} (h : F2_push x0 x1 hp = some x) : m_Rn xs L 0 413 0 (lv_args 0 [.ref x0, .long x1]) [] hp (.inl none, x) :=
  r_lv (SF2_push_0 x0 x1 hp (K := fun y => y = x) (fun y e => by rw [e]) (m_gdd h).2 rfl) rfl ⟨rfl, rfl, trivial⟩
-- F2_pop: LendHouse$Court.pop()J
theorem eF2_pop_0 : m_Fe mi2_14 0 (m_ap [(.aload_n 0, 1)] ((.getfield 127, 3) :: ([(.ifCond .le 15, 3)]))) := m_Fe_of nd414 0 3 rfl
theorem eF2_pop_19 : m_Fe mi2_14 19 (m_ap [(.lconst 0, 1)] ([(.lreturn, 1)])) := m_Fe_of nd414 9 2 rfl
theorem eF2_pop_7 : m_Fe mi2_14 7 (m_ap [(.aload_n 0, 1)] ((.getfield 127, 3) :: (m_ap [(.aload_n 0, 1)] ((.getfield 26, 3) :: ((.arraylength, 1) :: ([(.if_icmp .le 5, 3)])))))) := m_Fe_of nd414 3 6 rfl
theorem eF2_pop_21 : m_Fe mi2_14 21 (m_ap [(.aload_n 0, 1), (.dup, 1)] ((.getfield 127, 3) :: (m_ap [(.iconst 1, 1), (.isub, 1)] ((.putfield 127, 3) :: (m_ap [(.aload_n 0, 1)] ((.getfield 26, 3) :: (m_ap [(.aload_n 0, 1)] ((.getfield 127, 3) :: ((.laload, 1) :: ([(.lreturn, 1)])))))))))) := m_Fe_of nd414 11 12 rfl
theorem SF2_pop_0 {xs : Nat → Int32} {L : Nat} (x0 : Nat) (hp : m_H) {r : m_O × m_H} {K : (Int64 × m_H) → Prop} (k0 : ∀ x, K x → r = (.inl (some (.long x.1)), x.2)) {t : Int64 × m_H} (h : F2_pop_0 x0 hp = some t) (hK : K t) : m_Rn xs L 0 414 0 [(0, .ref x0)] [] hp r := by
  unfold F2_pop_0 at h
  refine g_in eF2_pop_0 mx414 ?_
  refine g_ch [(0, .ref x0)] [.ref x0] (pc' := 1) rfl rfl rfl ?_
  obtain ⟨v1, e2, h⟩ := m_bd h
  refine g_gi q2_f127 e2 ?_
  rcases m_ifd h with ⟨c3, h⟩ | ⟨c3, h⟩
  · refine g_ifc (t := 19) rfl (m_leT c3) ?_
    refine g_in eF2_pop_19 mx414 ?_
    refine g_ch [(0, .ref x0)] [.long 0] (pc' := 20) rfl rfl rfl ?_
    cases h
    rw [k0 _ hK]
    exact g_lret rfl
  · refine g_ifcn (t := 19) rfl (m_leF c3) ?_
    refine g_in eF2_pop_7 mx414 ?_
    refine g_ch [(0, .ref x0)] [.ref x0] (pc' := 8) rfl rfl rfl ?_
    obtain ⟨v4, e5, h⟩ := m_bd h
    refine g_gi q2_f127 e5 ?_
    refine g_ch [(0, .ref x0)] [.ref x0, .int v4] (pc' := 12) rfl rfl rfl ?_
    obtain ⟨v6, e7, h⟩ := m_bd h
    refine g_gr q2_f26 e7 ?_
    obtain ⟨v8, e9, h⟩ := m_bd h
    refine g_len e9 ?_
    rcases m_ifd h with ⟨c10, h⟩ | ⟨c10, h⟩
    · refine g_if (t := 21) rfl (m_leT c10) ?_
      refine g_in eF2_pop_21 mx414 ?_
      refine g_ch [(0, .ref x0)] [.ref x0, .ref x0] (pc' := 23) rfl rfl rfl ?_
      obtain ⟨v11, e12, h⟩ := m_bd h
      refine g_gi q2_f127 e12 ?_
      refine g_ch [(0, .ref x0)] [.int (v11 - 1), .ref x0] (pc' := 28) rfl rfl rfl ?_
      obtain ⟨h13, e14, h⟩ := m_bd h
      refine g_pf q2_f127 e14 ?_
      refine g_ch [(0, .ref x0)] [.ref x0] (pc' := 32) rfl rfl rfl ?_
      obtain ⟨v15, e16, h⟩ := m_bd h
      refine g_gr q2_f26 e16 ?_
      refine g_ch [(0, .ref x0)] [.ref x0, .ref v15] (pc' := 36) rfl rfl rfl ?_
      obtain ⟨v17, e18, h⟩ := m_bd h
      refine g_gi q2_f127 e18 ?_
      obtain ⟨v19, e20, h⟩ := m_bd h
      refine g_la e20 ?_
      cases h
      rw [k0 _ hK]
      exact g_lret rfl
    · refine g_ifn (t := 21) rfl (m_leF c10) ?_
      refine g_in eF2_pop_19 mx414 ?_
      refine g_ch [(0, .ref x0)] [.long 0] (pc' := 20) rfl rfl rfl ?_
      cases h
      rw [k0 _ hK]
      exact g_lret rfl
theorem OF2_pop {x0 : Nat} {hp : m_H} {x : Int64 × m_H} (h : F2_pop x0 hp = some x) : m_isO hp 2 x0 = true := (m_gdd h).1
theorem SF2_pop {xs : Nat → Int32} {L : Nat} {x0 : Nat} {hp : m_H} {x : Int64 × m_H} (h : F2_pop x0 hp = some x) : m_Rn xs L 0 414 0 (lv_args 0 [.ref x0]) [] hp (.inl (some (.long x.1)), x.2) :=
  r_lv (SF2_pop_0 x0 hp (K := fun y => y = x) (fun y e => by rw [e]) (m_gdd h).2 rfl) rfl ⟨rfl, trivial⟩
-- F2_follow: LendHouse$Court.follow(I)V
theorem eF2_follow_0 : m_Fe mi2_11 0 (m_ap [(.iload_n 1, 1)] ([(.ifCond .lt 12, 3)])) := m_Fe_of nd411 0 2 rfl
theorem eF2_follow_13 : m_Fe mi2_11 13 (m_ap [(.iload_n 1, 1), (.bipush (-10), 2)] ([(.if_icmp .gt 39, 3)])) := m_Fe_of nd411 7 3 rfl
theorem eF2_follow_55 : m_Fe mi2_11 55 (m_ap [(.iload_n 1, 1), (.bipush (-4), 2)] ([(.if_icmp .ne 24, 3)])) := m_Fe_of nd411 31 3 rfl
theorem eF2_follow_82 : m_Fe mi2_11 82 (m_ap [(.aload_n 0, 1)] ((.invokevirtual 134, 3) :: (m_ap [(.lstore_n 2, 1), (.aload_n 0, 1)] ((.invokevirtual 134, 3) :: (m_ap [(.lstore 4, 2), (.aload_n 0, 1), (.iload_n 1, 1), (.lload 4, 2), (.lload_n 2, 1)] ((.invokestatic 142, 3) :: ([(.invokevirtual 138, 3)]))))))) := m_Fe_of nd411 45 12 rfl
theorem eF2_follow_104 : m_Fe mi2_11 104 ([(.return_, 1)]) := m_Fe_of nd411 57 1 rfl
theorem eF2_follow_61 : m_Fe mi2_11 61 (m_ap [(.aload_n 0, 1), (.aload_n 0, 1)] ((.invokevirtual 134, 3) :: (m_ap [(.lconst 0, 1), (.lcmp, 1)] ([(.ifCond .ne 7, 3)])))) := m_Fe_of nd411 34 6 rfl
theorem eF2_follow_75 : m_Fe mi2_11 75 (m_ap [(.lconst 0, 1)] ([])) := m_Fe_of nd411 42 1 rfl
theorem eF2_follow_76 : m_Fe mi2_11 76 ((.invokevirtual 138, 3) :: ([(.goto 25, 3)])) := m_Fe_of nd411 43 2 rfl
theorem eF2_follow_71 : m_Fe mi2_11 71 (m_ap [(.lconst 1, 1)] ([(.goto 4, 3)])) := m_Fe_of nd411 40 2 rfl
theorem eF2_follow_19 : m_Fe mi2_11 19 (m_ap [(.bipush (-10), 2), (.iload_n 1, 1), (.isub, 1), (.istore_n 2, 1), (.aload_n 0, 1), (.iload_n 2, 1)] ([(.ifCond .lt 22, 3)])) := m_Fe_of nd411 10 7 rfl
theorem eF2_follow_48 : m_Fe mi2_11 48 (m_ap [(.lconst 0, 1)] ([])) := m_Fe_of nd411 28 1 rfl
theorem eF2_follow_49 : m_Fe mi2_11 49 ((.invokevirtual 138, 3) :: ([(.goto 52, 3)])) := m_Fe_of nd411 29 2 rfl
theorem eF2_follow_29 : m_Fe mi2_11 29 (m_ap [(.iload_n 2, 1), (.aload_n 0, 1)] ((.getfield 21, 3) :: ((.arraylength, 1) :: ([(.if_icmp .ge 13, 3)])))) := m_Fe_of nd411 17 5 rfl
theorem eF2_follow_38 : m_Fe mi2_11 38 (m_ap [(.aload_n 0, 1)] ((.getfield 21, 3) :: (m_ap [(.iload_n 2, 1)] ((.iaload, 1) :: (m_ap [(.i2l, 1)] ([(.goto 4, 3)])))))) := m_Fe_of nd411 22 6 rfl
theorem eF2_follow_4 : m_Fe mi2_11 4 (m_ap [(.aload_n 0, 1), (.iload_n 1, 1), (.i2l, 1)] ((.invokevirtual 138, 3) :: ([(.goto 94, 3)]))) := m_Fe_of nd411 2 5 rfl
theorem SF2_follow_0 {xs : Nat → Int32} {L : Nat} (x0 : Nat) (x1 : Int32) (hp : m_H) {r : m_O × m_H} {K : m_H → Prop} (k0 : ∀ x, K x → r = (.inl none, x)) {t : m_H} (h : F2_follow_0 x0 x1 hp = some t) (hK : K t) : m_Rn xs L 1 411 0 [(0, .ref x0), (1, .int x1)] [] hp r := by
  unfold F2_follow_0 at h
  refine g_in eF2_follow_0 mx411 ?_
  refine g_ch [(0, .ref x0), (1, .int x1)] [.int x1] (pc' := 1) rfl rfl rfl ?_
  rcases m_ifd h with ⟨c1, h⟩ | ⟨c1, h⟩
  · refine g_ifc (t := 13) rfl (m_ltT c1) ?_
    refine g_in eF2_follow_13 mx411 ?_
    refine g_ch [(0, .ref x0), (1, .int x1)] [.int (-10), .int x1] (pc' := 16) rfl rfl rfl ?_
    rcases m_ifd h with ⟨c2, h⟩ | ⟨c2, h⟩
    · refine g_if (t := 55) rfl (m_gtT c2) ?_
      refine g_in eF2_follow_55 mx411 ?_
      refine g_ch [(0, .ref x0), (1, .int x1)] [.int (-4), .int x1] (pc' := 58) rfl rfl rfl ?_
      rcases m_ifd h with ⟨c3, h⟩ | ⟨c3, h⟩
      · refine g_ifn (t := 82) rfl (m_neF c3) ?_
        refine g_in eF2_follow_61 mx411 ?_
        refine g_ch [(0, .ref x0), (1, .int x1)] [.ref x0, .ref x0] (pc' := 63) rfl rfl rfl ?_
        obtain ⟨z13, e12, h⟩ := m_bd h
        refine g_call (v := some (.long z13.1)) (h := z13.2) (st' := [.long z13.1, .ref x0]) (D1 := 0) (as := [.ref x0]) (Or.inr (Or.inl rfl)) q2_m134 (m_cv (as := []) (rest := [.ref x0]) (Or.inl rfl) q2_m134 jv414 (OF2_pop e12) rfl rfl rfl rfl) (by decide) (SF2_pop e12) rfl ?_
        refine g_ch [(0, .ref x0), (1, .int x1)] [.int (lg_cmp z13.1 0), .ref x0] (pc' := 68) rfl rfl rfl ?_
        rcases m_ifd h with ⟨c14, h⟩ | ⟨c14, h⟩
        · refine g_ifcn (t := 75) rfl (m_neF c14) ?_
          refine g_in eF2_follow_71 mx411 ?_
          refine g_ch [(0, .ref x0), (1, .int x1)] [.long 1, .ref x0] (pc' := 72) rfl rfl rfl ?_
          refine g_goto (t := 76) rfl ?_
          refine g_in eF2_follow_76 mx411 ?_
          obtain ⟨h18, e17, h⟩ := m_bd h
          refine g_call (v := none) (h := h18) (st' := []) (D1 := 0) (as := [.ref x0, .long 1]) (Or.inr (Or.inl rfl)) q2_m138 (m_cv (as := [.long 1]) (rest := []) (Or.inl rfl) q2_m138 jv413 (OF2_push e17) rfl rfl rfl rfl) (by decide) (SF2_push e17) rfl ?_
          refine g_goto (t := 104) rfl ?_
          refine g_in eF2_follow_104 mx411 ?_
          cases h
          rw [k0 _ hK]
          exact g_vret rfl
        · refine g_ifc (t := 75) rfl (m_neT c14) ?_
          refine g_in eF2_follow_75 mx411 ?_
          refine g_ch [(0, .ref x0), (1, .int x1)] [.long 0, .ref x0] (pc' := 76) rfl rfl rfl ?_
          refine g_end ?_
          refine g_in eF2_follow_76 mx411 ?_
          obtain ⟨h16, e15, h⟩ := m_bd h
          refine g_call (v := none) (h := h16) (st' := []) (D1 := 0) (as := [.ref x0, .long 0]) (Or.inr (Or.inl rfl)) q2_m138 (m_cv (as := [.long 0]) (rest := []) (Or.inl rfl) q2_m138 jv413 (OF2_push e15) rfl rfl rfl rfl) (by decide) (SF2_push e15) rfl ?_
          refine g_goto (t := 104) rfl ?_
          refine g_in eF2_follow_104 mx411 ?_
          cases h
          rw [k0 _ hK]
          exact g_vret rfl
      · refine g_if (t := 82) rfl (m_neT c3) ?_
        refine g_in eF2_follow_82 mx411 ?_
        refine g_ch [(0, .ref x0), (1, .int x1)] [.ref x0] (pc' := 83) rfl rfl rfl ?_
        obtain ⟨z5, e4, h⟩ := m_bd h
        refine g_call (v := some (.long z5.1)) (h := z5.2) (st' := [.long z5.1]) (D1 := 0) (as := [.ref x0]) (Or.inr (Or.inl rfl)) q2_m134 (m_cv (as := []) (rest := []) (Or.inl rfl) q2_m134 jv414 (OF2_pop e4) rfl rfl rfl rfl) (by decide) (SF2_pop e4) rfl ?_
        refine g_ch [(2, .long z5.1), (0, .ref x0), (1, .int x1)] [.ref x0] (pc' := 88) rfl rfl rfl ?_
        obtain ⟨z7, e6, h⟩ := m_bd h
        refine g_call (v := some (.long z7.1)) (h := z7.2) (st' := [.long z7.1]) (D1 := 0) (as := [.ref x0]) (Or.inr (Or.inl rfl)) q2_m134 (m_cv (as := []) (rest := []) (Or.inl rfl) q2_m134 jv414 (OF2_pop e6) rfl rfl rfl rfl) (by decide) (SF2_pop e6) rfl ?_
        refine g_ch [(4, .long z7.1), (2, .long z5.1), (0, .ref x0), (1, .int x1)] [.long z5.1, .long z7.1, .int x1, .ref x0] (pc' := 98) rfl rfl rfl ?_
        obtain ⟨v9, e8, h⟩ := m_bd h
        refine g_call (v := some (.long v9)) (h := z7.2) (st' := [.long v9, .ref x0]) (D1 := 0) (as := [.int x1, .long z7.1, .long z5.1]) (Or.inl rfl) q2_m142 (m_cs (as := [.long z5.1, .long z7.1, .int x1]) (rest := [.ref x0]) q2_m142 jv412 rfl rfl rfl rfl rfl) (by decide) (SF2_joined e8) rfl ?_
        obtain ⟨h11, e10, h⟩ := m_bd h
        refine g_call (v := none) (h := h11) (st' := []) (D1 := 0) (as := [.ref x0, .long v9]) (Or.inr (Or.inl rfl)) q2_m138 (m_cv (as := [.long v9]) (rest := []) (Or.inl rfl) q2_m138 jv413 (OF2_push e10) rfl rfl rfl rfl) (by decide) (SF2_push e10) rfl ?_
        refine g_end ?_
        refine g_in eF2_follow_104 mx411 ?_
        cases h
        rw [k0 _ hK]
        exact g_vret rfl
    · refine g_ifn (t := 55) rfl (m_gtF c2) ?_
      refine g_in eF2_follow_19 mx411 ?_
      refine g_ch [(2, .int ((-10) - x1)), (0, .ref x0), (1, .int x1)] [.int ((-10) - x1), .ref x0] (pc' := 26) rfl rfl rfl ?_
      rcases m_ifd h with ⟨c19, h⟩ | ⟨c19, h⟩
      · refine g_ifc (t := 48) rfl (m_ltT c19) ?_
        refine g_in eF2_follow_48 mx411 ?_
        refine g_ch [(2, .int ((-10) - x1)), (0, .ref x0), (1, .int x1)] [.long 0, .ref x0] (pc' := 49) rfl rfl rfl ?_
        refine g_end ?_
        refine g_in eF2_follow_49 mx411 ?_
        obtain ⟨h21, e20, h⟩ := m_bd h
        refine g_call (v := none) (h := h21) (st' := []) (D1 := 0) (as := [.ref x0, .long 0]) (Or.inr (Or.inl rfl)) q2_m138 (m_cv (as := [.long 0]) (rest := []) (Or.inl rfl) q2_m138 jv413 (OF2_push e20) rfl rfl rfl rfl) (by decide) (SF2_push e20) rfl ?_
        refine g_goto (t := 104) rfl ?_
        refine g_in eF2_follow_104 mx411 ?_
        cases h
        rw [k0 _ hK]
        exact g_vret rfl
      · refine g_ifcn (t := 48) rfl (m_ltF c19) ?_
        refine g_in eF2_follow_29 mx411 ?_
        refine g_ch [(2, .int ((-10) - x1)), (0, .ref x0), (1, .int x1)] [.ref x0, .int ((-10) - x1), .ref x0] (pc' := 31) rfl rfl rfl ?_
        obtain ⟨v22, e23, h⟩ := m_bd h
        refine g_gr q2_f21 e23 ?_
        obtain ⟨v24, e25, h⟩ := m_bd h
        refine g_len e25 ?_
        rcases m_ifd h with ⟨c26, h⟩ | ⟨c26, h⟩
        · refine g_if (t := 48) rfl (m_geT c26) ?_
          refine g_in eF2_follow_48 mx411 ?_
          refine g_ch [(2, .int ((-10) - x1)), (0, .ref x0), (1, .int x1)] [.long 0, .ref x0] (pc' := 49) rfl rfl rfl ?_
          refine g_end ?_
          refine g_in eF2_follow_49 mx411 ?_
          obtain ⟨h28, e27, h⟩ := m_bd h
          refine g_call (v := none) (h := h28) (st' := []) (D1 := 0) (as := [.ref x0, .long 0]) (Or.inr (Or.inl rfl)) q2_m138 (m_cv (as := [.long 0]) (rest := []) (Or.inl rfl) q2_m138 jv413 (OF2_push e27) rfl rfl rfl rfl) (by decide) (SF2_push e27) rfl ?_
          refine g_goto (t := 104) rfl ?_
          refine g_in eF2_follow_104 mx411 ?_
          cases h
          rw [k0 _ hK]
          exact g_vret rfl
        · refine g_ifn (t := 48) rfl (m_geF c26) ?_
          refine g_in eF2_follow_38 mx411 ?_
          refine g_ch [(2, .int ((-10) - x1)), (0, .ref x0), (1, .int x1)] [.ref x0, .ref x0] (pc' := 39) rfl rfl rfl ?_
          obtain ⟨v29, e30, h⟩ := m_bd h
          refine g_gr q2_f21 e30 ?_
          refine g_ch [(2, .int ((-10) - x1)), (0, .ref x0), (1, .int x1)] [.int ((-10) - x1), .ref v29, .ref x0] (pc' := 43) rfl rfl rfl ?_
          obtain ⟨v31, e32, h⟩ := m_bd h
          refine g_ia e32 ?_
          refine g_ch [(2, .int ((-10) - x1)), (0, .ref x0), (1, .int x1)] [.long (m_i2l v31), .ref x0] (pc' := 45) rfl rfl rfl ?_
          refine g_goto (t := 49) rfl ?_
          refine g_in eF2_follow_49 mx411 ?_
          obtain ⟨h34, e33, h⟩ := m_bd h
          refine g_call (v := none) (h := h34) (st' := []) (D1 := 0) (as := [.ref x0, .long (m_i2l v31)]) (Or.inr (Or.inl rfl)) q2_m138 (m_cv (as := [.long (m_i2l v31)]) (rest := []) (Or.inl rfl) q2_m138 jv413 (OF2_push e33) rfl rfl rfl rfl) (by decide) (SF2_push e33) rfl ?_
          refine g_goto (t := 104) rfl ?_
          refine g_in eF2_follow_104 mx411 ?_
          cases h
          rw [k0 _ hK]
          exact g_vret rfl
  · refine g_ifcn (t := 13) rfl (m_ltF c1) ?_
    refine g_in eF2_follow_4 mx411 ?_
    refine g_ch [(0, .ref x0), (1, .int x1)] [.long (m_i2l x1), .ref x0] (pc' := 7) rfl rfl rfl ?_
    obtain ⟨h36, e35, h⟩ := m_bd h
    refine g_call (v := none) (h := h36) (st' := []) (D1 := 0) (as := [.ref x0, .long (m_i2l x1)]) (Or.inr (Or.inl rfl)) q2_m138 (m_cv (as := [.long (m_i2l x1)]) (rest := []) (Or.inl rfl) q2_m138 jv413 (OF2_push e35) rfl rfl rfl rfl) (by decide) (SF2_push e35) rfl ?_
    refine g_goto (t := 104) rfl ?_
    refine g_in eF2_follow_104 mx411 ?_
    cases h
    rw [k0 _ hK]
    exact g_vret rfl
theorem OF2_follow {x0 : Nat} {x1 : Int32} {hp : m_H} {x : m_H} (h : F2_follow x0 x1 hp = some x) : m_isO hp 2 x0 = true := (m_gdd h).1
theorem SF2_follow {xs : Nat → Int32} {L : Nat} {x0 : Nat} {x1 : Int32} {hp : m_H} {x : m_H} (h : F2_follow x0 x1 hp = some x) : m_Rn xs L 1 411 0 (lv_args 0 [.ref x0, .int x1]) [] hp (.inl none, x) :=
  r_lv (SF2_follow_0 x0 x1 hp (K := fun y => y = x) (fun y e => by rw [e]) (m_gdd h).2 rfl) rfl ⟨rfl, rfl, trivial⟩
-- F2_holds: LendHouse$Court.holds(II)Z
theorem eF2_holds_0 : m_Fe mi2_10 0 (m_ap [(.aload_n 0, 1)] ((.getfield 68, 3) :: ([(.ifnull 15, 3)]))) := m_Fe_of nd410 0 3 rfl
theorem eF2_holds_19 : m_Fe mi2_10 19 (m_ap [(.iconst 0, 1)] ([(.ireturn, 1)])) := m_Fe_of nd410 9 2 rfl
theorem eF2_holds_7 : m_Fe mi2_10 7 (m_ap [(.aload_n 0, 1)] ((.getfield 68, 3) :: (m_ap [(.iload_n 1, 1)] ((.invokevirtual 115, 3) :: (m_ap [(.iload_n 2, 1)] ([(.if_icmp .eq 5, 3)])))))) := m_Fe_of nd410 3 6 rfl
theorem eF2_holds_21 : m_Fe mi2_10 21 (m_ap [(.iload_n 1, 1)] ([(.ifCond .ne 7, 3)])) := m_Fe_of nd410 11 2 rfl
theorem eF2_holds_29 : m_Fe mi2_10 29 (m_ap [(.aload_n 0, 1)] ((.getfield 68, 3) :: (m_ap [(.iload_n 1, 1), (.iconst 1, 1), (.isub, 1)] ([(.invokevirtual 118, 3)])))) := m_Fe_of nd410 15 6 rfl
theorem eF2_holds_25 : m_Fe mi2_10 25 (m_ap [(.iconst 0, 1)] ([(.goto 13, 3)])) := m_Fe_of nd410 13 2 rfl
theorem eF2_holds_39 : m_Fe mi2_10 39 (m_ap [(.istore_n 3, 1), (.aload_n 0, 1)] ((.getfield 68, 3) :: (m_ap [(.iload_n 1, 1)] ((.invokevirtual 118, 3) :: (m_ap [(.aload_n 0, 1)] ((.getfield 68, 3) :: ((.getfield 121, 3) :: ((.arraylength, 1) :: ((.invokestatic 124, 3) :: (m_ap [(.istore 4, 2), (.iload_n 3, 1), (.iload 4, 2)] ([(.if_icmp .lt 5, 3)]))))))))))) := m_Fe_of nd410 21 14 rfl
theorem eF2_holds_69 : m_Fe mi2_10 69 (m_ap [(.aload_n 0, 1), (.iconst 0, 1)] ((.putfield 127, 3) :: (m_ap [(.iconst 0, 1), (.iload_n 3, 1)] ((.invokestatic 110, 3) :: (m_ap [(.istore 5, 2)] ([])))))) := m_Fe_of nd410 37 7 rfl
theorem eF2_holds_67 : m_Fe mi2_10 67 (m_ap [(.iconst 1, 1)] ([(.ireturn, 1)])) := m_Fe_of nd410 35 2 rfl
theorem eF2_holds_81 : m_Fe mi2_10 81 (m_ap [(.iload 5, 2), (.iload 4, 2)] ([(.if_icmp .ge 23, 3)])) := m_Fe_of nd410 44 3 rfl
theorem eF2_holds_108 : m_Fe mi2_10 108 (m_ap [(.aload_n 0, 1)] ((.invokevirtual 134, 3) :: (m_ap [(.lconst 0, 1), (.lcmp, 1)] ([(.ifCond .eq 7, 3)])))) := m_Fe_of nd410 56 5 rfl
theorem eF2_holds_121 : m_Fe mi2_10 121 (m_ap [(.iconst 0, 1)] ([])) := m_Fe_of nd410 63 1 rfl
theorem eF2_holds_122 : m_Fe mi2_10 122 ([(.ireturn, 1)]) := m_Fe_of nd410 64 1 rfl
theorem eF2_holds_117 : m_Fe mi2_10 117 (m_ap [(.iconst 1, 1)] ([(.goto 4, 3)])) := m_Fe_of nd410 61 2 rfl
theorem eF2_holds_88 : m_Fe mi2_10 88 (m_ap [(.aload_n 0, 1), (.aload_n 0, 1)] ((.getfield 68, 3) :: ((.getfield 121, 3) :: (m_ap [(.iload 5, 2)] ((.iaload, 1) :: ((.invokevirtual 130, 3) :: (m_ap [(.iinc 5 1, 3)] ([(.goto (-24), 3)])))))))) := m_Fe_of nd410 47 9 rfl
theorem SF2_holds_81b {xs : Nat → Int32} {L : Nat} (x0 : Nat) (x4 : Int32) (s : Int32 × m_H) {r : m_O × m_H} {K : ((Int32 × m_H) ⊕ (Int32 × m_H)) → Prop} (k0 : ∀ x, K (.inr x) → r = (.inl (some (.int x.1)), x.2)) (k1 : ∀ s, K (.inl s) → m_Rn xs L 7 410 81 [(0, .ref x0), (4, .int x4), (5, .int s.1)] [] s.2 r) {t : (Int32 × m_H) ⊕ (Int32 × m_H)} (h : F2_holds_81b x0 x4 s = some t) (hK : K t) : m_Rn xs L 7 410 81 [(0, .ref x0), (4, .int x4), (5, .int s.1)] [] s.2 r := by
  unfold F2_holds_81b at h
  refine g_in eF2_holds_81 mx410 ?_
  refine g_ch [(0, .ref x0), (4, .int x4), (5, .int s.1)] [.int x4, .int s.1] (pc' := 85) rfl rfl rfl ?_
  rcases m_ifd h with ⟨c1, h⟩ | ⟨c1, h⟩
  · refine g_if (t := 108) rfl (m_geT c1) ?_
    refine g_in eF2_holds_108 mx410 ?_
    refine g_ch [(0, .ref x0), (4, .int x4), (5, .int s.1)] [.ref x0] (pc' := 109) rfl rfl rfl ?_
    obtain ⟨z3, e2, h⟩ := m_bd h
    refine g_call (v := some (.long z3.1)) (h := z3.2) (st' := [.long z3.1]) (D1 := 0) (as := [.ref x0]) (Or.inr (Or.inl rfl)) q2_m134 (m_cv (as := []) (rest := []) (Or.inl rfl) q2_m134 jv414 (OF2_pop e2) rfl rfl rfl rfl) (by decide) (SF2_pop e2) rfl ?_
    refine g_ch [(0, .ref x0), (4, .int x4), (5, .int s.1)] [.int (lg_cmp z3.1 0)] (pc' := 114) rfl rfl rfl ?_
    rcases m_ifd h with ⟨c4, h⟩ | ⟨c4, h⟩
    · refine g_ifc (t := 121) rfl (m_eqT c4) ?_
      refine g_in eF2_holds_121 mx410 ?_
      refine g_ch [(0, .ref x0), (4, .int x4), (5, .int s.1)] [.int 0] (pc' := 122) rfl rfl rfl ?_
      refine g_end ?_
      refine g_in eF2_holds_122 mx410 ?_
      cases h
      rw [k0 _ hK]
      exact g_iret rfl (by decide +kernel)
    · refine g_ifcn (t := 121) rfl (m_eqF c4) ?_
      refine g_in eF2_holds_117 mx410 ?_
      refine g_ch [(0, .ref x0), (4, .int x4), (5, .int s.1)] [.int 1] (pc' := 118) rfl rfl rfl ?_
      refine g_goto (t := 122) rfl ?_
      refine g_in eF2_holds_122 mx410 ?_
      cases h
      rw [k0 _ hK]
      exact g_iret rfl (by decide +kernel)
  · refine g_ifn (t := 108) rfl (m_geF c1) ?_
    refine g_in eF2_holds_88 mx410 ?_
    refine g_ch [(0, .ref x0), (4, .int x4), (5, .int s.1)] [.ref x0, .ref x0] (pc' := 90) rfl rfl rfl ?_
    obtain ⟨v5, e6, h⟩ := m_bd h
    refine g_go q2_f68 e6 ?_
    obtain ⟨a7, e8, h⟩ := m_bd h
    rw [e8]
    obtain ⟨v9, e10, h⟩ := m_bd h
    refine g_gr q2_f121 e10 ?_
    refine g_ch [(0, .ref x0), (4, .int x4), (5, .int s.1)] [.int s.1, .ref v9, .ref x0] (pc' := 98) rfl rfl rfl ?_
    obtain ⟨v11, e12, h⟩ := m_bd h
    refine g_ia e12 ?_
    obtain ⟨h14, e13, h⟩ := m_bd h
    refine g_call (v := none) (h := h14) (st' := []) (D1 := 1) (as := [.ref x0, .int v11]) (Or.inr (Or.inl rfl)) q2_m130 (m_cv (as := [.int v11]) (rest := []) (Or.inl rfl) q2_m130 jv411 (OF2_follow e13) rfl rfl rfl rfl) (by decide) (SF2_follow e13) rfl ?_
    refine g_ch [(5, .int (s.1 + 1)), (0, .ref x0), (4, .int x4)] [] (pc' := 105) rfl rfl rfl ?_
    refine g_goto (t := 81) rfl ?_
    cases h
    exact r_lv (k1 ((s.1 + 1), h14) hK) rfl ⟨rfl, rfl, rfl, trivial⟩
theorem SF2_holds_81 {xs : Nat → Int32} {L : Nat} (x0 : Nat) (x4 : Int32) (x5 : Int32) (hp : m_H) {r : m_O × m_H} {K : Int32 × m_H → Prop} (k0 : ∀ x, K x → r = (.inl (some (.int x.1)), x.2)) {t : Int32 × m_H} (h : F2_holds_81 x0 x4 x5 hp = some t) (hK : K t) : m_Rn xs L 7 410 81 [(0, .ref x0), (4, .int x4), (5, .int x5)] [] hp r :=
  m_wh_ok (P := fun s => m_Rn xs L 7 410 81 [(0, .ref x0), (4, .int x4), (5, .int s.1)] [] s.2 r) (Q := K) (fun s t hb hK => SF2_holds_81b x0 x4 s (K := m_KK (fun s => m_Rn xs L 7 410 81 [(0, .ref x0), (4, .int x4), (5, .int s.1)] [] s.2 r) K) k0 (fun _ q => q) hb hK) m_N _ _ h hK
theorem SF2_holds_39 {xs : Nat → Int32} {L : Nat} (x0 : Nat) (x1 : Int32) (s0 : Int32) (hp : m_H) {r : m_O × m_H} {K : (Int32 × m_H) → Prop} (k0 : ∀ x, K x → r = (.inl (some (.int x.1)), x.2)) {t : Int32 × m_H} (h : F2_holds_39 x0 x1 s0 hp = some t) (hK : K t) : m_Rn xs L 7 410 39 [(0, .ref x0), (1, .int x1)] [.int s0] hp r := by
  unfold F2_holds_39 at h
  refine g_in eF2_holds_39 mx410 ?_
  refine g_ch [(3, .int s0), (0, .ref x0), (1, .int x1)] [.ref x0] (pc' := 41) rfl rfl rfl ?_
  obtain ⟨v1, e2, h⟩ := m_bd h
  refine g_go q2_f68 e2 ?_
  refine g_ch [(3, .int s0), (0, .ref x0), (1, .int x1)] [.int x1, va_rf v1] (pc' := 45) rfl (by cases hN0 : v1 <;> rfl) rfl ?_
  obtain ⟨a3, e4, h⟩ := m_bd h
  rw [e4]
  obtain ⟨v6, e5, h⟩ := m_bd h
  refine g_call (v := some (.int v6)) (h := hp) (st' := [.int v6]) (D1 := 0) (as := [.ref a3, .int x1]) (Or.inr (Or.inl rfl)) q2_m118 (m_cv (as := [.int x1]) (rest := []) (Or.inl rfl) q2_m118 jv3 (OF0_endOf e5) rfl rfl rfl rfl) (by decide) (SF0_endOf e5) rfl ?_
  refine g_ch [(3, .int s0), (0, .ref x0), (1, .int x1)] [.ref x0, .int v6] (pc' := 49) rfl rfl rfl ?_
  obtain ⟨v7, e8, h⟩ := m_bd h
  refine g_go q2_f68 e8 ?_
  obtain ⟨a9, e10, h⟩ := m_bd h
  rw [e10]
  obtain ⟨v11, e12, h⟩ := m_bd h
  refine g_gr q2_f121 e12 ?_
  obtain ⟨v13, e14, h⟩ := m_bd h
  refine g_len e14 ?_
  refine g_nat (Or.inl rfl) q2_m124 rfl (z := ([.int (m_min v6 v13)], hp)) rfl (by decide) ?_
  refine g_ch [(4, .int (m_min v6 v13)), (3, .int s0), (0, .ref x0), (1, .int x1)] [.int (m_min v6 v13), .int s0] (pc' := 64) rfl rfl rfl ?_
  rcases m_ifd h with ⟨c15, h⟩ | ⟨c15, h⟩
  · refine g_if (t := 69) rfl (m_ltT c15) ?_
    refine g_in eF2_holds_69 mx410 ?_
    refine g_ch [(4, .int (m_min v6 v13)), (3, .int s0), (0, .ref x0), (1, .int x1)] [.int 0, .ref x0] (pc' := 71) rfl rfl rfl ?_
    obtain ⟨h16, e17, h⟩ := m_bd h
    refine g_pf q2_f127 e17 ?_
    refine g_ch [(4, .int (m_min v6 v13)), (3, .int s0), (0, .ref x0), (1, .int x1)] [.int s0, .int 0] (pc' := 76) rfl rfl rfl ?_
    refine g_nat (Or.inl rfl) q2_m110 rfl (z := ([.int (m_max 0 s0)], h16)) rfl (by decide) ?_
    refine g_ch [(5, .int (m_max 0 s0)), (4, .int (m_min v6 v13)), (3, .int s0), (0, .ref x0), (1, .int x1)] [] (pc' := 81) rfl rfl rfl ?_
    refine g_end ?_
    exact r_lv (SF2_holds_81 x0 (m_min v6 v13) (m_max 0 s0) h16 (K := K) k0 h hK) rfl ⟨rfl, rfl, rfl, trivial⟩
  · refine g_ifn (t := 69) rfl (m_ltF c15) ?_
    refine g_in eF2_holds_67 mx410 ?_
    refine g_ch [(4, .int (m_min v6 v13)), (3, .int s0), (0, .ref x0), (1, .int x1)] [.int 1] (pc' := 68) rfl rfl rfl ?_
    cases h
    rw [k0 _ hK]
    exact g_iret rfl (by decide +kernel)
theorem SF2_holds_0 {xs : Nat → Int32} {L : Nat} (x0 : Nat) (x1 : Int32) (x2 : Int32) (hp : m_H) {r : m_O × m_H} {K : (Int32 × m_H) → Prop} (k0 : ∀ x, K x → r = (.inl (some (.int x.1)), x.2)) {t : Int32 × m_H} (h : F2_holds_0 x0 x1 x2 hp = some t) (hK : K t) : m_Rn xs L 7 410 0 [(0, .ref x0), (1, .int x1), (2, .int x2)] [] hp r := by
  unfold F2_holds_0 at h
  refine g_in eF2_holds_0 mx410 ?_
  refine g_ch [(0, .ref x0), (1, .int x1), (2, .int x2)] [.ref x0] (pc' := 1) rfl rfl rfl ?_
  obtain ⟨v1, e2, h⟩ := m_bd h
  refine g_go q2_f68 e2 ?_
  rcases m_ond h with ⟨e4, h⟩ | ⟨a3, e4, h⟩
  · rw [e4]
    refine g_nul (t := 19) rfl ?_
    refine g_in eF2_holds_19 mx410 ?_
    refine g_ch [(0, .ref x0), (1, .int x1), (2, .int x2)] [.int 0] (pc' := 20) rfl rfl rfl ?_
    cases h
    rw [k0 _ hK]
    exact g_iret rfl (by decide +kernel)
  · rw [e4]
    refine g_nuln ?_
    refine g_in eF2_holds_7 mx410 ?_
    refine g_ch [(0, .ref x0), (1, .int x1), (2, .int x2)] [.ref x0] (pc' := 8) rfl rfl rfl ?_
    obtain ⟨v5, e6, h⟩ := m_bd h
    refine g_go q2_f68 e6 ?_
    refine g_ch [(0, .ref x0), (1, .int x1), (2, .int x2)] [.int x1, va_rf v5] (pc' := 12) rfl (by cases hN0 : v5 <;> rfl) rfl ?_
    obtain ⟨a7, e8, h⟩ := m_bd h
    rw [e8]
    obtain ⟨v10, e9, h⟩ := m_bd h
    refine g_call (v := some (.int v10)) (h := hp) (st' := [.int v10]) (D1 := 0) (as := [.ref a7, .int x1]) (Or.inr (Or.inl rfl)) q2_m115 (m_cv (as := [.int x1]) (rest := []) (Or.inl rfl) q2_m115 jv1 (OF0_kindOf e9) rfl rfl rfl rfl) (by decide) (SF0_kindOf e9) rfl ?_
    refine g_ch [(0, .ref x0), (1, .int x1), (2, .int x2)] [.int x2, .int v10] (pc' := 16) rfl rfl rfl ?_
    rcases m_ifd h with ⟨c11, h⟩ | ⟨c11, h⟩
    · refine g_if (t := 21) rfl (m_eqT c11) ?_
      refine g_in eF2_holds_21 mx410 ?_
      refine g_ch [(0, .ref x0), (1, .int x1), (2, .int x2)] [.int x1] (pc' := 22) rfl rfl rfl ?_
      rcases m_ifd h with ⟨c12, h⟩ | ⟨c12, h⟩
      · refine g_ifcn (t := 29) rfl (m_neF c12) ?_
        refine g_in eF2_holds_25 mx410 ?_
        refine g_ch [(0, .ref x0), (1, .int x1), (2, .int x2)] [.int 0] (pc' := 26) rfl rfl rfl ?_
        refine g_goto (t := 39) rfl ?_
        exact r_lv (SF2_holds_39 x0 x1 0 hp (K := K) k0 h hK) rfl ⟨rfl, rfl, trivial⟩
      · refine g_ifc (t := 29) rfl (m_neT c12) ?_
        refine g_in eF2_holds_29 mx410 ?_
        refine g_ch [(0, .ref x0), (1, .int x1), (2, .int x2)] [.ref x0] (pc' := 30) rfl rfl rfl ?_
        obtain ⟨v13, e14, h⟩ := m_bd h
        refine g_go q2_f68 e14 ?_
        refine g_ch [(0, .ref x0), (1, .int x1), (2, .int x2)] [.int (x1 - 1), va_rf v13] (pc' := 36) rfl (by cases hN0 : v13 <;> rfl) rfl ?_
        obtain ⟨a15, e16, h⟩ := m_bd h
        rw [e16]
        obtain ⟨v18, e17, h⟩ := m_bd h
        refine g_call (v := some (.int v18)) (h := hp) (st' := [.int v18]) (D1 := 0) (as := [.ref a15, .int (x1 - 1)]) (Or.inr (Or.inl rfl)) q2_m118 (m_cv (as := [.int (x1 - 1)]) (rest := []) (Or.inl rfl) q2_m118 jv3 (OF0_endOf e17) rfl rfl rfl rfl) (by decide) (SF0_endOf e17) rfl ?_
        refine g_end ?_
        exact r_lv (SF2_holds_39 x0 x1 v18 hp (K := K) k0 h hK) rfl ⟨rfl, rfl, trivial⟩
    · refine g_ifn (t := 21) rfl (m_eqF c11) ?_
      refine g_in eF2_holds_19 mx410 ?_
      refine g_ch [(0, .ref x0), (1, .int x1), (2, .int x2)] [.int 0] (pc' := 20) rfl rfl rfl ?_
      cases h
      rw [k0 _ hK]
      exact g_iret rfl (by decide +kernel)
theorem OF2_holds {x0 : Nat} {x1 : Int32} {x2 : Int32} {hp : m_H} {x : Int32 × m_H} (h : F2_holds x0 x1 x2 hp = some x) : m_isO hp 2 x0 = true := (m_gdd h).1
theorem SF2_holds {xs : Nat → Int32} {L : Nat} {x0 : Nat} {x1 : Int32} {x2 : Int32} {hp : m_H} {x : Int32 × m_H} (h : F2_holds x0 x1 x2 hp = some x) : m_Rn xs L 7 410 0 (lv_args 0 [.ref x0, .int x1, .int x2]) [] hp (.inl (some (.int x.1)), x.2) :=
  r_lv (SF2_holds_0 x0 x1 x2 hp (K := fun y => y = x) (fun y e => by rw [e]) (m_gdd h).2 rfl) rfl ⟨rfl, rfl, rfl, trivial⟩
-- F2_sumOfMarks: LendHouse$Court.sumOfMarks()I
theorem eF2_sumOfMarks_0 : m_Fe mi2_8 0 (m_ap [(.aload_n 0, 1)] ((.getfield 68, 3) :: ([(.ifnonnull 7, 3)]))) := m_Fe_of nd408 0 3 rfl
theorem eF2_sumOfMarks_7 : m_Fe mi2_8 7 (m_ap [(.iconst 0, 1)] ([(.goto 10, 3)])) := m_Fe_of nd408 3 2 rfl
theorem eF2_sumOfMarks_11 : m_Fe mi2_8 11 (m_ap [(.aload_n 0, 1)] ((.getfield 68, 3) :: ([(.getfield 98, 3)]))) := m_Fe_of nd408 5 3 rfl
theorem eF2_sumOfMarks_18 : m_Fe mi2_8 18 (m_ap [(.istore_n 1, 1), (.iconst 0, 1), (.istore_n 2, 1), (.iconst 0, 1), (.istore_n 3, 1)] ([])) := m_Fe_of nd408 8 5 rfl
theorem eF2_sumOfMarks_23 : m_Fe mi2_8 23 (m_ap [(.iload_n 3, 1), (.iload_n 1, 1)] ([(.if_icmp .ge 29, 3)])) := m_Fe_of nd408 13 3 rfl
theorem eF2_sumOfMarks_54 : m_Fe mi2_8 54 (m_ap [(.iload_n 2, 1)] ([(.ireturn, 1)])) := m_Fe_of nd408 30 2 rfl
theorem eF2_sumOfMarks_28 : m_Fe mi2_8 28 (m_ap [(.aload_n 0, 1), (.iload_n 3, 1), (.iconst 1, 1)] ((.invokevirtual 103, 3) :: ([(.ifCond .eq 14, 3)]))) := m_Fe_of nd408 16 5 rfl
theorem eF2_sumOfMarks_48 : m_Fe mi2_8 48 (m_ap [(.iinc 3 1, 3)] ([(.goto (-28), 3)])) := m_Fe_of nd408 28 2 rfl
theorem eF2_sumOfMarks_37 : m_Fe mi2_8 37 (m_ap [(.iload_n 2, 1), (.aload_n 0, 1)] ((.getfield 68, 3) :: (m_ap [(.iload_n 3, 1)] ((.invokevirtual 107, 3) :: (m_ap [(.iadd, 1), (.istore_n 2, 1)] ([])))))) := m_Fe_of nd408 21 7 rfl
theorem SF2_sumOfMarks_23b {xs : Nat → Int32} {L : Nat} (x0 : Nat) (x1 : Int32) (s : Int32 × Int32 × m_H) {r : m_O × m_H} {K : ((Int32 × Int32 × m_H) ⊕ (Int32 × m_H)) → Prop} (k0 : ∀ x, K (.inr x) → r = (.inl (some (.int x.1)), x.2)) (k1 : ∀ s, K (.inl s) → m_Rn xs L 8 408 23 [(0, .ref x0), (1, .int x1), (2, .int s.1), (3, .int s.2.1)] [] s.2.2 r) {t : (Int32 × Int32 × m_H) ⊕ (Int32 × m_H)} (h : F2_sumOfMarks_23b x0 x1 s = some t) (hK : K t) : m_Rn xs L 8 408 23 [(0, .ref x0), (1, .int x1), (2, .int s.1), (3, .int s.2.1)] [] s.2.2 r := by
  unfold F2_sumOfMarks_23b at h
  refine g_in eF2_sumOfMarks_23 mx408 ?_
  refine g_ch [(0, .ref x0), (1, .int x1), (2, .int s.1), (3, .int s.2.1)] [.int x1, .int s.2.1] (pc' := 25) rfl rfl rfl ?_
  rcases m_ifd h with ⟨c1, h⟩ | ⟨c1, h⟩
  · refine g_if (t := 54) rfl (m_geT c1) ?_
    refine g_in eF2_sumOfMarks_54 mx408 ?_
    refine g_ch [(0, .ref x0), (1, .int x1), (2, .int s.1), (3, .int s.2.1)] [.int s.1] (pc' := 55) rfl rfl rfl ?_
    cases h
    rw [k0 _ hK]
    exact g_iret rfl rfl
  · refine g_ifn (t := 54) rfl (m_geF c1) ?_
    refine g_in eF2_sumOfMarks_28 mx408 ?_
    refine g_ch [(0, .ref x0), (1, .int x1), (2, .int s.1), (3, .int s.2.1)] [.int 1, .int s.2.1, .ref x0] (pc' := 31) rfl rfl rfl ?_
    obtain ⟨z3, e2, h⟩ := m_bd h
    refine g_call (v := some (.int z3.1)) (h := z3.2) (st' := [.int z3.1]) (D1 := 7) (as := [.ref x0, .int s.2.1, .int 1]) (Or.inr (Or.inl rfl)) q2_m103 (m_cv (as := [.int 1, .int s.2.1]) (rest := []) (Or.inl rfl) q2_m103 jv410 (OF2_holds e2) rfl rfl rfl rfl) (by decide) (SF2_holds e2) rfl ?_
    rcases m_ifd h with ⟨c4, h⟩ | ⟨c4, h⟩
    · refine g_ifc (t := 48) rfl (m_eqT c4) ?_
      refine g_in eF2_sumOfMarks_48 mx408 ?_
      refine g_ch [(3, .int (s.2.1 + 1)), (0, .ref x0), (1, .int x1), (2, .int s.1)] [] (pc' := 51) rfl rfl rfl ?_
      refine g_goto (t := 23) rfl ?_
      cases h
      exact r_lv (k1 (s.1, (s.2.1 + 1), z3.2) hK) rfl ⟨rfl, rfl, rfl, rfl, trivial⟩
    · refine g_ifcn (t := 48) rfl (m_eqF c4) ?_
      refine g_in eF2_sumOfMarks_37 mx408 ?_
      refine g_ch [(0, .ref x0), (1, .int x1), (2, .int s.1), (3, .int s.2.1)] [.ref x0, .int s.1] (pc' := 39) rfl rfl rfl ?_
      obtain ⟨v5, e6, h⟩ := m_bd h
      refine g_go q2_f68 e6 ?_
      refine g_ch [(0, .ref x0), (1, .int x1), (2, .int s.1), (3, .int s.2.1)] [.int s.2.1, va_rf v5, .int s.1] (pc' := 43) rfl (by cases hN0 : v5 <;> rfl) rfl ?_
      obtain ⟨a7, e8, h⟩ := m_bd h
      rw [e8]
      obtain ⟨v10, e9, h⟩ := m_bd h
      refine g_call (v := some (.int v10)) (h := z3.2) (st' := [.int v10, .int s.1]) (D1 := 0) (as := [.ref a7, .int s.2.1]) (Or.inr (Or.inl rfl)) q2_m107 (m_cv (as := [.int s.2.1]) (rest := [.int s.1]) (Or.inl rfl) q2_m107 jv2 (OF0_numberOf e9) rfl rfl rfl rfl) (by decide) (SF0_numberOf e9) rfl ?_
      refine g_ch [(2, .int (s.1 + v10)), (0, .ref x0), (1, .int x1), (3, .int s.2.1)] [] (pc' := 48) rfl rfl rfl ?_
      refine g_end ?_
      refine g_in eF2_sumOfMarks_48 mx408 ?_
      refine g_ch [(3, .int (s.2.1 + 1)), (2, .int (s.1 + v10)), (0, .ref x0), (1, .int x1)] [] (pc' := 51) rfl rfl rfl ?_
      refine g_goto (t := 23) rfl ?_
      cases h
      exact r_lv (k1 ((s.1 + v10), (s.2.1 + 1), z3.2) hK) rfl ⟨rfl, rfl, rfl, rfl, trivial⟩
theorem SF2_sumOfMarks_23 {xs : Nat → Int32} {L : Nat} (x0 : Nat) (x1 : Int32) (x2 : Int32) (x3 : Int32) (hp : m_H) {r : m_O × m_H} {K : Int32 × m_H → Prop} (k0 : ∀ x, K x → r = (.inl (some (.int x.1)), x.2)) {t : Int32 × m_H} (h : F2_sumOfMarks_23 x0 x1 x2 x3 hp = some t) (hK : K t) : m_Rn xs L 8 408 23 [(0, .ref x0), (1, .int x1), (2, .int x2), (3, .int x3)] [] hp r :=
  m_wh_ok (P := fun s => m_Rn xs L 8 408 23 [(0, .ref x0), (1, .int x1), (2, .int s.1), (3, .int s.2.1)] [] s.2.2 r) (Q := K) (fun s t hb hK => SF2_sumOfMarks_23b x0 x1 s (K := m_KK (fun s => m_Rn xs L 8 408 23 [(0, .ref x0), (1, .int x1), (2, .int s.1), (3, .int s.2.1)] [] s.2.2 r) K) k0 (fun _ q => q) hb hK) m_N _ _ h hK
theorem SF2_sumOfMarks_18 {xs : Nat → Int32} {L : Nat} (x0 : Nat) (s0 : Int32) (hp : m_H) {r : m_O × m_H} {K : (Int32 × m_H) → Prop} (k0 : ∀ x, K x → r = (.inl (some (.int x.1)), x.2)) {t : Int32 × m_H} (h : F2_sumOfMarks_18 x0 s0 hp = some t) (hK : K t) : m_Rn xs L 8 408 18 [(0, .ref x0)] [.int s0] hp r := by
  unfold F2_sumOfMarks_18 at h
  refine g_in eF2_sumOfMarks_18 mx408 ?_
  refine g_ch [(3, .int 0), (2, .int 0), (1, .int s0), (0, .ref x0)] [] (pc' := 23) rfl rfl rfl ?_
  refine g_end ?_
  exact r_lv (SF2_sumOfMarks_23 x0 s0 0 0 hp (K := K) k0 h hK) rfl ⟨rfl, rfl, rfl, rfl, trivial⟩
theorem SF2_sumOfMarks_0 {xs : Nat → Int32} {L : Nat} (x0 : Nat) (hp : m_H) {r : m_O × m_H} {K : (Int32 × m_H) → Prop} (k0 : ∀ x, K x → r = (.inl (some (.int x.1)), x.2)) {t : Int32 × m_H} (h : F2_sumOfMarks_0 x0 hp = some t) (hK : K t) : m_Rn xs L 8 408 0 [(0, .ref x0)] [] hp r := by
  unfold F2_sumOfMarks_0 at h
  refine g_in eF2_sumOfMarks_0 mx408 ?_
  refine g_ch [(0, .ref x0)] [.ref x0] (pc' := 1) rfl rfl rfl ?_
  obtain ⟨v1, e2, h⟩ := m_bd h
  refine g_go q2_f68 e2 ?_
  rcases m_ond h with ⟨e4, h⟩ | ⟨a3, e4, h⟩
  · rw [e4]
    refine g_nnln ?_
    refine g_in eF2_sumOfMarks_7 mx408 ?_
    refine g_ch [(0, .ref x0)] [.int 0] (pc' := 8) rfl rfl rfl ?_
    refine g_goto (t := 18) rfl ?_
    exact r_lv (SF2_sumOfMarks_18 x0 0 hp (K := K) k0 h hK) rfl ⟨rfl, trivial⟩
  · rw [e4]
    refine g_nnl (t := 11) rfl ?_
    refine g_in eF2_sumOfMarks_11 mx408 ?_
    refine g_ch [(0, .ref x0)] [.ref x0] (pc' := 12) rfl rfl rfl ?_
    obtain ⟨v5, e6, h⟩ := m_bd h
    refine g_go q2_f68 e6 ?_
    obtain ⟨a7, e8, h⟩ := m_bd h
    rw [e8]
    obtain ⟨v9, e10, h⟩ := m_bd h
    refine g_gi q2_f98 e10 ?_
    refine g_end ?_
    exact r_lv (SF2_sumOfMarks_18 x0 v9 hp (K := K) k0 h hK) rfl ⟨rfl, trivial⟩
theorem OF2_sumOfMarks {x0 : Nat} {hp : m_H} {x : Int32 × m_H} (h : F2_sumOfMarks x0 hp = some x) : m_isO hp 2 x0 = true := (m_gdd h).1
theorem SF2_sumOfMarks {xs : Nat → Int32} {L : Nat} {x0 : Nat} {hp : m_H} {x : Int32 × m_H} (h : F2_sumOfMarks x0 hp = some x) : m_Rn xs L 8 408 0 (lv_args 0 [.ref x0]) [] hp (.inl (some (.int x.1)), x.2) :=
  r_lv (SF2_sumOfMarks_0 x0 hp (K := fun y => y = x) (fun y e => by rw [e]) (m_gdd h).2 rfl) rfl ⟨rfl, trivial⟩
-- F2_call: LendHouse$Court.call(LLendHouse$House;I)V
theorem eF2_call_0 : m_Fe mi2_1 0 (m_ap [(.iconst 0, 1), (.istore_n 3, 1)] ([])) := m_Fe_of nd401 0 2 rfl
theorem eF2_call_2 : m_Fe mi2_1 2 (m_ap [(.iload_n 3, 1), (.aload_n 0, 1)] ((.getfield 11, 3) :: ((.arraylength, 1) :: ([(.if_icmp .ge 95, 3)])))) := m_Fe_of nd401 2 5 rfl
theorem eF2_call_103 : m_Fe mi2_1 103 ([(.return_, 1)]) := m_Fe_of nd401 57 1 rfl
theorem eF2_call_11 : m_Fe mi2_1 11 (m_ap [(.iload_n 3, 1), (.aload_n 0, 1)] ((.getfield 17, 3) :: ((.arraylength, 1) :: ([(.if_icmp .ge 86, 3)])))) := m_Fe_of nd401 7 5 rfl
theorem eF2_call_20 : m_Fe mi2_1 20 (m_ap [(.aload_n 0, 1)] ((.getfield 17, 3) :: (m_ap [(.iload_n 3, 1), (.aload_n 1, 1)] ((.getfield 30, 3) :: (m_ap [(.iload_n 3, 1)] ((.invokevirtual 34, 3) :: ([(.ifCond .eq 28, 3)]))))))) := m_Fe_of nd401 12 8 rfl
theorem eF2_call_36 : m_Fe mi2_1 36 (m_ap [(.aload_n 1, 1), (.iload_n 3, 1)] ((.invokevirtual 40, 3) :: ([(.ifCond .le 20, 3)]))) := m_Fe_of nd401 20 4 rfl
theorem eF2_call_44 : m_Fe mi2_1 44 (m_ap [(.aload_n 1, 1)] ((.getfield 30, 3) :: (m_ap [(.iload_n 3, 1), (.iconst 1, 1)] ((.invokevirtual 44, 3) :: (m_ap [(.iload_n 2, 1)] ([(.if_icmp .ne 7, 3)])))))) := m_Fe_of nd401 24 7 rfl
theorem eF2_call_57 : m_Fe mi2_1 57 (m_ap [(.iconst 1, 1)] ([(.goto 4, 3)])) := m_Fe_of nd401 31 2 rfl
theorem eF2_call_61 : m_Fe mi2_1 61 (m_ap [(.iconst 0, 1)] ([])) := m_Fe_of nd401 33 1 rfl
theorem eF2_call_62 : m_Fe mi2_1 62 ((.bastore, 1) :: (m_ap [(.aload_n 0, 1)] ((.getfield 17, 3) :: (m_ap [(.iload_n 3, 1)] ((.baload, 1) :: ([(.ifCond .eq 28, 3)])))))) := m_Fe_of nd401 34 6 rfl
theorem eF2_call_97 : m_Fe mi2_1 97 (m_ap [(.iinc 3 1, 3)] ([(.goto (-98), 3)])) := m_Fe_of nd401 55 2 rfl
theorem eF2_call_72 : m_Fe mi2_1 72 (m_ap [(.aload_n 0, 1), (.aload_n 1, 1), (.iload_n 3, 1), (.aload_n 1, 1)] ((.getfield 30, 3) :: (m_ap [(.iload_n 3, 1), (.iconst 2, 1)] ((.invokevirtual 44, 3) :: ((.invokevirtual 48, 3) :: (m_ap [(.aload_n 0, 1)] ((.getfield 11, 3) :: (m_ap [(.iload_n 3, 1), (.aload_n 0, 1)] ((.invokevirtual 52, 3) :: ([(.iastore, 1)])))))))))) := m_Fe_of nd401 40 15 rfl
theorem SF2_call_62 {xs : Nat → Int32} {L : Nat} (x0 : Nat) (x1 : Nat) (x2 : Int32) (x3 : Int32) (s0 : Int32) (s1 : Int32) (s2 : Nat) (hp : m_H) {r : m_O × m_H} {K : ((Int32 × m_H) ⊕ m_H) → Prop} (k0 : ∀ x, K (.inr x) → r = (.inl none, x)) (k1 : ∀ s, K (.inl s) → m_Rn xs L 9 401 2 [(0, .ref x0), (1, .ref x1), (2, .int x2), (3, .int s.1)] [] s.2 r) {t : (Int32 × m_H) ⊕ m_H} (h : F2_call_62 x0 x1 x2 x3 s0 s1 s2 hp = some t) (hK : K t) : m_Rn xs L 9 401 62 [(0, .ref x0), (1, .ref x1), (2, .int x2), (3, .int x3)] [.int s0, .int s1, .ref s2] hp r := by
  unfold F2_call_62 at h
  refine g_in eF2_call_62 mx401 ?_
  obtain ⟨h1, e2, h⟩ := m_bd h
  refine g_bs3 e2 ?_
  refine g_ch [(0, .ref x0), (1, .ref x1), (2, .int x2), (3, .int x3)] [.ref x0] (pc' := 64) rfl rfl rfl ?_
  obtain ⟨v3, e4, h⟩ := m_bd h
  refine g_gr q2_f17 e4 ?_
  refine g_ch [(0, .ref x0), (1, .ref x1), (2, .int x2), (3, .int x3)] [.int x3, .ref v3] (pc' := 68) rfl rfl rfl ?_
  obtain ⟨v5, e6, h⟩ := m_bd h
  refine g_ba3 e6 ?_
  rcases m_ifd h with ⟨c7, h⟩ | ⟨c7, h⟩
  · refine g_ifc (t := 97) rfl (m_eqT c7) ?_
    refine g_in eF2_call_97 mx401 ?_
    refine g_ch [(3, .int (x3 + 1)), (0, .ref x0), (1, .ref x1), (2, .int x2)] [] (pc' := 100) rfl rfl rfl ?_
    refine g_goto (t := 2) rfl ?_
    cases h
    exact r_lv (k1 ((x3 + 1), h1) hK) rfl ⟨rfl, rfl, rfl, rfl, trivial⟩
  · refine g_ifcn (t := 97) rfl (m_eqF c7) ?_
    refine g_in eF2_call_72 mx401 ?_
    refine g_ch [(0, .ref x0), (1, .ref x1), (2, .int x2), (3, .int x3)] [.ref x1, .int x3, .ref x1, .ref x0] (pc' := 76) rfl rfl rfl ?_
    obtain ⟨v8, e9, h⟩ := m_bd h
    refine g_gr q2_f30 e9 ?_
    refine g_ch [(0, .ref x0), (1, .ref x1), (2, .int x2), (3, .int x3)] [.int 2, .int x3, .ref v8, .int x3, .ref x1, .ref x0] (pc' := 81) rfl rfl rfl ?_
    obtain ⟨v11, e10, h⟩ := m_bd h
    refine g_call (v := some (.int v11)) (h := h1) (st' := [.int v11, .int x3, .ref x1, .ref x0]) (D1 := 1) (as := [.ref v8, .int x3, .int 2]) (Or.inr (Or.inl rfl)) q2_m44 (m_cv (as := [.int 2, .int x3]) (rest := [.int x3, .ref x1, .ref x0]) (Or.inl rfl) q2_m44 jv1604 (OF8_get e10) rfl rfl rfl rfl) (by decide) (SF8_get e10) rfl ?_
    obtain ⟨h13, e12, h⟩ := m_bd h
    refine g_call (v := none) (h := h13) (st' := []) (D1 := 5) (as := [.ref x0, .ref x1, .int x3, .int v11]) (Or.inr (Or.inl rfl)) q2_m48 (m_cv (as := [.int v11, .int x3, .ref x1]) (rest := []) (Or.inl rfl) q2_m48 jv404 (OF2_hear e12) rfl rfl rfl rfl) (by decide) (SF2_hear e12) rfl ?_
    refine g_ch [(0, .ref x0), (1, .ref x1), (2, .int x2), (3, .int x3)] [.ref x0] (pc' := 88) rfl rfl rfl ?_
    obtain ⟨v14, e15, h⟩ := m_bd h
    refine g_gr q2_f11 e15 ?_
    refine g_ch [(0, .ref x0), (1, .ref x1), (2, .int x2), (3, .int x3)] [.ref x0, .int x3, .ref v14] (pc' := 93) rfl rfl rfl ?_
    obtain ⟨z17, e16, h⟩ := m_bd h
    refine g_call (v := some (.int z17.1)) (h := z17.2) (st' := [.int z17.1, .int x3, .ref v14]) (D1 := 8) (as := [.ref x0]) (Or.inr (Or.inl rfl)) q2_m52 (m_cv (as := []) (rest := [.int x3, .ref v14]) (Or.inl rfl) q2_m52 jv408 (OF2_sumOfMarks e16) rfl rfl rfl rfl) (by decide) (SF2_sumOfMarks e16) rfl ?_
    obtain ⟨h18, e19, h⟩ := m_bd h
    refine g_is e19 ?_
    refine g_end ?_
    refine g_in eF2_call_97 mx401 ?_
    refine g_ch [(3, .int (x3 + 1)), (0, .ref x0), (1, .ref x1), (2, .int x2)] [] (pc' := 100) rfl rfl rfl ?_
    refine g_goto (t := 2) rfl ?_
    cases h
    exact r_lv (k1 ((x3 + 1), h18) hK) rfl ⟨rfl, rfl, rfl, rfl, trivial⟩
theorem SF2_call_61 {xs : Nat → Int32} {L : Nat} (x0 : Nat) (x1 : Nat) (x2 : Int32) (x3 : Int32) (s0 : Int32) (s1 : Nat) (hp : m_H) {r : m_O × m_H} {K : ((Int32 × m_H) ⊕ m_H) → Prop} (k0 : ∀ x, K (.inr x) → r = (.inl none, x)) (k1 : ∀ s, K (.inl s) → m_Rn xs L 9 401 2 [(0, .ref x0), (1, .ref x1), (2, .int x2), (3, .int s.1)] [] s.2 r) {t : (Int32 × m_H) ⊕ m_H} (h : F2_call_61 x0 x1 x2 x3 s0 s1 hp = some t) (hK : K t) : m_Rn xs L 9 401 61 [(0, .ref x0), (1, .ref x1), (2, .int x2), (3, .int x3)] [.int s0, .ref s1] hp r := by
  unfold F2_call_61 at h
  refine g_in eF2_call_61 mx401 ?_
  refine g_ch [(0, .ref x0), (1, .ref x1), (2, .int x2), (3, .int x3)] [.int 0, .int s0, .ref s1] (pc' := 62) rfl rfl rfl ?_
  refine g_end ?_
  exact r_lv (SF2_call_62 x0 x1 x2 x3 0 s0 s1 hp (K := K) k0 k1 h hK) rfl ⟨rfl, rfl, rfl, rfl, trivial⟩
theorem SF2_call_2b {xs : Nat → Int32} {L : Nat} (x0 : Nat) (x1 : Nat) (x2 : Int32) (s : Int32 × m_H) {r : m_O × m_H} {K : ((Int32 × m_H) ⊕ m_H) → Prop} (k0 : ∀ x, K (.inr x) → r = (.inl none, x)) (k1 : ∀ s, K (.inl s) → m_Rn xs L 9 401 2 [(0, .ref x0), (1, .ref x1), (2, .int x2), (3, .int s.1)] [] s.2 r) {t : (Int32 × m_H) ⊕ m_H} (h : F2_call_2b x0 x1 x2 s = some t) (hK : K t) : m_Rn xs L 9 401 2 [(0, .ref x0), (1, .ref x1), (2, .int x2), (3, .int s.1)] [] s.2 r := by
  unfold F2_call_2b at h
  refine g_in eF2_call_2 mx401 ?_
  refine g_ch [(0, .ref x0), (1, .ref x1), (2, .int x2), (3, .int s.1)] [.ref x0, .int s.1] (pc' := 4) rfl rfl rfl ?_
  obtain ⟨v1, e2, h⟩ := m_bd h
  refine g_gr q2_f11 e2 ?_
  obtain ⟨v3, e4, h⟩ := m_bd h
  refine g_len e4 ?_
  rcases m_ifd h with ⟨c5, h⟩ | ⟨c5, h⟩
  · refine g_if (t := 103) rfl (m_geT c5) ?_
    refine g_in eF2_call_103 mx401 ?_
    cases h
    rw [k0 _ hK]
    exact g_vret rfl
  · refine g_ifn (t := 103) rfl (m_geF c5) ?_
    refine g_in eF2_call_11 mx401 ?_
    refine g_ch [(0, .ref x0), (1, .ref x1), (2, .int x2), (3, .int s.1)] [.ref x0, .int s.1] (pc' := 13) rfl rfl rfl ?_
    obtain ⟨v6, e7, h⟩ := m_bd h
    refine g_gr q2_f17 e7 ?_
    obtain ⟨v8, e9, h⟩ := m_bd h
    refine g_len e9 ?_
    rcases m_ifd h with ⟨c10, h⟩ | ⟨c10, h⟩
    · refine g_if (t := 103) rfl (m_geT c10) ?_
      refine g_in eF2_call_103 mx401 ?_
      cases h
      rw [k0 _ hK]
      exact g_vret rfl
    · refine g_ifn (t := 103) rfl (m_geF c10) ?_
      refine g_in eF2_call_20 mx401 ?_
      refine g_ch [(0, .ref x0), (1, .ref x1), (2, .int x2), (3, .int s.1)] [.ref x0] (pc' := 21) rfl rfl rfl ?_
      obtain ⟨v11, e12, h⟩ := m_bd h
      refine g_gr q2_f17 e12 ?_
      refine g_ch [(0, .ref x0), (1, .ref x1), (2, .int x2), (3, .int s.1)] [.ref x1, .int s.1, .ref v11] (pc' := 26) rfl rfl rfl ?_
      obtain ⟨v13, e14, h⟩ := m_bd h
      refine g_gr q2_f30 e14 ?_
      refine g_ch [(0, .ref x0), (1, .ref x1), (2, .int x2), (3, .int s.1)] [.int s.1, .ref v13, .int s.1, .ref v11] (pc' := 30) rfl rfl rfl ?_
      obtain ⟨v16, e15, h⟩ := m_bd h
      refine g_call (v := some (.int v16)) (h := s.2) (st' := [.int v16, .int s.1, .ref v11]) (D1 := 0) (as := [.ref v13, .int s.1]) (Or.inr (Or.inl rfl)) q2_m34 (m_cv (as := [.int s.1]) (rest := [.int s.1, .ref v11]) (Or.inl rfl) q2_m34 jv1601 (OF8_has e15) rfl rfl rfl rfl) (by decide) (SF8_has e15) rfl ?_
      rcases m_ifd h with ⟨c17, h⟩ | ⟨c17, h⟩
      · refine g_ifc (t := 61) rfl (m_eqT c17) ?_
        exact r_lv (SF2_call_61 x0 x1 x2 s.1 s.1 v11 s.2 (K := K) k0 k1 h hK) rfl ⟨rfl, rfl, rfl, rfl, trivial⟩
      · refine g_ifcn (t := 61) rfl (m_eqF c17) ?_
        refine g_in eF2_call_36 mx401 ?_
        refine g_ch [(0, .ref x0), (1, .ref x1), (2, .int x2), (3, .int s.1)] [.int s.1, .ref x1, .int s.1, .ref v11] (pc' := 38) rfl rfl rfl ?_
        obtain ⟨v19, e18, h⟩ := m_bd h
        refine g_call (v := some (.int v19)) (h := s.2) (st' := [.int v19, .int s.1, .ref v11]) (D1 := 2) (as := [.ref x1, .int s.1]) (Or.inr (Or.inl rfl)) q2_m40 (m_cv (as := [.int s.1]) (rest := [.int s.1, .ref v11]) (Or.inl rfl) q2_m40 jv625 (OF3_lackOf e18) rfl rfl rfl rfl) (by decide) (SF3_lackOf e18) rfl ?_
        rcases m_ifd h with ⟨c20, h⟩ | ⟨c20, h⟩
        · refine g_ifc (t := 61) rfl (m_leT c20) ?_
          exact r_lv (SF2_call_61 x0 x1 x2 s.1 s.1 v11 s.2 (K := K) k0 k1 h hK) rfl ⟨rfl, rfl, rfl, rfl, trivial⟩
        · refine g_ifcn (t := 61) rfl (m_leF c20) ?_
          refine g_in eF2_call_44 mx401 ?_
          refine g_ch [(0, .ref x0), (1, .ref x1), (2, .int x2), (3, .int s.1)] [.ref x1, .int s.1, .ref v11] (pc' := 45) rfl rfl rfl ?_
          obtain ⟨v21, e22, h⟩ := m_bd h
          refine g_gr q2_f30 e22 ?_
          refine g_ch [(0, .ref x0), (1, .ref x1), (2, .int x2), (3, .int s.1)] [.int 1, .int s.1, .ref v21, .int s.1, .ref v11] (pc' := 50) rfl rfl rfl ?_
          obtain ⟨v24, e23, h⟩ := m_bd h
          refine g_call (v := some (.int v24)) (h := s.2) (st' := [.int v24, .int s.1, .ref v11]) (D1 := 1) (as := [.ref v21, .int s.1, .int 1]) (Or.inr (Or.inl rfl)) q2_m44 (m_cv (as := [.int 1, .int s.1]) (rest := [.int s.1, .ref v11]) (Or.inl rfl) q2_m44 jv1604 (OF8_get e23) rfl rfl rfl rfl) (by decide) (SF8_get e23) rfl ?_
          refine g_ch [(0, .ref x0), (1, .ref x1), (2, .int x2), (3, .int s.1)] [.int x2, .int v24, .int s.1, .ref v11] (pc' := 54) rfl rfl rfl ?_
          rcases m_ifd h with ⟨c25, h⟩ | ⟨c25, h⟩
          · refine g_ifn (t := 61) rfl (m_neF c25) ?_
            refine g_in eF2_call_57 mx401 ?_
            refine g_ch [(0, .ref x0), (1, .ref x1), (2, .int x2), (3, .int s.1)] [.int 1, .int s.1, .ref v11] (pc' := 58) rfl rfl rfl ?_
            refine g_goto (t := 62) rfl ?_
            exact r_lv (SF2_call_62 x0 x1 x2 s.1 1 s.1 v11 s.2 (K := K) k0 k1 h hK) rfl ⟨rfl, rfl, rfl, rfl, trivial⟩
          · refine g_if (t := 61) rfl (m_neT c25) ?_
            exact r_lv (SF2_call_61 x0 x1 x2 s.1 s.1 v11 s.2 (K := K) k0 k1 h hK) rfl ⟨rfl, rfl, rfl, rfl, trivial⟩
theorem SF2_call_2 {xs : Nat → Int32} {L : Nat} (x0 : Nat) (x1 : Nat) (x2 : Int32) (x3 : Int32) (hp : m_H) {r : m_O × m_H} {K : m_H → Prop} (k0 : ∀ x, K x → r = (.inl none, x)) {t : m_H} (h : F2_call_2 x0 x1 x2 x3 hp = some t) (hK : K t) : m_Rn xs L 9 401 2 [(0, .ref x0), (1, .ref x1), (2, .int x2), (3, .int x3)] [] hp r :=
  m_wh_ok (P := fun s => m_Rn xs L 9 401 2 [(0, .ref x0), (1, .ref x1), (2, .int x2), (3, .int s.1)] [] s.2 r) (Q := K) (fun s t hb hK => SF2_call_2b x0 x1 x2 s (K := m_KK (fun s => m_Rn xs L 9 401 2 [(0, .ref x0), (1, .ref x1), (2, .int x2), (3, .int s.1)] [] s.2 r) K) k0 (fun _ q => q) hb hK) m_N _ _ h hK
theorem SF2_call_0 {xs : Nat → Int32} {L : Nat} (x0 : Nat) (x1 : Nat) (x2 : Int32) (hp : m_H) {r : m_O × m_H} {K : m_H → Prop} (k0 : ∀ x, K x → r = (.inl none, x)) {t : m_H} (h : F2_call_0 x0 x1 x2 hp = some t) (hK : K t) : m_Rn xs L 9 401 0 [(0, .ref x0), (1, .ref x1), (2, .int x2)] [] hp r := by
  unfold F2_call_0 at h
  refine g_in eF2_call_0 mx401 ?_
  refine g_ch [(3, .int 0), (0, .ref x0), (1, .ref x1), (2, .int x2)] [] (pc' := 2) rfl rfl rfl ?_
  refine g_end ?_
  exact r_lv (SF2_call_2 x0 x1 x2 0 hp (K := K) k0 h hK) rfl ⟨rfl, rfl, rfl, rfl, trivial⟩
theorem OF2_call {x0 : Nat} {x1 : Nat} {x2 : Int32} {hp : m_H} {x : m_H} (h : F2_call x0 x1 x2 hp = some x) : m_isO hp 2 x0 = true := (m_gdd h).1
theorem SF2_call {xs : Nat → Int32} {L : Nat} {x0 : Nat} {x1 : Nat} {x2 : Int32} {hp : m_H} {x : m_H} (h : F2_call x0 x1 x2 hp = some x) : m_Rn xs L 9 401 0 (lv_args 0 [.ref x0, .ref x1, .int x2]) [] hp (.inl none, x) :=
  r_lv (SF2_call_0 x0 x1 x2 hp (K := fun y => y = x) (fun y e => by rw [e]) (m_gdd h).2 rfl) rfl ⟨rfl, rfl, rfl, trivial⟩
-- F2_isAhead: LendHouse$Court.isAhead(LLendHouse$House;II)Z
theorem eF2_isAhead_0 : m_Fe mi2_3 0 (m_ap [(.iload_n 2, 1)] ([(.ifCond .lt 25, 3)])) := m_Fe_of nd403 0 2 rfl
theorem eF2_isAhead_26 : m_Fe mi2_3 26 (m_ap [(.iconst 0, 1)] ([(.ireturn, 1)])) := m_Fe_of nd403 14 2 rfl
theorem eF2_isAhead_4 : m_Fe mi2_3 4 (m_ap [(.iload_n 2, 1), (.aload_n 0, 1)] ((.getfield 11, 3) :: ((.arraylength, 1) :: ([(.if_icmp .ge 16, 3)])))) := m_Fe_of nd403 2 5 rfl
theorem eF2_isAhead_13 : m_Fe mi2_3 13 (m_ap [(.iload_n 3, 1)] ([(.ifCond .lt 12, 3)])) := m_Fe_of nd403 7 2 rfl
theorem eF2_isAhead_17 : m_Fe mi2_3 17 (m_ap [(.iload_n 3, 1), (.aload_n 0, 1)] ((.getfield 11, 3) :: ((.arraylength, 1) :: ([(.if_icmp .lt 5, 3)])))) := m_Fe_of nd403 9 5 rfl
theorem eF2_isAhead_28 : m_Fe mi2_3 28 (m_ap [(.aload_n 0, 1)] ((.getfield 11, 3) :: (m_ap [(.iload_n 2, 1)] ((.iaload, 1) :: (m_ap [(.aload_n 0, 1)] ((.getfield 11, 3) :: (m_ap [(.iload_n 3, 1)] ((.iaload, 1) :: ([(.if_icmp .eq 24, 3)]))))))))) := m_Fe_of nd403 16 9 rfl
theorem eF2_isAhead_64 : m_Fe mi2_3 64 (m_ap [(.aload_n 1, 1)] ((.getfield 30, 3) :: (m_ap [(.iload_n 2, 1), (.iconst 3, 1)] ((.invokevirtual 44, 3) :: (m_ap [(.aload_n 1, 1)] ((.getfield 30, 3) :: (m_ap [(.iload_n 3, 1), (.iconst 3, 1)] ((.invokevirtual 44, 3) :: ([(.if_icmp .ge 7, 3)]))))))))) := m_Fe_of nd403 38 11 rfl
theorem eF2_isAhead_89 : m_Fe mi2_3 89 (m_ap [(.iconst 0, 1)] ([])) := m_Fe_of nd403 51 1 rfl
theorem eF2_isAhead_90 : m_Fe mi2_3 90 ([(.ireturn, 1)]) := m_Fe_of nd403 52 1 rfl
theorem eF2_isAhead_85 : m_Fe mi2_3 85 (m_ap [(.iconst 1, 1)] ([(.goto 4, 3)])) := m_Fe_of nd403 49 2 rfl
theorem eF2_isAhead_43 : m_Fe mi2_3 43 (m_ap [(.aload_n 0, 1)] ((.getfield 11, 3) :: (m_ap [(.iload_n 2, 1)] ((.iaload, 1) :: (m_ap [(.aload_n 0, 1)] ((.getfield 11, 3) :: (m_ap [(.iload_n 3, 1)] ((.iaload, 1) :: ([(.if_icmp .le 7, 3)]))))))))) := m_Fe_of nd403 25 9 rfl
theorem eF2_isAhead_62 : m_Fe mi2_3 62 (m_ap [(.iconst 0, 1)] ([])) := m_Fe_of nd403 36 1 rfl
theorem eF2_isAhead_63 : m_Fe mi2_3 63 ([(.ireturn, 1)]) := m_Fe_of nd403 37 1 rfl
theorem eF2_isAhead_58 : m_Fe mi2_3 58 (m_ap [(.iconst 1, 1)] ([(.goto 4, 3)])) := m_Fe_of nd403 34 2 rfl
theorem SF2_isAhead_0 {xs : Nat → Int32} {L : Nat} (x0 : Nat) (x1 : Nat) (x2 : Int32) (x3 : Int32) (hp : m_H) {r : m_O × m_H} {K : Int32 → Prop} (k0 : ∀ x, K x → r = (.inl (some (.int x)), hp)) {t : Int32} (h : F2_isAhead_0 x0 x1 x2 x3 hp = some t) (hK : K t) : m_Rn xs L 2 403 0 [(0, .ref x0), (1, .ref x1), (2, .int x2), (3, .int x3)] [] hp r := by
  unfold F2_isAhead_0 at h
  refine g_in eF2_isAhead_0 mx403 ?_
  refine g_ch [(0, .ref x0), (1, .ref x1), (2, .int x2), (3, .int x3)] [.int x2] (pc' := 1) rfl rfl rfl ?_
  rcases m_ifd h with ⟨c1, h⟩ | ⟨c1, h⟩
  · refine g_ifc (t := 26) rfl (m_ltT c1) ?_
    refine g_in eF2_isAhead_26 mx403 ?_
    refine g_ch [(0, .ref x0), (1, .ref x1), (2, .int x2), (3, .int x3)] [.int 0] (pc' := 27) rfl rfl rfl ?_
    cases h
    rw [k0 _ hK]
    exact g_iret rfl (by decide +kernel)
  · refine g_ifcn (t := 26) rfl (m_ltF c1) ?_
    refine g_in eF2_isAhead_4 mx403 ?_
    refine g_ch [(0, .ref x0), (1, .ref x1), (2, .int x2), (3, .int x3)] [.ref x0, .int x2] (pc' := 6) rfl rfl rfl ?_
    obtain ⟨v2, e3, h⟩ := m_bd h
    refine g_gr q2_f11 e3 ?_
    obtain ⟨v4, e5, h⟩ := m_bd h
    refine g_len e5 ?_
    rcases m_ifd h with ⟨c6, h⟩ | ⟨c6, h⟩
    · refine g_if (t := 26) rfl (m_geT c6) ?_
      refine g_in eF2_isAhead_26 mx403 ?_
      refine g_ch [(0, .ref x0), (1, .ref x1), (2, .int x2), (3, .int x3)] [.int 0] (pc' := 27) rfl rfl rfl ?_
      cases h
      rw [k0 _ hK]
      exact g_iret rfl (by decide +kernel)
    · refine g_ifn (t := 26) rfl (m_geF c6) ?_
      refine g_in eF2_isAhead_13 mx403 ?_
      refine g_ch [(0, .ref x0), (1, .ref x1), (2, .int x2), (3, .int x3)] [.int x3] (pc' := 14) rfl rfl rfl ?_
      rcases m_ifd h with ⟨c7, h⟩ | ⟨c7, h⟩
      · refine g_ifc (t := 26) rfl (m_ltT c7) ?_
        refine g_in eF2_isAhead_26 mx403 ?_
        refine g_ch [(0, .ref x0), (1, .ref x1), (2, .int x2), (3, .int x3)] [.int 0] (pc' := 27) rfl rfl rfl ?_
        cases h
        rw [k0 _ hK]
        exact g_iret rfl (by decide +kernel)
      · refine g_ifcn (t := 26) rfl (m_ltF c7) ?_
        refine g_in eF2_isAhead_17 mx403 ?_
        refine g_ch [(0, .ref x0), (1, .ref x1), (2, .int x2), (3, .int x3)] [.ref x0, .int x3] (pc' := 19) rfl rfl rfl ?_
        obtain ⟨v8, e9, h⟩ := m_bd h
        refine g_gr q2_f11 e9 ?_
        obtain ⟨v10, e11, h⟩ := m_bd h
        refine g_len e11 ?_
        rcases m_ifd h with ⟨c12, h⟩ | ⟨c12, h⟩
        · refine g_if (t := 28) rfl (m_ltT c12) ?_
          refine g_in eF2_isAhead_28 mx403 ?_
          refine g_ch [(0, .ref x0), (1, .ref x1), (2, .int x2), (3, .int x3)] [.ref x0] (pc' := 29) rfl rfl rfl ?_
          obtain ⟨v13, e14, h⟩ := m_bd h
          refine g_gr q2_f11 e14 ?_
          refine g_ch [(0, .ref x0), (1, .ref x1), (2, .int x2), (3, .int x3)] [.int x2, .ref v13] (pc' := 33) rfl rfl rfl ?_
          obtain ⟨v15, e16, h⟩ := m_bd h
          refine g_ia e16 ?_
          refine g_ch [(0, .ref x0), (1, .ref x1), (2, .int x2), (3, .int x3)] [.ref x0, .int v15] (pc' := 35) rfl rfl rfl ?_
          obtain ⟨v17, e18, h⟩ := m_bd h
          refine g_gr q2_f11 e18 ?_
          refine g_ch [(0, .ref x0), (1, .ref x1), (2, .int x2), (3, .int x3)] [.int x3, .ref v17, .int v15] (pc' := 39) rfl rfl rfl ?_
          obtain ⟨v19, e20, h⟩ := m_bd h
          refine g_ia e20 ?_
          rcases m_ifd h with ⟨c21, h⟩ | ⟨c21, h⟩
          · refine g_if (t := 64) rfl (m_eqT c21) ?_
            refine g_in eF2_isAhead_64 mx403 ?_
            refine g_ch [(0, .ref x0), (1, .ref x1), (2, .int x2), (3, .int x3)] [.ref x1] (pc' := 65) rfl rfl rfl ?_
            obtain ⟨v22, e23, h⟩ := m_bd h
            refine g_gr q2_f30 e23 ?_
            refine g_ch [(0, .ref x0), (1, .ref x1), (2, .int x2), (3, .int x3)] [.int 3, .int x2, .ref v22] (pc' := 70) rfl rfl rfl ?_
            obtain ⟨v25, e24, h⟩ := m_bd h
            refine g_call (v := some (.int v25)) (h := hp) (st' := [.int v25]) (D1 := 1) (as := [.ref v22, .int x2, .int 3]) (Or.inr (Or.inl rfl)) q2_m44 (m_cv (as := [.int 3, .int x2]) (rest := []) (Or.inl rfl) q2_m44 jv1604 (OF8_get e24) rfl rfl rfl rfl) (by decide) (SF8_get e24) rfl ?_
            refine g_ch [(0, .ref x0), (1, .ref x1), (2, .int x2), (3, .int x3)] [.ref x1, .int v25] (pc' := 74) rfl rfl rfl ?_
            obtain ⟨v26, e27, h⟩ := m_bd h
            refine g_gr q2_f30 e27 ?_
            refine g_ch [(0, .ref x0), (1, .ref x1), (2, .int x2), (3, .int x3)] [.int 3, .int x3, .ref v26, .int v25] (pc' := 79) rfl rfl rfl ?_
            obtain ⟨v29, e28, h⟩ := m_bd h
            refine g_call (v := some (.int v29)) (h := hp) (st' := [.int v29, .int v25]) (D1 := 1) (as := [.ref v26, .int x3, .int 3]) (Or.inr (Or.inl rfl)) q2_m44 (m_cv (as := [.int 3, .int x3]) (rest := [.int v25]) (Or.inl rfl) q2_m44 jv1604 (OF8_get e28) rfl rfl rfl rfl) (by decide) (SF8_get e28) rfl ?_
            rcases m_ifd h with ⟨c30, h⟩ | ⟨c30, h⟩
            · refine g_if (t := 89) rfl (m_geT c30) ?_
              refine g_in eF2_isAhead_89 mx403 ?_
              refine g_ch [(0, .ref x0), (1, .ref x1), (2, .int x2), (3, .int x3)] [.int 0] (pc' := 90) rfl rfl rfl ?_
              refine g_end ?_
              refine g_in eF2_isAhead_90 mx403 ?_
              cases h
              rw [k0 _ hK]
              exact g_iret rfl (by decide +kernel)
            · refine g_ifn (t := 89) rfl (m_geF c30) ?_
              refine g_in eF2_isAhead_85 mx403 ?_
              refine g_ch [(0, .ref x0), (1, .ref x1), (2, .int x2), (3, .int x3)] [.int 1] (pc' := 86) rfl rfl rfl ?_
              refine g_goto (t := 90) rfl ?_
              refine g_in eF2_isAhead_90 mx403 ?_
              cases h
              rw [k0 _ hK]
              exact g_iret rfl (by decide +kernel)
          · refine g_ifn (t := 64) rfl (m_eqF c21) ?_
            refine g_in eF2_isAhead_43 mx403 ?_
            refine g_ch [(0, .ref x0), (1, .ref x1), (2, .int x2), (3, .int x3)] [.ref x0] (pc' := 44) rfl rfl rfl ?_
            obtain ⟨v31, e32, h⟩ := m_bd h
            refine g_gr q2_f11 e32 ?_
            refine g_ch [(0, .ref x0), (1, .ref x1), (2, .int x2), (3, .int x3)] [.int x2, .ref v31] (pc' := 48) rfl rfl rfl ?_
            obtain ⟨v33, e34, h⟩ := m_bd h
            refine g_ia e34 ?_
            refine g_ch [(0, .ref x0), (1, .ref x1), (2, .int x2), (3, .int x3)] [.ref x0, .int v33] (pc' := 50) rfl rfl rfl ?_
            obtain ⟨v35, e36, h⟩ := m_bd h
            refine g_gr q2_f11 e36 ?_
            refine g_ch [(0, .ref x0), (1, .ref x1), (2, .int x2), (3, .int x3)] [.int x3, .ref v35, .int v33] (pc' := 54) rfl rfl rfl ?_
            obtain ⟨v37, e38, h⟩ := m_bd h
            refine g_ia e38 ?_
            rcases m_ifd h with ⟨c39, h⟩ | ⟨c39, h⟩
            · refine g_if (t := 62) rfl (m_leT c39) ?_
              refine g_in eF2_isAhead_62 mx403 ?_
              refine g_ch [(0, .ref x0), (1, .ref x1), (2, .int x2), (3, .int x3)] [.int 0] (pc' := 63) rfl rfl rfl ?_
              refine g_end ?_
              refine g_in eF2_isAhead_63 mx403 ?_
              cases h
              rw [k0 _ hK]
              exact g_iret rfl (by decide +kernel)
            · refine g_ifn (t := 62) rfl (m_leF c39) ?_
              refine g_in eF2_isAhead_58 mx403 ?_
              refine g_ch [(0, .ref x0), (1, .ref x1), (2, .int x2), (3, .int x3)] [.int 1] (pc' := 59) rfl rfl rfl ?_
              refine g_goto (t := 63) rfl ?_
              refine g_in eF2_isAhead_63 mx403 ?_
              cases h
              rw [k0 _ hK]
              exact g_iret rfl (by decide +kernel)
        · refine g_ifn (t := 28) rfl (m_ltF c12) ?_
          refine g_in eF2_isAhead_26 mx403 ?_
          refine g_ch [(0, .ref x0), (1, .ref x1), (2, .int x2), (3, .int x3)] [.int 0] (pc' := 27) rfl rfl rfl ?_
          cases h
          rw [k0 _ hK]
          exact g_iret rfl (by decide +kernel)
theorem OF2_isAhead {x0 : Nat} {x1 : Nat} {x2 : Int32} {x3 : Int32} {hp : m_H} {x : Int32} (h : F2_isAhead x0 x1 x2 x3 hp = some x) : m_isO hp 2 x0 = true := (m_gdd h).1
theorem SF2_isAhead {xs : Nat → Int32} {L : Nat} {x0 : Nat} {x1 : Nat} {x2 : Int32} {x3 : Int32} {hp : m_H} {x : Int32} (h : F2_isAhead x0 x1 x2 x3 hp = some x) : m_Rn xs L 2 403 0 (lv_args 0 [.ref x0, .ref x1, .int x2, .int x3]) [] hp (.inl (some (.int x)), hp) :=
  r_lv (SF2_isAhead_0 x0 x1 x2 x3 hp (K := fun y => y = x) (fun y e => by rw [e]) (m_gdd h).2 rfl) rfl ⟨rfl, rfl, rfl, rfl, trivial⟩
-- F2_nextCalled: LendHouse$Court.nextCalled(LLendHouse$House;)I
theorem eF2_nextCalled_0 : m_Fe mi2_2 0 (m_ap [(.iconst (-1), 1), (.istore_n 2, 1), (.iconst 0, 1), (.istore_n 3, 1)] ([])) := m_Fe_of nd402 0 4 rfl
theorem eF2_nextCalled_4 : m_Fe mi2_2 4 (m_ap [(.iload_n 3, 1), (.aload_n 0, 1)] ((.getfield 17, 3) :: ((.arraylength, 1) :: ([(.if_icmp .ge 35, 3)])))) := m_Fe_of nd402 4 5 rfl
theorem eF2_nextCalled_45 : m_Fe mi2_2 45 (m_ap [(.iload_n 2, 1)] ([(.ifCond .lt 19, 3)])) := m_Fe_of nd402 27 2 rfl
theorem eF2_nextCalled_65 : m_Fe mi2_2 65 (m_ap [(.iload_n 2, 1)] ([(.ireturn, 1)])) := m_Fe_of nd402 39 2 rfl
theorem eF2_nextCalled_49 : m_Fe mi2_2 49 (m_ap [(.iload_n 2, 1), (.aload_n 0, 1)] ((.getfield 17, 3) :: ((.arraylength, 1) :: ([(.if_icmp .ge 10, 3)])))) := m_Fe_of nd402 29 5 rfl
theorem eF2_nextCalled_58 : m_Fe mi2_2 58 (m_ap [(.aload_n 0, 1)] ((.getfield 17, 3) :: (m_ap [(.iload_n 2, 1), (.iconst 0, 1)] ([(.bastore, 1)])))) := m_Fe_of nd402 34 5 rfl
theorem eF2_nextCalled_13 : m_Fe mi2_2 13 (m_ap [(.aload_n 0, 1)] ((.getfield 17, 3) :: (m_ap [(.iload_n 3, 1)] ((.baload, 1) :: ([(.ifCond .eq 20, 3)]))))) := m_Fe_of nd402 9 5 rfl
theorem eF2_nextCalled_39 : m_Fe mi2_2 39 (m_ap [(.iinc 3 1, 3)] ([(.goto (-38), 3)])) := m_Fe_of nd402 25 2 rfl
theorem eF2_nextCalled_22 : m_Fe mi2_2 22 (m_ap [(.iload_n 2, 1), (.iconst (-1), 1)] ([(.if_icmp .eq 13, 3)])) := m_Fe_of nd402 14 3 rfl
theorem eF2_nextCalled_37 : m_Fe mi2_2 37 (m_ap [(.iload_n 3, 1), (.istore_n 2, 1)] ([])) := m_Fe_of nd402 23 2 rfl
theorem eF2_nextCalled_27 : m_Fe mi2_2 27 (m_ap [(.aload_n 0, 1), (.aload_n 1, 1), (.iload_n 3, 1), (.iload_n 2, 1)] ((.invokevirtual 56, 3) :: ([(.ifCond .eq 5, 3)]))) := m_Fe_of nd402 17 6 rfl
theorem SF2_nextCalled_4b {xs : Nat → Int32} {L : Nat} (x0 : Nat) (x1 : Nat) (hp : m_H) (s : Int32 × Int32) {r : m_O × m_H} {K : ((Int32 × Int32) ⊕ (Int32 × m_H)) → Prop} (k0 : ∀ x, K (.inr x) → r = (.inl (some (.int x.1)), x.2)) (k1 : ∀ s, K (.inl s) → m_Rn xs L 3 402 4 [(0, .ref x0), (1, .ref x1), (2, .int s.1), (3, .int s.2)] [] hp r) {t : (Int32 × Int32) ⊕ (Int32 × m_H)} (h : F2_nextCalled_4b x0 x1 hp s = some t) (hK : K t) : m_Rn xs L 3 402 4 [(0, .ref x0), (1, .ref x1), (2, .int s.1), (3, .int s.2)] [] hp r := by
  unfold F2_nextCalled_4b at h
  refine g_in eF2_nextCalled_4 mx402 ?_
  refine g_ch [(0, .ref x0), (1, .ref x1), (2, .int s.1), (3, .int s.2)] [.ref x0, .int s.2] (pc' := 6) rfl rfl rfl ?_
  obtain ⟨v1, e2, h⟩ := m_bd h
  refine g_gr q2_f17 e2 ?_
  obtain ⟨v3, e4, h⟩ := m_bd h
  refine g_len e4 ?_
  rcases m_ifd h with ⟨c5, h⟩ | ⟨c5, h⟩
  · refine g_if (t := 45) rfl (m_geT c5) ?_
    refine g_in eF2_nextCalled_45 mx402 ?_
    refine g_ch [(0, .ref x0), (1, .ref x1), (2, .int s.1), (3, .int s.2)] [.int s.1] (pc' := 46) rfl rfl rfl ?_
    rcases m_ifd h with ⟨c6, h⟩ | ⟨c6, h⟩
    · refine g_ifc (t := 65) rfl (m_ltT c6) ?_
      refine g_in eF2_nextCalled_65 mx402 ?_
      refine g_ch [(0, .ref x0), (1, .ref x1), (2, .int s.1), (3, .int s.2)] [.int s.1] (pc' := 66) rfl rfl rfl ?_
      cases h
      rw [k0 _ hK]
      exact g_iret rfl rfl
    · refine g_ifcn (t := 65) rfl (m_ltF c6) ?_
      refine g_in eF2_nextCalled_49 mx402 ?_
      refine g_ch [(0, .ref x0), (1, .ref x1), (2, .int s.1), (3, .int s.2)] [.ref x0, .int s.1] (pc' := 51) rfl rfl rfl ?_
      obtain ⟨v7, e8, h⟩ := m_bd h
      refine g_gr q2_f17 e8 ?_
      obtain ⟨v9, e10, h⟩ := m_bd h
      refine g_len e10 ?_
      rcases m_ifd h with ⟨c11, h⟩ | ⟨c11, h⟩
      · refine g_if (t := 65) rfl (m_geT c11) ?_
        refine g_in eF2_nextCalled_65 mx402 ?_
        refine g_ch [(0, .ref x0), (1, .ref x1), (2, .int s.1), (3, .int s.2)] [.int s.1] (pc' := 66) rfl rfl rfl ?_
        cases h
        rw [k0 _ hK]
        exact g_iret rfl rfl
      · refine g_ifn (t := 65) rfl (m_geF c11) ?_
        refine g_in eF2_nextCalled_58 mx402 ?_
        refine g_ch [(0, .ref x0), (1, .ref x1), (2, .int s.1), (3, .int s.2)] [.ref x0] (pc' := 59) rfl rfl rfl ?_
        obtain ⟨v12, e13, h⟩ := m_bd h
        refine g_gr q2_f17 e13 ?_
        refine g_ch [(0, .ref x0), (1, .ref x1), (2, .int s.1), (3, .int s.2)] [.int 0, .int s.1, .ref v12] (pc' := 64) rfl rfl rfl ?_
        obtain ⟨h14, e15, h⟩ := m_bd h
        refine g_bs3 e15 ?_
        refine g_end ?_
        refine g_in eF2_nextCalled_65 mx402 ?_
        refine g_ch [(0, .ref x0), (1, .ref x1), (2, .int s.1), (3, .int s.2)] [.int s.1] (pc' := 66) rfl rfl rfl ?_
        cases h
        rw [k0 _ hK]
        exact g_iret rfl rfl
  · refine g_ifn (t := 45) rfl (m_geF c5) ?_
    refine g_in eF2_nextCalled_13 mx402 ?_
    refine g_ch [(0, .ref x0), (1, .ref x1), (2, .int s.1), (3, .int s.2)] [.ref x0] (pc' := 14) rfl rfl rfl ?_
    obtain ⟨v16, e17, h⟩ := m_bd h
    refine g_gr q2_f17 e17 ?_
    refine g_ch [(0, .ref x0), (1, .ref x1), (2, .int s.1), (3, .int s.2)] [.int s.2, .ref v16] (pc' := 18) rfl rfl rfl ?_
    obtain ⟨v18, e19, h⟩ := m_bd h
    refine g_ba3 e19 ?_
    rcases m_ifd h with ⟨c20, h⟩ | ⟨c20, h⟩
    · refine g_ifc (t := 39) rfl (m_eqT c20) ?_
      refine g_in eF2_nextCalled_39 mx402 ?_
      refine g_ch [(3, .int (s.2 + 1)), (0, .ref x0), (1, .ref x1), (2, .int s.1)] [] (pc' := 42) rfl rfl rfl ?_
      refine g_goto (t := 4) rfl ?_
      cases h
      exact r_lv (k1 (s.1, (s.2 + 1)) hK) rfl ⟨rfl, rfl, rfl, rfl, trivial⟩
    · refine g_ifcn (t := 39) rfl (m_eqF c20) ?_
      refine g_in eF2_nextCalled_22 mx402 ?_
      refine g_ch [(0, .ref x0), (1, .ref x1), (2, .int s.1), (3, .int s.2)] [.int (-1), .int s.1] (pc' := 24) rfl rfl rfl ?_
      rcases m_ifd h with ⟨c21, h⟩ | ⟨c21, h⟩
      · refine g_if (t := 37) rfl (m_eqT c21) ?_
        refine g_in eF2_nextCalled_37 mx402 ?_
        refine g_ch [(2, .int s.2), (0, .ref x0), (1, .ref x1), (3, .int s.2)] [] (pc' := 39) rfl rfl rfl ?_
        refine g_end ?_
        refine g_in eF2_nextCalled_39 mx402 ?_
        refine g_ch [(3, .int (s.2 + 1)), (2, .int s.2), (0, .ref x0), (1, .ref x1)] [] (pc' := 42) rfl rfl rfl ?_
        refine g_goto (t := 4) rfl ?_
        cases h
        exact r_lv (k1 (s.2, (s.2 + 1)) hK) rfl ⟨rfl, rfl, rfl, rfl, trivial⟩
      · refine g_ifn (t := 37) rfl (m_eqF c21) ?_
        refine g_in eF2_nextCalled_27 mx402 ?_
        refine g_ch [(0, .ref x0), (1, .ref x1), (2, .int s.1), (3, .int s.2)] [.int s.1, .int s.2, .ref x1, .ref x0] (pc' := 31) rfl rfl rfl ?_
        obtain ⟨v23, e22, h⟩ := m_bd h
        refine g_call (v := some (.int v23)) (h := hp) (st' := [.int v23]) (D1 := 2) (as := [.ref x0, .ref x1, .int s.2, .int s.1]) (Or.inr (Or.inl rfl)) q2_m56 (m_cv (as := [.int s.1, .int s.2, .ref x1]) (rest := []) (Or.inl rfl) q2_m56 jv403 (OF2_isAhead e22) rfl rfl rfl rfl) (by decide) (SF2_isAhead e22) rfl ?_
        rcases m_ifd h with ⟨c24, h⟩ | ⟨c24, h⟩
        · refine g_ifc (t := 39) rfl (m_eqT c24) ?_
          refine g_in eF2_nextCalled_39 mx402 ?_
          refine g_ch [(3, .int (s.2 + 1)), (0, .ref x0), (1, .ref x1), (2, .int s.1)] [] (pc' := 42) rfl rfl rfl ?_
          refine g_goto (t := 4) rfl ?_
          cases h
          exact r_lv (k1 (s.1, (s.2 + 1)) hK) rfl ⟨rfl, rfl, rfl, rfl, trivial⟩
        · refine g_ifcn (t := 39) rfl (m_eqF c24) ?_
          refine g_in eF2_nextCalled_37 mx402 ?_
          refine g_ch [(2, .int s.2), (0, .ref x0), (1, .ref x1), (3, .int s.2)] [] (pc' := 39) rfl rfl rfl ?_
          refine g_end ?_
          refine g_in eF2_nextCalled_39 mx402 ?_
          refine g_ch [(3, .int (s.2 + 1)), (2, .int s.2), (0, .ref x0), (1, .ref x1)] [] (pc' := 42) rfl rfl rfl ?_
          refine g_goto (t := 4) rfl ?_
          cases h
          exact r_lv (k1 (s.2, (s.2 + 1)) hK) rfl ⟨rfl, rfl, rfl, rfl, trivial⟩
theorem SF2_nextCalled_4 {xs : Nat → Int32} {L : Nat} (x0 : Nat) (x1 : Nat) (x2 : Int32) (x3 : Int32) (hp : m_H) {r : m_O × m_H} {K : Int32 × m_H → Prop} (k0 : ∀ x, K x → r = (.inl (some (.int x.1)), x.2)) {t : Int32 × m_H} (h : F2_nextCalled_4 x0 x1 x2 x3 hp = some t) (hK : K t) : m_Rn xs L 3 402 4 [(0, .ref x0), (1, .ref x1), (2, .int x2), (3, .int x3)] [] hp r :=
  m_wh_ok (P := fun s => m_Rn xs L 3 402 4 [(0, .ref x0), (1, .ref x1), (2, .int s.1), (3, .int s.2)] [] hp r) (Q := K) (fun s t hb hK => SF2_nextCalled_4b x0 x1 hp s (K := m_KK (fun s => m_Rn xs L 3 402 4 [(0, .ref x0), (1, .ref x1), (2, .int s.1), (3, .int s.2)] [] hp r) K) k0 (fun _ q => q) hb hK) m_N _ _ h hK
theorem SF2_nextCalled_0 {xs : Nat → Int32} {L : Nat} (x0 : Nat) (x1 : Nat) (hp : m_H) {r : m_O × m_H} {K : (Int32 × m_H) → Prop} (k0 : ∀ x, K x → r = (.inl (some (.int x.1)), x.2)) {t : Int32 × m_H} (h : F2_nextCalled_0 x0 x1 hp = some t) (hK : K t) : m_Rn xs L 3 402 0 [(0, .ref x0), (1, .ref x1)] [] hp r := by
  unfold F2_nextCalled_0 at h
  refine g_in eF2_nextCalled_0 mx402 ?_
  refine g_ch [(3, .int 0), (2, .int (-1)), (0, .ref x0), (1, .ref x1)] [] (pc' := 4) rfl rfl rfl ?_
  refine g_end ?_
  exact r_lv (SF2_nextCalled_4 x0 x1 (-1) 0 hp (K := K) k0 h hK) rfl ⟨rfl, rfl, rfl, rfl, trivial⟩
theorem OF2_nextCalled {x0 : Nat} {x1 : Nat} {hp : m_H} {x : Int32 × m_H} (h : F2_nextCalled x0 x1 hp = some x) : m_isO hp 2 x0 = true := (m_gdd h).1
theorem SF2_nextCalled {xs : Nat → Int32} {L : Nat} {x0 : Nat} {x1 : Nat} {hp : m_H} {x : Int32 × m_H} (h : F2_nextCalled x0 x1 hp = some x) : m_Rn xs L 3 402 0 (lv_args 0 [.ref x0, .ref x1]) [] hp (.inl (some (.int x.1)), x.2) :=
  r_lv (SF2_nextCalled_0 x0 x1 hp (K := fun y => y = x) (fun y e => by rw [e]) (m_gdd h).2 rfl) rfl ⟨rfl, rfl, trivial⟩
-- F2_why: LendHouse$Court.why(I)I
theorem eF2_why_0 : m_Fe mi2_7 0 (m_ap [(.aload_n 0, 1)] ((.getfield 68, 3) :: ([(.ifnonnull 7, 3)]))) := m_Fe_of nd407 0 3 rfl
theorem eF2_why_7 : m_Fe mi2_7 7 (m_ap [(.iconst 0, 1)] ([(.goto 10, 3)])) := m_Fe_of nd407 3 2 rfl
theorem eF2_why_11 : m_Fe mi2_7 11 (m_ap [(.aload_n 0, 1)] ((.getfield 68, 3) :: ([(.getfield 98, 3)]))) := m_Fe_of nd407 5 3 rfl
theorem eF2_why_18 : m_Fe mi2_7 18 (m_ap [(.istore_n 2, 1), (.iconst 0, 1), (.istore_n 3, 1)] ([])) := m_Fe_of nd407 8 3 rfl
theorem eF2_why_21 : m_Fe mi2_7 21 (m_ap [(.iload_n 3, 1), (.iload_n 2, 1)] ([(.if_icmp .ge 20, 3)])) := m_Fe_of nd407 11 3 rfl
theorem eF2_why_43 : m_Fe mi2_7 43 (m_ap [(.iconst (-1), 1)] ([(.ireturn, 1)])) := m_Fe_of nd407 23 2 rfl
theorem eF2_why_26 : m_Fe mi2_7 26 (m_ap [(.aload_n 0, 1), (.iload_n 3, 1), (.iload_n 1, 1)] ((.invokevirtual 103, 3) :: ([(.ifCond .eq 5, 3)]))) := m_Fe_of nd407 14 5 rfl
theorem eF2_why_37 : m_Fe mi2_7 37 (m_ap [(.iinc 3 1, 3)] ([(.goto (-19), 3)])) := m_Fe_of nd407 21 2 rfl
theorem eF2_why_35 : m_Fe mi2_7 35 (m_ap [(.iload_n 3, 1)] ([(.ireturn, 1)])) := m_Fe_of nd407 19 2 rfl
theorem SF2_why_21b {xs : Nat → Int32} {L : Nat} (x0 : Nat) (x1 : Int32) (x2 : Int32) (s : Int32 × m_H) {r : m_O × m_H} {K : ((Int32 × m_H) ⊕ (Int32 × m_H)) → Prop} (k0 : ∀ x, K (.inr x) → r = (.inl (some (.int x.1)), x.2)) (k1 : ∀ s, K (.inl s) → m_Rn xs L 8 407 21 [(0, .ref x0), (1, .int x1), (2, .int x2), (3, .int s.1)] [] s.2 r) {t : (Int32 × m_H) ⊕ (Int32 × m_H)} (h : F2_why_21b x0 x1 x2 s = some t) (hK : K t) : m_Rn xs L 8 407 21 [(0, .ref x0), (1, .int x1), (2, .int x2), (3, .int s.1)] [] s.2 r := by
  unfold F2_why_21b at h
  refine g_in eF2_why_21 mx407 ?_
  refine g_ch [(0, .ref x0), (1, .int x1), (2, .int x2), (3, .int s.1)] [.int x2, .int s.1] (pc' := 23) rfl rfl rfl ?_
  rcases m_ifd h with ⟨c1, h⟩ | ⟨c1, h⟩
  · refine g_if (t := 43) rfl (m_geT c1) ?_
    refine g_in eF2_why_43 mx407 ?_
    refine g_ch [(0, .ref x0), (1, .int x1), (2, .int x2), (3, .int s.1)] [.int (-1)] (pc' := 44) rfl rfl rfl ?_
    cases h
    rw [k0 _ hK]
    exact g_iret rfl rfl
  · refine g_ifn (t := 43) rfl (m_geF c1) ?_
    refine g_in eF2_why_26 mx407 ?_
    refine g_ch [(0, .ref x0), (1, .int x1), (2, .int x2), (3, .int s.1)] [.int x1, .int s.1, .ref x0] (pc' := 29) rfl rfl rfl ?_
    obtain ⟨z3, e2, h⟩ := m_bd h
    refine g_call (v := some (.int z3.1)) (h := z3.2) (st' := [.int z3.1]) (D1 := 7) (as := [.ref x0, .int s.1, .int x1]) (Or.inr (Or.inl rfl)) q2_m103 (m_cv (as := [.int x1, .int s.1]) (rest := []) (Or.inl rfl) q2_m103 jv410 (OF2_holds e2) rfl rfl rfl rfl) (by decide) (SF2_holds e2) rfl ?_
    rcases m_ifd h with ⟨c4, h⟩ | ⟨c4, h⟩
    · refine g_ifc (t := 37) rfl (m_eqT c4) ?_
      refine g_in eF2_why_37 mx407 ?_
      refine g_ch [(3, .int (s.1 + 1)), (0, .ref x0), (1, .int x1), (2, .int x2)] [] (pc' := 40) rfl rfl rfl ?_
      refine g_goto (t := 21) rfl ?_
      cases h
      exact r_lv (k1 ((s.1 + 1), z3.2) hK) rfl ⟨rfl, rfl, rfl, rfl, trivial⟩
    · refine g_ifcn (t := 37) rfl (m_eqF c4) ?_
      refine g_in eF2_why_35 mx407 ?_
      refine g_ch [(0, .ref x0), (1, .int x1), (2, .int x2), (3, .int s.1)] [.int s.1] (pc' := 36) rfl rfl rfl ?_
      cases h
      rw [k0 _ hK]
      exact g_iret rfl rfl
theorem SF2_why_21 {xs : Nat → Int32} {L : Nat} (x0 : Nat) (x1 : Int32) (x2 : Int32) (x3 : Int32) (hp : m_H) {r : m_O × m_H} {K : Int32 × m_H → Prop} (k0 : ∀ x, K x → r = (.inl (some (.int x.1)), x.2)) {t : Int32 × m_H} (h : F2_why_21 x0 x1 x2 x3 hp = some t) (hK : K t) : m_Rn xs L 8 407 21 [(0, .ref x0), (1, .int x1), (2, .int x2), (3, .int x3)] [] hp r :=
  m_wh_ok (P := fun s => m_Rn xs L 8 407 21 [(0, .ref x0), (1, .int x1), (2, .int x2), (3, .int s.1)] [] s.2 r) (Q := K) (fun s t hb hK => SF2_why_21b x0 x1 x2 s (K := m_KK (fun s => m_Rn xs L 8 407 21 [(0, .ref x0), (1, .int x1), (2, .int x2), (3, .int s.1)] [] s.2 r) K) k0 (fun _ q => q) hb hK) m_N _ _ h hK
theorem SF2_why_18 {xs : Nat → Int32} {L : Nat} (x0 : Nat) (x1 : Int32) (s0 : Int32) (hp : m_H) {r : m_O × m_H} {K : (Int32 × m_H) → Prop} (k0 : ∀ x, K x → r = (.inl (some (.int x.1)), x.2)) {t : Int32 × m_H} (h : F2_why_18 x0 x1 s0 hp = some t) (hK : K t) : m_Rn xs L 8 407 18 [(0, .ref x0), (1, .int x1)] [.int s0] hp r := by
  unfold F2_why_18 at h
  refine g_in eF2_why_18 mx407 ?_
  refine g_ch [(3, .int 0), (2, .int s0), (0, .ref x0), (1, .int x1)] [] (pc' := 21) rfl rfl rfl ?_
  refine g_end ?_
  exact r_lv (SF2_why_21 x0 x1 s0 0 hp (K := K) k0 h hK) rfl ⟨rfl, rfl, rfl, rfl, trivial⟩
theorem SF2_why_0 {xs : Nat → Int32} {L : Nat} (x0 : Nat) (x1 : Int32) (hp : m_H) {r : m_O × m_H} {K : (Int32 × m_H) → Prop} (k0 : ∀ x, K x → r = (.inl (some (.int x.1)), x.2)) {t : Int32 × m_H} (h : F2_why_0 x0 x1 hp = some t) (hK : K t) : m_Rn xs L 8 407 0 [(0, .ref x0), (1, .int x1)] [] hp r := by
  unfold F2_why_0 at h
  refine g_in eF2_why_0 mx407 ?_
  refine g_ch [(0, .ref x0), (1, .int x1)] [.ref x0] (pc' := 1) rfl rfl rfl ?_
  obtain ⟨v1, e2, h⟩ := m_bd h
  refine g_go q2_f68 e2 ?_
  rcases m_ond h with ⟨e4, h⟩ | ⟨a3, e4, h⟩
  · rw [e4]
    refine g_nnln ?_
    refine g_in eF2_why_7 mx407 ?_
    refine g_ch [(0, .ref x0), (1, .int x1)] [.int 0] (pc' := 8) rfl rfl rfl ?_
    refine g_goto (t := 18) rfl ?_
    exact r_lv (SF2_why_18 x0 x1 0 hp (K := K) k0 h hK) rfl ⟨rfl, rfl, trivial⟩
  · rw [e4]
    refine g_nnl (t := 11) rfl ?_
    refine g_in eF2_why_11 mx407 ?_
    refine g_ch [(0, .ref x0), (1, .int x1)] [.ref x0] (pc' := 12) rfl rfl rfl ?_
    obtain ⟨v5, e6, h⟩ := m_bd h
    refine g_go q2_f68 e6 ?_
    obtain ⟨a7, e8, h⟩ := m_bd h
    rw [e8]
    obtain ⟨v9, e10, h⟩ := m_bd h
    refine g_gi q2_f98 e10 ?_
    refine g_end ?_
    exact r_lv (SF2_why_18 x0 x1 v9 hp (K := K) k0 h hK) rfl ⟨rfl, rfl, trivial⟩
theorem OF2_why {x0 : Nat} {x1 : Int32} {hp : m_H} {x : Int32 × m_H} (h : F2_why x0 x1 hp = some x) : m_isO hp 2 x0 = true := (m_gdd h).1
theorem SF2_why {xs : Nat → Int32} {L : Nat} {x0 : Nat} {x1 : Int32} {hp : m_H} {x : Int32 × m_H} (h : F2_why x0 x1 hp = some x) : m_Rn xs L 8 407 0 (lv_args 0 [.ref x0, .int x1]) [] hp (.inl (some (.int x.1)), x.2) :=
  r_lv (SF2_why_0 x0 x1 hp (K := fun y => y = x) (fun y e => by rw [e]) (m_gdd h).2 rfl) rfl ⟨rfl, rfl, trivial⟩
-- F2_greatestOwe: LendHouse$Court.greatestOwe()I
theorem eF2_greatestOwe_0 : m_Fe mi2_9 0 (m_ap [(.aload_n 0, 1)] ((.getfield 68, 3) :: ([(.ifnonnull 7, 3)]))) := m_Fe_of nd409 0 3 rfl
theorem eF2_greatestOwe_7 : m_Fe mi2_9 7 (m_ap [(.iconst 0, 1)] ([(.goto 10, 3)])) := m_Fe_of nd409 3 2 rfl
theorem eF2_greatestOwe_11 : m_Fe mi2_9 11 (m_ap [(.aload_n 0, 1)] ((.getfield 68, 3) :: ([(.getfield 98, 3)]))) := m_Fe_of nd409 5 3 rfl
theorem eF2_greatestOwe_18 : m_Fe mi2_9 18 (m_ap [(.istore_n 1, 1), (.iconst 0, 1), (.istore_n 2, 1), (.iconst 0, 1), (.istore_n 3, 1)] ([])) := m_Fe_of nd409 8 5 rfl
theorem eF2_greatestOwe_23 : m_Fe mi2_9 23 (m_ap [(.iload_n 3, 1), (.iload_n 1, 1)] ([(.if_icmp .ge 31, 3)])) := m_Fe_of nd409 13 3 rfl
theorem eF2_greatestOwe_56 : m_Fe mi2_9 56 (m_ap [(.iload_n 2, 1)] ([(.ireturn, 1)])) := m_Fe_of nd409 30 2 rfl
theorem eF2_greatestOwe_28 : m_Fe mi2_9 28 (m_ap [(.aload_n 0, 1), (.iload_n 3, 1), (.iconst 2, 1)] ((.invokevirtual 103, 3) :: ([(.ifCond .eq 16, 3)]))) := m_Fe_of nd409 16 5 rfl
theorem eF2_greatestOwe_50 : m_Fe mi2_9 50 (m_ap [(.iinc 3 1, 3)] ([(.goto (-30), 3)])) := m_Fe_of nd409 28 2 rfl
theorem eF2_greatestOwe_37 : m_Fe mi2_9 37 (m_ap [(.iload_n 2, 1), (.aload_n 0, 1)] ((.getfield 68, 3) :: (m_ap [(.iload_n 3, 1)] ((.invokevirtual 107, 3) :: ((.invokestatic 110, 3) :: (m_ap [(.istore_n 2, 1)] ([]))))))) := m_Fe_of nd409 21 7 rfl
theorem SF2_greatestOwe_23b {xs : Nat → Int32} {L : Nat} (x0 : Nat) (x1 : Int32) (s : Int32 × Int32 × m_H) {r : m_O × m_H} {K : ((Int32 × Int32 × m_H) ⊕ (Int32 × m_H)) → Prop} (k0 : ∀ x, K (.inr x) → r = (.inl (some (.int x.1)), x.2)) (k1 : ∀ s, K (.inl s) → m_Rn xs L 8 409 23 [(0, .ref x0), (1, .int x1), (2, .int s.1), (3, .int s.2.1)] [] s.2.2 r) {t : (Int32 × Int32 × m_H) ⊕ (Int32 × m_H)} (h : F2_greatestOwe_23b x0 x1 s = some t) (hK : K t) : m_Rn xs L 8 409 23 [(0, .ref x0), (1, .int x1), (2, .int s.1), (3, .int s.2.1)] [] s.2.2 r := by
  unfold F2_greatestOwe_23b at h
  refine g_in eF2_greatestOwe_23 mx409 ?_
  refine g_ch [(0, .ref x0), (1, .int x1), (2, .int s.1), (3, .int s.2.1)] [.int x1, .int s.2.1] (pc' := 25) rfl rfl rfl ?_
  rcases m_ifd h with ⟨c1, h⟩ | ⟨c1, h⟩
  · refine g_if (t := 56) rfl (m_geT c1) ?_
    refine g_in eF2_greatestOwe_56 mx409 ?_
    refine g_ch [(0, .ref x0), (1, .int x1), (2, .int s.1), (3, .int s.2.1)] [.int s.1] (pc' := 57) rfl rfl rfl ?_
    cases h
    rw [k0 _ hK]
    exact g_iret rfl rfl
  · refine g_ifn (t := 56) rfl (m_geF c1) ?_
    refine g_in eF2_greatestOwe_28 mx409 ?_
    refine g_ch [(0, .ref x0), (1, .int x1), (2, .int s.1), (3, .int s.2.1)] [.int 2, .int s.2.1, .ref x0] (pc' := 31) rfl rfl rfl ?_
    obtain ⟨z3, e2, h⟩ := m_bd h
    refine g_call (v := some (.int z3.1)) (h := z3.2) (st' := [.int z3.1]) (D1 := 7) (as := [.ref x0, .int s.2.1, .int 2]) (Or.inr (Or.inl rfl)) q2_m103 (m_cv (as := [.int 2, .int s.2.1]) (rest := []) (Or.inl rfl) q2_m103 jv410 (OF2_holds e2) rfl rfl rfl rfl) (by decide) (SF2_holds e2) rfl ?_
    rcases m_ifd h with ⟨c4, h⟩ | ⟨c4, h⟩
    · refine g_ifc (t := 50) rfl (m_eqT c4) ?_
      refine g_in eF2_greatestOwe_50 mx409 ?_
      refine g_ch [(3, .int (s.2.1 + 1)), (0, .ref x0), (1, .int x1), (2, .int s.1)] [] (pc' := 53) rfl rfl rfl ?_
      refine g_goto (t := 23) rfl ?_
      cases h
      exact r_lv (k1 (s.1, (s.2.1 + 1), z3.2) hK) rfl ⟨rfl, rfl, rfl, rfl, trivial⟩
    · refine g_ifcn (t := 50) rfl (m_eqF c4) ?_
      refine g_in eF2_greatestOwe_37 mx409 ?_
      refine g_ch [(0, .ref x0), (1, .int x1), (2, .int s.1), (3, .int s.2.1)] [.ref x0, .int s.1] (pc' := 39) rfl rfl rfl ?_
      obtain ⟨v5, e6, h⟩ := m_bd h
      refine g_go q2_f68 e6 ?_
      refine g_ch [(0, .ref x0), (1, .int x1), (2, .int s.1), (3, .int s.2.1)] [.int s.2.1, va_rf v5, .int s.1] (pc' := 43) rfl (by cases hN0 : v5 <;> rfl) rfl ?_
      obtain ⟨a7, e8, h⟩ := m_bd h
      rw [e8]
      obtain ⟨v10, e9, h⟩ := m_bd h
      refine g_call (v := some (.int v10)) (h := z3.2) (st' := [.int v10, .int s.1]) (D1 := 0) (as := [.ref a7, .int s.2.1]) (Or.inr (Or.inl rfl)) q2_m107 (m_cv (as := [.int s.2.1]) (rest := [.int s.1]) (Or.inl rfl) q2_m107 jv2 (OF0_numberOf e9) rfl rfl rfl rfl) (by decide) (SF0_numberOf e9) rfl ?_
      refine g_nat (Or.inl rfl) q2_m110 rfl (z := ([.int (m_max s.1 v10)], z3.2)) rfl (by decide) ?_
      refine g_ch [(2, .int (m_max s.1 v10)), (0, .ref x0), (1, .int x1), (3, .int s.2.1)] [] (pc' := 50) rfl rfl rfl ?_
      refine g_end ?_
      refine g_in eF2_greatestOwe_50 mx409 ?_
      refine g_ch [(3, .int (s.2.1 + 1)), (2, .int (m_max s.1 v10)), (0, .ref x0), (1, .int x1)] [] (pc' := 53) rfl rfl rfl ?_
      refine g_goto (t := 23) rfl ?_
      cases h
      exact r_lv (k1 ((m_max s.1 v10), (s.2.1 + 1), z3.2) hK) rfl ⟨rfl, rfl, rfl, rfl, trivial⟩
theorem SF2_greatestOwe_23 {xs : Nat → Int32} {L : Nat} (x0 : Nat) (x1 : Int32) (x2 : Int32) (x3 : Int32) (hp : m_H) {r : m_O × m_H} {K : Int32 × m_H → Prop} (k0 : ∀ x, K x → r = (.inl (some (.int x.1)), x.2)) {t : Int32 × m_H} (h : F2_greatestOwe_23 x0 x1 x2 x3 hp = some t) (hK : K t) : m_Rn xs L 8 409 23 [(0, .ref x0), (1, .int x1), (2, .int x2), (3, .int x3)] [] hp r :=
  m_wh_ok (P := fun s => m_Rn xs L 8 409 23 [(0, .ref x0), (1, .int x1), (2, .int s.1), (3, .int s.2.1)] [] s.2.2 r) (Q := K) (fun s t hb hK => SF2_greatestOwe_23b x0 x1 s (K := m_KK (fun s => m_Rn xs L 8 409 23 [(0, .ref x0), (1, .int x1), (2, .int s.1), (3, .int s.2.1)] [] s.2.2 r) K) k0 (fun _ q => q) hb hK) m_N _ _ h hK
theorem SF2_greatestOwe_18 {xs : Nat → Int32} {L : Nat} (x0 : Nat) (s0 : Int32) (hp : m_H) {r : m_O × m_H} {K : (Int32 × m_H) → Prop} (k0 : ∀ x, K x → r = (.inl (some (.int x.1)), x.2)) {t : Int32 × m_H} (h : F2_greatestOwe_18 x0 s0 hp = some t) (hK : K t) : m_Rn xs L 8 409 18 [(0, .ref x0)] [.int s0] hp r := by
  unfold F2_greatestOwe_18 at h
  refine g_in eF2_greatestOwe_18 mx409 ?_
  refine g_ch [(3, .int 0), (2, .int 0), (1, .int s0), (0, .ref x0)] [] (pc' := 23) rfl rfl rfl ?_
  refine g_end ?_
  exact r_lv (SF2_greatestOwe_23 x0 s0 0 0 hp (K := K) k0 h hK) rfl ⟨rfl, rfl, rfl, rfl, trivial⟩
theorem SF2_greatestOwe_0 {xs : Nat → Int32} {L : Nat} (x0 : Nat) (hp : m_H) {r : m_O × m_H} {K : (Int32 × m_H) → Prop} (k0 : ∀ x, K x → r = (.inl (some (.int x.1)), x.2)) {t : Int32 × m_H} (h : F2_greatestOwe_0 x0 hp = some t) (hK : K t) : m_Rn xs L 8 409 0 [(0, .ref x0)] [] hp r := by
  unfold F2_greatestOwe_0 at h
  refine g_in eF2_greatestOwe_0 mx409 ?_
  refine g_ch [(0, .ref x0)] [.ref x0] (pc' := 1) rfl rfl rfl ?_
  obtain ⟨v1, e2, h⟩ := m_bd h
  refine g_go q2_f68 e2 ?_
  rcases m_ond h with ⟨e4, h⟩ | ⟨a3, e4, h⟩
  · rw [e4]
    refine g_nnln ?_
    refine g_in eF2_greatestOwe_7 mx409 ?_
    refine g_ch [(0, .ref x0)] [.int 0] (pc' := 8) rfl rfl rfl ?_
    refine g_goto (t := 18) rfl ?_
    exact r_lv (SF2_greatestOwe_18 x0 0 hp (K := K) k0 h hK) rfl ⟨rfl, trivial⟩
  · rw [e4]
    refine g_nnl (t := 11) rfl ?_
    refine g_in eF2_greatestOwe_11 mx409 ?_
    refine g_ch [(0, .ref x0)] [.ref x0] (pc' := 12) rfl rfl rfl ?_
    obtain ⟨v5, e6, h⟩ := m_bd h
    refine g_go q2_f68 e6 ?_
    obtain ⟨a7, e8, h⟩ := m_bd h
    rw [e8]
    obtain ⟨v9, e10, h⟩ := m_bd h
    refine g_gi q2_f98 e10 ?_
    refine g_end ?_
    exact r_lv (SF2_greatestOwe_18 x0 v9 hp (K := K) k0 h hK) rfl ⟨rfl, trivial⟩
theorem OF2_greatestOwe {x0 : Nat} {hp : m_H} {x : Int32 × m_H} (h : F2_greatestOwe x0 hp = some x) : m_isO hp 2 x0 = true := (m_gdd h).1
theorem SF2_greatestOwe {xs : Nat → Int32} {L : Nat} {x0 : Nat} {hp : m_H} {x : Int32 × m_H} (h : F2_greatestOwe x0 hp = some x) : m_Rn xs L 8 409 0 (lv_args 0 [.ref x0]) [] hp (.inl (some (.int x.1)), x.2) :=
  r_lv (SF2_greatestOwe_0 x0 hp (K := fun y => y = x) (fun y e => by rw [e]) (m_gdd h).2 rfl) rfl ⟨rfl, trivial⟩
-- F8_init: LendHouse$Table.<init>(II)V
theorem eF8_init_0 : m_Fe mi8_0 0 (m_ap [(.aload_n 0, 1)] ((.invokespecial 3, 3) :: (m_ap [(.aload_n 0, 1), (.iconst 1, 1), (.iload_n 2, 1)] ((.invokestatic 9, 3) :: ((.putfield 15, 3) :: (m_ap [(.aload_n 0, 1), (.iconst 0, 1), (.iload_n 1, 1)] ((.invokestatic 9, 3) :: (m_ap [(.aload_n 0, 1)] ((.getfield 15, 3) :: (m_ap [(.imul, 1)] ((.newarray .int, 2) :: ((.putfield 21, 3) :: ([(.return_, 1)]))))))))))))) := m_Fe_of nd1600 0 17 rfl
theorem SF8_init_0 {xs : Nat → Int32} {L : Nat} (x0 : Nat) (x1 : Int32) (x2 : Int32) (hp : m_H) {r : m_O × m_H} {K : m_H → Prop} (k0 : ∀ x, K x → r = (.inl none, x)) {t : m_H} (h : F8_init_0 x0 x1 x2 hp = some t) (hK : K t) : m_Rn xs L 7 1600 0 [(0, .ref x0), (1, .int x1), (2, .int x2)] [] hp r := by
  unfold F8_init_0 at h
  refine g_in eF8_init_0 mx1600 ?_
  refine g_ch [(0, .ref x0), (1, .int x1), (2, .int x2)] [.ref x0] (pc' := 1) rfl rfl rfl ?_
  refine g_nat (Or.inr (Or.inr rfl)) q8_m3 rfl (z := ([], hp)) rfl (by decide) ?_
  refine g_ch [(0, .ref x0), (1, .int x1), (2, .int x2)] [.int x2, .int 1, .ref x0] (pc' := 7) rfl rfl rfl ?_
  refine g_nat (Or.inl rfl) q8_m9 rfl (z := ([.int (m_max 1 x2), .ref x0], hp)) rfl (by decide) ?_
  obtain ⟨h1, e2, h⟩ := m_bd h
  refine g_pf q8_f15 e2 ?_
  refine g_ch [(0, .ref x0), (1, .int x1), (2, .int x2)] [.int x1, .int 0, .ref x0] (pc' := 16) rfl rfl rfl ?_
  refine g_nat (Or.inl rfl) q8_m9 rfl (z := ([.int (m_max 0 x1), .ref x0], h1)) rfl (by decide) ?_
  refine g_ch [(0, .ref x0), (1, .int x1), (2, .int x2)] [.ref x0, .int (m_max 0 x1), .ref x0] (pc' := 20) rfl rfl rfl ?_
  obtain ⟨v3, e4, h⟩ := m_bd h
  refine g_gi q8_f15 e4 ?_
  refine g_ch [(0, .ref x0), (1, .int x1), (2, .int x2)] [.int ((m_max 0 x1) * v3), .ref x0] (pc' := 24) rfl rfl rfl ?_
  obtain ⟨h5, e6, h⟩ := m_bd h
  refine g_na rfl e6 ?_
  obtain ⟨h7, e8, h⟩ := m_bd h
  refine g_pf q8_f21 e8 ?_
  cases h
  rw [k0 _ hK]
  exact g_vret rfl
theorem OF8_init {x0 : Nat} {x1 : Int32} {x2 : Int32} {hp : m_H} {x : m_H} (h : F8_init x0 x1 x2 hp = some x) : m_isO hp 6 x0 = true := (m_gdd h).1
theorem SF8_init {xs : Nat → Int32} {L : Nat} {x0 : Nat} {x1 : Int32} {x2 : Int32} {hp : m_H} {x : m_H} (h : F8_init x0 x1 x2 hp = some x) : m_Rn xs L 7 1600 0 (lv_args 0 [.ref x0, .int x1, .int x2]) [] hp (.inl none, x) :=
  r_lv (SF8_init_0 x0 x1 x2 hp (K := fun y => y = x) (fun y e => by rw [e]) (m_gdd h).2 rfl) rfl ⟨rfl, rfl, rfl, trivial⟩
-- F8_set: LendHouse$Table.set(III)V
theorem eF8_set_0 : m_Fe mi8_5 0 (m_ap [(.aload_n 0, 1), (.iload_n 1, 1), (.iload_n 2, 1)] ((.invokevirtual 28, 3) :: ([(.ifCond .eq 17, 3)]))) := m_Fe_of nd1605 0 5 rfl
theorem eF8_set_23 : m_Fe mi8_5 23 ([(.return_, 1)]) := m_Fe_of nd1605 15 1 rfl
theorem eF8_set_9 : m_Fe mi8_5 9 (m_ap [(.aload_n 0, 1)] ((.getfield 21, 3) :: (m_ap [(.iload_n 1, 1), (.aload_n 0, 1)] ((.getfield 15, 3) :: (m_ap [(.imul, 1), (.iload_n 2, 1), (.iadd, 1), (.iload_n 3, 1)] ([(.iastore, 1)])))))) := m_Fe_of nd1605 5 10 rfl
theorem SF8_set_0 {xs : Nat → Int32} {L : Nat} (x0 : Nat) (x1 : Int32) (x2 : Int32) (x3 : Int32) (hp : m_H) {r : m_O × m_H} {K : m_H → Prop} (k0 : ∀ x, K x → r = (.inl none, x)) {t : m_H} (h : F8_set_0 x0 x1 x2 x3 hp = some t) (hK : K t) : m_Rn xs L 1 1605 0 [(0, .ref x0), (1, .int x1), (2, .int x2), (3, .int x3)] [] hp r := by
  unfold F8_set_0 at h
  refine g_in eF8_set_0 mx1605 ?_
  refine g_ch [(0, .ref x0), (1, .int x1), (2, .int x2), (3, .int x3)] [.int x2, .int x1, .ref x0] (pc' := 3) rfl rfl rfl ?_
  obtain ⟨v2, e1, h⟩ := m_bd h
  refine g_call (v := some (.int v2)) (h := hp) (st' := [.int v2]) (D1 := 0) (as := [.ref x0, .int x1, .int x2]) (Or.inr (Or.inl rfl)) q8_m28 (m_cv (as := [.int x2, .int x1]) (rest := []) (Or.inl rfl) q8_m28 jv1603 (OF8_reaches e1) rfl rfl rfl rfl) (by decide) (SF8_reaches e1) rfl ?_
  rcases m_ifd h with ⟨c3, h⟩ | ⟨c3, h⟩
  · refine g_ifc (t := 23) rfl (m_eqT c3) ?_
    refine g_in eF8_set_23 mx1605 ?_
    cases h
    rw [k0 _ hK]
    exact g_vret rfl
  · refine g_ifcn (t := 23) rfl (m_eqF c3) ?_
    refine g_in eF8_set_9 mx1605 ?_
    refine g_ch [(0, .ref x0), (1, .int x1), (2, .int x2), (3, .int x3)] [.ref x0] (pc' := 10) rfl rfl rfl ?_
    obtain ⟨v4, e5, h⟩ := m_bd h
    refine g_gr q8_f21 e5 ?_
    refine g_ch [(0, .ref x0), (1, .int x1), (2, .int x2), (3, .int x3)] [.ref x0, .int x1, .ref v4] (pc' := 15) rfl rfl rfl ?_
    obtain ⟨v6, e7, h⟩ := m_bd h
    refine g_gi q8_f15 e7 ?_
    refine g_ch [(0, .ref x0), (1, .int x1), (2, .int x2), (3, .int x3)] [.int x3, .int ((x1 * v6) + x2), .ref v4] (pc' := 22) rfl rfl rfl ?_
    obtain ⟨h8, e9, h⟩ := m_bd h
    refine g_is e9 ?_
    refine g_end ?_
    refine g_in eF8_set_23 mx1605 ?_
    cases h
    rw [k0 _ hK]
    exact g_vret rfl
theorem OF8_set {x0 : Nat} {x1 : Int32} {x2 : Int32} {x3 : Int32} {hp : m_H} {x : m_H} (h : F8_set x0 x1 x2 x3 hp = some x) : m_isO hp 6 x0 = true := (m_gdd h).1
theorem SF8_set {xs : Nat → Int32} {L : Nat} {x0 : Nat} {x1 : Int32} {x2 : Int32} {x3 : Int32} {hp : m_H} {x : m_H} (h : F8_set x0 x1 x2 x3 hp = some x) : m_Rn xs L 1 1605 0 (lv_args 0 [.ref x0, .int x1, .int x2, .int x3]) [] hp (.inl none, x) :=
  r_lv (SF8_set_0 x0 x1 x2 x3 hp (K := fun y => y = x) (fun y e => by rw [e]) (m_gdd h).2 rfl) rfl ⟨rfl, rfl, rfl, rfl, trivial⟩
-- F8_full: LendHouse$Table.full()Z
theorem eF8_full_0 : m_Fe mi8_2 0 (m_ap [(.aload_n 0, 1)] ((.getfield 25, 3) :: (m_ap [(.iconst 1, 1), (.iadd, 1), (.aload_n 0, 1)] ((.getfield 15, 3) :: (m_ap [(.imul, 1), (.aload_n 0, 1)] ((.getfield 21, 3) :: ((.arraylength, 1) :: ([(.if_icmp .le 7, 3)])))))))) := m_Fe_of nd1602 0 11 rfl
theorem eF8_full_23 : m_Fe mi8_2 23 (m_ap [(.iconst 0, 1)] ([])) := m_Fe_of nd1602 13 1 rfl
theorem eF8_full_24 : m_Fe mi8_2 24 ([(.ireturn, 1)]) := m_Fe_of nd1602 14 1 rfl
theorem eF8_full_19 : m_Fe mi8_2 19 (m_ap [(.iconst 1, 1)] ([(.goto 4, 3)])) := m_Fe_of nd1602 11 2 rfl
theorem SF8_full_0 {xs : Nat → Int32} {L : Nat} (x0 : Nat) (hp : m_H) {r : m_O × m_H} {K : Int32 → Prop} (k0 : ∀ x, K x → r = (.inl (some (.int x)), hp)) {t : Int32} (h : F8_full_0 x0 hp = some t) (hK : K t) : m_Rn xs L 0 1602 0 [(0, .ref x0)] [] hp r := by
  unfold F8_full_0 at h
  refine g_in eF8_full_0 mx1602 ?_
  refine g_ch [(0, .ref x0)] [.ref x0] (pc' := 1) rfl rfl rfl ?_
  obtain ⟨v1, e2, h⟩ := m_bd h
  refine g_gi q8_f25 e2 ?_
  refine g_ch [(0, .ref x0)] [.ref x0, .int (v1 + 1)] (pc' := 7) rfl rfl rfl ?_
  obtain ⟨v3, e4, h⟩ := m_bd h
  refine g_gi q8_f15 e4 ?_
  refine g_ch [(0, .ref x0)] [.ref x0, .int ((v1 + 1) * v3)] (pc' := 12) rfl rfl rfl ?_
  obtain ⟨v5, e6, h⟩ := m_bd h
  refine g_gr q8_f21 e6 ?_
  obtain ⟨v7, e8, h⟩ := m_bd h
  refine g_len e8 ?_
  rcases m_ifd h with ⟨c9, h⟩ | ⟨c9, h⟩
  · refine g_if (t := 23) rfl (m_leT c9) ?_
    refine g_in eF8_full_23 mx1602 ?_
    refine g_ch [(0, .ref x0)] [.int 0] (pc' := 24) rfl rfl rfl ?_
    refine g_end ?_
    refine g_in eF8_full_24 mx1602 ?_
    cases h
    rw [k0 _ hK]
    exact g_iret rfl (by decide +kernel)
  · refine g_ifn (t := 23) rfl (m_leF c9) ?_
    refine g_in eF8_full_19 mx1602 ?_
    refine g_ch [(0, .ref x0)] [.int 1] (pc' := 20) rfl rfl rfl ?_
    refine g_goto (t := 24) rfl ?_
    refine g_in eF8_full_24 mx1602 ?_
    cases h
    rw [k0 _ hK]
    exact g_iret rfl (by decide +kernel)
theorem OF8_full {x0 : Nat} {hp : m_H} {x : Int32} (h : F8_full x0 hp = some x) : m_isO hp 6 x0 = true := (m_gdd h).1
theorem SF8_full {xs : Nat → Int32} {L : Nat} {x0 : Nat} {hp : m_H} {x : Int32} (h : F8_full x0 hp = some x) : m_Rn xs L 0 1602 0 (lv_args 0 [.ref x0]) [] hp (.inl (some (.int x)), hp) :=
  r_lv (SF8_full_0 x0 hp (K := fun y => y = x) (fun y e => by rw [e]) (m_gdd h).2 rfl) rfl ⟨rfl, trivial⟩
-- F8_add: LendHouse$Table.add()I
theorem eF8_add_0 : m_Fe mi8_7 0 (m_ap [(.aload_n 0, 1)] ((.invokevirtual 32, 3) :: ([(.ifCond .eq 5, 3)]))) := m_Fe_of nd1607 0 3 rfl
theorem eF8_add_9 : m_Fe mi8_7 9 (m_ap [(.aload_n 0, 1), (.dup, 1)] ((.getfield 25, 3) :: (m_ap [(.iconst 1, 1), (.iadd, 1)] ((.putfield 25, 3) :: (m_ap [(.iconst 0, 1), (.istore_n 1, 1)] ([])))))) := m_Fe_of nd1607 5 8 rfl
theorem eF8_add_7 : m_Fe mi8_7 7 (m_ap [(.iconst (-1), 1)] ([(.ireturn, 1)])) := m_Fe_of nd1607 3 2 rfl
theorem eF8_add_21 : m_Fe mi8_7 21 (m_ap [(.iload_n 1, 1), (.aload_n 0, 1)] ((.getfield 15, 3) :: ([(.if_icmp .ge 21, 3)]))) := m_Fe_of nd1607 13 4 rfl
theorem eF8_add_47 : m_Fe mi8_7 47 (m_ap [(.aload_n 0, 1)] ((.getfield 25, 3) :: (m_ap [(.iconst 1, 1), (.isub, 1)] ([(.ireturn, 1)])))) := m_Fe_of nd1607 27 5 rfl
theorem eF8_add_29 : m_Fe mi8_7 29 (m_ap [(.aload_n 0, 1), (.aload_n 0, 1)] ((.getfield 25, 3) :: (m_ap [(.iconst 1, 1), (.isub, 1), (.iload_n 1, 1), (.iconst 0, 1)] ((.invokevirtual 36, 3) :: (m_ap [(.iinc 1 1, 3)] ([(.goto (-23), 3)])))))) := m_Fe_of nd1607 17 10 rfl
theorem SF8_add_21b {xs : Nat → Int32} {L : Nat} (x0 : Nat) (s : Int32 × m_H) {r : m_O × m_H} {K : ((Int32 × m_H) ⊕ (Int32 × m_H)) → Prop} (k0 : ∀ x, K (.inr x) → r = (.inl (some (.int x.1)), x.2)) (k1 : ∀ s, K (.inl s) → m_Rn xs L 2 1607 21 [(0, .ref x0), (1, .int s.1)] [] s.2 r) {t : (Int32 × m_H) ⊕ (Int32 × m_H)} (h : F8_add_21b x0 s = some t) (hK : K t) : m_Rn xs L 2 1607 21 [(0, .ref x0), (1, .int s.1)] [] s.2 r := by
  unfold F8_add_21b at h
  refine g_in eF8_add_21 mx1607 ?_
  refine g_ch [(0, .ref x0), (1, .int s.1)] [.ref x0, .int s.1] (pc' := 23) rfl rfl rfl ?_
  obtain ⟨v1, e2, h⟩ := m_bd h
  refine g_gi q8_f15 e2 ?_
  rcases m_ifd h with ⟨c3, h⟩ | ⟨c3, h⟩
  · refine g_if (t := 47) rfl (m_geT c3) ?_
    refine g_in eF8_add_47 mx1607 ?_
    refine g_ch [(0, .ref x0), (1, .int s.1)] [.ref x0] (pc' := 48) rfl rfl rfl ?_
    obtain ⟨v4, e5, h⟩ := m_bd h
    refine g_gi q8_f25 e5 ?_
    refine g_ch [(0, .ref x0), (1, .int s.1)] [.int (v4 - 1)] (pc' := 53) rfl rfl rfl ?_
    cases h
    rw [k0 _ hK]
    exact g_iret rfl rfl
  · refine g_ifn (t := 47) rfl (m_geF c3) ?_
    refine g_in eF8_add_29 mx1607 ?_
    refine g_ch [(0, .ref x0), (1, .int s.1)] [.ref x0, .ref x0] (pc' := 31) rfl rfl rfl ?_
    obtain ⟨v6, e7, h⟩ := m_bd h
    refine g_gi q8_f25 e7 ?_
    refine g_ch [(0, .ref x0), (1, .int s.1)] [.int 0, .int s.1, .int (v6 - 1), .ref x0] (pc' := 38) rfl rfl rfl ?_
    obtain ⟨h9, e8, h⟩ := m_bd h
    refine g_call (v := none) (h := h9) (st' := []) (D1 := 1) (as := [.ref x0, .int (v6 - 1), .int s.1, .int 0]) (Or.inr (Or.inl rfl)) q8_m36 (m_cv (as := [.int 0, .int s.1, .int (v6 - 1)]) (rest := []) (Or.inl rfl) q8_m36 jv1605 (OF8_set e8) rfl rfl rfl rfl) (by decide) (SF8_set e8) rfl ?_
    refine g_ch [(1, .int (s.1 + 1)), (0, .ref x0)] [] (pc' := 44) rfl rfl rfl ?_
    refine g_goto (t := 21) rfl ?_
    cases h
    exact r_lv (k1 ((s.1 + 1), h9) hK) rfl ⟨rfl, rfl, trivial⟩
theorem SF8_add_21 {xs : Nat → Int32} {L : Nat} (x0 : Nat) (x1 : Int32) (hp : m_H) {r : m_O × m_H} {K : Int32 × m_H → Prop} (k0 : ∀ x, K x → r = (.inl (some (.int x.1)), x.2)) {t : Int32 × m_H} (h : F8_add_21 x0 x1 hp = some t) (hK : K t) : m_Rn xs L 2 1607 21 [(0, .ref x0), (1, .int x1)] [] hp r :=
  m_wh_ok (P := fun s => m_Rn xs L 2 1607 21 [(0, .ref x0), (1, .int s.1)] [] s.2 r) (Q := K) (fun s t hb hK => SF8_add_21b x0 s (K := m_KK (fun s => m_Rn xs L 2 1607 21 [(0, .ref x0), (1, .int s.1)] [] s.2 r) K) k0 (fun _ q => q) hb hK) m_N _ _ h hK
theorem SF8_add_0 {xs : Nat → Int32} {L : Nat} (x0 : Nat) (hp : m_H) {r : m_O × m_H} {K : (Int32 × m_H) → Prop} (k0 : ∀ x, K x → r = (.inl (some (.int x.1)), x.2)) {t : Int32 × m_H} (h : F8_add_0 x0 hp = some t) (hK : K t) : m_Rn xs L 2 1607 0 [(0, .ref x0)] [] hp r := by
  unfold F8_add_0 at h
  refine g_in eF8_add_0 mx1607 ?_
  refine g_ch [(0, .ref x0)] [.ref x0] (pc' := 1) rfl rfl rfl ?_
  obtain ⟨v2, e1, h⟩ := m_bd h
  refine g_call (v := some (.int v2)) (h := hp) (st' := [.int v2]) (D1 := 0) (as := [.ref x0]) (Or.inr (Or.inl rfl)) q8_m32 (m_cv (as := []) (rest := []) (Or.inl rfl) q8_m32 jv1602 (OF8_full e1) rfl rfl rfl rfl) (by decide) (SF8_full e1) rfl ?_
  rcases m_ifd h with ⟨c3, h⟩ | ⟨c3, h⟩
  · refine g_ifc (t := 9) rfl (m_eqT c3) ?_
    refine g_in eF8_add_9 mx1607 ?_
    refine g_ch [(0, .ref x0)] [.ref x0, .ref x0] (pc' := 11) rfl rfl rfl ?_
    obtain ⟨v4, e5, h⟩ := m_bd h
    refine g_gi q8_f25 e5 ?_
    refine g_ch [(0, .ref x0)] [.int (v4 + 1), .ref x0] (pc' := 16) rfl rfl rfl ?_
    obtain ⟨h6, e7, h⟩ := m_bd h
    refine g_pf q8_f25 e7 ?_
    refine g_ch [(1, .int 0), (0, .ref x0)] [] (pc' := 21) rfl rfl rfl ?_
    refine g_end ?_
    exact r_lv (SF8_add_21 x0 0 h6 (K := K) k0 h hK) rfl ⟨rfl, rfl, trivial⟩
  · refine g_ifcn (t := 9) rfl (m_eqF c3) ?_
    refine g_in eF8_add_7 mx1607 ?_
    refine g_ch [(0, .ref x0)] [.int (-1)] (pc' := 8) rfl rfl rfl ?_
    cases h
    rw [k0 _ hK]
    exact g_iret rfl rfl
theorem OF8_add {x0 : Nat} {hp : m_H} {x : Int32 × m_H} (h : F8_add x0 hp = some x) : m_isO hp 6 x0 = true := (m_gdd h).1
theorem SF8_add {xs : Nat → Int32} {L : Nat} {x0 : Nat} {hp : m_H} {x : Int32 × m_H} (h : F8_add x0 hp = some x) : m_Rn xs L 2 1607 0 (lv_args 0 [.ref x0]) [] hp (.inl (some (.int x.1)), x.2) :=
  r_lv (SF8_add_0 x0 hp (K := fun y => y = x) (fun y e => by rw [e]) (m_gdd h).2 rfl) rfl ⟨rfl, trivial⟩
-- F3_setUp: LendHouse$House.setUp()V
theorem eF3_setUp_0 : m_Fe mi3_1 0 (m_ap [(.iconst 0, 1), (.istore_n 1, 1)] ([])) := m_Fe_of nd601 0 2 rfl
theorem eF3_setUp_2 : m_Fe mi3_1 2 (m_ap [(.iload_n 1, 1), (.bipush 8, 2)] ([(.if_icmp .ge 37, 3)])) := m_Fe_of nd601 2 3 rfl
theorem eF3_setUp_42 : m_Fe mi3_1 42 (m_ap [(.iconst 0, 1), (.istore_n 1, 1)] ([])) := m_Fe_of nd601 23 2 rfl
theorem eF3_setUp_8 : m_Fe mi3_1 8 (m_ap [(.aload_n 0, 1)] ((.getfield 22, 3) :: ((.invokevirtual 68, 3) :: (m_ap [(.istore_n 2, 1), (.aload_n 0, 1)] ((.getfield 22, 3) :: (m_ap [(.iload_n 2, 1), (.iconst 0, 1), (.iconst 1, 1)] ((.invokevirtual 72, 3) :: (m_ap [(.aload_n 0, 1)] ((.getfield 22, 3) :: (m_ap [(.iload_n 2, 1), (.iconst 3, 1), (.iconst 1, 1)] ((.invokevirtual 72, 3) :: (m_ap [(.iinc 1 1, 3)] ([(.goto (-37), 3)]))))))))))))) := m_Fe_of nd601 5 18 rfl
theorem eF3_setUp_44 : m_Fe mi3_1 44 (m_ap [(.iload_n 1, 1), (.bipush 6, 2)] ([(.if_icmp .ge 25, 3)])) := m_Fe_of nd601 25 3 rfl
theorem eF3_setUp_72 : m_Fe mi3_1 72 (m_ap [(.iconst 0, 1), (.istore_n 1, 1)] ([])) := m_Fe_of nd601 38 2 rfl
theorem eF3_setUp_50 : m_Fe mi3_1 50 (m_ap [(.aload_n 0, 1)] ((.getfield 38, 3) :: (m_ap [(.aload_n 0, 1)] ((.getfield 38, 3) :: ((.invokevirtual 68, 3) :: (m_ap [(.iconst 2, 1), (.iconst 2, 1)] ((.invokevirtual 72, 3) :: (m_ap [(.iinc 1 1, 3)] ([(.goto (-25), 3)]))))))))) := m_Fe_of nd601 28 10 rfl
theorem eF3_setUp_74 : m_Fe mi3_1 74 (m_ap [(.iload_n 1, 1), (.bipush 48, 2)] ([(.if_icmp .ge 17, 3)])) := m_Fe_of nd601 40 3 rfl
theorem eF3_setUp_94 : m_Fe mi3_1 94 (m_ap [(.iconst 0, 1), (.istore_n 1, 1)] ([])) := m_Fe_of nd601 49 2 rfl
theorem eF3_setUp_80 : m_Fe mi3_1 80 (m_ap [(.aload_n 0, 1)] ((.getfield 41, 3) :: ((.invokevirtual 68, 3) :: (m_ap [(.pop, 1), (.iinc 1 1, 3)] ([(.goto (-17), 3)]))))) := m_Fe_of nd601 43 6 rfl
theorem eF3_setUp_96 : m_Fe mi3_1 96 (m_ap [(.iload_n 1, 1), (.bipush 15, 2)] ([(.if_icmp .ge 17, 3)])) := m_Fe_of nd601 51 3 rfl
theorem eF3_setUp_116 : m_Fe mi3_1 116 ([(.return_, 1)]) := m_Fe_of nd601 60 1 rfl
theorem eF3_setUp_102 : m_Fe mi3_1 102 (m_ap [(.aload_n 0, 1)] ((.getfield 62, 3) :: ((.invokevirtual 68, 3) :: (m_ap [(.pop, 1), (.iinc 1 1, 3)] ([(.goto (-17), 3)]))))) := m_Fe_of nd601 54 6 rfl
theorem SF3_setUp_96b {xs : Nat → Int32} {L : Nat} (x0 : Nat) (s : Int32 × m_H) {r : m_O × m_H} {K : ((Int32 × m_H) ⊕ m_H) → Prop} (k0 : ∀ x, K (.inr x) → r = (.inl none, x)) (k1 : ∀ s, K (.inl s) → m_Rn xs L 3 601 96 [(0, .ref x0), (1, .int s.1)] [] s.2 r) {t : (Int32 × m_H) ⊕ m_H} (h : F3_setUp_96b x0 s = some t) (hK : K t) : m_Rn xs L 3 601 96 [(0, .ref x0), (1, .int s.1)] [] s.2 r := by
  unfold F3_setUp_96b at h
  refine g_in eF3_setUp_96 mx601 ?_
  refine g_ch [(0, .ref x0), (1, .int s.1)] [.int 15, .int s.1] (pc' := 99) rfl rfl rfl ?_
  rcases m_ifd h with ⟨c1, h⟩ | ⟨c1, h⟩
  · refine g_if (t := 116) rfl (m_geT c1) ?_
    refine g_in eF3_setUp_116 mx601 ?_
    cases h
    rw [k0 _ hK]
    exact g_vret rfl
  · refine g_ifn (t := 116) rfl (m_geF c1) ?_
    refine g_in eF3_setUp_102 mx601 ?_
    refine g_ch [(0, .ref x0), (1, .int s.1)] [.ref x0] (pc' := 103) rfl rfl rfl ?_
    obtain ⟨v2, e3, h⟩ := m_bd h
    refine g_gr q3_f62 e3 ?_
    obtain ⟨z5, e4, h⟩ := m_bd h
    refine g_call (v := some (.int z5.1)) (h := z5.2) (st' := [.int z5.1]) (D1 := 2) (as := [.ref v2]) (Or.inr (Or.inl rfl)) q3_m68 (m_cv (as := []) (rest := []) (Or.inl rfl) q3_m68 jv1607 (OF8_add e4) rfl rfl rfl rfl) (by decide) (SF8_add e4) rfl ?_
    refine g_ch [(1, .int (s.1 + 1)), (0, .ref x0)] [] (pc' := 113) rfl rfl rfl ?_
    refine g_goto (t := 96) rfl ?_
    cases h
    exact r_lv (k1 ((s.1 + 1), z5.2) hK) rfl ⟨rfl, rfl, trivial⟩
theorem SF3_setUp_96 {xs : Nat → Int32} {L : Nat} (x0 : Nat) (x1 : Int32) (hp : m_H) {r : m_O × m_H} {K : m_H → Prop} (k0 : ∀ x, K x → r = (.inl none, x)) {t : m_H} (h : F3_setUp_96 x0 x1 hp = some t) (hK : K t) : m_Rn xs L 3 601 96 [(0, .ref x0), (1, .int x1)] [] hp r :=
  m_wh_ok (P := fun s => m_Rn xs L 3 601 96 [(0, .ref x0), (1, .int s.1)] [] s.2 r) (Q := K) (fun s t hb hK => SF3_setUp_96b x0 s (K := m_KK (fun s => m_Rn xs L 3 601 96 [(0, .ref x0), (1, .int s.1)] [] s.2 r) K) k0 (fun _ q => q) hb hK) m_N _ _ h hK
theorem SF3_setUp_74b {xs : Nat → Int32} {L : Nat} (x0 : Nat) (s : Int32 × m_H) {r : m_O × m_H} {K : ((Int32 × m_H) ⊕ m_H) → Prop} (k0 : ∀ x, K (.inr x) → r = (.inl none, x)) (k1 : ∀ s, K (.inl s) → m_Rn xs L 3 601 74 [(0, .ref x0), (1, .int s.1)] [] s.2 r) {t : (Int32 × m_H) ⊕ m_H} (h : F3_setUp_74b x0 s = some t) (hK : K t) : m_Rn xs L 3 601 74 [(0, .ref x0), (1, .int s.1)] [] s.2 r := by
  unfold F3_setUp_74b at h
  refine g_in eF3_setUp_74 mx601 ?_
  refine g_ch [(0, .ref x0), (1, .int s.1)] [.int 48, .int s.1] (pc' := 77) rfl rfl rfl ?_
  rcases m_ifd h with ⟨c1, h⟩ | ⟨c1, h⟩
  · refine g_if (t := 94) rfl (m_geT c1) ?_
    refine g_in eF3_setUp_94 mx601 ?_
    refine g_ch [(1, .int 0), (0, .ref x0)] [] (pc' := 96) rfl rfl rfl ?_
    refine g_end ?_
    obtain ⟨t', h2, rfl⟩ := Option.map_eq_some_iff.mp h
    exact r_lv (SF3_setUp_96 x0 0 s.2 (K := fun t => K (.inr t)) k0 h2 hK) rfl ⟨rfl, rfl, trivial⟩
  · refine g_ifn (t := 94) rfl (m_geF c1) ?_
    refine g_in eF3_setUp_80 mx601 ?_
    refine g_ch [(0, .ref x0), (1, .int s.1)] [.ref x0] (pc' := 81) rfl rfl rfl ?_
    obtain ⟨v2, e3, h⟩ := m_bd h
    refine g_gr q3_f41 e3 ?_
    obtain ⟨z5, e4, h⟩ := m_bd h
    refine g_call (v := some (.int z5.1)) (h := z5.2) (st' := [.int z5.1]) (D1 := 2) (as := [.ref v2]) (Or.inr (Or.inl rfl)) q3_m68 (m_cv (as := []) (rest := []) (Or.inl rfl) q3_m68 jv1607 (OF8_add e4) rfl rfl rfl rfl) (by decide) (SF8_add e4) rfl ?_
    refine g_ch [(1, .int (s.1 + 1)), (0, .ref x0)] [] (pc' := 91) rfl rfl rfl ?_
    refine g_goto (t := 74) rfl ?_
    cases h
    exact r_lv (k1 ((s.1 + 1), z5.2) hK) rfl ⟨rfl, rfl, trivial⟩
theorem SF3_setUp_74 {xs : Nat → Int32} {L : Nat} (x0 : Nat) (x1 : Int32) (hp : m_H) {r : m_O × m_H} {K : m_H → Prop} (k0 : ∀ x, K x → r = (.inl none, x)) {t : m_H} (h : F3_setUp_74 x0 x1 hp = some t) (hK : K t) : m_Rn xs L 3 601 74 [(0, .ref x0), (1, .int x1)] [] hp r :=
  m_wh_ok (P := fun s => m_Rn xs L 3 601 74 [(0, .ref x0), (1, .int s.1)] [] s.2 r) (Q := K) (fun s t hb hK => SF3_setUp_74b x0 s (K := m_KK (fun s => m_Rn xs L 3 601 74 [(0, .ref x0), (1, .int s.1)] [] s.2 r) K) k0 (fun _ q => q) hb hK) m_N _ _ h hK
theorem SF3_setUp_44b {xs : Nat → Int32} {L : Nat} (x0 : Nat) (s : Int32 × m_H) {r : m_O × m_H} {K : ((Int32 × m_H) ⊕ m_H) → Prop} (k0 : ∀ x, K (.inr x) → r = (.inl none, x)) (k1 : ∀ s, K (.inl s) → m_Rn xs L 3 601 44 [(0, .ref x0), (1, .int s.1)] [] s.2 r) {t : (Int32 × m_H) ⊕ m_H} (h : F3_setUp_44b x0 s = some t) (hK : K t) : m_Rn xs L 3 601 44 [(0, .ref x0), (1, .int s.1)] [] s.2 r := by
  unfold F3_setUp_44b at h
  refine g_in eF3_setUp_44 mx601 ?_
  refine g_ch [(0, .ref x0), (1, .int s.1)] [.int 6, .int s.1] (pc' := 47) rfl rfl rfl ?_
  rcases m_ifd h with ⟨c1, h⟩ | ⟨c1, h⟩
  · refine g_if (t := 72) rfl (m_geT c1) ?_
    refine g_in eF3_setUp_72 mx601 ?_
    refine g_ch [(1, .int 0), (0, .ref x0)] [] (pc' := 74) rfl rfl rfl ?_
    refine g_end ?_
    obtain ⟨t', h2, rfl⟩ := Option.map_eq_some_iff.mp h
    exact r_lv (SF3_setUp_74 x0 0 s.2 (K := fun t => K (.inr t)) k0 h2 hK) rfl ⟨rfl, rfl, trivial⟩
  · refine g_ifn (t := 72) rfl (m_geF c1) ?_
    refine g_in eF3_setUp_50 mx601 ?_
    refine g_ch [(0, .ref x0), (1, .int s.1)] [.ref x0] (pc' := 51) rfl rfl rfl ?_
    obtain ⟨v2, e3, h⟩ := m_bd h
    refine g_gr q3_f38 e3 ?_
    refine g_ch [(0, .ref x0), (1, .int s.1)] [.ref x0, .ref v2] (pc' := 55) rfl rfl rfl ?_
    obtain ⟨v4, e5, h⟩ := m_bd h
    refine g_gr q3_f38 e5 ?_
    obtain ⟨z7, e6, h⟩ := m_bd h
    refine g_call (v := some (.int z7.1)) (h := z7.2) (st' := [.int z7.1, .ref v2]) (D1 := 2) (as := [.ref v4]) (Or.inr (Or.inl rfl)) q3_m68 (m_cv (as := []) (rest := [.ref v2]) (Or.inl rfl) q3_m68 jv1607 (OF8_add e6) rfl rfl rfl rfl) (by decide) (SF8_add e6) rfl ?_
    refine g_ch [(0, .ref x0), (1, .int s.1)] [.int 2, .int 2, .int z7.1, .ref v2] (pc' := 63) rfl rfl rfl ?_
    obtain ⟨h9, e8, h⟩ := m_bd h
    refine g_call (v := none) (h := h9) (st' := []) (D1 := 1) (as := [.ref v2, .int z7.1, .int 2, .int 2]) (Or.inr (Or.inl rfl)) q3_m72 (m_cv (as := [.int 2, .int 2, .int z7.1]) (rest := []) (Or.inl rfl) q3_m72 jv1605 (OF8_set e8) rfl rfl rfl rfl) (by decide) (SF8_set e8) rfl ?_
    refine g_ch [(1, .int (s.1 + 1)), (0, .ref x0)] [] (pc' := 69) rfl rfl rfl ?_
    refine g_goto (t := 44) rfl ?_
    cases h
    exact r_lv (k1 ((s.1 + 1), h9) hK) rfl ⟨rfl, rfl, trivial⟩
theorem SF3_setUp_44 {xs : Nat → Int32} {L : Nat} (x0 : Nat) (x1 : Int32) (hp : m_H) {r : m_O × m_H} {K : m_H → Prop} (k0 : ∀ x, K x → r = (.inl none, x)) {t : m_H} (h : F3_setUp_44 x0 x1 hp = some t) (hK : K t) : m_Rn xs L 3 601 44 [(0, .ref x0), (1, .int x1)] [] hp r :=
  m_wh_ok (P := fun s => m_Rn xs L 3 601 44 [(0, .ref x0), (1, .int s.1)] [] s.2 r) (Q := K) (fun s t hb hK => SF3_setUp_44b x0 s (K := m_KK (fun s => m_Rn xs L 3 601 44 [(0, .ref x0), (1, .int s.1)] [] s.2 r) K) k0 (fun _ q => q) hb hK) m_N _ _ h hK
theorem SF3_setUp_2b {xs : Nat → Int32} {L : Nat} (x0 : Nat) (s : Int32 × m_H) {r : m_O × m_H} {K : ((Int32 × m_H) ⊕ m_H) → Prop} (k0 : ∀ x, K (.inr x) → r = (.inl none, x)) (k1 : ∀ s, K (.inl s) → m_Rn xs L 3 601 2 [(0, .ref x0), (1, .int s.1)] [] s.2 r) {t : (Int32 × m_H) ⊕ m_H} (h : F3_setUp_2b x0 s = some t) (hK : K t) : m_Rn xs L 3 601 2 [(0, .ref x0), (1, .int s.1)] [] s.2 r := by
  unfold F3_setUp_2b at h
  refine g_in eF3_setUp_2 mx601 ?_
  refine g_ch [(0, .ref x0), (1, .int s.1)] [.int 8, .int s.1] (pc' := 5) rfl rfl rfl ?_
  rcases m_ifd h with ⟨c1, h⟩ | ⟨c1, h⟩
  · refine g_if (t := 42) rfl (m_geT c1) ?_
    refine g_in eF3_setUp_42 mx601 ?_
    refine g_ch [(1, .int 0), (0, .ref x0)] [] (pc' := 44) rfl rfl rfl ?_
    refine g_end ?_
    obtain ⟨t', h2, rfl⟩ := Option.map_eq_some_iff.mp h
    exact r_lv (SF3_setUp_44 x0 0 s.2 (K := fun t => K (.inr t)) k0 h2 hK) rfl ⟨rfl, rfl, trivial⟩
  · refine g_ifn (t := 42) rfl (m_geF c1) ?_
    refine g_in eF3_setUp_8 mx601 ?_
    refine g_ch [(0, .ref x0), (1, .int s.1)] [.ref x0] (pc' := 9) rfl rfl rfl ?_
    obtain ⟨v2, e3, h⟩ := m_bd h
    refine g_gr q3_f22 e3 ?_
    obtain ⟨z5, e4, h⟩ := m_bd h
    refine g_call (v := some (.int z5.1)) (h := z5.2) (st' := [.int z5.1]) (D1 := 2) (as := [.ref v2]) (Or.inr (Or.inl rfl)) q3_m68 (m_cv (as := []) (rest := []) (Or.inl rfl) q3_m68 jv1607 (OF8_add e4) rfl rfl rfl rfl) (by decide) (SF8_add e4) rfl ?_
    refine g_ch [(2, .int z5.1), (0, .ref x0), (1, .int s.1)] [.ref x0] (pc' := 17) rfl rfl rfl ?_
    obtain ⟨v6, e7, h⟩ := m_bd h
    refine g_gr q3_f22 e7 ?_
    refine g_ch [(2, .int z5.1), (0, .ref x0), (1, .int s.1)] [.int 1, .int 0, .int z5.1, .ref v6] (pc' := 23) rfl rfl rfl ?_
    obtain ⟨h9, e8, h⟩ := m_bd h
    refine g_call (v := none) (h := h9) (st' := []) (D1 := 1) (as := [.ref v6, .int z5.1, .int 0, .int 1]) (Or.inr (Or.inl rfl)) q3_m72 (m_cv (as := [.int 1, .int 0, .int z5.1]) (rest := []) (Or.inl rfl) q3_m72 jv1605 (OF8_set e8) rfl rfl rfl rfl) (by decide) (SF8_set e8) rfl ?_
    refine g_ch [(2, .int z5.1), (0, .ref x0), (1, .int s.1)] [.ref x0] (pc' := 27) rfl rfl rfl ?_
    obtain ⟨v10, e11, h⟩ := m_bd h
    refine g_gr q3_f22 e11 ?_
    refine g_ch [(2, .int z5.1), (0, .ref x0), (1, .int s.1)] [.int 1, .int 3, .int z5.1, .ref v10] (pc' := 33) rfl rfl rfl ?_
    obtain ⟨h13, e12, h⟩ := m_bd h
    refine g_call (v := none) (h := h13) (st' := []) (D1 := 1) (as := [.ref v10, .int z5.1, .int 3, .int 1]) (Or.inr (Or.inl rfl)) q3_m72 (m_cv (as := [.int 1, .int 3, .int z5.1]) (rest := []) (Or.inl rfl) q3_m72 jv1605 (OF8_set e12) rfl rfl rfl rfl) (by decide) (SF8_set e12) rfl ?_
    refine g_ch [(1, .int (s.1 + 1)), (2, .int z5.1), (0, .ref x0)] [] (pc' := 39) rfl rfl rfl ?_
    refine g_goto (t := 2) rfl ?_
    cases h
    exact r_lv (k1 ((s.1 + 1), h13) hK) rfl ⟨rfl, rfl, trivial⟩
theorem SF3_setUp_2 {xs : Nat → Int32} {L : Nat} (x0 : Nat) (x1 : Int32) (hp : m_H) {r : m_O × m_H} {K : m_H → Prop} (k0 : ∀ x, K x → r = (.inl none, x)) {t : m_H} (h : F3_setUp_2 x0 x1 hp = some t) (hK : K t) : m_Rn xs L 3 601 2 [(0, .ref x0), (1, .int x1)] [] hp r :=
  m_wh_ok (P := fun s => m_Rn xs L 3 601 2 [(0, .ref x0), (1, .int s.1)] [] s.2 r) (Q := K) (fun s t hb hK => SF3_setUp_2b x0 s (K := m_KK (fun s => m_Rn xs L 3 601 2 [(0, .ref x0), (1, .int s.1)] [] s.2 r) K) k0 (fun _ q => q) hb hK) m_N _ _ h hK
theorem SF3_setUp_0 {xs : Nat → Int32} {L : Nat} (x0 : Nat) (hp : m_H) {r : m_O × m_H} {K : m_H → Prop} (k0 : ∀ x, K x → r = (.inl none, x)) {t : m_H} (h : F3_setUp_0 x0 hp = some t) (hK : K t) : m_Rn xs L 3 601 0 [(0, .ref x0)] [] hp r := by
  unfold F3_setUp_0 at h
  refine g_in eF3_setUp_0 mx601 ?_
  refine g_ch [(1, .int 0), (0, .ref x0)] [] (pc' := 2) rfl rfl rfl ?_
  refine g_end ?_
  exact r_lv (SF3_setUp_2 x0 0 hp (K := K) k0 h hK) rfl ⟨rfl, rfl, trivial⟩
theorem OF3_setUp {x0 : Nat} {hp : m_H} {x : m_H} (h : F3_setUp x0 hp = some x) : m_isO hp 3 x0 = true := (m_gdd h).1
theorem SF3_setUp {xs : Nat → Int32} {L : Nat} {x0 : Nat} {hp : m_H} {x : m_H} (h : F3_setUp x0 hp = some x) : m_Rn xs L 3 601 0 (lv_args 0 [.ref x0]) [] hp (.inl none, x) :=
  r_lv (SF3_setUp_0 x0 hp (K := fun y => y = x) (fun y e => by rw [e]) (m_gdd h).2 rfl) rfl ⟨rfl, trivial⟩
-- F3_init: LendHouse$House.<init>()V
theorem eF3_init_0 : m_Fe mi3_0 0 (m_ap [(.aload_n 0, 1)] ((.invokespecial 3, 3) :: (m_ap [(.aload_n 0, 1), (.bipush 10, 2)] ((.anewarray 11, 3) :: ((.putfield 13, 3) :: (m_ap [(.aload_n 0, 1)] ((.new 17, 3) :: (m_ap [(.dup, 1), (.bipush 8, 2), (.iconst 4, 1)] ((.invokespecial 19, 3) :: ((.putfield 22, 3) :: (m_ap [(.aload_n 0, 1)] ((.new 17, 3) :: (m_ap [(.dup, 1), (.bipush 100, 2), (.iconst 3, 1)] ((.invokespecial 19, 3) :: ((.putfield 26, 3) :: (m_ap [(.aload_n 0, 1)] ((.new 17, 3) :: (m_ap [(.dup, 1), (.bipush 100, 2), (.bipush 21, 2)] ((.invokespecial 19, 3) :: ((.putfield 29, 3) :: (m_ap [(.aload_n 0, 1)] ((.new 17, 3) :: (m_ap [(.dup, 1), (.bipush 60, 2), (.iconst 5, 1)] ((.invokespecial 19, 3) :: ((.putfield 32, 3) :: (m_ap [(.aload_n 0, 1)] ((.new 17, 3) :: (m_ap [(.dup, 1), (.bipush 12, 2), (.bipush 23, 2)] ((.invokespecial 19, 3) :: ((.putfield 35, 3) :: (m_ap [(.aload_n 0, 1)] ((.new 17, 3) :: (m_ap [(.dup, 1), (.bipush 6, 2), (.iconst 4, 1)] ((.invokespecial 19, 3) :: ((.putfield 38, 3) :: (m_ap [(.aload_n 0, 1)] ((.new 17, 3) :: (m_ap [(.dup, 1), (.bipush 48, 2), (.iconst 3, 1)] ((.invokespecial 19, 3) :: ((.putfield 41, 3) :: (m_ap [(.aload_n 0, 1)] ((.new 17, 3) :: (m_ap [(.dup, 1), (.bipush 100, 2), (.iconst 3, 1)] ((.invokespecial 19, 3) :: ((.putfield 44, 3) :: (m_ap [(.aload_n 0, 1)] ((.new 17, 3) :: (m_ap [(.dup, 1), (.bipush 100, 2), (.iconst 5, 1)] ((.invokespecial 19, 3) :: ((.putfield 47, 3) :: (m_ap [(.aload_n 0, 1)] ((.new 17, 3) :: (m_ap [(.dup, 1), (.bipush 60, 2), (.iconst 3, 1)] ((.invokespecial 19, 3) :: ((.putfield 50, 3) :: (m_ap [(.aload_n 0, 1)] ((.new 17, 3) :: (m_ap [(.dup, 1), (.bipush 10, 2), (.bipush 6, 2)] ((.invokespecial 19, 3) :: ((.putfield 53, 3) :: (m_ap [(.aload_n 0, 1)] ((.new 17, 3) :: (m_ap [(.dup, 1), (.bipush 9, 2), (.iconst 2, 1)] ((.invokespecial 19, 3) :: ((.putfield 56, 3) :: (m_ap [(.aload_n 0, 1)] ((.new 17, 3) :: (m_ap [(.dup, 1), (.bipush 8, 2), (.iconst 4, 1)] ((.invokespecial 19, 3) :: ((.putfield 59, 3) :: (m_ap [(.aload_n 0, 1)] ((.new 17, 3) :: (m_ap [(.dup, 1), (.bipush 15, 2), (.iconst 3, 1)] ((.invokespecial 19, 3) :: ((.putfield 62, 3) :: (m_ap [(.aload_n 0, 1)] ((.invokevirtual 65, 3) :: ([(.return_, 1)])))))))))))))))))))))))))))))))))))))))))))))))))))))))))))))))))))))))))))))) := m_Fe_of nd600 0 107 rfl
theorem SF3_init_0 {xs : Nat → Int32} {L : Nat} (x0 : Nat) (hp : m_H) {r : m_O × m_H} {K : m_H → Prop} (k0 : ∀ x, K x → r = (.inl none, x)) {t : m_H} (h : F3_init_0 x0 hp = some t) (hK : K t) : m_Rn xs L 8 600 0 [(0, .ref x0)] [] hp r := by
  unfold F3_init_0 at h
  refine g_in eF3_init_0 mx600 ?_
  refine g_ch [(0, .ref x0)] [.ref x0] (pc' := 1) rfl rfl rfl ?_
  refine g_nat (Or.inr (Or.inr rfl)) q3_m3 rfl (z := ([], hp)) rfl (by decide) ?_
  refine g_ch [(0, .ref x0)] [.int 10, .ref x0] (pc' := 7) rfl rfl rfl ?_
  obtain ⟨h1, e2, h⟩ := m_bd h
  refine g_ana (by decide +kernel) e2 ?_
  obtain ⟨h3, e4, h⟩ := m_bd h
  refine g_pf q3_f13 e4 ?_
  refine g_ch [(0, .ref x0)] [.ref x0] (pc' := 14) rfl rfl rfl ?_
  obtain ⟨h5, e6, h⟩ := m_bd h
  refine g_newo (by decide +kernel) (by decide +kernel) e6 ?_
  refine g_ch [(0, .ref x0)] [.int 4, .int 8, .ref (m_id h3), .ref (m_id h3), .ref x0] (pc' := 21) rfl rfl rfl ?_
  obtain ⟨h8, e7, h⟩ := m_bd h
  refine g_call (v := none) (h := h8) (st' := [.ref (m_id h3), .ref x0]) (D1 := 7) (as := [.ref (m_id h3), .int 8, .int 4]) (Or.inr (Or.inr rfl)) q3_m19 (m_cv (as := [.int 4, .int 8]) (rest := [.ref (m_id h3), .ref x0]) (Or.inr rfl) q3_m19 jv1600 (OF8_init e7) rfl rfl rfl rfl) (by decide) (SF8_init e7) rfl ?_
  obtain ⟨h9, e10, h⟩ := m_bd h
  refine g_pf q3_f22 e10 ?_
  refine g_ch [(0, .ref x0)] [.ref x0] (pc' := 28) rfl rfl rfl ?_
  obtain ⟨h11, e12, h⟩ := m_bd h
  refine g_newo (by decide +kernel) (by decide +kernel) e12 ?_
  refine g_ch [(0, .ref x0)] [.int 3, .int 100, .ref (m_id h9), .ref (m_id h9), .ref x0] (pc' := 35) rfl rfl rfl ?_
  obtain ⟨h14, e13, h⟩ := m_bd h
  refine g_call (v := none) (h := h14) (st' := [.ref (m_id h9), .ref x0]) (D1 := 7) (as := [.ref (m_id h9), .int 100, .int 3]) (Or.inr (Or.inr rfl)) q3_m19 (m_cv (as := [.int 3, .int 100]) (rest := [.ref (m_id h9), .ref x0]) (Or.inr rfl) q3_m19 jv1600 (OF8_init e13) rfl rfl rfl rfl) (by decide) (SF8_init e13) rfl ?_
  obtain ⟨h15, e16, h⟩ := m_bd h
  refine g_pf q3_f26 e16 ?_
  refine g_ch [(0, .ref x0)] [.ref x0] (pc' := 42) rfl rfl rfl ?_
  obtain ⟨h17, e18, h⟩ := m_bd h
  refine g_newo (by decide +kernel) (by decide +kernel) e18 ?_
  refine g_ch [(0, .ref x0)] [.int 21, .int 100, .ref (m_id h15), .ref (m_id h15), .ref x0] (pc' := 50) rfl rfl rfl ?_
  obtain ⟨h20, e19, h⟩ := m_bd h
  refine g_call (v := none) (h := h20) (st' := [.ref (m_id h15), .ref x0]) (D1 := 7) (as := [.ref (m_id h15), .int 100, .int 21]) (Or.inr (Or.inr rfl)) q3_m19 (m_cv (as := [.int 21, .int 100]) (rest := [.ref (m_id h15), .ref x0]) (Or.inr rfl) q3_m19 jv1600 (OF8_init e19) rfl rfl rfl rfl) (by decide) (SF8_init e19) rfl ?_
  obtain ⟨h21, e22, h⟩ := m_bd h
  refine g_pf q3_f29 e22 ?_
  refine g_ch [(0, .ref x0)] [.ref x0] (pc' := 57) rfl rfl rfl ?_
  obtain ⟨h23, e24, h⟩ := m_bd h
  refine g_newo (by decide +kernel) (by decide +kernel) e24 ?_
  refine g_ch [(0, .ref x0)] [.int 5, .int 60, .ref (m_id h21), .ref (m_id h21), .ref x0] (pc' := 64) rfl rfl rfl ?_
  obtain ⟨h26, e25, h⟩ := m_bd h
  refine g_call (v := none) (h := h26) (st' := [.ref (m_id h21), .ref x0]) (D1 := 7) (as := [.ref (m_id h21), .int 60, .int 5]) (Or.inr (Or.inr rfl)) q3_m19 (m_cv (as := [.int 5, .int 60]) (rest := [.ref (m_id h21), .ref x0]) (Or.inr rfl) q3_m19 jv1600 (OF8_init e25) rfl rfl rfl rfl) (by decide) (SF8_init e25) rfl ?_
  obtain ⟨h27, e28, h⟩ := m_bd h
  refine g_pf q3_f32 e28 ?_
  refine g_ch [(0, .ref x0)] [.ref x0] (pc' := 71) rfl rfl rfl ?_
  obtain ⟨h29, e30, h⟩ := m_bd h
  refine g_newo (by decide +kernel) (by decide +kernel) e30 ?_
  refine g_ch [(0, .ref x0)] [.int 23, .int 12, .ref (m_id h27), .ref (m_id h27), .ref x0] (pc' := 79) rfl rfl rfl ?_
  obtain ⟨h32, e31, h⟩ := m_bd h
  refine g_call (v := none) (h := h32) (st' := [.ref (m_id h27), .ref x0]) (D1 := 7) (as := [.ref (m_id h27), .int 12, .int 23]) (Or.inr (Or.inr rfl)) q3_m19 (m_cv (as := [.int 23, .int 12]) (rest := [.ref (m_id h27), .ref x0]) (Or.inr rfl) q3_m19 jv1600 (OF8_init e31) rfl rfl rfl rfl) (by decide) (SF8_init e31) rfl ?_
  obtain ⟨h33, e34, h⟩ := m_bd h
  refine g_pf q3_f35 e34 ?_
  refine g_ch [(0, .ref x0)] [.ref x0] (pc' := 86) rfl rfl rfl ?_
  obtain ⟨h35, e36, h⟩ := m_bd h
  refine g_newo (by decide +kernel) (by decide +kernel) e36 ?_
  refine g_ch [(0, .ref x0)] [.int 4, .int 6, .ref (m_id h33), .ref (m_id h33), .ref x0] (pc' := 93) rfl rfl rfl ?_
  obtain ⟨h38, e37, h⟩ := m_bd h
  refine g_call (v := none) (h := h38) (st' := [.ref (m_id h33), .ref x0]) (D1 := 7) (as := [.ref (m_id h33), .int 6, .int 4]) (Or.inr (Or.inr rfl)) q3_m19 (m_cv (as := [.int 4, .int 6]) (rest := [.ref (m_id h33), .ref x0]) (Or.inr rfl) q3_m19 jv1600 (OF8_init e37) rfl rfl rfl rfl) (by decide) (SF8_init e37) rfl ?_
  obtain ⟨h39, e40, h⟩ := m_bd h
  refine g_pf q3_f38 e40 ?_
  refine g_ch [(0, .ref x0)] [.ref x0] (pc' := 100) rfl rfl rfl ?_
  obtain ⟨h41, e42, h⟩ := m_bd h
  refine g_newo (by decide +kernel) (by decide +kernel) e42 ?_
  refine g_ch [(0, .ref x0)] [.int 3, .int 48, .ref (m_id h39), .ref (m_id h39), .ref x0] (pc' := 107) rfl rfl rfl ?_
  obtain ⟨h44, e43, h⟩ := m_bd h
  refine g_call (v := none) (h := h44) (st' := [.ref (m_id h39), .ref x0]) (D1 := 7) (as := [.ref (m_id h39), .int 48, .int 3]) (Or.inr (Or.inr rfl)) q3_m19 (m_cv (as := [.int 3, .int 48]) (rest := [.ref (m_id h39), .ref x0]) (Or.inr rfl) q3_m19 jv1600 (OF8_init e43) rfl rfl rfl rfl) (by decide) (SF8_init e43) rfl ?_
  obtain ⟨h45, e46, h⟩ := m_bd h
  refine g_pf q3_f41 e46 ?_
  refine g_ch [(0, .ref x0)] [.ref x0] (pc' := 114) rfl rfl rfl ?_
  obtain ⟨h47, e48, h⟩ := m_bd h
  refine g_newo (by decide +kernel) (by decide +kernel) e48 ?_
  refine g_ch [(0, .ref x0)] [.int 3, .int 100, .ref (m_id h45), .ref (m_id h45), .ref x0] (pc' := 121) rfl rfl rfl ?_
  obtain ⟨h50, e49, h⟩ := m_bd h
  refine g_call (v := none) (h := h50) (st' := [.ref (m_id h45), .ref x0]) (D1 := 7) (as := [.ref (m_id h45), .int 100, .int 3]) (Or.inr (Or.inr rfl)) q3_m19 (m_cv (as := [.int 3, .int 100]) (rest := [.ref (m_id h45), .ref x0]) (Or.inr rfl) q3_m19 jv1600 (OF8_init e49) rfl rfl rfl rfl) (by decide) (SF8_init e49) rfl ?_
  obtain ⟨h51, e52, h⟩ := m_bd h
  refine g_pf q3_f44 e52 ?_
  refine g_ch [(0, .ref x0)] [.ref x0] (pc' := 128) rfl rfl rfl ?_
  obtain ⟨h53, e54, h⟩ := m_bd h
  refine g_newo (by decide +kernel) (by decide +kernel) e54 ?_
  refine g_ch [(0, .ref x0)] [.int 5, .int 100, .ref (m_id h51), .ref (m_id h51), .ref x0] (pc' := 135) rfl rfl rfl ?_
  obtain ⟨h56, e55, h⟩ := m_bd h
  refine g_call (v := none) (h := h56) (st' := [.ref (m_id h51), .ref x0]) (D1 := 7) (as := [.ref (m_id h51), .int 100, .int 5]) (Or.inr (Or.inr rfl)) q3_m19 (m_cv (as := [.int 5, .int 100]) (rest := [.ref (m_id h51), .ref x0]) (Or.inr rfl) q3_m19 jv1600 (OF8_init e55) rfl rfl rfl rfl) (by decide) (SF8_init e55) rfl ?_
  obtain ⟨h57, e58, h⟩ := m_bd h
  refine g_pf q3_f47 e58 ?_
  refine g_ch [(0, .ref x0)] [.ref x0] (pc' := 142) rfl rfl rfl ?_
  obtain ⟨h59, e60, h⟩ := m_bd h
  refine g_newo (by decide +kernel) (by decide +kernel) e60 ?_
  refine g_ch [(0, .ref x0)] [.int 3, .int 60, .ref (m_id h57), .ref (m_id h57), .ref x0] (pc' := 149) rfl rfl rfl ?_
  obtain ⟨h62, e61, h⟩ := m_bd h
  refine g_call (v := none) (h := h62) (st' := [.ref (m_id h57), .ref x0]) (D1 := 7) (as := [.ref (m_id h57), .int 60, .int 3]) (Or.inr (Or.inr rfl)) q3_m19 (m_cv (as := [.int 3, .int 60]) (rest := [.ref (m_id h57), .ref x0]) (Or.inr rfl) q3_m19 jv1600 (OF8_init e61) rfl rfl rfl rfl) (by decide) (SF8_init e61) rfl ?_
  obtain ⟨h63, e64, h⟩ := m_bd h
  refine g_pf q3_f50 e64 ?_
  refine g_ch [(0, .ref x0)] [.ref x0] (pc' := 156) rfl rfl rfl ?_
  obtain ⟨h65, e66, h⟩ := m_bd h
  refine g_newo (by decide +kernel) (by decide +kernel) e66 ?_
  refine g_ch [(0, .ref x0)] [.int 6, .int 10, .ref (m_id h63), .ref (m_id h63), .ref x0] (pc' := 164) rfl rfl rfl ?_
  obtain ⟨h68, e67, h⟩ := m_bd h
  refine g_call (v := none) (h := h68) (st' := [.ref (m_id h63), .ref x0]) (D1 := 7) (as := [.ref (m_id h63), .int 10, .int 6]) (Or.inr (Or.inr rfl)) q3_m19 (m_cv (as := [.int 6, .int 10]) (rest := [.ref (m_id h63), .ref x0]) (Or.inr rfl) q3_m19 jv1600 (OF8_init e67) rfl rfl rfl rfl) (by decide) (SF8_init e67) rfl ?_
  obtain ⟨h69, e70, h⟩ := m_bd h
  refine g_pf q3_f53 e70 ?_
  refine g_ch [(0, .ref x0)] [.ref x0] (pc' := 171) rfl rfl rfl ?_
  obtain ⟨h71, e72, h⟩ := m_bd h
  refine g_newo (by decide +kernel) (by decide +kernel) e72 ?_
  refine g_ch [(0, .ref x0)] [.int 2, .int 9, .ref (m_id h69), .ref (m_id h69), .ref x0] (pc' := 178) rfl rfl rfl ?_
  obtain ⟨h74, e73, h⟩ := m_bd h
  refine g_call (v := none) (h := h74) (st' := [.ref (m_id h69), .ref x0]) (D1 := 7) (as := [.ref (m_id h69), .int 9, .int 2]) (Or.inr (Or.inr rfl)) q3_m19 (m_cv (as := [.int 2, .int 9]) (rest := [.ref (m_id h69), .ref x0]) (Or.inr rfl) q3_m19 jv1600 (OF8_init e73) rfl rfl rfl rfl) (by decide) (SF8_init e73) rfl ?_
  obtain ⟨h75, e76, h⟩ := m_bd h
  refine g_pf q3_f56 e76 ?_
  refine g_ch [(0, .ref x0)] [.ref x0] (pc' := 185) rfl rfl rfl ?_
  obtain ⟨h77, e78, h⟩ := m_bd h
  refine g_newo (by decide +kernel) (by decide +kernel) e78 ?_
  refine g_ch [(0, .ref x0)] [.int 4, .int 8, .ref (m_id h75), .ref (m_id h75), .ref x0] (pc' := 192) rfl rfl rfl ?_
  obtain ⟨h80, e79, h⟩ := m_bd h
  refine g_call (v := none) (h := h80) (st' := [.ref (m_id h75), .ref x0]) (D1 := 7) (as := [.ref (m_id h75), .int 8, .int 4]) (Or.inr (Or.inr rfl)) q3_m19 (m_cv (as := [.int 4, .int 8]) (rest := [.ref (m_id h75), .ref x0]) (Or.inr rfl) q3_m19 jv1600 (OF8_init e79) rfl rfl rfl rfl) (by decide) (SF8_init e79) rfl ?_
  obtain ⟨h81, e82, h⟩ := m_bd h
  refine g_pf q3_f59 e82 ?_
  refine g_ch [(0, .ref x0)] [.ref x0] (pc' := 199) rfl rfl rfl ?_
  obtain ⟨h83, e84, h⟩ := m_bd h
  refine g_newo (by decide +kernel) (by decide +kernel) e84 ?_
  refine g_ch [(0, .ref x0)] [.int 3, .int 15, .ref (m_id h81), .ref (m_id h81), .ref x0] (pc' := 206) rfl rfl rfl ?_
  obtain ⟨h86, e85, h⟩ := m_bd h
  refine g_call (v := none) (h := h86) (st' := [.ref (m_id h81), .ref x0]) (D1 := 7) (as := [.ref (m_id h81), .int 15, .int 3]) (Or.inr (Or.inr rfl)) q3_m19 (m_cv (as := [.int 3, .int 15]) (rest := [.ref (m_id h81), .ref x0]) (Or.inr rfl) q3_m19 jv1600 (OF8_init e85) rfl rfl rfl rfl) (by decide) (SF8_init e85) rfl ?_
  obtain ⟨h87, e88, h⟩ := m_bd h
  refine g_pf q3_f62 e88 ?_
  refine g_ch [(0, .ref x0)] [.ref x0] (pc' := 213) rfl rfl rfl ?_
  obtain ⟨h90, e89, h⟩ := m_bd h
  refine g_call (v := none) (h := h90) (st' := []) (D1 := 3) (as := [.ref x0]) (Or.inr (Or.inl rfl)) q3_m65 (m_cv (as := []) (rest := []) (Or.inl rfl) q3_m65 jv601 (OF3_setUp e89) rfl rfl rfl rfl) (by decide) (SF3_setUp e89) rfl ?_
  cases h
  rw [k0 _ hK]
  exact g_vret rfl
theorem OF3_init {x0 : Nat} {hp : m_H} {x : m_H} (h : F3_init x0 hp = some x) : m_isO hp 3 x0 = true := (m_gdd h).1
theorem SF3_init {xs : Nat → Int32} {L : Nat} {x0 : Nat} {hp : m_H} {x : m_H} (h : F3_init x0 hp = some x) : m_Rn xs L 8 600 0 (lv_args 0 [.ref x0]) [] hp (.inl none, x) :=
  r_lv (SF3_init_0 x0 hp (K := fun y => y = x) (fun y e => by rw [e]) (m_gdd h).2 rfl) rfl ⟨rfl, trivial⟩
-- F8_copyFrom: LendHouse$Table.copyFrom(LLendHouse$Table;)V
theorem eF8_copyFrom_0 : m_Fe mi8_10 0 (m_ap [(.aload_n 1, 1)] ((.getfield 25, 3) :: (m_ap [(.aload_n 1, 1)] ((.getfield 15, 3) :: (m_ap [(.imul, 1), (.istore_n 2, 1), (.iload_n 2, 1)] ([(.ifCond .lt 43, 3)])))))) := m_Fe_of nd1610 0 8 rfl
theorem eF8_copyFrom_54 : m_Fe mi8_10 54 ([(.return_, 1)]) := m_Fe_of nd1610 30 1 rfl
theorem eF8_copyFrom_14 : m_Fe mi8_10 14 (m_ap [(.iload_n 2, 1), (.aload_n 0, 1)] ((.getfield 21, 3) :: ((.arraylength, 1) :: ([(.if_icmp .gt 34, 3)])))) := m_Fe_of nd1610 8 5 rfl
theorem eF8_copyFrom_23 : m_Fe mi8_10 23 (m_ap [(.iload_n 2, 1), (.aload_n 1, 1)] ((.getfield 21, 3) :: ((.arraylength, 1) :: ([(.if_icmp .gt 25, 3)])))) := m_Fe_of nd1610 13 5 rfl
theorem eF8_copyFrom_32 : m_Fe mi8_10 32 (m_ap [(.aload_n 1, 1)] ((.getfield 21, 3) :: (m_ap [(.iconst 0, 1), (.aload_n 0, 1)] ((.getfield 21, 3) :: (m_ap [(.iconst 0, 1), (.iload_n 2, 1)] ((.invokestatic 43, 3) :: (m_ap [(.aload_n 0, 1), (.aload_n 1, 1)] ((.getfield 25, 3) :: ([(.putfield 25, 3)]))))))))) := m_Fe_of nd1610 18 12 rfl
theorem SF8_copyFrom_0 {xs : Nat → Int32} {L : Nat} (x0 : Nat) (x1 : Nat) (hp : m_H) {r : m_O × m_H} {K : m_H → Prop} (k0 : ∀ x, K x → r = (.inl none, x)) {t : m_H} (h : F8_copyFrom_0 x0 x1 hp = some t) (hK : K t) : m_Rn xs L 7 1610 0 [(0, .ref x0), (1, .ref x1)] [] hp r := by
  unfold F8_copyFrom_0 at h
  refine g_in eF8_copyFrom_0 mx1610 ?_
  refine g_ch [(0, .ref x0), (1, .ref x1)] [.ref x1] (pc' := 1) rfl rfl rfl ?_
  obtain ⟨v1, e2, h⟩ := m_bd h
  refine g_gi q8_f25 e2 ?_
  refine g_ch [(0, .ref x0), (1, .ref x1)] [.ref x1, .int v1] (pc' := 5) rfl rfl rfl ?_
  obtain ⟨v3, e4, h⟩ := m_bd h
  refine g_gi q8_f15 e4 ?_
  refine g_ch [(2, .int (v1 * v3)), (0, .ref x0), (1, .ref x1)] [.int (v1 * v3)] (pc' := 11) rfl rfl rfl ?_
  rcases m_ifd h with ⟨c5, h⟩ | ⟨c5, h⟩
  · refine g_ifc (t := 54) rfl (m_ltT c5) ?_
    refine g_in eF8_copyFrom_54 mx1610 ?_
    cases h
    rw [k0 _ hK]
    exact g_vret rfl
  · refine g_ifcn (t := 54) rfl (m_ltF c5) ?_
    refine g_in eF8_copyFrom_14 mx1610 ?_
    refine g_ch [(2, .int (v1 * v3)), (0, .ref x0), (1, .ref x1)] [.ref x0, .int (v1 * v3)] (pc' := 16) rfl rfl rfl ?_
    obtain ⟨v6, e7, h⟩ := m_bd h
    refine g_gr q8_f21 e7 ?_
    obtain ⟨v8, e9, h⟩ := m_bd h
    refine g_len e9 ?_
    rcases m_ifd h with ⟨c10, h⟩ | ⟨c10, h⟩
    · refine g_if (t := 54) rfl (m_gtT c10) ?_
      refine g_in eF8_copyFrom_54 mx1610 ?_
      cases h
      rw [k0 _ hK]
      exact g_vret rfl
    · refine g_ifn (t := 54) rfl (m_gtF c10) ?_
      refine g_in eF8_copyFrom_23 mx1610 ?_
      refine g_ch [(2, .int (v1 * v3)), (0, .ref x0), (1, .ref x1)] [.ref x1, .int (v1 * v3)] (pc' := 25) rfl rfl rfl ?_
      obtain ⟨v11, e12, h⟩ := m_bd h
      refine g_gr q8_f21 e12 ?_
      obtain ⟨v13, e14, h⟩ := m_bd h
      refine g_len e14 ?_
      rcases m_ifd h with ⟨c15, h⟩ | ⟨c15, h⟩
      · refine g_if (t := 54) rfl (m_gtT c15) ?_
        refine g_in eF8_copyFrom_54 mx1610 ?_
        cases h
        rw [k0 _ hK]
        exact g_vret rfl
      · refine g_ifn (t := 54) rfl (m_gtF c15) ?_
        refine g_in eF8_copyFrom_32 mx1610 ?_
        refine g_ch [(2, .int (v1 * v3)), (0, .ref x0), (1, .ref x1)] [.ref x1] (pc' := 33) rfl rfl rfl ?_
        obtain ⟨v16, e17, h⟩ := m_bd h
        refine g_gr q8_f21 e17 ?_
        refine g_ch [(2, .int (v1 * v3)), (0, .ref x0), (1, .ref x1)] [.ref x0, .int 0, .ref v16] (pc' := 38) rfl rfl rfl ?_
        obtain ⟨v18, e19, h⟩ := m_bd h
        refine g_gr q8_f21 e19 ?_
        refine g_ch [(2, .int (v1 * v3)), (0, .ref x0), (1, .ref x1)] [.int (v1 * v3), .int 0, .ref v18, .int 0, .ref v16] (pc' := 43) rfl rfl rfl ?_
        obtain ⟨h21, e20, h⟩ := m_bd h
        refine g_nat (Or.inl rfl) q8_m43 rfl (z := ([], h21)) (m_z4 e20) (by decide) ?_
        refine g_ch [(2, .int (v1 * v3)), (0, .ref x0), (1, .ref x1)] [.ref x1, .ref x0] (pc' := 48) rfl rfl rfl ?_
        obtain ⟨v22, e23, h⟩ := m_bd h
        refine g_gi q8_f25 e23 ?_
        obtain ⟨h24, e25, h⟩ := m_bd h
        refine g_pf q8_f25 e25 ?_
        refine g_end ?_
        refine g_in eF8_copyFrom_54 mx1610 ?_
        cases h
        rw [k0 _ hK]
        exact g_vret rfl
theorem OF8_copyFrom {x0 : Nat} {x1 : Nat} {hp : m_H} {x : m_H} (h : F8_copyFrom x0 x1 hp = some x) : m_isO hp 6 x0 = true := (m_gdd h).1
theorem SF8_copyFrom {xs : Nat → Int32} {L : Nat} {x0 : Nat} {x1 : Nat} {hp : m_H} {x : m_H} (h : F8_copyFrom x0 x1 hp = some x) : m_Rn xs L 7 1610 0 (lv_args 0 [.ref x0, .ref x1]) [] hp (.inl none, x) :=
  r_lv (SF8_copyFrom_0 x0 x1 hp (K := fun y => y = x) (fun y e => by rw [e]) (m_gdd h).2 rfl) rfl ⟨rfl, rfl, trivial⟩
