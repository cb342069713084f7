/-! ===== m_: the small machine does what the functions say, piece 6 (printed) ===== -/
-- F12_readPart: LendHouseModel.readPart()Z
theorem eF12_readPart_0 : m_Fe mi12_51 0 (m_ap [(.aload_n 0, 1)] ((.invokevirtual 159, 3) :: (m_ap [(.aload_n 0, 1)] ((.getfield 137, 3) :: (m_ap [(.aload_n 0, 1)] ((.getfield 144, 3) :: ([(.if_icmp .le 44, 3)]))))))) := m_Fe_of nd2451 0 7 rfl
theorem eF12_readPart_56 : m_Fe mi12_51 56 (m_ap [(.aload_n 0, 1), (.ldc 200, 2)] ((.invokevirtual 201, 3) :: (m_ap [(.istore_n 1, 1), (.iload_n 1, 1)] ([(.ifCond .ge 5, 3)])))) := m_Fe_of nd2451 30 6 rfl
theorem eF12_readPart_69 : m_Fe mi12_51 69 (m_ap [(.aload_n 0, 1), (.bipush 100, 2), (.iload_n 1, 1)] ((.invokevirtual 196, 3) :: (m_ap [(.iconst 1, 1)] ([(.ireturn, 1)])))) := m_Fe_of nd2451 38 6 rfl
theorem eF12_readPart_67 : m_Fe mi12_51 67 (m_ap [(.iconst 0, 1)] ([(.ireturn, 1)])) := m_Fe_of nd2451 36 2 rfl
theorem eF12_readPart_15 : m_Fe mi12_51 15 (m_ap [(.iconst 0, 1), (.istore_n 1, 1)] ([])) := m_Fe_of nd2451 7 2 rfl
theorem eF12_readPart_17 : m_Fe mi12_51 17 (m_ap [(.iload_n 1, 1), (.bipush 10, 2)] ([(.if_icmp .ge 20, 3)])) := m_Fe_of nd2451 9 3 rfl
theorem eF12_readPart_23 : m_Fe mi12_51 23 (m_ap [(.aload_n 0, 1), (.iload_n 1, 1)] ((.invokestatic 192, 3) :: ((.invokevirtual 162, 3) :: ([(.ifCond .ne 9, 3)])))) := m_Fe_of nd2451 12 5 rfl
theorem eF12_readPart_34 : m_Fe mi12_51 34 (m_ap [(.iinc 1 1, 3)] ([(.goto (-20), 3)])) := m_Fe_of nd2451 17 2 rfl
theorem eF12_readPart_40 : m_Fe mi12_51 40 (m_ap [(.iload_n 1, 1), (.bipush 10, 2)] ([(.if_icmp .ne 5, 3)])) := m_Fe_of nd2451 19 3 rfl
theorem eF12_readPart_48 : m_Fe mi12_51 48 (m_ap [(.aload_n 0, 1), (.iload_n 1, 1), (.iconst 0, 1)] ((.invokevirtual 196, 3) :: (m_ap [(.iconst 1, 1)] ([(.ireturn, 1)])))) := m_Fe_of nd2451 24 6 rfl
theorem eF12_readPart_46 : m_Fe mi12_51 46 (m_ap [(.iconst 0, 1)] ([(.ireturn, 1)])) := m_Fe_of nd2451 22 2 rfl
theorem SF12_readPart_40 {xs : Nat → Int32} {L : Nat} (x0 : Nat) (x1 : Int32) (hp : m_H) {r : m_O × m_H} {K : (Int32 × m_H) → Prop} (k0 : ∀ x, K x → r = (.inl (some (.int x.1)), x.2)) {t : Int32 × m_H} (h : F12_readPart_40 x0 x1 hp = some t) (hK : K t) : m_Rn xs L 8 2451 40 [(0, .ref x0), (1, .int x1)] [] hp r := by
  unfold F12_readPart_40 at h
  refine g_in eF12_readPart_40 mx2451 ?_
  refine g_ch [(0, .ref x0), (1, .int x1)] [.int 10, .int x1] (pc' := 43) rfl rfl rfl ?_
  rcases m_ifd h with ⟨c1, h⟩ | ⟨c1, h⟩
  · refine g_ifn (t := 48) rfl (m_neF c1) ?_
    refine g_in eF12_readPart_46 mx2451 ?_
    refine g_ch [(0, .ref x0), (1, .int x1)] [.int 0] (pc' := 47) rfl rfl rfl ?_
    cases h
    rw [k0 _ hK]
    exact g_iret rfl (by decide +kernel)
  · refine g_if (t := 48) rfl (m_neT c1) ?_
    refine g_in eF12_readPart_48 mx2451 ?_
    refine g_ch [(0, .ref x0), (1, .int x1)] [.int 0, .int x1, .ref x0] (pc' := 51) rfl rfl rfl ?_
    obtain ⟨h3, e2, h⟩ := m_bd h
    refine g_call (v := none) (h := h3) (st' := []) (D1 := 1) (as := [.ref x0, .int x1, .int 0]) (Or.inr (Or.inl rfl)) q12_m196 (m_cv (as := [.int 0, .int x1]) (rest := []) (Or.inl rfl) q12_m196 jv2449 (OF12_emits e2) rfl rfl rfl rfl) (by decide) (SF12_emits e2) rfl ?_
    refine g_ch [(0, .ref x0), (1, .int x1)] [.int 1] (pc' := 55) rfl rfl rfl ?_
    cases h
    rw [k0 _ hK]
    exact g_iret rfl (by decide +kernel)
theorem SF12_readPart_17b {xs : Nat → Int32} {L : Nat} (x0 : Nat) (hp : m_H) (s : Int32) {r : m_O × m_H} {K : (Int32 ⊕ (Int32 × m_H)) → Prop} (k0 : ∀ x, K (.inr x) → r = (.inl (some (.int x.1)), x.2)) (k1 : ∀ s, K (.inl s) → m_Rn xs L 8 2451 17 [(0, .ref x0), (1, .int s)] [] hp r) {t : Int32 ⊕ (Int32 × m_H)} (h : F12_readPart_17b x0 hp s = some t) (hK : K t) : m_Rn xs L 8 2451 17 [(0, .ref x0), (1, .int s)] [] hp r := by
  unfold F12_readPart_17b at h
  refine g_in eF12_readPart_17 mx2451 ?_
  refine g_ch [(0, .ref x0), (1, .int s)] [.int 10, .int s] (pc' := 20) rfl rfl rfl ?_
  rcases m_ifd h with ⟨c1, h⟩ | ⟨c1, h⟩
  · refine g_if (t := 40) rfl (m_geT c1) ?_
    obtain ⟨t', h2, rfl⟩ := Option.map_eq_some_iff.mp h
    exact r_lv (SF12_readPart_40 x0 s hp (K := fun t => K (.inr t)) k0 h2 hK) rfl ⟨rfl, rfl, trivial⟩
  · refine g_ifn (t := 40) rfl (m_geF c1) ?_
    refine g_in eF12_readPart_23 mx2451 ?_
    refine g_ch [(0, .ref x0), (1, .int s)] [.int s, .ref x0] (pc' := 25) rfl rfl rfl ?_
    obtain ⟨v3, e2, h⟩ := m_bd h
    refine g_call (v := some (.ref v3)) (h := hp) (st' := [.ref v3, .ref x0]) (D1 := 0) (as := [.int s]) (Or.inl rfl) q12_m192 (m_cs (as := [.int s]) (rest := [.ref x0]) q12_m192 jv2450 rfl rfl rfl rfl rfl) (by decide) (SF12_fact e2) rfl ?_
    obtain ⟨v5, e4, h⟩ := m_bd h
    refine g_call (v := some (.int v5)) (h := hp) (st' := [.int v5]) (D1 := 7) (as := [.ref x0, .ref v3]) (Or.inr (Or.inl rfl)) q12_m162 (m_cv (as := [.ref v3]) (rest := []) (Or.inl rfl) q12_m162 jv2442 (OF12_isWord e4) rfl rfl rfl rfl) (by decide) (SF12_isWord e4) rfl ?_
    rcases m_ifd h with ⟨c6, h⟩ | ⟨c6, h⟩
    · refine g_ifcn (t := 40) rfl (m_neF c6) ?_
      refine g_in eF12_readPart_34 mx2451 ?_
      refine g_ch [(1, .int (s + 1)), (0, .ref x0)] [] (pc' := 37) rfl rfl rfl ?_
      refine g_goto (t := 17) rfl ?_
      cases h
      exact r_lv (k1 (s + 1) hK) rfl ⟨rfl, rfl, trivial⟩
    · refine g_ifc (t := 40) rfl (m_neT c6) ?_
      obtain ⟨t', h2, rfl⟩ := Option.map_eq_some_iff.mp h
      exact r_lv (SF12_readPart_40 x0 s hp (K := fun t => K (.inr t)) k0 h2 hK) rfl ⟨rfl, rfl, trivial⟩
theorem SF12_readPart_17 {xs : Nat → Int32} {L : Nat} (x0 : Nat) (x1 : Int32) (hp : m_H) {r : m_O × m_H} {K : Int32 × m_H → Prop} (k0 : ∀ x, K x → r = (.inl (some (.int x.1)), x.2)) {t : Int32 × m_H} (h : F12_readPart_17 x0 x1 hp = some t) (hK : K t) : m_Rn xs L 8 2451 17 [(0, .ref x0), (1, .int x1)] [] hp r :=
  m_wh_ok (P := fun s => m_Rn xs L 8 2451 17 [(0, .ref x0), (1, .int s)] [] hp r) (Q := K) (fun s t hb hK => SF12_readPart_17b x0 hp s (K := m_KK (fun s => m_Rn xs L 8 2451 17 [(0, .ref x0), (1, .int s)] [] hp r) K) k0 (fun _ q => q) hb hK) m_N _ _ h hK
theorem SF12_readPart_0 {xs : Nat → Int32} {L : Nat} (x0 : Nat) (hp : m_H) {r : m_O × m_H} {K : (Int32 × m_H) → Prop} (k0 : ∀ x, K x → r = (.inl (some (.int x.1)), x.2)) {t : Int32 × m_H} (h : F12_readPart_0 x0 hp = some t) (hK : K t) : m_Rn xs L 8 2451 0 [(0, .ref x0)] [] hp r := by
  unfold F12_readPart_0 at h
  refine g_in eF12_readPart_0 mx2451 ?_
  refine g_ch [(0, .ref x0)] [.ref x0] (pc' := 1) rfl rfl rfl ?_
  obtain ⟨h2, e1, h⟩ := m_bd h
  refine g_call (v := none) (h := h2) (st' := []) (D1 := 2) (as := [.ref x0]) (Or.inr (Or.inl rfl)) q12_m159 (m_cv (as := []) (rest := []) (Or.inl rfl) q12_m159 jv2441 (OF12_word e1) rfl rfl rfl rfl) (by decide) (SF12_word e1) rfl ?_
  refine g_ch [(0, .ref x0)] [.ref x0] (pc' := 5) rfl rfl rfl ?_
  obtain ⟨v3, e4, h⟩ := m_bd h
  refine g_gi q12_f137 e4 ?_
  refine g_ch [(0, .ref x0)] [.ref x0, .int v3] (pc' := 9) rfl rfl rfl ?_
  obtain ⟨v5, e6, h⟩ := m_bd h
  refine g_gi q12_f144 e6 ?_
  rcases m_ifd h with ⟨c7, h⟩ | ⟨c7, h⟩
  · refine g_if (t := 56) rfl (m_leT c7) ?_
    refine g_in eF12_readPart_56 mx2451 ?_
    refine g_ch [(0, .ref x0)] [.int 99999, .ref x0] (pc' := 59) rfl rfl rfl ?_
    obtain ⟨z9, e8, h⟩ := m_bd h
    refine g_call (v := some (.int z9.1)) (h := z9.2) (st' := [.int z9.1]) (D1 := 2) (as := [.ref x0, .int 99999]) (Or.inr (Or.inl rfl)) q12_m201 (m_cv (as := [.int 99999]) (rest := []) (Or.inl rfl) q12_m201 jv2445 (OF12_number e8) rfl rfl rfl rfl) (by decide) (SF12_number e8) rfl ?_
    refine g_ch [(1, .int z9.1), (0, .ref x0)] [.int z9.1] (pc' := 64) rfl rfl rfl ?_
    rcases m_ifd h with ⟨c10, h⟩ | ⟨c10, h⟩
    · refine g_ifc (t := 69) rfl (m_geT c10) ?_
      refine g_in eF12_readPart_69 mx2451 ?_
      refine g_ch [(1, .int z9.1), (0, .ref x0)] [.int z9.1, .int 100, .ref x0] (pc' := 73) rfl rfl rfl ?_
      obtain ⟨h12, e11, h⟩ := m_bd h
      refine g_call (v := none) (h := h12) (st' := []) (D1 := 1) (as := [.ref x0, .int 100, .int z9.1]) (Or.inr (Or.inl rfl)) q12_m196 (m_cv (as := [.int z9.1, .int 100]) (rest := []) (Or.inl rfl) q12_m196 jv2449 (OF12_emits e11) rfl rfl rfl rfl) (by decide) (SF12_emits e11) rfl ?_
      refine g_ch [(1, .int z9.1), (0, .ref x0)] [.int 1] (pc' := 77) rfl rfl rfl ?_
      cases h
      rw [k0 _ hK]
      exact g_iret rfl (by decide +kernel)
    · refine g_ifcn (t := 69) rfl (m_geF c10) ?_
      refine g_in eF12_readPart_67 mx2451 ?_
      refine g_ch [(1, .int z9.1), (0, .ref x0)] [.int 0] (pc' := 68) rfl rfl rfl ?_
      cases h
      rw [k0 _ hK]
      exact g_iret rfl (by decide +kernel)
  · refine g_ifn (t := 56) rfl (m_leF c7) ?_
    refine g_in eF12_readPart_15 mx2451 ?_
    refine g_ch [(1, .int 0), (0, .ref x0)] [] (pc' := 17) rfl rfl rfl ?_
    refine g_end ?_
    exact r_lv (SF12_readPart_17 x0 0 h2 (K := K) k0 h hK) rfl ⟨rfl, rfl, trivial⟩
theorem OF12_readPart {x0 : Nat} {hp : m_H} {x : Int32 × m_H} (h : F12_readPart x0 hp = some x) : m_isO hp 9 x0 = true := (m_gdd h).1
theorem SF12_readPart {xs : Nat → Int32} {L : Nat} {x0 : Nat} {hp : m_H} {x : Int32 × m_H} (h : F12_readPart x0 hp = some x) : m_Rn xs L 8 2451 0 (lv_args 0 [.ref x0]) [] hp (.inl (some (.int x.1)), x.2) :=
  r_lv (SF12_readPart_0 x0 hp (K := fun y => y = x) (fun y e => by rw [e]) (m_gdd h).2 rfl) rfl ⟨rfl, trivial⟩
-- F12_readSum: LendHouseModel.readSum()Z
theorem eF12_readSum_0 : m_Fe mi12_52 0 (m_ap [(.aload_n 0, 1)] ((.invokevirtual 204, 3) :: ([(.ifCond .ne 5, 3)]))) := m_Fe_of nd2452 0 3 rfl
theorem eF12_readSum_7 : m_Fe mi12_52 7 (m_ap [(.iconst 0, 1)] ([(.ireturn, 1)])) := m_Fe_of nd2452 3 2 rfl
theorem eF12_readSum_9 : m_Fe mi12_52 9 (m_ap [(.aload_n 0, 1), (.bipush 43, 2)] ((.invokevirtual 207, 3) :: ([(.ifCond .eq 22, 3)]))) := m_Fe_of nd2452 5 4 rfl
theorem eF12_readSum_37 : m_Fe mi12_52 37 (m_ap [(.iconst 1, 1)] ([(.ireturn, 1)])) := m_Fe_of nd2452 19 2 rfl
theorem eF12_readSum_18 : m_Fe mi12_52 18 (m_ap [(.aload_n 0, 1)] ((.invokevirtual 204, 3) :: ([(.ifCond .ne 5, 3)]))) := m_Fe_of nd2452 9 3 rfl
theorem eF12_readSum_27 : m_Fe mi12_52 27 (m_ap [(.aload_n 0, 1), (.bipush 101, 2), (.iconst 0, 1)] ((.invokevirtual 196, 3) :: ([(.goto (-25), 3)]))) := m_Fe_of nd2452 14 5 rfl
theorem eF12_readSum_25 : m_Fe mi12_52 25 (m_ap [(.iconst 0, 1)] ([(.ireturn, 1)])) := m_Fe_of nd2452 12 2 rfl
theorem SF12_readSum_9b {xs : Nat → Int32} {L : Nat} (x0 : Nat) (s : m_H) {r : m_O × m_H} {K : (m_H ⊕ (Int32 × m_H)) → Prop} (k0 : ∀ x, K (.inr x) → r = (.inl (some (.int x.1)), x.2)) (k1 : ∀ s, K (.inl s) → m_Rn xs L 9 2452 9 [(0, .ref x0)] [] s r) {t : m_H ⊕ (Int32 × m_H)} (h : F12_readSum_9b x0 s = some t) (hK : K t) : m_Rn xs L 9 2452 9 [(0, .ref x0)] [] s r := by
  unfold F12_readSum_9b at h
  refine g_in eF12_readSum_9 mx2452 ?_
  refine g_ch [(0, .ref x0)] [.int 43, .ref x0] (pc' := 12) rfl rfl rfl ?_
  obtain ⟨z2, e1, h⟩ := m_bd h
  refine g_call (v := some (.int z2.1)) (h := z2.2) (st' := [.int z2.1]) (D1 := 2) (as := [.ref x0, .int 43]) (Or.inr (Or.inl rfl)) q12_m207 (m_cv (as := [.int 43]) (rest := []) (Or.inl rfl) q12_m207 jv2444 (OF12_sign e1) rfl rfl rfl rfl) (by decide) (SF12_sign e1) rfl ?_
  rcases m_ifd h with ⟨c3, h⟩ | ⟨c3, h⟩
  · refine g_ifc (t := 37) rfl (m_eqT c3) ?_
    refine g_in eF12_readSum_37 mx2452 ?_
    refine g_ch [(0, .ref x0)] [.int 1] (pc' := 38) rfl rfl rfl ?_
    cases h
    rw [k0 _ hK]
    exact g_iret rfl (by decide +kernel)
  · refine g_ifcn (t := 37) rfl (m_eqF c3) ?_
    refine g_in eF12_readSum_18 mx2452 ?_
    refine g_ch [(0, .ref x0)] [.ref x0] (pc' := 19) rfl rfl rfl ?_
    obtain ⟨z5, e4, h⟩ := m_bd h
    refine g_call (v := some (.int z5.1)) (h := z5.2) (st' := [.int z5.1]) (D1 := 8) (as := [.ref x0]) (Or.inr (Or.inl rfl)) q12_m204 (m_cv (as := []) (rest := []) (Or.inl rfl) q12_m204 jv2451 (OF12_readPart e4) rfl rfl rfl rfl) (by decide) (SF12_readPart e4) rfl ?_
    rcases m_ifd h with ⟨c6, h⟩ | ⟨c6, h⟩
    · refine g_ifcn (t := 27) rfl (m_neF c6) ?_
      refine g_in eF12_readSum_25 mx2452 ?_
      refine g_ch [(0, .ref x0)] [.int 0] (pc' := 26) rfl rfl rfl ?_
      cases h
      rw [k0 _ hK]
      exact g_iret rfl (by decide +kernel)
    · refine g_ifc (t := 27) rfl (m_neT c6) ?_
      refine g_in eF12_readSum_27 mx2452 ?_
      refine g_ch [(0, .ref x0)] [.int 0, .int 101, .ref x0] (pc' := 31) rfl rfl rfl ?_
      obtain ⟨h8, e7, h⟩ := m_bd h
      refine g_call (v := none) (h := h8) (st' := []) (D1 := 1) (as := [.ref x0, .int 101, .int 0]) (Or.inr (Or.inl rfl)) q12_m196 (m_cv (as := [.int 0, .int 101]) (rest := []) (Or.inl rfl) q12_m196 jv2449 (OF12_emits e7) rfl rfl rfl rfl) (by decide) (SF12_emits e7) rfl ?_
      refine g_goto (t := 9) rfl ?_
      cases h
      exact r_lv (k1 h8 hK) rfl ⟨rfl, trivial⟩
theorem SF12_readSum_9 {xs : Nat → Int32} {L : Nat} (x0 : Nat) (hp : m_H) {r : m_O × m_H} {K : Int32 × m_H → Prop} (k0 : ∀ x, K x → r = (.inl (some (.int x.1)), x.2)) {t : Int32 × m_H} (h : F12_readSum_9 x0 hp = some t) (hK : K t) : m_Rn xs L 9 2452 9 [(0, .ref x0)] [] hp r :=
  m_wh_ok (P := fun s => m_Rn xs L 9 2452 9 [(0, .ref x0)] [] s r) (Q := K) (fun s t hb hK => SF12_readSum_9b x0 s (K := m_KK (fun s => m_Rn xs L 9 2452 9 [(0, .ref x0)] [] s r) K) k0 (fun _ q => q) hb hK) m_N _ _ h hK
theorem SF12_readSum_0 {xs : Nat → Int32} {L : Nat} (x0 : Nat) (hp : m_H) {r : m_O × m_H} {K : (Int32 × m_H) → Prop} (k0 : ∀ x, K x → r = (.inl (some (.int x.1)), x.2)) {t : Int32 × m_H} (h : F12_readSum_0 x0 hp = some t) (hK : K t) : m_Rn xs L 9 2452 0 [(0, .ref x0)] [] hp r := by
  unfold F12_readSum_0 at h
  refine g_in eF12_readSum_0 mx2452 ?_
  refine g_ch [(0, .ref x0)] [.ref x0] (pc' := 1) rfl rfl rfl ?_
  obtain ⟨z2, e1, h⟩ := m_bd h
  refine g_call (v := some (.int z2.1)) (h := z2.2) (st' := [.int z2.1]) (D1 := 8) (as := [.ref x0]) (Or.inr (Or.inl rfl)) q12_m204 (m_cv (as := []) (rest := []) (Or.inl rfl) q12_m204 jv2451 (OF12_readPart e1) rfl rfl rfl rfl) (by decide) (SF12_readPart e1) rfl ?_
  rcases m_ifd h with ⟨c3, h⟩ | ⟨c3, h⟩
  · refine g_ifcn (t := 9) rfl (m_neF c3) ?_
    refine g_in eF12_readSum_7 mx2452 ?_
    refine g_ch [(0, .ref x0)] [.int 0] (pc' := 8) rfl rfl rfl ?_
    cases h
    rw [k0 _ hK]
    exact g_iret rfl (by decide +kernel)
  · refine g_ifc (t := 9) rfl (m_neT c3) ?_
    exact r_lv (SF12_readSum_9 x0 z2.2 (K := K) k0 h hK) rfl ⟨rfl, trivial⟩
theorem OF12_readSum {x0 : Nat} {hp : m_H} {x : Int32 × m_H} (h : F12_readSum x0 hp = some x) : m_isO hp 9 x0 = true := (m_gdd h).1
theorem SF12_readSum {xs : Nat → Int32} {L : Nat} {x0 : Nat} {hp : m_H} {x : Int32 × m_H} (h : F12_readSum x0 hp = some x) : m_Rn xs L 9 2452 0 (lv_args 0 [.ref x0]) [] hp (.inl (some (.int x.1)), x.2) :=
  r_lv (SF12_readSum_0 x0 hp (K := fun y => y = x) (fun y e => by rw [e]) (m_gdd h).2 rfl) rfl ⟨rfl, trivial⟩
-- F12_readAllOf: LendHouseModel.readAllOf()Z
theorem eF12_readAllOf_0 : m_Fe mi12_54 0 (m_ap [(.aload_n 0, 1)] ((.invokevirtual 221, 3) :: ([(.ifCond .ne 5, 3)]))) := m_Fe_of nd2454 0 3 rfl
theorem eF12_readAllOf_7 : m_Fe mi12_54 7 (m_ap [(.iconst 0, 1)] ([(.ireturn, 1)])) := m_Fe_of nd2454 3 2 rfl
theorem eF12_readAllOf_9 : m_Fe mi12_54 9 (m_ap [(.aload_n 0, 1), (.ldc 227, 2)] ((.invokevirtual 218, 3) :: ([(.ifCond .eq 22, 3)]))) := m_Fe_of nd2454 5 4 rfl
theorem eF12_readAllOf_37 : m_Fe mi12_54 37 (m_ap [(.iconst 1, 1)] ([(.ireturn, 1)])) := m_Fe_of nd2454 19 2 rfl
theorem eF12_readAllOf_18 : m_Fe mi12_54 18 (m_ap [(.aload_n 0, 1)] ((.invokevirtual 221, 3) :: ([(.ifCond .ne 5, 3)]))) := m_Fe_of nd2454 9 3 rfl
theorem eF12_readAllOf_27 : m_Fe mi12_54 27 (m_ap [(.aload_n 0, 1), (.bipush 105, 2), (.iconst 0, 1)] ((.invokevirtual 196, 3) :: ([(.goto (-25), 3)]))) := m_Fe_of nd2454 14 5 rfl
theorem eF12_readAllOf_25 : m_Fe mi12_54 25 (m_ap [(.iconst 0, 1)] ([(.ireturn, 1)])) := m_Fe_of nd2454 12 2 rfl
theorem SF12_readAllOf_9b {xs : Nat → Int32} {L : Nat} {DA : Nat} {A : Nat → m_H → Option (Int32 × m_H)} (hDA : 400 ≤ DA + 400) (hD : 20 ≤ DA) (hA : ∀ x0 hp x, A x0 hp = some x → m_isO hp 9 x0 = true ∧ m_Rn xs L DA 2453 0 (lv_args 0 [.ref x0]) [] hp (.inl (some (.int x.1)), x.2)) (x0 : Nat) (s : m_H) {r : m_O × m_H} {K : (m_H ⊕ (Int32 × m_H)) → Prop} (k0 : ∀ x, K (.inr x) → r = (.inl (some (.int x.1)), x.2)) (k1 : ∀ s, K (.inl s) → m_Rn xs L (DA + 1) 2454 9 [(0, .ref x0)] [] s r) {t : m_H ⊕ (Int32 × m_H)} (h : F12_readAllOf_9b A x0 s = some t) (hK : K t) : m_Rn xs L (DA + 1) 2454 9 [(0, .ref x0)] [] s r := by
  unfold F12_readAllOf_9b at h
  refine g_in eF12_readAllOf_9 mx2454 ?_
  refine g_ch [(0, .ref x0)] [.ref 75, .ref x0] (pc' := 12) rfl rfl rfl ?_
  obtain ⟨z2, e1, h⟩ := m_bd h
  refine g_call (v := some (.int z2.1)) (h := z2.2) (st' := [.int z2.1]) (D1 := 8) (as := [.ref x0, .ref 75]) (Or.inr (Or.inl rfl)) q12_m218 (m_cv (as := [.ref 75]) (rest := []) (Or.inl rfl) q12_m218 jv2443 (OF12_passes e1) rfl rfl rfl rfl) (by omega) (SF12_passes e1) rfl ?_
  rcases m_ifd h with ⟨c3, h⟩ | ⟨c3, h⟩
  · refine g_ifc (t := 37) rfl (m_eqT c3) ?_
    refine g_in eF12_readAllOf_37 mx2454 ?_
    refine g_ch [(0, .ref x0)] [.int 1] (pc' := 38) rfl rfl rfl ?_
    cases h
    rw [k0 _ hK]
    exact g_iret rfl (by decide +kernel)
  · refine g_ifcn (t := 37) rfl (m_eqF c3) ?_
    refine g_in eF12_readAllOf_18 mx2454 ?_
    refine g_ch [(0, .ref x0)] [.ref x0] (pc' := 19) rfl rfl rfl ?_
    obtain ⟨z5, e4, h⟩ := m_bd h
    refine g_call (v := some (.int z5.1)) (h := z5.2) (st' := [.int z5.1]) (D1 := DA) (as := [.ref x0]) (Or.inr (Or.inl rfl)) q12_m221 (m_cv (as := []) (rest := []) (Or.inl rfl) q12_m221 jv2453 (hA _ _ _ e4).1 rfl rfl rfl rfl) (by omega) (hA _ _ _ e4).2 rfl ?_
    rcases m_ifd h with ⟨c6, h⟩ | ⟨c6, h⟩
    · refine g_ifcn (t := 27) rfl (m_neF c6) ?_
      refine g_in eF12_readAllOf_25 mx2454 ?_
      refine g_ch [(0, .ref x0)] [.int 0] (pc' := 26) rfl rfl rfl ?_
      cases h
      rw [k0 _ hK]
      exact g_iret rfl (by decide +kernel)
    · refine g_ifc (t := 27) rfl (m_neT c6) ?_
      refine g_in eF12_readAllOf_27 mx2454 ?_
      refine g_ch [(0, .ref x0)] [.int 0, .int 105, .ref x0] (pc' := 31) rfl rfl rfl ?_
      obtain ⟨h8, e7, h⟩ := m_bd h
      refine g_call (v := none) (h := h8) (st' := []) (D1 := 1) (as := [.ref x0, .int 105, .int 0]) (Or.inr (Or.inl rfl)) q12_m196 (m_cv (as := [.int 0, .int 105]) (rest := []) (Or.inl rfl) q12_m196 jv2449 (OF12_emits e7) rfl rfl rfl rfl) (by omega) (SF12_emits e7) rfl ?_
      refine g_goto (t := 9) rfl ?_
      cases h
      exact r_lv (k1 h8 hK) rfl ⟨rfl, trivial⟩
theorem SF12_readAllOf_9 {xs : Nat → Int32} {L : Nat} {DA : Nat} {A : Nat → m_H → Option (Int32 × m_H)} (hDA : 400 ≤ DA + 400) (hD : 20 ≤ DA) (hA : ∀ x0 hp x, A x0 hp = some x → m_isO hp 9 x0 = true ∧ m_Rn xs L DA 2453 0 (lv_args 0 [.ref x0]) [] hp (.inl (some (.int x.1)), x.2)) (x0 : Nat) (hp : m_H) {r : m_O × m_H} {K : Int32 × m_H → Prop} (k0 : ∀ x, K x → r = (.inl (some (.int x.1)), x.2)) {t : Int32 × m_H} (h : F12_readAllOf_9 A x0 hp = some t) (hK : K t) : m_Rn xs L (DA + 1) 2454 9 [(0, .ref x0)] [] hp r :=
  m_wh_ok (P := fun s => m_Rn xs L (DA + 1) 2454 9 [(0, .ref x0)] [] s r) (Q := K) (fun s t hb hK => SF12_readAllOf_9b hDA hD hA x0 s (K := m_KK (fun s => m_Rn xs L (DA + 1) 2454 9 [(0, .ref x0)] [] s r) K) k0 (fun _ q => q) hb hK) m_N _ _ h hK
theorem SF12_readAllOf_0 {xs : Nat → Int32} {L : Nat} {DA : Nat} {A : Nat → m_H → Option (Int32 × m_H)} (hDA : 400 ≤ DA + 400) (hD : 20 ≤ DA) (hA : ∀ x0 hp x, A x0 hp = some x → m_isO hp 9 x0 = true ∧ m_Rn xs L DA 2453 0 (lv_args 0 [.ref x0]) [] hp (.inl (some (.int x.1)), x.2)) (x0 : Nat) (hp : m_H) {r : m_O × m_H} {K : (Int32 × m_H) → Prop} (k0 : ∀ x, K x → r = (.inl (some (.int x.1)), x.2)) {t : Int32 × m_H} (h : F12_readAllOf_0 A x0 hp = some t) (hK : K t) : m_Rn xs L (DA + 1) 2454 0 [(0, .ref x0)] [] hp r := by
  unfold F12_readAllOf_0 at h
  refine g_in eF12_readAllOf_0 mx2454 ?_
  refine g_ch [(0, .ref x0)] [.ref x0] (pc' := 1) rfl rfl rfl ?_
  obtain ⟨z2, e1, h⟩ := m_bd h
  refine g_call (v := some (.int z2.1)) (h := z2.2) (st' := [.int z2.1]) (D1 := DA) (as := [.ref x0]) (Or.inr (Or.inl rfl)) q12_m221 (m_cv (as := []) (rest := []) (Or.inl rfl) q12_m221 jv2453 (hA _ _ _ e1).1 rfl rfl rfl rfl) (by omega) (hA _ _ _ e1).2 rfl ?_
  rcases m_ifd h with ⟨c3, h⟩ | ⟨c3, h⟩
  · refine g_ifcn (t := 9) rfl (m_neF c3) ?_
    refine g_in eF12_readAllOf_7 mx2454 ?_
    refine g_ch [(0, .ref x0)] [.int 0] (pc' := 8) rfl rfl rfl ?_
    cases h
    rw [k0 _ hK]
    exact g_iret rfl (by decide +kernel)
  · refine g_ifc (t := 9) rfl (m_neT c3) ?_
    exact r_lv (SF12_readAllOf_9 hDA hD hA x0 z2.2 (K := K) k0 h hK) rfl ⟨rfl, trivial⟩
theorem OF12_readAllOf {A : Nat → m_H → Option (Int32 × m_H)} {x0 : Nat} {hp : m_H} {x : Int32 × m_H} (h : F12_readAllOf A x0 hp = some x) : m_isO hp 9 x0 = true := (m_gdd h).1
theorem SF12_readAllOf {xs : Nat → Int32} {L : Nat} {DA : Nat} {A : Nat → m_H → Option (Int32 × m_H)} (hDA : 400 ≤ DA + 400) (hD : 20 ≤ DA) (hA : ∀ x0 hp x, A x0 hp = some x → m_isO hp 9 x0 = true ∧ m_Rn xs L DA 2453 0 (lv_args 0 [.ref x0]) [] hp (.inl (some (.int x.1)), x.2)) {x0 : Nat} {hp : m_H} {x : Int32 × m_H} (h : F12_readAllOf A x0 hp = some x) : m_Rn xs L (DA + 1) 2454 0 (lv_args 0 [.ref x0]) [] hp (.inl (some (.int x.1)), x.2) :=
  r_lv (SF12_readAllOf_0 hDA hD hA x0 hp (K := fun y => y = x) (fun y e => by rw [e]) (m_gdd h).2 rfl) rfl ⟨rfl, trivial⟩
-- F12_readCond: LendHouseModel.readCond()Z
theorem eF12_readCond_0 : m_Fe mi12_55 0 (m_ap [(.aload_n 0, 1)] ((.invokevirtual 229, 3) :: ([(.ifCond .ne 5, 3)]))) := m_Fe_of nd2455 0 3 rfl
theorem eF12_readCond_7 : m_Fe mi12_55 7 (m_ap [(.iconst 0, 1)] ([(.ireturn, 1)])) := m_Fe_of nd2455 3 2 rfl
theorem eF12_readCond_9 : m_Fe mi12_55 9 (m_ap [(.aload_n 0, 1), (.ldc 232, 2)] ((.invokevirtual 218, 3) :: ([(.ifCond .eq 22, 3)]))) := m_Fe_of nd2455 5 4 rfl
theorem eF12_readCond_37 : m_Fe mi12_55 37 (m_ap [(.iconst 1, 1)] ([(.ireturn, 1)])) := m_Fe_of nd2455 19 2 rfl
theorem eF12_readCond_18 : m_Fe mi12_55 18 (m_ap [(.aload_n 0, 1)] ((.invokevirtual 229, 3) :: ([(.ifCond .ne 5, 3)]))) := m_Fe_of nd2455 9 3 rfl
theorem eF12_readCond_27 : m_Fe mi12_55 27 (m_ap [(.aload_n 0, 1), (.bipush 106, 2), (.iconst 0, 1)] ((.invokevirtual 196, 3) :: ([(.goto (-25), 3)]))) := m_Fe_of nd2455 14 5 rfl
theorem eF12_readCond_25 : m_Fe mi12_55 25 (m_ap [(.iconst 0, 1)] ([(.ireturn, 1)])) := m_Fe_of nd2455 12 2 rfl
theorem SF12_readCond_9b {xs : Nat → Int32} {L : Nat} {DA : Nat} {A : Nat → m_H → Option (Int32 × m_H)} (hDA : 400 ≤ DA + 400) (hD : 20 ≤ DA) (hA : ∀ x0 hp x, A x0 hp = some x → m_isO hp 9 x0 = true ∧ m_Rn xs L DA 2453 0 (lv_args 0 [.ref x0]) [] hp (.inl (some (.int x.1)), x.2)) (x0 : Nat) (s : m_H) {r : m_O × m_H} {K : (m_H ⊕ (Int32 × m_H)) → Prop} (k0 : ∀ x, K (.inr x) → r = (.inl (some (.int x.1)), x.2)) (k1 : ∀ s, K (.inl s) → m_Rn xs L (DA + 2) 2455 9 [(0, .ref x0)] [] s r) {t : m_H ⊕ (Int32 × m_H)} (h : F12_readCond_9b A x0 s = some t) (hK : K t) : m_Rn xs L (DA + 2) 2455 9 [(0, .ref x0)] [] s r := by
  unfold F12_readCond_9b at h
  refine g_in eF12_readCond_9 mx2455 ?_
  refine g_ch [(0, .ref x0)] [.ref 76, .ref x0] (pc' := 12) rfl rfl rfl ?_
  obtain ⟨z2, e1, h⟩ := m_bd h
  refine g_call (v := some (.int z2.1)) (h := z2.2) (st' := [.int z2.1]) (D1 := 8) (as := [.ref x0, .ref 76]) (Or.inr (Or.inl rfl)) q12_m218 (m_cv (as := [.ref 76]) (rest := []) (Or.inl rfl) q12_m218 jv2443 (OF12_passes e1) rfl rfl rfl rfl) (by omega) (SF12_passes e1) rfl ?_
  rcases m_ifd h with ⟨c3, h⟩ | ⟨c3, h⟩
  · refine g_ifc (t := 37) rfl (m_eqT c3) ?_
    refine g_in eF12_readCond_37 mx2455 ?_
    refine g_ch [(0, .ref x0)] [.int 1] (pc' := 38) rfl rfl rfl ?_
    cases h
    rw [k0 _ hK]
    exact g_iret rfl (by decide +kernel)
  · refine g_ifcn (t := 37) rfl (m_eqF c3) ?_
    refine g_in eF12_readCond_18 mx2455 ?_
    refine g_ch [(0, .ref x0)] [.ref x0] (pc' := 19) rfl rfl rfl ?_
    obtain ⟨z5, e4, h⟩ := m_bd h
    refine g_call (v := some (.int z5.1)) (h := z5.2) (st' := [.int z5.1]) (D1 := (DA + 1)) (as := [.ref x0]) (Or.inr (Or.inl rfl)) q12_m229 (m_cv (as := []) (rest := []) (Or.inl rfl) q12_m229 jv2454 (OF12_readAllOf e4) rfl rfl rfl rfl) (by omega) (SF12_readAllOf hDA hD hA e4) rfl ?_
    rcases m_ifd h with ⟨c6, h⟩ | ⟨c6, h⟩
    · refine g_ifcn (t := 27) rfl (m_neF c6) ?_
      refine g_in eF12_readCond_25 mx2455 ?_
      refine g_ch [(0, .ref x0)] [.int 0] (pc' := 26) rfl rfl rfl ?_
      cases h
      rw [k0 _ hK]
      exact g_iret rfl (by decide +kernel)
    · refine g_ifc (t := 27) rfl (m_neT c6) ?_
      refine g_in eF12_readCond_27 mx2455 ?_
      refine g_ch [(0, .ref x0)] [.int 0, .int 106, .ref x0] (pc' := 31) rfl rfl rfl ?_
      obtain ⟨h8, e7, h⟩ := m_bd h
      refine g_call (v := none) (h := h8) (st' := []) (D1 := 1) (as := [.ref x0, .int 106, .int 0]) (Or.inr (Or.inl rfl)) q12_m196 (m_cv (as := [.int 0, .int 106]) (rest := []) (Or.inl rfl) q12_m196 jv2449 (OF12_emits e7) rfl rfl rfl rfl) (by omega) (SF12_emits e7) rfl ?_
      refine g_goto (t := 9) rfl ?_
      cases h
      exact r_lv (k1 h8 hK) rfl ⟨rfl, trivial⟩
theorem SF12_readCond_9 {xs : Nat → Int32} {L : Nat} {DA : Nat} {A : Nat → m_H → Option (Int32 × m_H)} (hDA : 400 ≤ DA + 400) (hD : 20 ≤ DA) (hA : ∀ x0 hp x, A x0 hp = some x → m_isO hp 9 x0 = true ∧ m_Rn xs L DA 2453 0 (lv_args 0 [.ref x0]) [] hp (.inl (some (.int x.1)), x.2)) (x0 : Nat) (hp : m_H) {r : m_O × m_H} {K : Int32 × m_H → Prop} (k0 : ∀ x, K x → r = (.inl (some (.int x.1)), x.2)) {t : Int32 × m_H} (h : F12_readCond_9 A x0 hp = some t) (hK : K t) : m_Rn xs L (DA + 2) 2455 9 [(0, .ref x0)] [] hp r :=
  m_wh_ok (P := fun s => m_Rn xs L (DA + 2) 2455 9 [(0, .ref x0)] [] s r) (Q := K) (fun s t hb hK => SF12_readCond_9b hDA hD hA x0 s (K := m_KK (fun s => m_Rn xs L (DA + 2) 2455 9 [(0, .ref x0)] [] s r) K) k0 (fun _ q => q) hb hK) m_N _ _ h hK
theorem SF12_readCond_0 {xs : Nat → Int32} {L : Nat} {DA : Nat} {A : Nat → m_H → Option (Int32 × m_H)} (hDA : 400 ≤ DA + 400) (hD : 20 ≤ DA) (hA : ∀ x0 hp x, A x0 hp = some x → m_isO hp 9 x0 = true ∧ m_Rn xs L DA 2453 0 (lv_args 0 [.ref x0]) [] hp (.inl (some (.int x.1)), x.2)) (x0 : Nat) (hp : m_H) {r : m_O × m_H} {K : (Int32 × m_H) → Prop} (k0 : ∀ x, K x → r = (.inl (some (.int x.1)), x.2)) {t : Int32 × m_H} (h : F12_readCond_0 A x0 hp = some t) (hK : K t) : m_Rn xs L (DA + 2) 2455 0 [(0, .ref x0)] [] hp r := by
  unfold F12_readCond_0 at h
  refine g_in eF12_readCond_0 mx2455 ?_
  refine g_ch [(0, .ref x0)] [.ref x0] (pc' := 1) rfl rfl rfl ?_
  obtain ⟨z2, e1, h⟩ := m_bd h
  refine g_call (v := some (.int z2.1)) (h := z2.2) (st' := [.int z2.1]) (D1 := (DA + 1)) (as := [.ref x0]) (Or.inr (Or.inl rfl)) q12_m229 (m_cv (as := []) (rest := []) (Or.inl rfl) q12_m229 jv2454 (OF12_readAllOf e1) rfl rfl rfl rfl) (by omega) (SF12_readAllOf hDA hD hA e1) rfl ?_
  rcases m_ifd h with ⟨c3, h⟩ | ⟨c3, h⟩
  · refine g_ifcn (t := 9) rfl (m_neF c3) ?_
    refine g_in eF12_readCond_7 mx2455 ?_
    refine g_ch [(0, .ref x0)] [.int 0] (pc' := 8) rfl rfl rfl ?_
    cases h
    rw [k0 _ hK]
    exact g_iret rfl (by decide +kernel)
  · refine g_ifc (t := 9) rfl (m_neT c3) ?_
    exact r_lv (SF12_readCond_9 hDA hD hA x0 z2.2 (K := K) k0 h hK) rfl ⟨rfl, trivial⟩
theorem OF12_readCond {A : Nat → m_H → Option (Int32 × m_H)} {x0 : Nat} {hp : m_H} {x : Int32 × m_H} (h : F12_readCond A x0 hp = some x) : m_isO hp 9 x0 = true := (m_gdd h).1
theorem SF12_readCond {xs : Nat → Int32} {L : Nat} {DA : Nat} {A : Nat → m_H → Option (Int32 × m_H)} (hDA : 400 ≤ DA + 400) (hD : 20 ≤ DA) (hA : ∀ x0 hp x, A x0 hp = some x → m_isO hp 9 x0 = true ∧ m_Rn xs L DA 2453 0 (lv_args 0 [.ref x0]) [] hp (.inl (some (.int x.1)), x.2)) {x0 : Nat} {hp : m_H} {x : Int32 × m_H} (h : F12_readCond A x0 hp = some x) : m_Rn xs L (DA + 2) 2455 0 (lv_args 0 [.ref x0]) [] hp (.inl (some (.int x.1)), x.2) :=
  r_lv (SF12_readCond_0 hDA hD hA x0 hp (K := fun y => y = x) (fun y e => by rw [e]) (m_gdd h).2 rfl) rfl ⟨rfl, trivial⟩
-- F12_readAtom: LendHouseModel.readAtom()Z
theorem eF12_readAtom_0 : m_Fe mi12_53 0 (m_ap [(.aload_n 0, 1), (.bipush 40, 2)] ((.invokevirtual 207, 3) :: ([(.ifCond .eq 50, 3)]))) := m_Fe_of nd2453 0 4 rfl
theorem eF12_readAtom_56 : m_Fe mi12_53 56 (m_ap [(.aload_n 0, 1), (.ldc 216, 2)] ((.invokevirtual 218, 3) :: ([(.ifCond .eq 52, 3)]))) := m_Fe_of nd2453 31 4 rfl
theorem eF12_readAtom_114 : m_Fe mi12_53 114 (m_ap [(.aload_n 0, 1)] ((.invokevirtual 224, 3) :: ([(.ifCond .ne 5, 3)]))) := m_Fe_of nd2453 64 3 rfl
theorem eF12_readAtom_123 : m_Fe mi12_53 123 (m_ap [(.aload_n 0, 1), (.bipush 60, 2)] ((.invokevirtual 207, 3) :: (m_ap [(.istore_n 1, 1), (.iload_n 1, 1)] ([(.ifCond .ne 12, 3)])))) := m_Fe_of nd2453 69 6 rfl
theorem eF12_readAtom_134 : m_Fe mi12_53 134 (m_ap [(.aload_n 0, 1), (.bipush 62, 2)] ((.invokevirtual 207, 3) :: ([(.ifCond .eq 10, 3)]))) := m_Fe_of nd2453 75 4 rfl
theorem eF12_readAtom_150 : m_Fe mi12_53 150 (m_ap [(.iconst 0, 1)] ([(.ireturn, 1)])) := m_Fe_of nd2453 82 2 rfl
theorem eF12_readAtom_121 : m_Fe mi12_53 121 (m_ap [(.iconst 0, 1)] ([(.ireturn, 1)])) := m_Fe_of nd2453 67 2 rfl
theorem eF12_readAtom_65 : m_Fe mi12_53 65 (m_ap [(.aload_n 0, 1)] ((.getfield 210, 3) :: (m_ap [(.bipush 6, 2)] ([(.if_icmp .ne 5, 3)])))) := m_Fe_of nd2453 35 4 rfl
theorem eF12_readAtom_76 : m_Fe mi12_53 76 (m_ap [(.aload_n 0, 1), (.dup, 1)] ((.getfield 210, 3) :: (m_ap [(.iconst 1, 1), (.iadd, 1)] ((.putfield 210, 3) :: (m_ap [(.aload_n 0, 1)] ((.invokevirtual 221, 3) :: ([(.ifCond .ne 5, 3)]))))))) := m_Fe_of nd2453 41 9 rfl
theorem eF12_readAtom_95 : m_Fe mi12_53 95 (m_ap [(.aload_n 0, 1), (.dup, 1)] ((.getfield 210, 3) :: (m_ap [(.iconst 1, 1), (.isub, 1)] ((.putfield 210, 3) :: (m_ap [(.aload_n 0, 1), (.bipush 104, 2), (.iconst 0, 1)] ((.invokevirtual 196, 3) :: (m_ap [(.iconst 1, 1)] ([(.ireturn, 1)])))))))) := m_Fe_of nd2453 52 12 rfl
theorem eF12_readAtom_93 : m_Fe mi12_53 93 (m_ap [(.iconst 0, 1)] ([(.ireturn, 1)])) := m_Fe_of nd2453 50 2 rfl
theorem eF12_readAtom_74 : m_Fe mi12_53 74 (m_ap [(.iconst 0, 1)] ([(.ireturn, 1)])) := m_Fe_of nd2453 39 2 rfl
theorem eF12_readAtom_9 : m_Fe mi12_53 9 (m_ap [(.aload_n 0, 1)] ((.getfield 210, 3) :: (m_ap [(.bipush 6, 2)] ([(.if_icmp .ne 5, 3)])))) := m_Fe_of nd2453 4 4 rfl
theorem eF12_readAtom_20 : m_Fe mi12_53 20 (m_ap [(.aload_n 0, 1), (.dup, 1)] ((.getfield 210, 3) :: (m_ap [(.iconst 1, 1), (.iadd, 1)] ((.putfield 210, 3) :: (m_ap [(.aload_n 0, 1)] ((.invokevirtual 213, 3) :: ([(.ifCond .ne 5, 3)]))))))) := m_Fe_of nd2453 10 9 rfl
theorem eF12_readAtom_39 : m_Fe mi12_53 39 (m_ap [(.aload_n 0, 1), (.dup, 1)] ((.getfield 210, 3) :: (m_ap [(.iconst 1, 1), (.isub, 1)] ((.putfield 210, 3) :: (m_ap [(.aload_n 0, 1), (.bipush 41, 2)] ((.invokevirtual 207, 3) :: ([(.ireturn, 1)]))))))) := m_Fe_of nd2453 21 10 rfl
theorem eF12_readAtom_37 : m_Fe mi12_53 37 (m_ap [(.iconst 0, 1)] ([(.ireturn, 1)])) := m_Fe_of nd2453 19 2 rfl
theorem eF12_readAtom_18 : m_Fe mi12_53 18 (m_ap [(.iconst 0, 1)] ([(.ireturn, 1)])) := m_Fe_of nd2453 8 2 rfl
theorem eF12_readAtom_143 : m_Fe mi12_53 143 (m_ap [(.aload_n 0, 1)] ((.invokevirtual 224, 3) :: ([(.ifCond .ne 5, 3)]))) := m_Fe_of nd2453 79 3 rfl
theorem eF12_readAtom_152 : m_Fe mi12_53 152 (m_ap [(.aload_n 0, 1), (.iload_n 1, 1)] ([(.ifCond .eq 8, 3)])) := m_Fe_of nd2453 84 3 rfl
theorem eF12_readAtom_162 : m_Fe mi12_53 162 (m_ap [(.bipush 103, 2)] ([])) := m_Fe_of nd2453 89 1 rfl
theorem eF12_readAtom_164 : m_Fe mi12_53 164 (m_ap [(.iconst 0, 1)] ((.invokevirtual 196, 3) :: (m_ap [(.iconst 1, 1)] ([(.ireturn, 1)])))) := m_Fe_of nd2453 90 4 rfl
theorem eF12_readAtom_157 : m_Fe mi12_53 157 (m_ap [(.bipush 102, 2)] ([(.goto 5, 3)])) := m_Fe_of nd2453 87 2 rfl
theorem SF12_readAtom_143 {xs : Nat → Int32} {L : Nat} {DA : Nat} {A : Nat → m_H → Option (Int32 × m_H)} (hDA : 400 ≤ DA + 400) (hD : 20 ≤ DA) (hA : ∀ x0 hp x, A x0 hp = some x → m_isO hp 9 x0 = true ∧ m_Rn xs L DA 2453 0 (lv_args 0 [.ref x0]) [] hp (.inl (some (.int x.1)), x.2)) (x0 : Nat) (x1 : Int32) (hp : m_H) {r : m_O × m_H} {K : (Int32 × m_H) → Prop} (k0 : ∀ x, K x → r = (.inl (some (.int x.1)), x.2)) {t : Int32 × m_H} (h : F12_readAtom_143 A x0 x1 hp = some t) (hK : K t) : m_Rn xs L (DA + 3) 2453 143 [(0, .ref x0), (1, .int x1)] [] hp r := by
  unfold F12_readAtom_143 at h
  refine g_in eF12_readAtom_143 mx2453 ?_
  refine g_ch [(0, .ref x0), (1, .int x1)] [.ref x0] (pc' := 144) rfl rfl rfl ?_
  obtain ⟨z2, e1, h⟩ := m_bd h
  refine g_call (v := some (.int z2.1)) (h := z2.2) (st' := [.int z2.1]) (D1 := 9) (as := [.ref x0]) (Or.inr (Or.inl rfl)) q12_m224 (m_cv (as := []) (rest := []) (Or.inl rfl) q12_m224 jv2452 (OF12_readSum e1) rfl rfl rfl rfl) (by omega) (SF12_readSum e1) rfl ?_
  rcases m_ifd h with ⟨c3, h⟩ | ⟨c3, h⟩
  · refine g_ifcn (t := 152) rfl (m_neF c3) ?_
    refine g_in eF12_readAtom_150 mx2453 ?_
    refine g_ch [(0, .ref x0), (1, .int x1)] [.int 0] (pc' := 151) rfl rfl rfl ?_
    cases h
    rw [k0 _ hK]
    exact g_iret rfl (by decide +kernel)
  · refine g_ifc (t := 152) rfl (m_neT c3) ?_
    refine g_in eF12_readAtom_152 mx2453 ?_
    refine g_ch [(0, .ref x0), (1, .int x1)] [.int x1, .ref x0] (pc' := 154) rfl rfl rfl ?_
    rcases m_ifd h with ⟨c4, h⟩ | ⟨c4, h⟩
    · refine g_ifc (t := 162) rfl (m_eqT c4) ?_
      refine g_in eF12_readAtom_162 mx2453 ?_
      refine g_ch [(0, .ref x0), (1, .int x1)] [.int 103, .ref x0] (pc' := 164) rfl rfl rfl ?_
      refine g_end ?_
      refine g_in eF12_readAtom_164 mx2453 ?_
      refine g_ch [(0, .ref x0), (1, .int x1)] [.int 0, .int 103, .ref x0] (pc' := 165) rfl rfl rfl ?_
      obtain ⟨h6, e5, h⟩ := m_bd h
      refine g_call (v := none) (h := h6) (st' := []) (D1 := 1) (as := [.ref x0, .int 103, .int 0]) (Or.inr (Or.inl rfl)) q12_m196 (m_cv (as := [.int 0, .int 103]) (rest := []) (Or.inl rfl) q12_m196 jv2449 (OF12_emits e5) rfl rfl rfl rfl) (by omega) (SF12_emits e5) rfl ?_
      refine g_ch [(0, .ref x0), (1, .int x1)] [.int 1] (pc' := 169) rfl rfl rfl ?_
      cases h
      rw [k0 _ hK]
      exact g_iret rfl (by decide +kernel)
    · refine g_ifcn (t := 162) rfl (m_eqF c4) ?_
      refine g_in eF12_readAtom_157 mx2453 ?_
      refine g_ch [(0, .ref x0), (1, .int x1)] [.int 102, .ref x0] (pc' := 159) rfl rfl rfl ?_
      refine g_goto (t := 164) rfl ?_
      refine g_in eF12_readAtom_164 mx2453 ?_
      refine g_ch [(0, .ref x0), (1, .int x1)] [.int 0, .int 102, .ref x0] (pc' := 165) rfl rfl rfl ?_
      obtain ⟨h8, e7, h⟩ := m_bd h
      refine g_call (v := none) (h := h8) (st' := []) (D1 := 1) (as := [.ref x0, .int 102, .int 0]) (Or.inr (Or.inl rfl)) q12_m196 (m_cv (as := [.int 0, .int 102]) (rest := []) (Or.inl rfl) q12_m196 jv2449 (OF12_emits e7) rfl rfl rfl rfl) (by omega) (SF12_emits e7) rfl ?_
      refine g_ch [(0, .ref x0), (1, .int x1)] [.int 1] (pc' := 169) rfl rfl rfl ?_
      cases h
      rw [k0 _ hK]
      exact g_iret rfl (by decide +kernel)
theorem SF12_readAtom_0 {xs : Nat → Int32} {L : Nat} {DA : Nat} {A : Nat → m_H → Option (Int32 × m_H)} (hDA : 400 ≤ DA + 400) (hD : 20 ≤ DA) (hA : ∀ x0 hp x, A x0 hp = some x → m_isO hp 9 x0 = true ∧ m_Rn xs L DA 2453 0 (lv_args 0 [.ref x0]) [] hp (.inl (some (.int x.1)), x.2)) (x0 : Nat) (hp : m_H) {r : m_O × m_H} {K : (Int32 × m_H) → Prop} (k0 : ∀ x, K x → r = (.inl (some (.int x.1)), x.2)) {t : Int32 × m_H} (h : F12_readAtom_0 A x0 hp = some t) (hK : K t) : m_Rn xs L (DA + 3) 2453 0 [(0, .ref x0)] [] hp r := by
  unfold F12_readAtom_0 at h
  refine g_in eF12_readAtom_0 mx2453 ?_
  refine g_ch [(0, .ref x0)] [.int 40, .ref x0] (pc' := 3) rfl rfl rfl ?_
  obtain ⟨z2, e1, h⟩ := m_bd h
  refine g_call (v := some (.int z2.1)) (h := z2.2) (st' := [.int z2.1]) (D1 := 2) (as := [.ref x0, .int 40]) (Or.inr (Or.inl rfl)) q12_m207 (m_cv (as := [.int 40]) (rest := []) (Or.inl rfl) q12_m207 jv2444 (OF12_sign e1) rfl rfl rfl rfl) (by omega) (SF12_sign e1) rfl ?_
  rcases m_ifd h with ⟨c3, h⟩ | ⟨c3, h⟩
  · refine g_ifc (t := 56) rfl (m_eqT c3) ?_
    refine g_in eF12_readAtom_56 mx2453 ?_
    refine g_ch [(0, .ref x0)] [.ref 64, .ref x0] (pc' := 59) rfl rfl rfl ?_
    obtain ⟨z5, e4, h⟩ := m_bd h
    refine g_call (v := some (.int z5.1)) (h := z5.2) (st' := [.int z5.1]) (D1 := 8) (as := [.ref x0, .ref 64]) (Or.inr (Or.inl rfl)) q12_m218 (m_cv (as := [.ref 64]) (rest := []) (Or.inl rfl) q12_m218 jv2443 (OF12_passes e4) rfl rfl rfl rfl) (by omega) (SF12_passes e4) rfl ?_
    rcases m_ifd h with ⟨c6, h⟩ | ⟨c6, h⟩
    · refine g_ifc (t := 114) rfl (m_eqT c6) ?_
      refine g_in eF12_readAtom_114 mx2453 ?_
      refine g_ch [(0, .ref x0)] [.ref x0] (pc' := 115) rfl rfl rfl ?_
      obtain ⟨z8, e7, h⟩ := m_bd h
      refine g_call (v := some (.int z8.1)) (h := z8.2) (st' := [.int z8.1]) (D1 := 9) (as := [.ref x0]) (Or.inr (Or.inl rfl)) q12_m224 (m_cv (as := []) (rest := []) (Or.inl rfl) q12_m224 jv2452 (OF12_readSum e7) rfl rfl rfl rfl) (by omega) (SF12_readSum e7) rfl ?_
      rcases m_ifd h with ⟨c9, h⟩ | ⟨c9, h⟩
      · refine g_ifcn (t := 123) rfl (m_neF c9) ?_
        refine g_in eF12_readAtom_121 mx2453 ?_
        refine g_ch [(0, .ref x0)] [.int 0] (pc' := 122) rfl rfl rfl ?_
        cases h
        rw [k0 _ hK]
        exact g_iret rfl (by decide +kernel)
      · refine g_ifc (t := 123) rfl (m_neT c9) ?_
        refine g_in eF12_readAtom_123 mx2453 ?_
        refine g_ch [(0, .ref x0)] [.int 60, .ref x0] (pc' := 126) rfl rfl rfl ?_
        obtain ⟨z11, e10, h⟩ := m_bd h
        refine g_call (v := some (.int z11.1)) (h := z11.2) (st' := [.int z11.1]) (D1 := 2) (as := [.ref x0, .int 60]) (Or.inr (Or.inl rfl)) q12_m207 (m_cv (as := [.int 60]) (rest := []) (Or.inl rfl) q12_m207 jv2444 (OF12_sign e10) rfl rfl rfl rfl) (by omega) (SF12_sign e10) rfl ?_
        refine g_ch [(1, .int z11.1), (0, .ref x0)] [.int z11.1] (pc' := 131) rfl rfl rfl ?_
        rcases m_ifd h with ⟨c12, h⟩ | ⟨c12, h⟩
        · refine g_ifcn (t := 143) rfl (m_neF c12) ?_
          refine g_in eF12_readAtom_134 mx2453 ?_
          refine g_ch [(1, .int z11.1), (0, .ref x0)] [.int 62, .ref x0] (pc' := 137) rfl rfl rfl ?_
          obtain ⟨z14, e13, h⟩ := m_bd h
          refine g_call (v := some (.int z14.1)) (h := z14.2) (st' := [.int z14.1]) (D1 := 2) (as := [.ref x0, .int 62]) (Or.inr (Or.inl rfl)) q12_m207 (m_cv (as := [.int 62]) (rest := []) (Or.inl rfl) q12_m207 jv2444 (OF12_sign e13) rfl rfl rfl rfl) (by omega) (SF12_sign e13) rfl ?_
          rcases m_ifd h with ⟨c15, h⟩ | ⟨c15, h⟩
          · refine g_ifc (t := 150) rfl (m_eqT c15) ?_
            refine g_in eF12_readAtom_150 mx2453 ?_
            refine g_ch [(1, .int z11.1), (0, .ref x0)] [.int 0] (pc' := 151) rfl rfl rfl ?_
            cases h
            rw [k0 _ hK]
            exact g_iret rfl (by decide +kernel)
          · refine g_ifcn (t := 150) rfl (m_eqF c15) ?_
            exact r_lv (SF12_readAtom_143 hDA hD hA x0 z11.1 z14.2 (K := K) k0 h hK) rfl ⟨rfl, rfl, trivial⟩
        · refine g_ifc (t := 143) rfl (m_neT c12) ?_
          exact r_lv (SF12_readAtom_143 hDA hD hA x0 z11.1 z11.2 (K := K) k0 h hK) rfl ⟨rfl, rfl, trivial⟩
    · refine g_ifcn (t := 114) rfl (m_eqF c6) ?_
      refine g_in eF12_readAtom_65 mx2453 ?_
      refine g_ch [(0, .ref x0)] [.ref x0] (pc' := 66) rfl rfl rfl ?_
      obtain ⟨v16, e17, h⟩ := m_bd h
      refine g_gi q12_f210 e17 ?_
      refine g_ch [(0, .ref x0)] [.int 6, .int v16] (pc' := 71) rfl rfl rfl ?_
      rcases m_ifd h with ⟨c18, h⟩ | ⟨c18, h⟩
      · refine g_ifn (t := 76) rfl (m_neF c18) ?_
        refine g_in eF12_readAtom_74 mx2453 ?_
        refine g_ch [(0, .ref x0)] [.int 0] (pc' := 75) rfl rfl rfl ?_
        cases h
        rw [k0 _ hK]
        exact g_iret rfl (by decide +kernel)
      · refine g_if (t := 76) rfl (m_neT c18) ?_
        refine g_in eF12_readAtom_76 mx2453 ?_
        refine g_ch [(0, .ref x0)] [.ref x0, .ref x0] (pc' := 78) rfl rfl rfl ?_
        obtain ⟨v19, e20, h⟩ := m_bd h
        refine g_gi q12_f210 e20 ?_
        refine g_ch [(0, .ref x0)] [.int (v19 + 1), .ref x0] (pc' := 83) rfl rfl rfl ?_
        obtain ⟨h21, e22, h⟩ := m_bd h
        refine g_pf q12_f210 e22 ?_
        refine g_ch [(0, .ref x0)] [.ref x0] (pc' := 87) rfl rfl rfl ?_
        obtain ⟨z24, e23, h⟩ := m_bd h
        refine g_call (v := some (.int z24.1)) (h := z24.2) (st' := [.int z24.1]) (D1 := DA) (as := [.ref x0]) (Or.inr (Or.inl rfl)) q12_m221 (m_cv (as := []) (rest := []) (Or.inl rfl) q12_m221 jv2453 (hA _ _ _ e23).1 rfl rfl rfl rfl) (by omega) (hA _ _ _ e23).2 rfl ?_
        rcases m_ifd h with ⟨c25, h⟩ | ⟨c25, h⟩
        · refine g_ifcn (t := 95) rfl (m_neF c25) ?_
          refine g_in eF12_readAtom_93 mx2453 ?_
          refine g_ch [(0, .ref x0)] [.int 0] (pc' := 94) rfl rfl rfl ?_
          cases h
          rw [k0 _ hK]
          exact g_iret rfl (by decide +kernel)
        · refine g_ifc (t := 95) rfl (m_neT c25) ?_
          refine g_in eF12_readAtom_95 mx2453 ?_
          refine g_ch [(0, .ref x0)] [.ref x0, .ref x0] (pc' := 97) rfl rfl rfl ?_
          obtain ⟨v26, e27, h⟩ := m_bd h
          refine g_gi q12_f210 e27 ?_
          refine g_ch [(0, .ref x0)] [.int (v26 - 1), .ref x0] (pc' := 102) rfl rfl rfl ?_
          obtain ⟨h28, e29, h⟩ := m_bd h
          refine g_pf q12_f210 e29 ?_
          refine g_ch [(0, .ref x0)] [.int 0, .int 104, .ref x0] (pc' := 109) rfl rfl rfl ?_
          obtain ⟨h31, e30, h⟩ := m_bd h
          refine g_call (v := none) (h := h31) (st' := []) (D1 := 1) (as := [.ref x0, .int 104, .int 0]) (Or.inr (Or.inl rfl)) q12_m196 (m_cv (as := [.int 0, .int 104]) (rest := []) (Or.inl rfl) q12_m196 jv2449 (OF12_emits e30) rfl rfl rfl rfl) (by omega) (SF12_emits e30) rfl ?_
          refine g_ch [(0, .ref x0)] [.int 1] (pc' := 113) rfl rfl rfl ?_
          cases h
          rw [k0 _ hK]
          exact g_iret rfl (by decide +kernel)
  · refine g_ifcn (t := 56) rfl (m_eqF c3) ?_
    refine g_in eF12_readAtom_9 mx2453 ?_
    refine g_ch [(0, .ref x0)] [.ref x0] (pc' := 10) rfl rfl rfl ?_
    obtain ⟨v32, e33, h⟩ := m_bd h
    refine g_gi q12_f210 e33 ?_
    refine g_ch [(0, .ref x0)] [.int 6, .int v32] (pc' := 15) rfl rfl rfl ?_
    rcases m_ifd h with ⟨c34, h⟩ | ⟨c34, h⟩
    · refine g_ifn (t := 20) rfl (m_neF c34) ?_
      refine g_in eF12_readAtom_18 mx2453 ?_
      refine g_ch [(0, .ref x0)] [.int 0] (pc' := 19) rfl rfl rfl ?_
      cases h
      rw [k0 _ hK]
      exact g_iret rfl (by decide +kernel)
    · refine g_if (t := 20) rfl (m_neT c34) ?_
      refine g_in eF12_readAtom_20 mx2453 ?_
      refine g_ch [(0, .ref x0)] [.ref x0, .ref x0] (pc' := 22) rfl rfl rfl ?_
      obtain ⟨v35, e36, h⟩ := m_bd h
      refine g_gi q12_f210 e36 ?_
      refine g_ch [(0, .ref x0)] [.int (v35 + 1), .ref x0] (pc' := 27) rfl rfl rfl ?_
      obtain ⟨h37, e38, h⟩ := m_bd h
      refine g_pf q12_f210 e38 ?_
      refine g_ch [(0, .ref x0)] [.ref x0] (pc' := 31) rfl rfl rfl ?_
      obtain ⟨z40, e39, h⟩ := m_bd h
      refine g_call (v := some (.int z40.1)) (h := z40.2) (st' := [.int z40.1]) (D1 := (DA + 2)) (as := [.ref x0]) (Or.inr (Or.inl rfl)) q12_m213 (m_cv (as := []) (rest := []) (Or.inl rfl) q12_m213 jv2455 (OF12_readCond e39) rfl rfl rfl rfl) (by omega) (SF12_readCond hDA hD hA e39) rfl ?_
      rcases m_ifd h with ⟨c41, h⟩ | ⟨c41, h⟩
      · refine g_ifcn (t := 39) rfl (m_neF c41) ?_
        refine g_in eF12_readAtom_37 mx2453 ?_
        refine g_ch [(0, .ref x0)] [.int 0] (pc' := 38) rfl rfl rfl ?_
        cases h
        rw [k0 _ hK]
        exact g_iret rfl (by decide +kernel)
      · refine g_ifc (t := 39) rfl (m_neT c41) ?_
        refine g_in eF12_readAtom_39 mx2453 ?_
        refine g_ch [(0, .ref x0)] [.ref x0, .ref x0] (pc' := 41) rfl rfl rfl ?_
        obtain ⟨v42, e43, h⟩ := m_bd h
        refine g_gi q12_f210 e43 ?_
        refine g_ch [(0, .ref x0)] [.int (v42 - 1), .ref x0] (pc' := 46) rfl rfl rfl ?_
        obtain ⟨h44, e45, h⟩ := m_bd h
        refine g_pf q12_f210 e45 ?_
        refine g_ch [(0, .ref x0)] [.int 41, .ref x0] (pc' := 52) rfl rfl rfl ?_
        obtain ⟨z47, e46, h⟩ := m_bd h
        refine g_call (v := some (.int z47.1)) (h := z47.2) (st' := [.int z47.1]) (D1 := 2) (as := [.ref x0, .int 41]) (Or.inr (Or.inl rfl)) q12_m207 (m_cv (as := [.int 41]) (rest := []) (Or.inl rfl) q12_m207 jv2444 (OF12_sign e46) rfl rfl rfl rfl) (by omega) (SF12_sign e46) rfl ?_
        obtain ⟨e48, h⟩ := m_gdd h
        cases h
        rw [k0 _ hK]
        exact g_iret rfl e48
theorem OF12_readAtoms {A : Nat → m_H → Option (Int32 × m_H)} {x0 : Nat} {hp : m_H} {x : Int32 × m_H} (h : F12_readAtoms A x0 hp = some x) : m_isO hp 9 x0 = true := (m_gdd h).1
theorem SF12_readAtoms {xs : Nat → Int32} {L : Nat} {DA : Nat} {A : Nat → m_H → Option (Int32 × m_H)} (hDA : 400 ≤ DA + 400) (hD : 20 ≤ DA) (hA : ∀ x0 hp x, A x0 hp = some x → m_isO hp 9 x0 = true ∧ m_Rn xs L DA 2453 0 (lv_args 0 [.ref x0]) [] hp (.inl (some (.int x.1)), x.2)) {x0 : Nat} {hp : m_H} {x : Int32 × m_H} (h : F12_readAtoms A x0 hp = some x) : m_Rn xs L (DA + 3) 2453 0 (lv_args 0 [.ref x0]) [] hp (.inl (some (.int x.1)), x.2) :=
  r_lv (SF12_readAtom_0 hDA hD hA x0 hp (K := fun y => y = x) (fun y e => by rw [e]) (m_gdd h).2 rfl) rfl ⟨rfl, trivial⟩
theorem OF12_readAtom {n : Nat} {x0 : Nat} {hp : m_H} {x : Int32 × m_H} (h : F12_readAtom n x0 hp = some x) : m_isO hp 9 x0 = true := by
  cases n with
  | zero => cases h
  | succ n => exact OF12_readAtoms h
theorem SF12_readAtom {xs : Nat → Int32} {L : Nat} : ∀ (n : Nat) (x0 : Nat) (hp : m_H) (x : Int32 × m_H), F12_readAtom n x0 hp = some x → m_Rn xs L (20 + 3 * n) 2453 0 (lv_args 0 [.ref x0]) [] hp (.inl (some (.int x.1)), x.2)
  | 0, _, _, _, h => by cases h
  | n + 1, x0, hp, x, h => SF12_readAtoms (DA := 20 + 3 * n) (by omega) (by omega) (fun x0 hp x h => ⟨OF12_readAtom h, SF12_readAtom n x0 hp x h⟩) h
theorem TF12_readAtom {xs : Nat → Int32} {L : Nat} {x0 : Nat} {hp : m_H} {x : Int32 × m_H} (h : F12_readAtom m_FD x0 hp = some x) : m_Rn xs L 400 2453 0 (lv_args 0 [.ref x0]) [] hp (.inl (some (.int x.1)), x.2) := r_dp (SF12_readAtom m_FD x0 hp x h) (by decide)
theorem TF12_readAllOf {xs : Nat → Int32} {L : Nat} {x0 : Nat} {hp : m_H} {x : Int32 × m_H} (h : F12_readAllOf (F12_readAtom m_FD) x0 hp = some x) : m_Rn xs L 400 2454 0 (lv_args 0 [.ref x0]) [] hp (.inl (some (.int x.1)), x.2) := r_dp (SF12_readAllOf (DA := 20 + 3 * m_FD) (by decide) (by decide) (fun x0 hp x h => ⟨OF12_readAtom h, SF12_readAtom m_FD x0 hp x h⟩) h) (by decide)
theorem TF12_readCond {xs : Nat → Int32} {L : Nat} {x0 : Nat} {hp : m_H} {x : Int32 × m_H} (h : F12_readCond (F12_readAtom m_FD) x0 hp = some x) : m_Rn xs L 400 2455 0 (lv_args 0 [.ref x0]) [] hp (.inl (some (.int x.1)), x.2) := r_dp (SF12_readCond (DA := 20 + 3 * m_FD) (by decide) (by decide) (fun x0 hp x h => ⟨OF12_readAtom h, SF12_readAtom m_FD x0 hp x h⟩) h) (by decide)
-- F12_readLine: LendHouseModel.readLine(I)Z
theorem eF12_readLine_0 : m_Fe mi12_56 0 (m_ap [(.aload_n 0, 1)] ((.invokevirtual 159, 3) :: (m_ap [(.iload_n 1, 1), (.bipush 12, 2)] ([(.if_icmp .ne 5, 3)])))) := m_Fe_of nd2456 0 5 rfl
theorem eF12_readLine_12 : m_Fe mi12_56 12 (m_ap [(.bipush 10, 2), (.iload_n 1, 1)] ((.invokestatic 234, 3) :: (m_ap [(.istore_n 2, 1), (.aload_n 0, 1), (.ldc 237, 2)] ((.invokevirtual 162, 3) :: ([(.ifCond .eq 7, 3)]))))) := m_Fe_of nd2456 7 8 rfl
theorem eF12_readLine_32 : m_Fe mi12_56 32 (m_ap [(.aload_n 0, 1), (.ldc 239, 2)] ((.invokevirtual 162, 3) :: ([(.ifCond .eq 7, 3)]))) := m_Fe_of nd2456 17 4 rfl
theorem eF12_readLine_45 : m_Fe mi12_56 45 (m_ap [(.aload_n 0, 1), (.ldc 241, 2)] ((.invokevirtual 162, 3) :: ([(.ifCond .eq 7, 3)]))) := m_Fe_of nd2456 23 4 rfl
theorem eF12_readLine_58 : m_Fe mi12_56 58 (m_ap [(.aload_n 0, 1), (.ldc 243, 2)] ((.invokevirtual 162, 3) :: ([(.ifCond .eq 7, 3)]))) := m_Fe_of nd2456 29 4 rfl
theorem eF12_readLine_71 : m_Fe mi12_56 71 (m_ap [(.iconst (-1), 1)] ([])) := m_Fe_of nd2456 35 1 rfl
theorem eF12_readLine_67 : m_Fe mi12_56 67 (m_ap [(.iconst 3, 1)] ([(.goto 4, 3)])) := m_Fe_of nd2456 33 2 rfl
theorem eF12_readLine_54 : m_Fe mi12_56 54 (m_ap [(.iconst 2, 1)] ([(.goto 17, 3)])) := m_Fe_of nd2456 27 2 rfl
theorem eF12_readLine_41 : m_Fe mi12_56 41 (m_ap [(.iconst 1, 1)] ([(.goto 30, 3)])) := m_Fe_of nd2456 21 2 rfl
theorem eF12_readLine_28 : m_Fe mi12_56 28 (m_ap [(.iconst 0, 1)] ([(.goto 43, 3)])) := m_Fe_of nd2456 15 2 rfl
theorem eF12_readLine_10 : m_Fe mi12_56 10 (m_ap [(.iconst 0, 1)] ([(.ireturn, 1)])) := m_Fe_of nd2456 5 2 rfl
theorem eF12_readLine_72 : m_Fe mi12_56 72 (m_ap [(.istore_n 3, 1), (.aload_n 0, 1)] ((.getfield 14, 3) :: (m_ap [(.iload_n 2, 1), (.iload_n 3, 1)] ((.iastore, 1) :: (m_ap [(.aload_n 0, 1)] ((.getfield 14, 3) :: (m_ap [(.iload_n 2, 1), (.iconst 1, 1), (.iadd, 1), (.iconst 0, 1)] ((.iastore, 1) :: (m_ap [(.aload_n 0, 1)] ((.getfield 14, 3) :: (m_ap [(.iload_n 2, 1), (.iconst 2, 1), (.iadd, 1), (.aload_n 0, 1)] ((.getfield 170, 3) :: ((.iastore, 1) :: (m_ap [(.aload_n 0, 1)] ((.getfield 14, 3) :: (m_ap [(.iload_n 2, 1), (.iconst 3, 1), (.iadd, 1), (.aload_n 0, 1)] ((.getfield 170, 3) :: ((.iastore, 1) :: (m_ap [(.iload_n 3, 1)] ([(.ifCond .ge 5, 3)])))))))))))))))))))) := m_Fe_of nd2456 36 31 rfl
theorem eF12_readLine_119 : m_Fe mi12_56 119 (m_ap [(.iload_n 3, 1), (.iconst 1, 1)] ([(.if_icmp .eq 8, 3)])) := m_Fe_of nd2456 69 3 rfl
theorem eF12_readLine_124 : m_Fe mi12_56 124 (m_ap [(.iload_n 3, 1), (.iconst 2, 1)] ([(.if_icmp .ne 40, 3)])) := m_Fe_of nd2456 72 3 rfl
theorem eF12_readLine_117 : m_Fe mi12_56 117 (m_ap [(.iconst 0, 1)] ([(.ireturn, 1)])) := m_Fe_of nd2456 67 2 rfl
theorem eF12_readLine_129 : m_Fe mi12_56 129 (m_ap [(.aload_n 0, 1)] ((.getfield 14, 3) :: (m_ap [(.iload_n 2, 1), (.iconst 1, 1), (.iadd, 1), (.aload_n 0, 1), (.iload_n 3, 1), (.iconst 2, 1)] ([(.if_icmp .ne 8, 3)])))) := m_Fe_of nd2456 75 9 rfl
theorem eF12_readLine_147 : m_Fe mi12_56 147 (m_ap [(.ldc 200, 2)] ([])) := m_Fe_of nd2456 86 1 rfl
theorem eF12_readLine_142 : m_Fe mi12_56 142 (m_ap [(.bipush 100, 2)] ([(.goto 5, 3)])) := m_Fe_of nd2456 84 2 rfl
theorem eF12_readLine_166 : m_Fe mi12_56 166 (m_ap [(.aload_n 0, 1), (.ldc 245, 2)] ((.invokevirtual 218, 3) :: ([(.ifCond .eq 29, 3)]))) := m_Fe_of nd2456 98 4 rfl
theorem eF12_readLine_201 : m_Fe mi12_56 201 (m_ap [(.iconst 1, 1)] ([(.ireturn, 1)])) := m_Fe_of nd2456 118 2 rfl
theorem eF12_readLine_175 : m_Fe mi12_56 175 (m_ap [(.aload_n 0, 1), (.iconst 0, 1)] ((.putfield 210, 3) :: (m_ap [(.aload_n 0, 1)] ((.invokevirtual 213, 3) :: ([(.ifCond .ne 5, 3)]))))) := m_Fe_of nd2456 102 6 rfl
theorem eF12_readLine_189 : m_Fe mi12_56 189 (m_ap [(.aload_n 0, 1)] ((.getfield 14, 3) :: (m_ap [(.iload_n 2, 1), (.iconst 3, 1), (.iadd, 1), (.aload_n 0, 1)] ((.getfield 170, 3) :: ([(.iastore, 1)]))))) := m_Fe_of nd2456 110 8 rfl
theorem eF12_readLine_187 : m_Fe mi12_56 187 (m_ap [(.iconst 0, 1)] ([(.ireturn, 1)])) := m_Fe_of nd2456 108 2 rfl
theorem eF12_readLine_149 : m_Fe mi12_56 149 ((.invokevirtual 201, 3) :: ((.iastore, 1) :: (m_ap [(.aload_n 0, 1)] ((.getfield 14, 3) :: (m_ap [(.iload_n 2, 1), (.iconst 1, 1), (.iadd, 1)] ((.iaload, 1) :: ([(.ifCond .ge 5, 3)]))))))) := m_Fe_of nd2456 87 9 rfl
theorem eF12_readLine_164 : m_Fe mi12_56 164 (m_ap [(.iconst 0, 1)] ([(.ireturn, 1)])) := m_Fe_of nd2456 96 2 rfl
theorem SF12_readLine_166 {xs : Nat → Int32} {L : Nat} (x0 : Nat) (x2 : Int32) (hp : m_H) {r : m_O × m_H} {K : (Int32 × m_H) → Prop} (k0 : ∀ x, K x → r = (.inl (some (.int x.1)), x.2)) {t : Int32 × m_H} (h : F12_readLine_166 x0 x2 hp = some t) (hK : K t) : m_Rn xs L 401 2456 166 [(0, .ref x0), (2, .int x2)] [] hp r := by
  unfold F12_readLine_166 at h
  refine g_in eF12_readLine_166 mx2456 ?_
  refine g_ch [(0, .ref x0), (2, .int x2)] [.ref 63, .ref x0] (pc' := 169) rfl rfl rfl ?_
  obtain ⟨z2, e1, h⟩ := m_bd h
  refine g_call (v := some (.int z2.1)) (h := z2.2) (st' := [.int z2.1]) (D1 := 8) (as := [.ref x0, .ref 63]) (Or.inr (Or.inl rfl)) q12_m218 (m_cv (as := [.ref 63]) (rest := []) (Or.inl rfl) q12_m218 jv2443 (OF12_passes e1) rfl rfl rfl rfl) (by decide) (SF12_passes e1) rfl ?_
  rcases m_ifd h with ⟨c3, h⟩ | ⟨c3, h⟩
  · refine g_ifc (t := 201) rfl (m_eqT c3) ?_
    refine g_in eF12_readLine_201 mx2456 ?_
    refine g_ch [(0, .ref x0), (2, .int x2)] [.int 1] (pc' := 202) rfl rfl rfl ?_
    cases h
    rw [k0 _ hK]
    exact g_iret rfl (by decide +kernel)
  · refine g_ifcn (t := 201) rfl (m_eqF c3) ?_
    refine g_in eF12_readLine_175 mx2456 ?_
    refine g_ch [(0, .ref x0), (2, .int x2)] [.int 0, .ref x0] (pc' := 177) rfl rfl rfl ?_
    obtain ⟨h4, e5, h⟩ := m_bd h
    refine g_pf q12_f210 e5 ?_
    refine g_ch [(0, .ref x0), (2, .int x2)] [.ref x0] (pc' := 181) rfl rfl rfl ?_
    obtain ⟨z7, e6, h⟩ := m_bd h
    refine g_call (v := some (.int z7.1)) (h := z7.2) (st' := [.int z7.1]) (D1 := 400) (as := [.ref x0]) (Or.inr (Or.inl rfl)) q12_m213 (m_cv (as := []) (rest := []) (Or.inl rfl) q12_m213 jv2455 (OF12_readCond e6) rfl rfl rfl rfl) (by decide) (TF12_readCond e6) rfl ?_
    rcases m_ifd h with ⟨c8, h⟩ | ⟨c8, h⟩
    · refine g_ifcn (t := 189) rfl (m_neF c8) ?_
      refine g_in eF12_readLine_187 mx2456 ?_
      refine g_ch [(0, .ref x0), (2, .int x2)] [.int 0] (pc' := 188) rfl rfl rfl ?_
      cases h
      rw [k0 _ hK]
      exact g_iret rfl (by decide +kernel)
    · refine g_ifc (t := 189) rfl (m_neT c8) ?_
      refine g_in eF12_readLine_189 mx2456 ?_
      refine g_ch [(0, .ref x0), (2, .int x2)] [.ref x0] (pc' := 190) rfl rfl rfl ?_
      obtain ⟨v9, e10, h⟩ := m_bd h
      refine g_gr q12_f14 e10 ?_
      refine g_ch [(0, .ref x0), (2, .int x2)] [.ref x0, .int (x2 + 3), .ref v9] (pc' := 197) rfl rfl rfl ?_
      obtain ⟨v11, e12, h⟩ := m_bd h
      refine g_gi q12_f170 e12 ?_
      obtain ⟨h13, e14, h⟩ := m_bd h
      refine g_is e14 ?_
      refine g_end ?_
      refine g_in eF12_readLine_201 mx2456 ?_
      refine g_ch [(0, .ref x0), (2, .int x2)] [.int 1] (pc' := 202) rfl rfl rfl ?_
      cases h
      rw [k0 _ hK]
      exact g_iret rfl (by decide +kernel)
theorem SF12_readLine_149 {xs : Nat → Int32} {L : Nat} (x0 : Nat) (x2 : Int32) (s0 : Int32) (s1 : Nat) (s2 : Int32) (s3 : Nat) (hp : m_H) {r : m_O × m_H} {K : (Int32 × m_H) → Prop} (k0 : ∀ x, K x → r = (.inl (some (.int x.1)), x.2)) {t : Int32 × m_H} (h : F12_readLine_149 x0 x2 s0 s1 s2 s3 hp = some t) (hK : K t) : m_Rn xs L 401 2456 149 [(0, .ref x0), (2, .int x2)] [.int s0, .ref s1, .int s2, .ref s3] hp r := by
  unfold F12_readLine_149 at h
  refine g_in eF12_readLine_149 mx2456 ?_
  obtain ⟨z2, e1, h⟩ := m_bd h
  refine g_call (v := some (.int z2.1)) (h := z2.2) (st' := [.int z2.1, .int s2, .ref s3]) (D1 := 2) (as := [.ref s1, .int s0]) (Or.inr (Or.inl rfl)) q12_m201 (m_cv (as := [.int s0]) (rest := [.int s2, .ref s3]) (Or.inl rfl) q12_m201 jv2445 (OF12_number e1) rfl rfl rfl rfl) (by decide) (SF12_number e1) rfl ?_
  obtain ⟨h3, e4, h⟩ := m_bd h
  refine g_is e4 ?_
  refine g_ch [(0, .ref x0), (2, .int x2)] [.ref x0] (pc' := 154) rfl rfl rfl ?_
  obtain ⟨v5, e6, h⟩ := m_bd h
  refine g_gr q12_f14 e6 ?_
  refine g_ch [(0, .ref x0), (2, .int x2)] [.int (x2 + 1), .ref v5] (pc' := 160) rfl rfl rfl ?_
  obtain ⟨v7, e8, h⟩ := m_bd h
  refine g_ia e8 ?_
  rcases m_ifd h with ⟨c9, h⟩ | ⟨c9, h⟩
  · refine g_ifc (t := 166) rfl (m_geT c9) ?_
    exact r_lv (SF12_readLine_166 x0 x2 h3 (K := K) k0 h hK) rfl ⟨rfl, rfl, trivial⟩
  · refine g_ifcn (t := 166) rfl (m_geF c9) ?_
    refine g_in eF12_readLine_164 mx2456 ?_
    refine g_ch [(0, .ref x0), (2, .int x2)] [.int 0] (pc' := 165) rfl rfl rfl ?_
    cases h
    rw [k0 _ hK]
    exact g_iret rfl (by decide +kernel)
theorem SF12_readLine_129 {xs : Nat → Int32} {L : Nat} (x0 : Nat) (x2 : Int32) (x3 : Int32) (hp : m_H) {r : m_O × m_H} {K : (Int32 × m_H) → Prop} (k0 : ∀ x, K x → r = (.inl (some (.int x.1)), x.2)) {t : Int32 × m_H} (h : F12_readLine_129 x0 x2 x3 hp = some t) (hK : K t) : m_Rn xs L 401 2456 129 [(0, .ref x0), (2, .int x2), (3, .int x3)] [] hp r := by
  unfold F12_readLine_129 at h
  refine g_in eF12_readLine_129 mx2456 ?_
  refine g_ch [(0, .ref x0), (2, .int x2), (3, .int x3)] [.ref x0] (pc' := 130) rfl rfl rfl ?_
  obtain ⟨v1, e2, h⟩ := m_bd h
  refine g_gr q12_f14 e2 ?_
  refine g_ch [(0, .ref x0), (2, .int x2), (3, .int x3)] [.int 2, .int x3, .ref x0, .int (x2 + 1), .ref v1] (pc' := 139) rfl rfl rfl ?_
  rcases m_ifd h with ⟨c3, h⟩ | ⟨c3, h⟩
  · refine g_ifn (t := 147) rfl (m_neF c3) ?_
    refine g_in eF12_readLine_142 mx2456 ?_
    refine g_ch [(0, .ref x0), (2, .int x2), (3, .int x3)] [.int 100, .ref x0, .int (x2 + 1), .ref v1] (pc' := 144) rfl rfl rfl ?_
    refine g_goto (t := 149) rfl ?_
    exact r_lv (SF12_readLine_149 x0 x2 100 x0 (x2 + 1) v1 hp (K := K) k0 h hK) rfl ⟨rfl, rfl, trivial⟩
  · refine g_if (t := 147) rfl (m_neT c3) ?_
    refine g_in eF12_readLine_147 mx2456 ?_
    refine g_ch [(0, .ref x0), (2, .int x2), (3, .int x3)] [.int 99999, .ref x0, .int (x2 + 1), .ref v1] (pc' := 149) rfl rfl rfl ?_
    refine g_end ?_
    exact r_lv (SF12_readLine_149 x0 x2 99999 x0 (x2 + 1) v1 hp (K := K) k0 h hK) rfl ⟨rfl, rfl, trivial⟩
theorem SF12_readLine_72 {xs : Nat → Int32} {L : Nat} (x0 : Nat) (x2 : Int32) (s0 : Int32) (hp : m_H) {r : m_O × m_H} {K : (Int32 × m_H) → Prop} (k0 : ∀ x, K x → r = (.inl (some (.int x.1)), x.2)) {t : Int32 × m_H} (h : F12_readLine_72 x0 x2 s0 hp = some t) (hK : K t) : m_Rn xs L 401 2456 72 [(0, .ref x0), (2, .int x2)] [.int s0] hp r := by
  unfold F12_readLine_72 at h
  refine g_in eF12_readLine_72 mx2456 ?_
  refine g_ch [(3, .int s0), (0, .ref x0), (2, .int x2)] [.ref x0] (pc' := 74) rfl rfl rfl ?_
  obtain ⟨v1, e2, h⟩ := m_bd h
  refine g_gr q12_f14 e2 ?_
  refine g_ch [(3, .int s0), (0, .ref x0), (2, .int x2)] [.int s0, .int x2, .ref v1] (pc' := 79) rfl rfl rfl ?_
  obtain ⟨h3, e4, h⟩ := m_bd h
  refine g_is e4 ?_
  refine g_ch [(3, .int s0), (0, .ref x0), (2, .int x2)] [.ref x0] (pc' := 81) rfl rfl rfl ?_
  obtain ⟨v5, e6, h⟩ := m_bd h
  refine g_gr q12_f14 e6 ?_
  refine g_ch [(3, .int s0), (0, .ref x0), (2, .int x2)] [.int 0, .int (x2 + 1), .ref v5] (pc' := 88) rfl rfl rfl ?_
  obtain ⟨h7, e8, h⟩ := m_bd h
  refine g_is e8 ?_
  refine g_ch [(3, .int s0), (0, .ref x0), (2, .int x2)] [.ref x0] (pc' := 90) rfl rfl rfl ?_
  obtain ⟨v9, e10, h⟩ := m_bd h
  refine g_gr q12_f14 e10 ?_
  refine g_ch [(3, .int s0), (0, .ref x0), (2, .int x2)] [.ref x0, .int (x2 + 2), .ref v9] (pc' := 97) rfl rfl rfl ?_
  obtain ⟨v11, e12, h⟩ := m_bd h
  refine g_gi q12_f170 e12 ?_
  obtain ⟨h13, e14, h⟩ := m_bd h
  refine g_is e14 ?_
  refine g_ch [(3, .int s0), (0, .ref x0), (2, .int x2)] [.ref x0] (pc' := 102) rfl rfl rfl ?_
  obtain ⟨v15, e16, h⟩ := m_bd h
  refine g_gr q12_f14 e16 ?_
  refine g_ch [(3, .int s0), (0, .ref x0), (2, .int x2)] [.ref x0, .int (x2 + 3), .ref v15] (pc' := 109) rfl rfl rfl ?_
  obtain ⟨v17, e18, h⟩ := m_bd h
  refine g_gi q12_f170 e18 ?_
  obtain ⟨h19, e20, h⟩ := m_bd h
  refine g_is e20 ?_
  refine g_ch [(3, .int s0), (0, .ref x0), (2, .int x2)] [.int s0] (pc' := 114) rfl rfl rfl ?_
  rcases m_ifd h with ⟨c21, h⟩ | ⟨c21, h⟩
  · refine g_ifc (t := 119) rfl (m_geT c21) ?_
    refine g_in eF12_readLine_119 mx2456 ?_
    refine g_ch [(3, .int s0), (0, .ref x0), (2, .int x2)] [.int 1, .int s0] (pc' := 121) rfl rfl rfl ?_
    rcases m_ifd h with ⟨c22, h⟩ | ⟨c22, h⟩
    · refine g_if (t := 129) rfl (m_eqT c22) ?_
      exact r_lv (SF12_readLine_129 x0 x2 s0 h19 (K := K) k0 h hK) rfl ⟨rfl, rfl, rfl, trivial⟩
    · refine g_ifn (t := 129) rfl (m_eqF c22) ?_
      refine g_in eF12_readLine_124 mx2456 ?_
      refine g_ch [(3, .int s0), (0, .ref x0), (2, .int x2)] [.int 2, .int s0] (pc' := 126) rfl rfl rfl ?_
      rcases m_ifd h with ⟨c23, h⟩ | ⟨c23, h⟩
      · refine g_ifn (t := 166) rfl (m_neF c23) ?_
        exact r_lv (SF12_readLine_129 x0 x2 s0 h19 (K := K) k0 h hK) rfl ⟨rfl, rfl, rfl, trivial⟩
      · refine g_if (t := 166) rfl (m_neT c23) ?_
        exact r_lv (SF12_readLine_166 x0 x2 h19 (K := K) k0 h hK) rfl ⟨rfl, rfl, trivial⟩
  · refine g_ifcn (t := 119) rfl (m_geF c21) ?_
    refine g_in eF12_readLine_117 mx2456 ?_
    refine g_ch [(3, .int s0), (0, .ref x0), (2, .int x2)] [.int 0] (pc' := 118) rfl rfl rfl ?_
    cases h
    rw [k0 _ hK]
    exact g_iret rfl (by decide +kernel)
theorem SF12_readLine_0 {xs : Nat → Int32} {L : Nat} (x0 : Nat) (x1 : Int32) (hp : m_H) {r : m_O × m_H} {K : (Int32 × m_H) → Prop} (k0 : ∀ x, K x → r = (.inl (some (.int x.1)), x.2)) {t : Int32 × m_H} (h : F12_readLine_0 x0 x1 hp = some t) (hK : K t) : m_Rn xs L 401 2456 0 [(0, .ref x0), (1, .int x1)] [] hp r := by
  unfold F12_readLine_0 at h
  refine g_in eF12_readLine_0 mx2456 ?_
  refine g_ch [(0, .ref x0), (1, .int x1)] [.ref x0] (pc' := 1) rfl rfl rfl ?_
  obtain ⟨h2, e1, h⟩ := m_bd h
  refine g_call (v := none) (h := h2) (st' := []) (D1 := 2) (as := [.ref x0]) (Or.inr (Or.inl rfl)) q12_m159 (m_cv (as := []) (rest := []) (Or.inl rfl) q12_m159 jv2441 (OF12_word e1) rfl rfl rfl rfl) (by decide) (SF12_word e1) rfl ?_
  refine g_ch [(0, .ref x0), (1, .int x1)] [.int 12, .int x1] (pc' := 7) rfl rfl rfl ?_
  rcases m_ifd h with ⟨c3, h⟩ | ⟨c3, h⟩
  · refine g_ifn (t := 12) rfl (m_neF c3) ?_
    refine g_in eF12_readLine_10 mx2456 ?_
    refine g_ch [(0, .ref x0), (1, .int x1)] [.int 0] (pc' := 11) rfl rfl rfl ?_
    cases h
    rw [k0 _ hK]
    exact g_iret rfl (by decide +kernel)
  · refine g_if (t := 12) rfl (m_neT c3) ?_
    refine g_in eF12_readLine_12 mx2456 ?_
    refine g_ch [(0, .ref x0), (1, .int x1)] [.int x1, .int 10] (pc' := 15) rfl rfl rfl ?_
    obtain ⟨v5, e4, h⟩ := m_bd h
    refine g_call (v := some (.int v5)) (h := h2) (st' := [.int v5]) (D1 := 1) (as := [.int 10, .int x1]) (Or.inl rfl) q12_m234 (m_cs (as := [.int x1, .int 10]) (rest := []) q12_m234 jv2448 rfl rfl rfl rfl rfl) (by decide) (SF12_lineAt e4) rfl ?_
    refine g_ch [(2, .int v5), (0, .ref x0), (1, .int x1)] [.ref 59, .ref x0] (pc' := 22) rfl rfl rfl ?_
    obtain ⟨v7, e6, h⟩ := m_bd h
    refine g_call (v := some (.int v7)) (h := h2) (st' := [.int v7]) (D1 := 7) (as := [.ref x0, .ref 59]) (Or.inr (Or.inl rfl)) q12_m162 (m_cv (as := [.ref 59]) (rest := []) (Or.inl rfl) q12_m162 jv2442 (OF12_isWord e6) rfl rfl rfl rfl) (by decide) (SF12_isWord e6) rfl ?_
    rcases m_ifd h with ⟨c8, h⟩ | ⟨c8, h⟩
    · refine g_ifc (t := 32) rfl (m_eqT c8) ?_
      refine g_in eF12_readLine_32 mx2456 ?_
      refine g_ch [(2, .int v5), (0, .ref x0), (1, .int x1)] [.ref 60, .ref x0] (pc' := 35) rfl rfl rfl ?_
      obtain ⟨v10, e9, h⟩ := m_bd h
      refine g_call (v := some (.int v10)) (h := h2) (st' := [.int v10]) (D1 := 7) (as := [.ref x0, .ref 60]) (Or.inr (Or.inl rfl)) q12_m162 (m_cv (as := [.ref 60]) (rest := []) (Or.inl rfl) q12_m162 jv2442 (OF12_isWord e9) rfl rfl rfl rfl) (by decide) (SF12_isWord e9) rfl ?_
      rcases m_ifd h with ⟨c11, h⟩ | ⟨c11, h⟩
      · refine g_ifc (t := 45) rfl (m_eqT c11) ?_
        refine g_in eF12_readLine_45 mx2456 ?_
        refine g_ch [(2, .int v5), (0, .ref x0), (1, .int x1)] [.ref 61, .ref x0] (pc' := 48) rfl rfl rfl ?_
        obtain ⟨v13, e12, h⟩ := m_bd h
        refine g_call (v := some (.int v13)) (h := h2) (st' := [.int v13]) (D1 := 7) (as := [.ref x0, .ref 61]) (Or.inr (Or.inl rfl)) q12_m162 (m_cv (as := [.ref 61]) (rest := []) (Or.inl rfl) q12_m162 jv2442 (OF12_isWord e12) rfl rfl rfl rfl) (by decide) (SF12_isWord e12) rfl ?_
        rcases m_ifd h with ⟨c14, h⟩ | ⟨c14, h⟩
        · refine g_ifc (t := 58) rfl (m_eqT c14) ?_
          refine g_in eF12_readLine_58 mx2456 ?_
          refine g_ch [(2, .int v5), (0, .ref x0), (1, .int x1)] [.ref 62, .ref x0] (pc' := 61) rfl rfl rfl ?_
          obtain ⟨v16, e15, h⟩ := m_bd h
          refine g_call (v := some (.int v16)) (h := h2) (st' := [.int v16]) (D1 := 7) (as := [.ref x0, .ref 62]) (Or.inr (Or.inl rfl)) q12_m162 (m_cv (as := [.ref 62]) (rest := []) (Or.inl rfl) q12_m162 jv2442 (OF12_isWord e15) rfl rfl rfl rfl) (by decide) (SF12_isWord e15) rfl ?_
          rcases m_ifd h with ⟨c17, h⟩ | ⟨c17, h⟩
          · refine g_ifc (t := 71) rfl (m_eqT c17) ?_
            refine g_in eF12_readLine_71 mx2456 ?_
            refine g_ch [(2, .int v5), (0, .ref x0), (1, .int x1)] [.int (-1)] (pc' := 72) rfl rfl rfl ?_
            refine g_end ?_
            exact r_lv (SF12_readLine_72 x0 v5 (-1) h2 (K := K) k0 h hK) rfl ⟨rfl, rfl, trivial⟩
          · refine g_ifcn (t := 71) rfl (m_eqF c17) ?_
            refine g_in eF12_readLine_67 mx2456 ?_
            refine g_ch [(2, .int v5), (0, .ref x0), (1, .int x1)] [.int 3] (pc' := 68) rfl rfl rfl ?_
            refine g_goto (t := 72) rfl ?_
            exact r_lv (SF12_readLine_72 x0 v5 3 h2 (K := K) k0 h hK) rfl ⟨rfl, rfl, trivial⟩
        · refine g_ifcn (t := 58) rfl (m_eqF c14) ?_
          refine g_in eF12_readLine_54 mx2456 ?_
          refine g_ch [(2, .int v5), (0, .ref x0), (1, .int x1)] [.int 2] (pc' := 55) rfl rfl rfl ?_
          refine g_goto (t := 72) rfl ?_
          exact r_lv (SF12_readLine_72 x0 v5 2 h2 (K := K) k0 h hK) rfl ⟨rfl, rfl, trivial⟩
      · refine g_ifcn (t := 45) rfl (m_eqF c11) ?_
        refine g_in eF12_readLine_41 mx2456 ?_
        refine g_ch [(2, .int v5), (0, .ref x0), (1, .int x1)] [.int 1] (pc' := 42) rfl rfl rfl ?_
        refine g_goto (t := 72) rfl ?_
        exact r_lv (SF12_readLine_72 x0 v5 1 h2 (K := K) k0 h hK) rfl ⟨rfl, rfl, trivial⟩
    · refine g_ifcn (t := 32) rfl (m_eqF c8) ?_
      refine g_in eF12_readLine_28 mx2456 ?_
      refine g_ch [(2, .int v5), (0, .ref x0), (1, .int x1)] [.int 0] (pc' := 29) rfl rfl rfl ?_
      refine g_goto (t := 72) rfl ?_
      exact r_lv (SF12_readLine_72 x0 v5 0 h2 (K := K) k0 h hK) rfl ⟨rfl, rfl, trivial⟩
theorem OF12_readLine {x0 : Nat} {x1 : Int32} {hp : m_H} {x : Int32 × m_H} (h : F12_readLine x0 x1 hp = some x) : m_isO hp 9 x0 = true := (m_gdd h).1
theorem SF12_readLine {xs : Nat → Int32} {L : Nat} {x0 : Nat} {x1 : Int32} {hp : m_H} {x : Int32 × m_H} (h : F12_readLine x0 x1 hp = some x) : m_Rn xs L 401 2456 0 (lv_args 0 [.ref x0, .int x1]) [] hp (.inl (some (.int x.1)), x.2) :=
  r_lv (SF12_readLine_0 x0 x1 hp (K := fun y => y = x) (fun y e => by rw [e]) (m_gdd h).2 rfl) rfl ⟨rfl, rfl, trivial⟩
-- F12_readAll: LendHouseModel.readAll()I
theorem eF12_readAll_0 : m_Fe mi12_57 0 (m_ap [(.aload_n 0, 1), (.iconst 0, 1)] ((.putfield 170, 3) :: (m_ap [(.aload_n 0, 1)] ((.invokevirtual 147, 3) :: (m_ap [(.aload_n 0, 1)] ((.getfield 137, 3) :: (m_ap [(.aload_n 0, 1)] ((.getfield 134, 3) :: ([(.if_icmp .ne 5, 3)]))))))))) := m_Fe_of nd2457 0 10 rfl
theorem eF12_readAll_22 : m_Fe mi12_57 22 (m_ap [(.iconst 0, 1), (.istore_n 1, 1)] ([])) := m_Fe_of nd2457 12 2 rfl
theorem eF12_readAll_20 : m_Fe mi12_57 20 (m_ap [(.iconst 0, 1)] ([(.ireturn, 1)])) := m_Fe_of nd2457 10 2 rfl
theorem eF12_readAll_24 : m_Fe mi12_57 24 (m_ap [(.aload_n 0, 1), (.iload_n 1, 1)] ((.invokevirtual 247, 3) :: ([(.ifCond .ne 5, 3)]))) := m_Fe_of nd2457 14 4 rfl
theorem eF12_readAll_34 : m_Fe mi12_57 34 (m_ap [(.aload_n 0, 1)] ((.invokevirtual 147, 3) :: (m_ap [(.aload_n 0, 1)] ((.getfield 137, 3) :: (m_ap [(.aload_n 0, 1)] ((.getfield 134, 3) :: ([(.if_icmp .ne 7, 3)]))))))) := m_Fe_of nd2457 20 7 rfl
theorem eF12_readAll_53 : m_Fe mi12_57 53 (m_ap [(.aload_n 0, 1), (.bipush 59, 2), (.bipush 59, 2)] ((.invokevirtual 140, 3) :: ([(.ifCond .ne 5, 3)]))) := m_Fe_of nd2457 31 5 rfl
theorem eF12_readAll_66 : m_Fe mi12_57 66 (m_ap [(.aload_n 0, 1), (.dup, 1)] ((.getfield 137, 3) :: (m_ap [(.iconst 1, 1), (.iadd, 1)] ((.putfield 137, 3) :: (m_ap [(.iinc 1 1, 3)] ([(.goto (-55), 3)])))))) := m_Fe_of nd2457 38 8 rfl
theorem eF12_readAll_64 : m_Fe mi12_57 64 (m_ap [(.iconst (-1), 1)] ([(.ireturn, 1)])) := m_Fe_of nd2457 36 2 rfl
theorem eF12_readAll_49 : m_Fe mi12_57 49 (m_ap [(.iload_n 1, 1), (.iconst 1, 1), (.iadd, 1)] ([(.ireturn, 1)])) := m_Fe_of nd2457 27 4 rfl
theorem eF12_readAll_32 : m_Fe mi12_57 32 (m_ap [(.iconst (-1), 1)] ([(.ireturn, 1)])) := m_Fe_of nd2457 18 2 rfl
theorem SF12_readAll_24b {xs : Nat → Int32} {L : Nat} (x0 : Nat) (s : Int32 × m_H) {r : m_O × m_H} {K : ((Int32 × m_H) ⊕ (Int32 × m_H)) → Prop} (k0 : ∀ x, K (.inr x) → r = (.inl (some (.int x.1)), x.2)) (k1 : ∀ s, K (.inl s) → m_Rn xs L 402 2457 24 [(0, .ref x0), (1, .int s.1)] [] s.2 r) {t : (Int32 × m_H) ⊕ (Int32 × m_H)} (h : F12_readAll_24b x0 s = some t) (hK : K t) : m_Rn xs L 402 2457 24 [(0, .ref x0), (1, .int s.1)] [] s.2 r := by
  unfold F12_readAll_24b at h
  refine g_in eF12_readAll_24 mx2457 ?_
  refine g_ch [(0, .ref x0), (1, .int s.1)] [.int s.1, .ref x0] (pc' := 26) rfl rfl rfl ?_
  obtain ⟨z2, e1, h⟩ := m_bd h
  refine g_call (v := some (.int z2.1)) (h := z2.2) (st' := [.int z2.1]) (D1 := 401) (as := [.ref x0, .int s.1]) (Or.inr (Or.inl rfl)) q12_m247 (m_cv (as := [.int s.1]) (rest := []) (Or.inl rfl) q12_m247 jv2456 (OF12_readLine e1) rfl rfl rfl rfl) (by decide) (SF12_readLine e1) rfl ?_
  rcases m_ifd h with ⟨c3, h⟩ | ⟨c3, h⟩
  · refine g_ifcn (t := 34) rfl (m_neF c3) ?_
    refine g_in eF12_readAll_32 mx2457 ?_
    refine g_ch [(0, .ref x0), (1, .int s.1)] [.int (-1)] (pc' := 33) rfl rfl rfl ?_
    cases h
    rw [k0 _ hK]
    exact g_iret rfl rfl
  · refine g_ifc (t := 34) rfl (m_neT c3) ?_
    refine g_in eF12_readAll_34 mx2457 ?_
    refine g_ch [(0, .ref x0), (1, .int s.1)] [.ref x0] (pc' := 35) rfl rfl rfl ?_
    obtain ⟨h5, e4, h⟩ := m_bd h
    refine g_call (v := none) (h := h5) (st' := []) (D1 := 1) (as := [.ref x0]) (Or.inr (Or.inl rfl)) q12_m147 (m_cv (as := []) (rest := []) (Or.inl rfl) q12_m147 jv2440 (OF12_blanks e4) rfl rfl rfl rfl) (by decide) (SF12_blanks e4) rfl ?_
    refine g_ch [(0, .ref x0), (1, .int s.1)] [.ref x0] (pc' := 39) rfl rfl rfl ?_
    obtain ⟨v6, e7, h⟩ := m_bd h
    refine g_gi q12_f137 e7 ?_
    refine g_ch [(0, .ref x0), (1, .int s.1)] [.ref x0, .int v6] (pc' := 43) rfl rfl rfl ?_
    obtain ⟨v8, e9, h⟩ := m_bd h
    refine g_gi q12_f134 e9 ?_
    rcases m_ifd h with ⟨c10, h⟩ | ⟨c10, h⟩
    · refine g_ifn (t := 53) rfl (m_neF c10) ?_
      refine g_in eF12_readAll_49 mx2457 ?_
      refine g_ch [(0, .ref x0), (1, .int s.1)] [.int (s.1 + 1)] (pc' := 52) rfl rfl rfl ?_
      cases h
      rw [k0 _ hK]
      exact g_iret rfl rfl
    · refine g_if (t := 53) rfl (m_neT c10) ?_
      refine g_in eF12_readAll_53 mx2457 ?_
      refine g_ch [(0, .ref x0), (1, .int s.1)] [.int 59, .int 59, .ref x0] (pc' := 58) rfl rfl rfl ?_
      obtain ⟨v12, e11, h⟩ := m_bd h
      refine g_call (v := some (.int v12)) (h := h5) (st' := [.int v12]) (D1 := 0) (as := [.ref x0, .int 59, .int 59]) (Or.inr (Or.inl rfl)) q12_m140 (m_cv (as := [.int 59, .int 59]) (rest := []) (Or.inl rfl) q12_m140 jv2439 (OF12_isAt e11) rfl rfl rfl rfl) (by decide) (SF12_isAt e11) rfl ?_
      rcases m_ifd h with ⟨c13, h⟩ | ⟨c13, h⟩
      · refine g_ifcn (t := 66) rfl (m_neF c13) ?_
        refine g_in eF12_readAll_64 mx2457 ?_
        refine g_ch [(0, .ref x0), (1, .int s.1)] [.int (-1)] (pc' := 65) rfl rfl rfl ?_
        cases h
        rw [k0 _ hK]
        exact g_iret rfl rfl
      · refine g_ifc (t := 66) rfl (m_neT c13) ?_
        refine g_in eF12_readAll_66 mx2457 ?_
        refine g_ch [(0, .ref x0), (1, .int s.1)] [.ref x0, .ref x0] (pc' := 68) rfl rfl rfl ?_
        obtain ⟨v14, e15, h⟩ := m_bd h
        refine g_gi q12_f137 e15 ?_
        refine g_ch [(0, .ref x0), (1, .int s.1)] [.int (v14 + 1), .ref x0] (pc' := 73) rfl rfl rfl ?_
        obtain ⟨h16, e17, h⟩ := m_bd h
        refine g_pf q12_f137 e17 ?_
        refine g_ch [(1, .int (s.1 + 1)), (0, .ref x0)] [] (pc' := 79) rfl rfl rfl ?_
        refine g_goto (t := 24) rfl ?_
        cases h
        exact r_lv (k1 ((s.1 + 1), h16) hK) rfl ⟨rfl, rfl, trivial⟩
theorem SF12_readAll_24 {xs : Nat → Int32} {L : Nat} (x0 : Nat) (x1 : Int32) (hp : m_H) {r : m_O × m_H} {K : Int32 × m_H → Prop} (k0 : ∀ x, K x → r = (.inl (some (.int x.1)), x.2)) {t : Int32 × m_H} (h : F12_readAll_24 x0 x1 hp = some t) (hK : K t) : m_Rn xs L 402 2457 24 [(0, .ref x0), (1, .int x1)] [] hp r :=
  m_wh_ok (P := fun s => m_Rn xs L 402 2457 24 [(0, .ref x0), (1, .int s.1)] [] s.2 r) (Q := K) (fun s t hb hK => SF12_readAll_24b x0 s (K := m_KK (fun s => m_Rn xs L 402 2457 24 [(0, .ref x0), (1, .int s.1)] [] s.2 r) K) k0 (fun _ q => q) hb hK) m_N _ _ h hK
theorem SF12_readAll_0 {xs : Nat → Int32} {L : Nat} (x0 : Nat) (hp : m_H) {r : m_O × m_H} {K : (Int32 × m_H) → Prop} (k0 : ∀ x, K x → r = (.inl (some (.int x.1)), x.2)) {t : Int32 × m_H} (h : F12_readAll_0 x0 hp = some t) (hK : K t) : m_Rn xs L 402 2457 0 [(0, .ref x0)] [] hp r := by
  unfold F12_readAll_0 at h
  refine g_in eF12_readAll_0 mx2457 ?_
  refine g_ch [(0, .ref x0)] [.int 0, .ref x0] (pc' := 2) rfl rfl rfl ?_
  obtain ⟨h1, e2, h⟩ := m_bd h
  refine g_pf q12_f170 e2 ?_
  refine g_ch [(0, .ref x0)] [.ref x0] (pc' := 6) rfl rfl rfl ?_
  obtain ⟨h4, e3, h⟩ := m_bd h
  refine g_call (v := none) (h := h4) (st' := []) (D1 := 1) (as := [.ref x0]) (Or.inr (Or.inl rfl)) q12_m147 (m_cv (as := []) (rest := []) (Or.inl rfl) q12_m147 jv2440 (OF12_blanks e3) rfl rfl rfl rfl) (by decide) (SF12_blanks e3) rfl ?_
  refine g_ch [(0, .ref x0)] [.ref x0] (pc' := 10) rfl rfl rfl ?_
  obtain ⟨v5, e6, h⟩ := m_bd h
  refine g_gi q12_f137 e6 ?_
  refine g_ch [(0, .ref x0)] [.ref x0, .int v5] (pc' := 14) rfl rfl rfl ?_
  obtain ⟨v7, e8, h⟩ := m_bd h
  refine g_gi q12_f134 e8 ?_
  rcases m_ifd h with ⟨c9, h⟩ | ⟨c9, h⟩
  · refine g_ifn (t := 22) rfl (m_neF c9) ?_
    refine g_in eF12_readAll_20 mx2457 ?_
    refine g_ch [(0, .ref x0)] [.int 0] (pc' := 21) rfl rfl rfl ?_
    cases h
    rw [k0 _ hK]
    exact g_iret rfl rfl
  · refine g_if (t := 22) rfl (m_neT c9) ?_
    refine g_in eF12_readAll_22 mx2457 ?_
    refine g_ch [(1, .int 0), (0, .ref x0)] [] (pc' := 24) rfl rfl rfl ?_
    refine g_end ?_
    exact r_lv (SF12_readAll_24 x0 0 h4 (K := K) k0 h hK) rfl ⟨rfl, rfl, trivial⟩
theorem OF12_readAll {x0 : Nat} {hp : m_H} {x : Int32 × m_H} (h : F12_readAll x0 hp = some x) : m_isO hp 9 x0 = true := (m_gdd h).1
theorem SF12_readAll {xs : Nat → Int32} {L : Nat} {x0 : Nat} {hp : m_H} {x : Int32 × m_H} (h : F12_readAll x0 hp = some x) : m_Rn xs L 402 2457 0 (lv_args 0 [.ref x0]) [] hp (.inl (some (.int x.1)), x.2) :=
  r_lv (SF12_readAll_0 x0 hp (K := fun y => y = x) (fun y e => by rw [e]) (m_gdd h).2 rfl) rfl ⟨rfl, trivial⟩
-- F12_act: LendHouseModel.act(I)I
theorem eF12_act_0 : m_Fe mi12_58 0 (m_ap [(.aload_n 0, 1)] ((.invokevirtual 250, 3) :: (m_ap [(.aload_n 0, 1), (.iload_n 1, 1), (.aload_n 0, 1)] ((.invokevirtual 86, 3) :: (m_ap [(.sipush 500, 3)] ((.invokestatic 74, 3) :: ([(.ifCond .ne 7, 3)]))))))) := m_Fe_of nd2458 0 9 rfl
theorem eF12_act_23 : m_Fe mi12_58 23 (m_ap [(.iconst 0, 1)] ([])) := m_Fe_of nd2458 11 1 rfl
theorem eF12_act_19 : m_Fe mi12_58 19 (m_ap [(.iconst 1, 1)] ([(.goto 4, 3)])) := m_Fe_of nd2458 9 2 rfl
theorem eF12_act_24 : m_Fe mi12_58 24 (m_ap [(.iconst 1, 1)] ((.invokevirtual 82, 3) :: ([(.ifCond .eq 5, 3)]))) := m_Fe_of nd2458 12 3 rfl
theorem eF12_act_33 : m_Fe mi12_58 33 (m_ap [(.aload_n 0, 1)] ((.invokevirtual 253, 3) :: (m_ap [(.istore_n 2, 1), (.aload_n 0, 1), (.iload_n 2, 1)] ([(.ifCond .ge 10, 3)])))) := m_Fe_of nd2458 17 6 rfl
theorem eF12_act_50 : m_Fe mi12_58 50 (m_ap [(.iconst (-1), 1)] ([])) := m_Fe_of nd2458 26 1 rfl
theorem eF12_act_43 : m_Fe mi12_58 43 (m_ap [(.aload_n 0, 1)] ((.getfield 144, 3) :: ([(.goto 4, 3)]))) := m_Fe_of nd2458 23 3 rfl
theorem eF12_act_31 : m_Fe mi12_58 31 (m_ap [(.iconst 0, 1)] ([(.ireturn, 1)])) := m_Fe_of nd2458 15 2 rfl
theorem eF12_act_51 : m_Fe mi12_58 51 ((.putfield 29, 3) :: (m_ap [(.aload_n 0, 1), (.iload_n 2, 1)] ([(.ifCond .ge 7, 3)]))) := m_Fe_of nd2458 27 4 rfl
theorem eF12_act_63 : m_Fe mi12_58 63 (m_ap [(.iconst 0, 1)] ([])) := m_Fe_of nd2458 33 1 rfl
theorem eF12_act_59 : m_Fe mi12_58 59 (m_ap [(.iconst 1, 1)] ([(.goto 4, 3)])) := m_Fe_of nd2458 31 2 rfl
theorem eF12_act_64 : m_Fe mi12_58 64 (m_ap [(.iconst 1, 1)] ((.invokevirtual 82, 3) :: ([(.ifCond .ne 29, 3)]))) := m_Fe_of nd2458 34 3 rfl
theorem eF12_act_97 : m_Fe mi12_58 97 (m_ap [(.iconst 0, 1)] ([(.ireturn, 1)])) := m_Fe_of nd2458 50 2 rfl
theorem eF12_act_71 : m_Fe mi12_58 71 (m_ap [(.aload_n 0, 1), (.aload_n 0, 1)] ((.getfield 14, 3) :: (m_ap [(.sipush 28326, 3)] ((.iaload, 1) :: (m_ap [(.bipush 10, 2)] ([(.if_icmp .ne 7, 3)])))))) := m_Fe_of nd2458 37 7 rfl
theorem eF12_act_89 : m_Fe mi12_58 89 (m_ap [(.iconst 0, 1)] ([])) := m_Fe_of nd2458 46 1 rfl
theorem eF12_act_85 : m_Fe mi12_58 85 (m_ap [(.iconst 1, 1)] ([(.goto 4, 3)])) := m_Fe_of nd2458 44 2 rfl
theorem eF12_act_90 : m_Fe mi12_58 90 (m_ap [(.iconst 2, 1)] ((.invokevirtual 82, 3) :: ([(.ifCond .eq 5, 3)]))) := m_Fe_of nd2458 47 3 rfl
theorem eF12_act_99 : m_Fe mi12_58 99 (m_ap [(.aload_n 0, 1)] ((.getfield 14, 3) :: (m_ap [(.sipush 28326, 3)] ((.iaload, 1) :: (m_ap [(.istore_n 3, 1), (.aload_n 0, 1)] ((.getfield 14, 3) :: (m_ap [(.sipush 28326, 3), (.dup2, 1)] ((.iaload, 1) :: (m_ap [(.iconst 1, 1), (.iadd, 1)] ((.iastore, 1) :: (m_ap [(.iconst 0, 1), (.istore 4, 2)] ([])))))))))))) := m_Fe_of nd2458 52 15 rfl
theorem eF12_act_123 : m_Fe mi12_58 123 (m_ap [(.iload 4, 2), (.sipush 850, 3)] ([(.if_icmp .ge 34, 3)])) := m_Fe_of nd2458 67 3 rfl
theorem eF12_act_162 : m_Fe mi12_58 162 (m_ap [(.aload_n 0, 1)] ((.getfield 14, 3) :: (m_ap [(.iload_n 3, 1)] ((.invokestatic 166, 3) :: (m_ap [(.iload_n 1, 1)] ((.iastore, 1) :: (m_ap [(.aload_n 0, 1)] ((.getfield 14, 3) :: (m_ap [(.iload_n 3, 1)] ((.invokestatic 166, 3) :: (m_ap [(.iconst 1, 1), (.iadd, 1), (.iload_n 2, 1)] ((.iastore, 1) :: (m_ap [(.iload_n 2, 1)] ([(.ireturn, 1)])))))))))))))) := m_Fe_of nd2458 86 16 rfl
theorem eF12_act_131 : m_Fe mi12_58 131 (m_ap [(.aload_n 0, 1)] ((.getfield 14, 3) :: (m_ap [(.iload_n 3, 1)] ((.invokestatic 166, 3) :: (m_ap [(.iload 4, 2), (.iadd, 1), (.aload_n 0, 1)] ((.getfield 14, 3) :: (m_ap [(.bipush 10, 2)] ((.invokestatic 166, 3) :: (m_ap [(.iload 4, 2), (.iadd, 1)] ((.iaload, 1) :: ((.iastore, 1) :: (m_ap [(.iinc 4 1, 3)] ([(.goto (-36), 3)]))))))))))))) := m_Fe_of nd2458 70 16 rfl
theorem SF12_act_123b {xs : Nat → Int32} {L : Nat} (x0 : Nat) (x1 : Int32) (x2 : Int32) (x3 : Int32) (s : Int32 × m_H) {r : m_O × m_H} {K : ((Int32 × m_H) ⊕ (Int32 × m_H)) → Prop} (k0 : ∀ x, K (.inr x) → r = (.inl (some (.int x.1)), x.2)) (k1 : ∀ s, K (.inl s) → m_Rn xs L 403 2458 123 [(0, .ref x0), (1, .int x1), (2, .int x2), (3, .int x3), (4, .int s.1)] [] s.2 r) {t : (Int32 × m_H) ⊕ (Int32 × m_H)} (h : F12_act_123b x0 x1 x2 x3 s = some t) (hK : K t) : m_Rn xs L 403 2458 123 [(0, .ref x0), (1, .int x1), (2, .int x2), (3, .int x3), (4, .int s.1)] [] s.2 r := by
  unfold F12_act_123b at h
  refine g_in eF12_act_123 mx2458 ?_
  refine g_ch [(0, .ref x0), (1, .int x1), (2, .int x2), (3, .int x3), (4, .int s.1)] [.int 850, .int s.1] (pc' := 128) rfl rfl rfl ?_
  rcases m_ifd h with ⟨c1, h⟩ | ⟨c1, h⟩
  · refine g_if (t := 162) rfl (m_geT c1) ?_
    refine g_in eF12_act_162 mx2458 ?_
    refine g_ch [(0, .ref x0), (1, .int x1), (2, .int x2), (3, .int x3), (4, .int s.1)] [.ref x0] (pc' := 163) rfl rfl rfl ?_
    obtain ⟨v2, e3, h⟩ := m_bd h
    refine g_gr q12_f14 e3 ?_
    refine g_ch [(0, .ref x0), (1, .int x1), (2, .int x2), (3, .int x3), (4, .int s.1)] [.int x3, .ref v2] (pc' := 167) rfl rfl rfl ?_
    obtain ⟨v5, e4, h⟩ := m_bd h
    refine g_call (v := some (.int v5)) (h := s.2) (st' := [.int v5, .ref v2]) (D1 := 0) (as := [.int x3]) (Or.inl rfl) q12_m166 (m_cs (as := [.int x3]) (rest := [.ref v2]) q12_m166 jv2447 rfl rfl rfl rfl rfl) (by decide) (SF12_textAt e4) rfl ?_
    refine g_ch [(0, .ref x0), (1, .int x1), (2, .int x2), (3, .int x3), (4, .int s.1)] [.int x1, .int v5, .ref v2] (pc' := 171) rfl rfl rfl ?_
    obtain ⟨h6, e7, h⟩ := m_bd h
    refine g_is e7 ?_
    refine g_ch [(0, .ref x0), (1, .int x1), (2, .int x2), (3, .int x3), (4, .int s.1)] [.ref x0] (pc' := 173) rfl rfl rfl ?_
    obtain ⟨v8, e9, h⟩ := m_bd h
    refine g_gr q12_f14 e9 ?_
    refine g_ch [(0, .ref x0), (1, .int x1), (2, .int x2), (3, .int x3), (4, .int s.1)] [.int x3, .ref v8] (pc' := 177) rfl rfl rfl ?_
    obtain ⟨v11, e10, h⟩ := m_bd h
    refine g_call (v := some (.int v11)) (h := h6) (st' := [.int v11, .ref v8]) (D1 := 0) (as := [.int x3]) (Or.inl rfl) q12_m166 (m_cs (as := [.int x3]) (rest := [.ref v8]) q12_m166 jv2447 rfl rfl rfl rfl rfl) (by decide) (SF12_textAt e10) rfl ?_
    refine g_ch [(0, .ref x0), (1, .int x1), (2, .int x2), (3, .int x3), (4, .int s.1)] [.int x2, .int (v11 + 1), .ref v8] (pc' := 183) rfl rfl rfl ?_
    obtain ⟨h12, e13, h⟩ := m_bd h
    refine g_is e13 ?_
    refine g_ch [(0, .ref x0), (1, .int x1), (2, .int x2), (3, .int x3), (4, .int s.1)] [.int x2] (pc' := 185) rfl rfl rfl ?_
    cases h
    rw [k0 _ hK]
    exact g_iret rfl rfl
  · refine g_ifn (t := 162) rfl (m_geF c1) ?_
    refine g_in eF12_act_131 mx2458 ?_
    refine g_ch [(0, .ref x0), (1, .int x1), (2, .int x2), (3, .int x3), (4, .int s.1)] [.ref x0] (pc' := 132) rfl rfl rfl ?_
    obtain ⟨v14, e15, h⟩ := m_bd h
    refine g_gr q12_f14 e15 ?_
    refine g_ch [(0, .ref x0), (1, .int x1), (2, .int x2), (3, .int x3), (4, .int s.1)] [.int x3, .ref v14] (pc' := 136) rfl rfl rfl ?_
    obtain ⟨v17, e16, h⟩ := m_bd h
    refine g_call (v := some (.int v17)) (h := s.2) (st' := [.int v17, .ref v14]) (D1 := 0) (as := [.int x3]) (Or.inl rfl) q12_m166 (m_cs (as := [.int x3]) (rest := [.ref v14]) q12_m166 jv2447 rfl rfl rfl rfl rfl) (by decide) (SF12_textAt e16) rfl ?_
    refine g_ch [(0, .ref x0), (1, .int x1), (2, .int x2), (3, .int x3), (4, .int s.1)] [.ref x0, .int (v17 + s.1), .ref v14] (pc' := 143) rfl rfl rfl ?_
    obtain ⟨v18, e19, h⟩ := m_bd h
    refine g_gr q12_f14 e19 ?_
    refine g_ch [(0, .ref x0), (1, .int x1), (2, .int x2), (3, .int x3), (4, .int s.1)] [.int 10, .ref v18, .int (v17 + s.1), .ref v14] (pc' := 148) rfl rfl rfl ?_
    obtain ⟨v21, e20, h⟩ := m_bd h
    refine g_call (v := some (.int v21)) (h := s.2) (st' := [.int v21, .ref v18, .int (v17 + s.1), .ref v14]) (D1 := 0) (as := [.int 10]) (Or.inl rfl) q12_m166 (m_cs (as := [.int 10]) (rest := [.ref v18, .int (v17 + s.1), .ref v14]) q12_m166 jv2447 rfl rfl rfl rfl rfl) (by decide) (SF12_textAt e20) rfl ?_
    refine g_ch [(0, .ref x0), (1, .int x1), (2, .int x2), (3, .int x3), (4, .int s.1)] [.int (v21 + s.1), .ref v18, .int (v17 + s.1), .ref v14] (pc' := 154) rfl rfl rfl ?_
    obtain ⟨v22, e23, h⟩ := m_bd h
    refine g_ia e23 ?_
    obtain ⟨h24, e25, h⟩ := m_bd h
    refine g_is e25 ?_
    refine g_ch [(4, .int (s.1 + 1)), (0, .ref x0), (1, .int x1), (2, .int x2), (3, .int x3)] [] (pc' := 159) rfl rfl rfl ?_
    refine g_goto (t := 123) rfl ?_
    cases h
    exact r_lv (k1 ((s.1 + 1), h24) hK) rfl ⟨rfl, rfl, rfl, rfl, rfl, trivial⟩
theorem SF12_act_123 {xs : Nat → Int32} {L : Nat} (x0 : Nat) (x1 : Int32) (x2 : Int32) (x3 : Int32) (x4 : Int32) (hp : m_H) {r : m_O × m_H} {K : Int32 × m_H → Prop} (k0 : ∀ x, K x → r = (.inl (some (.int x.1)), x.2)) {t : Int32 × m_H} (h : F12_act_123 x0 x1 x2 x3 x4 hp = some t) (hK : K t) : m_Rn xs L 403 2458 123 [(0, .ref x0), (1, .int x1), (2, .int x2), (3, .int x3), (4, .int x4)] [] hp r :=
  m_wh_ok (P := fun s => m_Rn xs L 403 2458 123 [(0, .ref x0), (1, .int x1), (2, .int x2), (3, .int x3), (4, .int s.1)] [] s.2 r) (Q := K) (fun s t hb hK => SF12_act_123b x0 x1 x2 x3 s (K := m_KK (fun s => m_Rn xs L 403 2458 123 [(0, .ref x0), (1, .int x1), (2, .int x2), (3, .int x3), (4, .int s.1)] [] s.2 r) K) k0 (fun _ q => q) hb hK) m_N _ _ h hK
theorem SF12_act_90 {xs : Nat → Int32} {L : Nat} (x0 : Nat) (x1 : Int32) (x2 : Int32) (s0 : Int32) (s1 : Nat) (hp : m_H) {r : m_O × m_H} {K : (Int32 × m_H) → Prop} (k0 : ∀ x, K x → r = (.inl (some (.int x.1)), x.2)) {t : Int32 × m_H} (h : F12_act_90 x0 x1 x2 s0 s1 hp = some t) (hK : K t) : m_Rn xs L 403 2458 90 [(0, .ref x0), (1, .int x1), (2, .int x2)] [.int s0, .ref s1] hp r := by
  unfold F12_act_90 at h
  refine g_in eF12_act_90 mx2458 ?_
  refine g_ch [(0, .ref x0), (1, .int x1), (2, .int x2)] [.int 2, .int s0, .ref s1] (pc' := 91) rfl rfl rfl ?_
  obtain ⟨z2, e1, h⟩ := m_bd h
  refine g_call (v := some (.int z2.1)) (h := z2.2) (st' := [.int z2.1]) (D1 := 0) (as := [.ref s1, .int s0, .int 2]) (Or.inr (Or.inl rfl)) q12_m82 (m_cv (as := [.int 2, .int s0]) (rest := []) (Or.inl rfl) q12_m82 jv2401 (OF12_throwsIf e1) rfl rfl rfl rfl) (by decide) (SF12_throwsIf e1) rfl ?_
  rcases m_ifd h with ⟨c3, h⟩ | ⟨c3, h⟩
  · refine g_ifc (t := 99) rfl (m_eqT c3) ?_
    refine g_in eF12_act_99 mx2458 ?_
    refine g_ch [(0, .ref x0), (1, .int x1), (2, .int x2)] [.ref x0] (pc' := 100) rfl rfl rfl ?_
    obtain ⟨v4, e5, h⟩ := m_bd h
    refine g_gr q12_f14 e5 ?_
    refine g_ch [(0, .ref x0), (1, .int x1), (2, .int x2)] [.int 28326, .ref v4] (pc' := 106) rfl rfl rfl ?_
    obtain ⟨v6, e7, h⟩ := m_bd h
    refine g_ia e7 ?_
    refine g_ch [(3, .int v6), (0, .ref x0), (1, .int x1), (2, .int x2)] [.ref x0] (pc' := 109) rfl rfl rfl ?_
    obtain ⟨v8, e9, h⟩ := m_bd h
    refine g_gr q12_f14 e9 ?_
    refine g_ch [(3, .int v6), (0, .ref x0), (1, .int x1), (2, .int x2)] [.int 28326, .ref v8, .int 28326, .ref v8] (pc' := 116) rfl rfl rfl ?_
    obtain ⟨v10, e11, h⟩ := m_bd h
    refine g_ia e11 ?_
    refine g_ch [(3, .int v6), (0, .ref x0), (1, .int x1), (2, .int x2)] [.int (v10 + 1), .int 28326, .ref v8] (pc' := 119) rfl rfl rfl ?_
    obtain ⟨h12, e13, h⟩ := m_bd h
    refine g_is e13 ?_
    refine g_ch [(4, .int 0), (3, .int v6), (0, .ref x0), (1, .int x1), (2, .int x2)] [] (pc' := 123) rfl rfl rfl ?_
    refine g_end ?_
    exact r_lv (SF12_act_123 x0 x1 x2 v6 0 h12 (K := K) k0 h hK) rfl ⟨rfl, rfl, rfl, rfl, rfl, trivial⟩
  · refine g_ifcn (t := 99) rfl (m_eqF c3) ?_
    refine g_in eF12_act_97 mx2458 ?_
    refine g_ch [(0, .ref x0), (1, .int x1), (2, .int x2)] [.int 0] (pc' := 98) rfl rfl rfl ?_
    cases h
    rw [k0 _ hK]
    exact g_iret rfl rfl
theorem SF12_act_64 {xs : Nat → Int32} {L : Nat} (x0 : Nat) (x1 : Int32) (x2 : Int32) (s0 : Int32) (s1 : Nat) (hp : m_H) {r : m_O × m_H} {K : (Int32 × m_H) → Prop} (k0 : ∀ x, K x → r = (.inl (some (.int x.1)), x.2)) {t : Int32 × m_H} (h : F12_act_64 x0 x1 x2 s0 s1 hp = some t) (hK : K t) : m_Rn xs L 403 2458 64 [(0, .ref x0), (1, .int x1), (2, .int x2)] [.int s0, .ref s1] hp r := by
  unfold F12_act_64 at h
  refine g_in eF12_act_64 mx2458 ?_
  refine g_ch [(0, .ref x0), (1, .int x1), (2, .int x2)] [.int 1, .int s0, .ref s1] (pc' := 65) rfl rfl rfl ?_
  obtain ⟨z2, e1, h⟩ := m_bd h
  refine g_call (v := some (.int z2.1)) (h := z2.2) (st' := [.int z2.1]) (D1 := 0) (as := [.ref s1, .int s0, .int 1]) (Or.inr (Or.inl rfl)) q12_m82 (m_cv (as := [.int 1, .int s0]) (rest := []) (Or.inl rfl) q12_m82 jv2401 (OF12_throwsIf e1) rfl rfl rfl rfl) (by decide) (SF12_throwsIf e1) rfl ?_
  rcases m_ifd h with ⟨c3, h⟩ | ⟨c3, h⟩
  · refine g_ifcn (t := 97) rfl (m_neF c3) ?_
    refine g_in eF12_act_71 mx2458 ?_
    refine g_ch [(0, .ref x0), (1, .int x1), (2, .int x2)] [.ref x0, .ref x0] (pc' := 73) rfl rfl rfl ?_
    obtain ⟨v4, e5, h⟩ := m_bd h
    refine g_gr q12_f14 e5 ?_
    refine g_ch [(0, .ref x0), (1, .int x1), (2, .int x2)] [.int 28326, .ref v4, .ref x0] (pc' := 79) rfl rfl rfl ?_
    obtain ⟨v6, e7, h⟩ := m_bd h
    refine g_ia e7 ?_
    refine g_ch [(0, .ref x0), (1, .int x1), (2, .int x2)] [.int 10, .int v6, .ref x0] (pc' := 82) rfl rfl rfl ?_
    rcases m_ifd h with ⟨c8, h⟩ | ⟨c8, h⟩
    · refine g_ifn (t := 89) rfl (m_neF c8) ?_
      refine g_in eF12_act_85 mx2458 ?_
      refine g_ch [(0, .ref x0), (1, .int x1), (2, .int x2)] [.int 1, .ref x0] (pc' := 86) rfl rfl rfl ?_
      refine g_goto (t := 90) rfl ?_
      exact r_lv (SF12_act_90 x0 x1 x2 1 x0 z2.2 (K := K) k0 h hK) rfl ⟨rfl, rfl, rfl, trivial⟩
    · refine g_if (t := 89) rfl (m_neT c8) ?_
      refine g_in eF12_act_89 mx2458 ?_
      refine g_ch [(0, .ref x0), (1, .int x1), (2, .int x2)] [.int 0, .ref x0] (pc' := 90) rfl rfl rfl ?_
      refine g_end ?_
      exact r_lv (SF12_act_90 x0 x1 x2 0 x0 z2.2 (K := K) k0 h hK) rfl ⟨rfl, rfl, rfl, trivial⟩
  · refine g_ifc (t := 97) rfl (m_neT c3) ?_
    refine g_in eF12_act_97 mx2458 ?_
    refine g_ch [(0, .ref x0), (1, .int x1), (2, .int x2)] [.int 0] (pc' := 98) rfl rfl rfl ?_
    cases h
    rw [k0 _ hK]
    exact g_iret rfl rfl
theorem SF12_act_51 {xs : Nat → Int32} {L : Nat} (x0 : Nat) (x1 : Int32) (x2 : Int32) (s0 : Int32) (s1 : Nat) (hp : m_H) {r : m_O × m_H} {K : (Int32 × m_H) → Prop} (k0 : ∀ x, K x → r = (.inl (some (.int x.1)), x.2)) {t : Int32 × m_H} (h : F12_act_51 x0 x1 x2 s0 s1 hp = some t) (hK : K t) : m_Rn xs L 403 2458 51 [(0, .ref x0), (1, .int x1), (2, .int x2)] [.int s0, .ref s1] hp r := by
  unfold F12_act_51 at h
  refine g_in eF12_act_51 mx2458 ?_
  obtain ⟨h1, e2, h⟩ := m_bd h
  refine g_pf q12_f29 e2 ?_
  refine g_ch [(0, .ref x0), (1, .int x1), (2, .int x2)] [.int x2, .ref x0] (pc' := 56) rfl rfl rfl ?_
  rcases m_ifd h with ⟨c3, h⟩ | ⟨c3, h⟩
  · refine g_ifc (t := 63) rfl (m_geT c3) ?_
    refine g_in eF12_act_63 mx2458 ?_
    refine g_ch [(0, .ref x0), (1, .int x1), (2, .int x2)] [.int 0, .ref x0] (pc' := 64) rfl rfl rfl ?_
    refine g_end ?_
    exact r_lv (SF12_act_64 x0 x1 x2 0 x0 h1 (K := K) k0 h hK) rfl ⟨rfl, rfl, rfl, trivial⟩
  · refine g_ifcn (t := 63) rfl (m_geF c3) ?_
    refine g_in eF12_act_59 mx2458 ?_
    refine g_ch [(0, .ref x0), (1, .int x1), (2, .int x2)] [.int 1, .ref x0] (pc' := 60) rfl rfl rfl ?_
    refine g_goto (t := 64) rfl ?_
    exact r_lv (SF12_act_64 x0 x1 x2 1 x0 h1 (K := K) k0 h hK) rfl ⟨rfl, rfl, rfl, trivial⟩
theorem SF12_act_24 {xs : Nat → Int32} {L : Nat} (x0 : Nat) (x1 : Int32) (s0 : Int32) (s1 : Nat) (hp : m_H) {r : m_O × m_H} {K : (Int32 × m_H) → Prop} (k0 : ∀ x, K x → r = (.inl (some (.int x.1)), x.2)) {t : Int32 × m_H} (h : F12_act_24 x0 x1 s0 s1 hp = some t) (hK : K t) : m_Rn xs L 403 2458 24 [(0, .ref x0), (1, .int x1)] [.int s0, .ref s1] hp r := by
  unfold F12_act_24 at h
  refine g_in eF12_act_24 mx2458 ?_
  refine g_ch [(0, .ref x0), (1, .int x1)] [.int 1, .int s0, .ref s1] (pc' := 25) rfl rfl rfl ?_
  obtain ⟨z2, e1, h⟩ := m_bd h
  refine g_call (v := some (.int z2.1)) (h := z2.2) (st' := [.int z2.1]) (D1 := 0) (as := [.ref s1, .int s0, .int 1]) (Or.inr (Or.inl rfl)) q12_m82 (m_cv (as := [.int 1, .int s0]) (rest := []) (Or.inl rfl) q12_m82 jv2401 (OF12_throwsIf e1) rfl rfl rfl rfl) (by decide) (SF12_throwsIf e1) rfl ?_
  rcases m_ifd h with ⟨c3, h⟩ | ⟨c3, h⟩
  · refine g_ifc (t := 33) rfl (m_eqT c3) ?_
    refine g_in eF12_act_33 mx2458 ?_
    refine g_ch [(0, .ref x0), (1, .int x1)] [.ref x0] (pc' := 34) rfl rfl rfl ?_
    obtain ⟨z5, e4, h⟩ := m_bd h
    refine g_call (v := some (.int z5.1)) (h := z5.2) (st' := [.int z5.1]) (D1 := 402) (as := [.ref x0]) (Or.inr (Or.inl rfl)) q12_m253 (m_cv (as := []) (rest := []) (Or.inl rfl) q12_m253 jv2457 (OF12_readAll e4) rfl rfl rfl rfl) (by decide) (SF12_readAll e4) rfl ?_
    refine g_ch [(2, .int z5.1), (0, .ref x0), (1, .int x1)] [.int z5.1, .ref x0] (pc' := 40) rfl rfl rfl ?_
    rcases m_ifd h with ⟨c6, h⟩ | ⟨c6, h⟩
    · refine g_ifc (t := 50) rfl (m_geT c6) ?_
      refine g_in eF12_act_50 mx2458 ?_
      refine g_ch [(2, .int z5.1), (0, .ref x0), (1, .int x1)] [.int (-1), .ref x0] (pc' := 51) rfl rfl rfl ?_
      refine g_end ?_
      exact r_lv (SF12_act_51 x0 x1 z5.1 (-1) x0 z5.2 (K := K) k0 h hK) rfl ⟨rfl, rfl, rfl, trivial⟩
    · refine g_ifcn (t := 50) rfl (m_geF c6) ?_
      refine g_in eF12_act_43 mx2458 ?_
      refine g_ch [(2, .int z5.1), (0, .ref x0), (1, .int x1)] [.ref x0, .ref x0] (pc' := 44) rfl rfl rfl ?_
      obtain ⟨v7, e8, h⟩ := m_bd h
      refine g_gi q12_f144 e8 ?_
      refine g_goto (t := 51) rfl ?_
      exact r_lv (SF12_act_51 x0 x1 z5.1 v7 x0 z5.2 (K := K) k0 h hK) rfl ⟨rfl, rfl, rfl, trivial⟩
  · refine g_ifcn (t := 33) rfl (m_eqF c3) ?_
    refine g_in eF12_act_31 mx2458 ?_
    refine g_ch [(0, .ref x0), (1, .int x1)] [.int 0] (pc' := 32) rfl rfl rfl ?_
    cases h
    rw [k0 _ hK]
    exact g_iret rfl rfl
theorem SF12_act_0 {xs : Nat → Int32} {L : Nat} (x0 : Nat) (x1 : Int32) (hp : m_H) {r : m_O × m_H} {K : (Int32 × m_H) → Prop} (k0 : ∀ x, K x → r = (.inl (some (.int x.1)), x.2)) {t : Int32 × m_H} (h : F12_act_0 x0 x1 hp = some t) (hK : K t) : m_Rn xs L 403 2458 0 [(0, .ref x0), (1, .int x1)] [] hp r := by
  unfold F12_act_0 at h
  refine g_in eF12_act_0 mx2458 ?_
  refine g_ch [(0, .ref x0), (1, .int x1)] [.ref x0] (pc' := 1) rfl rfl rfl ?_
  obtain ⟨h2, e1, h⟩ := m_bd h
  refine g_call (v := none) (h := h2) (st' := []) (D1 := 0) (as := [.ref x0]) (Or.inr (Or.inl rfl)) q12_m250 (m_cv (as := []) (rest := []) (Or.inl rfl) q12_m250 jv2438 (OF12_uses e1) rfl rfl rfl rfl) (by decide) (SF12_uses e1) rfl ?_
  refine g_ch [(0, .ref x0), (1, .int x1)] [.ref x0, .int x1, .ref x0] (pc' := 7) rfl rfl rfl ?_
  obtain ⟨v4, e3, h⟩ := m_bd h
  refine g_call (v := some (.int v4)) (h := h2) (st' := [.int v4, .int x1, .ref x0]) (D1 := 0) (as := [.ref x0]) (Or.inr (Or.inl rfl)) q12_m86 (m_cv (as := []) (rest := [.int x1, .ref x0]) (Or.inl rfl) q12_m86 jv2404 (OF12_week e3) rfl rfl rfl rfl) (by decide) (SF12_week e3) rfl ?_
  refine g_ch [(0, .ref x0), (1, .int x1)] [.int 500, .int v4, .int x1, .ref x0] (pc' := 13) rfl rfl rfl ?_
  obtain ⟨v6, e5, h⟩ := m_bd h
  refine g_call (v := some (.int v6)) (h := h2) (st' := [.int v6, .ref x0]) (D1 := 0) (as := [.int x1, .int v4, .int 500]) (Or.inl rfl) q12_m74 (m_cs (as := [.int 500, .int v4, .int x1]) (rest := [.ref x0]) q12_m74 jv2402 rfl rfl rfl rfl rfl) (by decide) (SF12_in e5) rfl ?_
  rcases m_ifd h with ⟨c7, h⟩ | ⟨c7, h⟩
  · refine g_ifcn (t := 23) rfl (m_neF c7) ?_
    refine g_in eF12_act_19 mx2458 ?_
    refine g_ch [(0, .ref x0), (1, .int x1)] [.int 1, .ref x0] (pc' := 20) rfl rfl rfl ?_
    refine g_goto (t := 24) rfl ?_
    exact r_lv (SF12_act_24 x0 x1 1 x0 h2 (K := K) k0 h hK) rfl ⟨rfl, rfl, trivial⟩
  · refine g_ifc (t := 23) rfl (m_neT c7) ?_
    refine g_in eF12_act_23 mx2458 ?_
    refine g_ch [(0, .ref x0), (1, .int x1)] [.int 0, .ref x0] (pc' := 24) rfl rfl rfl ?_
    refine g_end ?_
    exact r_lv (SF12_act_24 x0 x1 0 x0 h2 (K := K) k0 h hK) rfl ⟨rfl, rfl, trivial⟩
theorem OF12_act {x0 : Nat} {x1 : Int32} {hp : m_H} {x : Int32 × m_H} (h : F12_act x0 x1 hp = some x) : m_isO hp 9 x0 = true := (m_gdd h).1
theorem SF12_act {xs : Nat → Int32} {L : Nat} {x0 : Nat} {x1 : Int32} {hp : m_H} {x : Int32 × m_H} (h : F12_act x0 x1 hp = some x) : m_Rn xs L 403 2458 0 (lv_args 0 [.ref x0, .int x1]) [] hp (.inl (some (.int x.1)), x.2) :=
  r_lv (SF12_act_0 x0 x1 hp (K := fun y => y = x) (fun y e => by rw [e]) (m_gdd h).2 rfl) rfl ⟨rfl, rfl, trivial⟩
-- F12_text: LendHouseModel.text()I
theorem eF12_text_0 : m_Fe mi12_59 0 (m_ap [(.iconst (-1), 1), (.istore_n 1, 1), (.iconst 0, 1), (.istore_n 2, 1)] ([])) := m_Fe_of nd2459 0 4 rfl
theorem eF12_text_4 : m_Fe mi12_59 4 (m_ap [(.iload_n 2, 1), (.aload_n 0, 1)] ((.getfield 14, 3) :: (m_ap [(.sipush 28326, 3)] ((.iaload, 1) :: ([(.if_icmp .ge 52, 3)]))))) := m_Fe_of nd2459 4 6 rfl
theorem eF12_text_65 : m_Fe mi12_59 65 (m_ap [(.iload_n 1, 1)] ([(.ireturn, 1)])) := m_Fe_of nd2459 35 2 rfl
theorem eF12_text_16 : m_Fe mi12_59 16 (m_ap [(.aload_n 0, 1)] ((.getfield 14, 3) :: (m_ap [(.iload_n 2, 1)] ((.invokestatic 166, 3) :: ((.iaload, 1) :: (m_ap [(.aload_n 0, 1)] ((.invokevirtual 86, 3) :: ([(.if_icmp .gt 30, 3)])))))))) := m_Fe_of nd2459 10 8 rfl
theorem eF12_text_59 : m_Fe mi12_59 59 (m_ap [(.iinc 2 1, 3)] ([(.goto (-58), 3)])) := m_Fe_of nd2459 33 2 rfl
theorem eF12_text_32 : m_Fe mi12_59 32 (m_ap [(.iload_n 1, 1)] ([(.ifCond .lt 24, 3)])) := m_Fe_of nd2459 18 2 rfl
theorem eF12_text_57 : m_Fe mi12_59 57 (m_ap [(.iload_n 2, 1), (.istore_n 1, 1)] ([])) := m_Fe_of nd2459 31 2 rfl
theorem eF12_text_36 : m_Fe mi12_59 36 (m_ap [(.aload_n 0, 1)] ((.getfield 14, 3) :: (m_ap [(.iload_n 2, 1)] ((.invokestatic 166, 3) :: ((.iaload, 1) :: (m_ap [(.aload_n 0, 1)] ((.getfield 14, 3) :: (m_ap [(.iload_n 1, 1)] ((.invokestatic 166, 3) :: ((.iaload, 1) :: ([(.if_icmp .lt 5, 3)]))))))))))) := m_Fe_of nd2459 20 11 rfl
theorem SF12_text_4b {xs : Nat → Int32} {L : Nat} (x0 : Nat) (hp : m_H) (s : Int32 × Int32) {r : m_O × m_H} {K : ((Int32 × Int32) ⊕ Int32) → Prop} (k0 : ∀ x, K (.inr x) → r = (.inl (some (.int x)), hp)) (k1 : ∀ s, K (.inl s) → m_Rn xs L 1 2459 4 [(0, .ref x0), (1, .int s.1), (2, .int s.2)] [] hp r) {t : (Int32 × Int32) ⊕ Int32} (h : F12_text_4b x0 hp s = some t) (hK : K t) : m_Rn xs L 1 2459 4 [(0, .ref x0), (1, .int s.1), (2, .int s.2)] [] hp r := by
  unfold F12_text_4b at h
  refine g_in eF12_text_4 mx2459 ?_
  refine g_ch [(0, .ref x0), (1, .int s.1), (2, .int s.2)] [.ref x0, .int s.2] (pc' := 6) rfl rfl rfl ?_
  obtain ⟨v1, e2, h⟩ := m_bd h
  refine g_gr q12_f14 e2 ?_
  refine g_ch [(0, .ref x0), (1, .int s.1), (2, .int s.2)] [.int 28326, .ref v1, .int s.2] (pc' := 12) rfl rfl rfl ?_
  obtain ⟨v3, e4, h⟩ := m_bd h
  refine g_ia e4 ?_
  rcases m_ifd h with ⟨c5, h⟩ | ⟨c5, h⟩
  · refine g_if (t := 65) rfl (m_geT c5) ?_
    refine g_in eF12_text_65 mx2459 ?_
    refine g_ch [(0, .ref x0), (1, .int s.1), (2, .int s.2)] [.int s.1] (pc' := 66) rfl rfl rfl ?_
    cases h
    rw [k0 _ hK]
    exact g_iret rfl rfl
  · refine g_ifn (t := 65) rfl (m_geF c5) ?_
    refine g_in eF12_text_16 mx2459 ?_
    refine g_ch [(0, .ref x0), (1, .int s.1), (2, .int s.2)] [.ref x0] (pc' := 17) rfl rfl rfl ?_
    obtain ⟨v6, e7, h⟩ := m_bd h
    refine g_gr q12_f14 e7 ?_
    refine g_ch [(0, .ref x0), (1, .int s.1), (2, .int s.2)] [.int s.2, .ref v6] (pc' := 21) rfl rfl rfl ?_
    obtain ⟨v9, e8, h⟩ := m_bd h
    refine g_call (v := some (.int v9)) (h := hp) (st' := [.int v9, .ref v6]) (D1 := 0) (as := [.int s.2]) (Or.inl rfl) q12_m166 (m_cs (as := [.int s.2]) (rest := [.ref v6]) q12_m166 jv2447 rfl rfl rfl rfl rfl) (by decide) (SF12_textAt e8) rfl ?_
    obtain ⟨v10, e11, h⟩ := m_bd h
    refine g_ia e11 ?_
    refine g_ch [(0, .ref x0), (1, .int s.1), (2, .int s.2)] [.ref x0, .int v10] (pc' := 26) rfl rfl rfl ?_
    obtain ⟨v13, e12, h⟩ := m_bd h
    refine g_call (v := some (.int v13)) (h := hp) (st' := [.int v13, .int v10]) (D1 := 0) (as := [.ref x0]) (Or.inr (Or.inl rfl)) q12_m86 (m_cv (as := []) (rest := [.int v10]) (Or.inl rfl) q12_m86 jv2404 (OF12_week e12) rfl rfl rfl rfl) (by decide) (SF12_week e12) rfl ?_
    rcases m_ifd h with ⟨c14, h⟩ | ⟨c14, h⟩
    · refine g_if (t := 59) rfl (m_gtT c14) ?_
      refine g_in eF12_text_59 mx2459 ?_
      refine g_ch [(2, .int (s.2 + 1)), (0, .ref x0), (1, .int s.1)] [] (pc' := 62) rfl rfl rfl ?_
      refine g_goto (t := 4) rfl ?_
      cases h
      exact r_lv (k1 (s.1, (s.2 + 1)) hK) rfl ⟨rfl, rfl, rfl, trivial⟩
    · refine g_ifn (t := 59) rfl (m_gtF c14) ?_
      refine g_in eF12_text_32 mx2459 ?_
      refine g_ch [(0, .ref x0), (1, .int s.1), (2, .int s.2)] [.int s.1] (pc' := 33) rfl rfl rfl ?_
      rcases m_ifd h with ⟨c15, h⟩ | ⟨c15, h⟩
      · refine g_ifc (t := 57) rfl (m_ltT c15) ?_
        refine g_in eF12_text_57 mx2459 ?_
        refine g_ch [(1, .int s.2), (0, .ref x0), (2, .int s.2)] [] (pc' := 59) rfl rfl rfl ?_
        refine g_end ?_
        refine g_in eF12_text_59 mx2459 ?_
        refine g_ch [(2, .int (s.2 + 1)), (1, .int s.2), (0, .ref x0)] [] (pc' := 62) rfl rfl rfl ?_
        refine g_goto (t := 4) rfl ?_
        cases h
        exact r_lv (k1 (s.2, (s.2 + 1)) hK) rfl ⟨rfl, rfl, rfl, trivial⟩
      · refine g_ifcn (t := 57) rfl (m_ltF c15) ?_
        refine g_in eF12_text_36 mx2459 ?_
        refine g_ch [(0, .ref x0), (1, .int s.1), (2, .int s.2)] [.ref x0] (pc' := 37) rfl rfl rfl ?_
        obtain ⟨v16, e17, h⟩ := m_bd h
        refine g_gr q12_f14 e17 ?_
        refine g_ch [(0, .ref x0), (1, .int s.1), (2, .int s.2)] [.int s.2, .ref v16] (pc' := 41) rfl rfl rfl ?_
        obtain ⟨v19, e18, h⟩ := m_bd h
        refine g_call (v := some (.int v19)) (h := hp) (st' := [.int v19, .ref v16]) (D1 := 0) (as := [.int s.2]) (Or.inl rfl) q12_m166 (m_cs (as := [.int s.2]) (rest := [.ref v16]) q12_m166 jv2447 rfl rfl rfl rfl rfl) (by decide) (SF12_textAt e18) rfl ?_
        obtain ⟨v20, e21, h⟩ := m_bd h
        refine g_ia e21 ?_
        refine g_ch [(0, .ref x0), (1, .int s.1), (2, .int s.2)] [.ref x0, .int v20] (pc' := 46) rfl rfl rfl ?_
        obtain ⟨v22, e23, h⟩ := m_bd h
        refine g_gr q12_f14 e23 ?_
        refine g_ch [(0, .ref x0), (1, .int s.1), (2, .int s.2)] [.int s.1, .ref v22, .int v20] (pc' := 50) rfl rfl rfl ?_
        obtain ⟨v25, e24, h⟩ := m_bd h
        refine g_call (v := some (.int v25)) (h := hp) (st' := [.int v25, .ref v22, .int v20]) (D1 := 0) (as := [.int s.1]) (Or.inl rfl) q12_m166 (m_cs (as := [.int s.1]) (rest := [.ref v22, .int v20]) q12_m166 jv2447 rfl rfl rfl rfl rfl) (by decide) (SF12_textAt e24) rfl ?_
        obtain ⟨v26, e27, h⟩ := m_bd h
        refine g_ia e27 ?_
        rcases m_ifd h with ⟨c28, h⟩ | ⟨c28, h⟩
        · refine g_if (t := 59) rfl (m_ltT c28) ?_
          refine g_in eF12_text_59 mx2459 ?_
          refine g_ch [(2, .int (s.2 + 1)), (0, .ref x0), (1, .int s.1)] [] (pc' := 62) rfl rfl rfl ?_
          refine g_goto (t := 4) rfl ?_
          cases h
          exact r_lv (k1 (s.1, (s.2 + 1)) hK) rfl ⟨rfl, rfl, rfl, trivial⟩
        · refine g_ifn (t := 59) rfl (m_ltF c28) ?_
          refine g_in eF12_text_57 mx2459 ?_
          refine g_ch [(1, .int s.2), (0, .ref x0), (2, .int s.2)] [] (pc' := 59) rfl rfl rfl ?_
          refine g_end ?_
          refine g_in eF12_text_59 mx2459 ?_
          refine g_ch [(2, .int (s.2 + 1)), (1, .int s.2), (0, .ref x0)] [] (pc' := 62) rfl rfl rfl ?_
          refine g_goto (t := 4) rfl ?_
          cases h
          exact r_lv (k1 (s.2, (s.2 + 1)) hK) rfl ⟨rfl, rfl, rfl, trivial⟩
theorem SF12_text_4 {xs : Nat → Int32} {L : Nat} (x0 : Nat) (x1 : Int32) (x2 : Int32) (hp : m_H) {r : m_O × m_H} {K : Int32 → Prop} (k0 : ∀ x, K x → r = (.inl (some (.int x)), hp)) {t : Int32} (h : F12_text_4 x0 x1 x2 hp = some t) (hK : K t) : m_Rn xs L 1 2459 4 [(0, .ref x0), (1, .int x1), (2, .int x2)] [] hp r :=
  m_wh_ok (P := fun s => m_Rn xs L 1 2459 4 [(0, .ref x0), (1, .int s.1), (2, .int s.2)] [] hp r) (Q := K) (fun s t hb hK => SF12_text_4b x0 hp s (K := m_KK (fun s => m_Rn xs L 1 2459 4 [(0, .ref x0), (1, .int s.1), (2, .int s.2)] [] hp r) K) k0 (fun _ q => q) hb hK) m_N _ _ h hK
theorem SF12_text_0 {xs : Nat → Int32} {L : Nat} (x0 : Nat) (hp : m_H) {r : m_O × m_H} {K : Int32 → Prop} (k0 : ∀ x, K x → r = (.inl (some (.int x)), hp)) {t : Int32} (h : F12_text_0 x0 hp = some t) (hK : K t) : m_Rn xs L 1 2459 0 [(0, .ref x0)] [] hp r := by
  unfold F12_text_0 at h
  refine g_in eF12_text_0 mx2459 ?_
  refine g_ch [(2, .int 0), (1, .int (-1)), (0, .ref x0)] [] (pc' := 4) rfl rfl rfl ?_
  refine g_end ?_
  exact r_lv (SF12_text_4 x0 (-1) 0 hp (K := K) k0 h hK) rfl ⟨rfl, rfl, rfl, trivial⟩
theorem OF12_text {x0 : Nat} {hp : m_H} {x : Int32} (h : F12_text x0 hp = some x) : m_isO hp 9 x0 = true := (m_gdd h).1
theorem SF12_text {xs : Nat → Int32} {L : Nat} {x0 : Nat} {hp : m_H} {x : Int32} (h : F12_text x0 hp = some x) : m_Rn xs L 1 2459 0 (lv_args 0 [.ref x0]) [] hp (.inl (some (.int x)), hp) :=
  r_lv (SF12_text_0 x0 hp (K := fun y => y = x) (fun y e => by rw [e]) (m_gdd h).2 rfl) rfl ⟨rfl, trivial⟩
-- F12_linesOf: LendHouseModel.linesOf(I)I
theorem eF12_linesOf_0 : m_Fe mi12_60 0 (m_ap [(.iload_n 1, 1)] ([(.ifCond .ge 7, 3)])) := m_Fe_of nd2460 0 2 rfl
theorem eF12_linesOf_8 : m_Fe mi12_60 8 (m_ap [(.aload_n 0, 1)] ((.getfield 14, 3) :: (m_ap [(.iload_n 1, 1)] ((.invokestatic 166, 3) :: (m_ap [(.iconst 1, 1), (.iadd, 1)] ([(.iaload, 1)])))))) := m_Fe_of nd2460 4 7 rfl
theorem eF12_linesOf_19 : m_Fe mi12_60 19 ([(.ireturn, 1)]) := m_Fe_of nd2460 11 1 rfl
theorem eF12_linesOf_4 : m_Fe mi12_60 4 (m_ap [(.iconst 0, 1)] ([(.goto 14, 3)])) := m_Fe_of nd2460 2 2 rfl
theorem SF12_linesOf_0 {xs : Nat → Int32} {L : Nat} (x0 : Nat) (x1 : Int32) (hp : m_H) {r : m_O × m_H} {K : Int32 → Prop} (k0 : ∀ x, K x → r = (.inl (some (.int x)), hp)) {t : Int32} (h : F12_linesOf_0 x0 x1 hp = some t) (hK : K t) : m_Rn xs L 1 2460 0 [(0, .ref x0), (1, .int x1)] [] hp r := by
  unfold F12_linesOf_0 at h
  refine g_in eF12_linesOf_0 mx2460 ?_
  refine g_ch [(0, .ref x0), (1, .int x1)] [.int x1] (pc' := 1) rfl rfl rfl ?_
  rcases m_ifd h with ⟨c1, h⟩ | ⟨c1, h⟩
  · refine g_ifc (t := 8) rfl (m_geT c1) ?_
    refine g_in eF12_linesOf_8 mx2460 ?_
    refine g_ch [(0, .ref x0), (1, .int x1)] [.ref x0] (pc' := 9) rfl rfl rfl ?_
    obtain ⟨v2, e3, h⟩ := m_bd h
    refine g_gr q12_f14 e3 ?_
    refine g_ch [(0, .ref x0), (1, .int x1)] [.int x1, .ref v2] (pc' := 13) rfl rfl rfl ?_
    obtain ⟨v5, e4, h⟩ := m_bd h
    refine g_call (v := some (.int v5)) (h := hp) (st' := [.int v5, .ref v2]) (D1 := 0) (as := [.int x1]) (Or.inl rfl) q12_m166 (m_cs (as := [.int x1]) (rest := [.ref v2]) q12_m166 jv2447 rfl rfl rfl rfl rfl) (by decide) (SF12_textAt e4) rfl ?_
    refine g_ch [(0, .ref x0), (1, .int x1)] [.int (v5 + 1), .ref v2] (pc' := 18) rfl rfl rfl ?_
    obtain ⟨v6, e7, h⟩ := m_bd h
    refine g_ia e7 ?_
    refine g_end ?_
    refine g_in eF12_linesOf_19 mx2460 ?_
    cases h
    rw [k0 _ hK]
    exact g_iret rfl rfl
  · refine g_ifcn (t := 8) rfl (m_geF c1) ?_
    refine g_in eF12_linesOf_4 mx2460 ?_
    refine g_ch [(0, .ref x0), (1, .int x1)] [.int 0] (pc' := 5) rfl rfl rfl ?_
    refine g_goto (t := 19) rfl ?_
    refine g_in eF12_linesOf_19 mx2460 ?_
    cases h
    rw [k0 _ hK]
    exact g_iret rfl rfl
theorem OF12_linesOf {x0 : Nat} {x1 : Int32} {hp : m_H} {x : Int32} (h : F12_linesOf x0 x1 hp = some x) : m_isO hp 9 x0 = true := (m_gdd h).1
theorem SF12_linesOf {xs : Nat → Int32} {L : Nat} {x0 : Nat} {x1 : Int32} {hp : m_H} {x : Int32} (h : F12_linesOf x0 x1 hp = some x) : m_Rn xs L 1 2460 0 (lv_args 0 [.ref x0, .int x1]) [] hp (.inl (some (.int x)), hp) :=
  r_lv (SF12_linesOf_0 x0 x1 hp (K := fun y => y = x) (fun y e => by rw [e]) (m_gdd h).2 rfl) rfl ⟨rfl, rfl, trivial⟩
-- F12_baseAt: LendHouseModel.baseAt(I)I
theorem eF12_baseAt_0 : m_Fe mi12_108 0 (m_ap [(.sipush 4169, 3), (.bipush 6, 2), (.iload_n 0, 1), (.imul, 1), (.iadd, 1)] ([(.ireturn, 1)])) := m_Fe_of nd2508 0 6 rfl
theorem SF12_baseAt_0 {xs : Nat → Int32} {L : Nat} (x0 : Int32) (hp : m_H) {r : m_O × m_H} {K : Int32 → Prop} (k0 : ∀ x, K x → r = (.inl (some (.int x)), hp)) {t : Int32} (h : F12_baseAt_0 x0 hp = some t) (hK : K t) : m_Rn xs L 0 2508 0 [(0, .int x0)] [] hp r := by
  unfold F12_baseAt_0 at h
  refine g_in eF12_baseAt_0 mx2508 ?_
  refine g_ch [(0, .int x0)] [.int (4169 + (6 * x0))] (pc' := 8) rfl rfl rfl ?_
  cases h
  rw [k0 _ hK]
  exact g_iret rfl rfl
theorem SF12_baseAt {xs : Nat → Int32} {L : Nat} {x0 : Int32} {hp : m_H} {x : Int32} (h : F12_baseAt x0 hp = some x) : m_Rn xs L 0 2508 0 (lv_args 0 [.int x0]) [] hp (.inl (some (.int x)), hp) :=
  r_lv (SF12_baseAt_0 x0 hp (K := fun y => y = x) (fun y e => by rw [e]) h rfl) rfl ⟨rfl, trivial⟩
-- F12_leased: LendHouseModel.leased(I)I
theorem eF12_leased_0 : m_Fe mi12_100 0 (m_ap [(.iconst 0, 1), (.istore_n 2, 1), (.iconst 0, 1), (.istore_n 3, 1)] ([])) := m_Fe_of nd2500 0 4 rfl
theorem eF12_leased_4 : m_Fe mi12_100 4 (m_ap [(.iload_n 3, 1), (.aload_n 0, 1)] ((.getfield 14, 3) :: (m_ap [(.sipush 4168, 3)] ((.iaload, 1) :: ([(.if_icmp .ge 60, 3)]))))) := m_Fe_of nd2500 4 6 rfl
theorem eF12_leased_73 : m_Fe mi12_100 73 (m_ap [(.iload_n 2, 1)] ([(.ireturn, 1)])) := m_Fe_of nd2500 43 2 rfl
theorem eF12_leased_16 : m_Fe mi12_100 16 (m_ap [(.iload_n 2, 1), (.aload_n 0, 1)] ((.getfield 14, 3) :: (m_ap [(.iload_n 3, 1)] ((.invokestatic 363, 3) :: ((.iaload, 1) :: (m_ap [(.iload_n 1, 1)] ([(.if_icmp .ne 37, 3)]))))))) := m_Fe_of nd2500 10 8 rfl
theorem eF12_leased_64 : m_Fe mi12_100 64 (m_ap [(.iconst 0, 1)] ([])) := m_Fe_of nd2500 38 1 rfl
theorem eF12_leased_65 : m_Fe mi12_100 65 (m_ap [(.iadd, 1), (.istore_n 2, 1), (.iinc 3 1, 3)] ([(.goto (-66), 3)])) := m_Fe_of nd2500 39 4 rfl
theorem eF12_leased_30 : m_Fe mi12_100 30 (m_ap [(.aload_n 0, 1)] ((.invokevirtual 86, 3) :: (m_ap [(.aload_n 0, 1)] ((.getfield 14, 3) :: (m_ap [(.iload_n 3, 1)] ((.invokestatic 363, 3) :: (m_ap [(.iconst 1, 1), (.iadd, 1)] ((.iaload, 1) :: (m_ap [(.aload_n 0, 1)] ((.getfield 14, 3) :: (m_ap [(.iload_n 3, 1)] ((.invokestatic 363, 3) :: (m_ap [(.iconst 2, 1), (.iadd, 1)] ((.iaload, 1) :: (m_ap [(.iadd, 1)] ([(.if_icmp .ge 7, 3)])))))))))))))))) := m_Fe_of nd2500 18 18 rfl
theorem eF12_leased_60 : m_Fe mi12_100 60 (m_ap [(.iconst 1, 1)] ([(.goto 4, 3)])) := m_Fe_of nd2500 36 2 rfl
theorem SF12_leased_4b {xs : Nat → Int32} {L : Nat} (x0 : Nat) (x1 : Int32) (hp : m_H) (s : Int32 × Int32) {r : m_O × m_H} {K : ((Int32 × Int32) ⊕ Int32) → Prop} (k0 : ∀ x, K (.inr x) → r = (.inl (some (.int x)), hp)) (k1 : ∀ s, K (.inl s) → m_Rn xs L 1 2500 4 [(0, .ref x0), (1, .int x1), (2, .int s.1), (3, .int s.2)] [] hp r) {t : (Int32 × Int32) ⊕ Int32} (h : F12_leased_4b x0 x1 hp s = some t) (hK : K t) : m_Rn xs L 1 2500 4 [(0, .ref x0), (1, .int x1), (2, .int s.1), (3, .int s.2)] [] hp r := by
  unfold F12_leased_4b at h
  refine g_in eF12_leased_4 mx2500 ?_
  refine g_ch [(0, .ref x0), (1, .int x1), (2, .int s.1), (3, .int s.2)] [.ref x0, .int s.2] (pc' := 6) rfl rfl rfl ?_
  obtain ⟨v1, e2, h⟩ := m_bd h
  refine g_gr q12_f14 e2 ?_
  refine g_ch [(0, .ref x0), (1, .int x1), (2, .int s.1), (3, .int s.2)] [.int 4168, .ref v1, .int s.2] (pc' := 12) rfl rfl rfl ?_
  obtain ⟨v3, e4, h⟩ := m_bd h
  refine g_ia e4 ?_
  rcases m_ifd h with ⟨c5, h⟩ | ⟨c5, h⟩
  · refine g_if (t := 73) rfl (m_geT c5) ?_
    refine g_in eF12_leased_73 mx2500 ?_
    refine g_ch [(0, .ref x0), (1, .int x1), (2, .int s.1), (3, .int s.2)] [.int s.1] (pc' := 74) rfl rfl rfl ?_
    cases h
    rw [k0 _ hK]
    exact g_iret rfl rfl
  · refine g_ifn (t := 73) rfl (m_geF c5) ?_
    refine g_in eF12_leased_16 mx2500 ?_
    refine g_ch [(0, .ref x0), (1, .int x1), (2, .int s.1), (3, .int s.2)] [.ref x0, .int s.1] (pc' := 18) rfl rfl rfl ?_
    obtain ⟨v6, e7, h⟩ := m_bd h
    refine g_gr q12_f14 e7 ?_
    refine g_ch [(0, .ref x0), (1, .int x1), (2, .int s.1), (3, .int s.2)] [.int s.2, .ref v6, .int s.1] (pc' := 22) rfl rfl rfl ?_
    obtain ⟨v9, e8, h⟩ := m_bd h
    refine g_call (v := some (.int v9)) (h := hp) (st' := [.int v9, .ref v6, .int s.1]) (D1 := 0) (as := [.int s.2]) (Or.inl rfl) q12_m363 (m_cs (as := [.int s.2]) (rest := [.ref v6, .int s.1]) q12_m363 jv2508 rfl rfl rfl rfl rfl) (by decide) (SF12_baseAt e8) rfl ?_
    obtain ⟨v10, e11, h⟩ := m_bd h
    refine g_ia e11 ?_
    refine g_ch [(0, .ref x0), (1, .int x1), (2, .int s.1), (3, .int s.2)] [.int x1, .int v10, .int s.1] (pc' := 27) rfl rfl rfl ?_
    rcases m_ifd h with ⟨c12, h⟩ | ⟨c12, h⟩
    · refine g_ifn (t := 64) rfl (m_neF c12) ?_
      refine g_in eF12_leased_30 mx2500 ?_
      refine g_ch [(0, .ref x0), (1, .int x1), (2, .int s.1), (3, .int s.2)] [.ref x0, .int s.1] (pc' := 31) rfl rfl rfl ?_
      obtain ⟨v14, e13, h⟩ := m_bd h
      refine g_call (v := some (.int v14)) (h := hp) (st' := [.int v14, .int s.1]) (D1 := 0) (as := [.ref x0]) (Or.inr (Or.inl rfl)) q12_m86 (m_cv (as := []) (rest := [.int s.1]) (Or.inl rfl) q12_m86 jv2404 (OF12_week e13) rfl rfl rfl rfl) (by decide) (SF12_week e13) rfl ?_
      refine g_ch [(0, .ref x0), (1, .int x1), (2, .int s.1), (3, .int s.2)] [.ref x0, .int v14, .int s.1] (pc' := 35) rfl rfl rfl ?_
      obtain ⟨v15, e16, h⟩ := m_bd h
      refine g_gr q12_f14 e16 ?_
      refine g_ch [(0, .ref x0), (1, .int x1), (2, .int s.1), (3, .int s.2)] [.int s.2, .ref v15, .int v14, .int s.1] (pc' := 39) rfl rfl rfl ?_
      obtain ⟨v18, e17, h⟩ := m_bd h
      refine g_call (v := some (.int v18)) (h := hp) (st' := [.int v18, .ref v15, .int v14, .int s.1]) (D1 := 0) (as := [.int s.2]) (Or.inl rfl) q12_m363 (m_cs (as := [.int s.2]) (rest := [.ref v15, .int v14, .int s.1]) q12_m363 jv2508 rfl rfl rfl rfl rfl) (by decide) (SF12_baseAt e17) rfl ?_
      refine g_ch [(0, .ref x0), (1, .int x1), (2, .int s.1), (3, .int s.2)] [.int (v18 + 1), .ref v15, .int v14, .int s.1] (pc' := 44) rfl rfl rfl ?_
      obtain ⟨v19, e20, h⟩ := m_bd h
      refine g_ia e20 ?_
      refine g_ch [(0, .ref x0), (1, .int x1), (2, .int s.1), (3, .int s.2)] [.ref x0, .int v19, .int v14, .int s.1] (pc' := 46) rfl rfl rfl ?_
      obtain ⟨v21, e22, h⟩ := m_bd h
      refine g_gr q12_f14 e22 ?_
      refine g_ch [(0, .ref x0), (1, .int x1), (2, .int s.1), (3, .int s.2)] [.int s.2, .ref v21, .int v19, .int v14, .int s.1] (pc' := 50) rfl rfl rfl ?_
      obtain ⟨v24, e23, h⟩ := m_bd h
      refine g_call (v := some (.int v24)) (h := hp) (st' := [.int v24, .ref v21, .int v19, .int v14, .int s.1]) (D1 := 0) (as := [.int s.2]) (Or.inl rfl) q12_m363 (m_cs (as := [.int s.2]) (rest := [.ref v21, .int v19, .int v14, .int s.1]) q12_m363 jv2508 rfl rfl rfl rfl rfl) (by decide) (SF12_baseAt e23) rfl ?_
      refine g_ch [(0, .ref x0), (1, .int x1), (2, .int s.1), (3, .int s.2)] [.int (v24 + 2), .ref v21, .int v19, .int v14, .int s.1] (pc' := 55) rfl rfl rfl ?_
      obtain ⟨v25, e26, h⟩ := m_bd h
      refine g_ia e26 ?_
      refine g_ch [(0, .ref x0), (1, .int x1), (2, .int s.1), (3, .int s.2)] [.int (v19 + v25), .int v14, .int s.1] (pc' := 57) rfl rfl rfl ?_
      rcases m_ifd h with ⟨c27, h⟩ | ⟨c27, h⟩
      · refine g_if (t := 64) rfl (m_geT c27) ?_
        refine g_in eF12_leased_64 mx2500 ?_
        refine g_ch [(0, .ref x0), (1, .int x1), (2, .int s.1), (3, .int s.2)] [.int 0, .int s.1] (pc' := 65) rfl rfl rfl ?_
        refine g_end ?_
        refine g_in eF12_leased_65 mx2500 ?_
        refine g_ch [(3, .int (s.2 + 1)), (2, .int (s.1 + 0)), (0, .ref x0), (1, .int x1)] [] (pc' := 70) rfl rfl rfl ?_
        refine g_goto (t := 4) rfl ?_
        cases h
        exact r_lv (k1 ((s.1 + 0), (s.2 + 1)) hK) rfl ⟨rfl, rfl, rfl, rfl, trivial⟩
      · refine g_ifn (t := 64) rfl (m_geF c27) ?_
        refine g_in eF12_leased_60 mx2500 ?_
        refine g_ch [(0, .ref x0), (1, .int x1), (2, .int s.1), (3, .int s.2)] [.int 1, .int s.1] (pc' := 61) rfl rfl rfl ?_
        refine g_goto (t := 65) rfl ?_
        refine g_in eF12_leased_65 mx2500 ?_
        refine g_ch [(3, .int (s.2 + 1)), (2, .int (s.1 + 1)), (0, .ref x0), (1, .int x1)] [] (pc' := 70) rfl rfl rfl ?_
        refine g_goto (t := 4) rfl ?_
        cases h
        exact r_lv (k1 ((s.1 + 1), (s.2 + 1)) hK) rfl ⟨rfl, rfl, rfl, rfl, trivial⟩
    · refine g_if (t := 64) rfl (m_neT c12) ?_
      refine g_in eF12_leased_64 mx2500 ?_
      refine g_ch [(0, .ref x0), (1, .int x1), (2, .int s.1), (3, .int s.2)] [.int 0, .int s.1] (pc' := 65) rfl rfl rfl ?_
      refine g_end ?_
      refine g_in eF12_leased_65 mx2500 ?_
      refine g_ch [(3, .int (s.2 + 1)), (2, .int (s.1 + 0)), (0, .ref x0), (1, .int x1)] [] (pc' := 70) rfl rfl rfl ?_
      refine g_goto (t := 4) rfl ?_
      cases h
      exact r_lv (k1 ((s.1 + 0), (s.2 + 1)) hK) rfl ⟨rfl, rfl, rfl, rfl, trivial⟩
theorem SF12_leased_4 {xs : Nat → Int32} {L : Nat} (x0 : Nat) (x1 : Int32) (x2 : Int32) (x3 : Int32) (hp : m_H) {r : m_O × m_H} {K : Int32 → Prop} (k0 : ∀ x, K x → r = (.inl (some (.int x)), hp)) {t : Int32} (h : F12_leased_4 x0 x1 x2 x3 hp = some t) (hK : K t) : m_Rn xs L 1 2500 4 [(0, .ref x0), (1, .int x1), (2, .int x2), (3, .int x3)] [] hp r :=
  m_wh_ok (P := fun s => m_Rn xs L 1 2500 4 [(0, .ref x0), (1, .int x1), (2, .int s.1), (3, .int s.2)] [] hp r) (Q := K) (fun s t hb hK => SF12_leased_4b x0 x1 hp s (K := m_KK (fun s => m_Rn xs L 1 2500 4 [(0, .ref x0), (1, .int x1), (2, .int s.1), (3, .int s.2)] [] hp r) K) k0 (fun _ q => q) hb hK) m_N _ _ h hK
theorem SF12_leased_0 {xs : Nat → Int32} {L : Nat} (x0 : Nat) (x1 : Int32) (hp : m_H) {r : m_O × m_H} {K : Int32 → Prop} (k0 : ∀ x, K x → r = (.inl (some (.int x)), hp)) {t : Int32} (h : F12_leased_0 x0 x1 hp = some t) (hK : K t) : m_Rn xs L 1 2500 0 [(0, .ref x0), (1, .int x1)] [] hp r := by
  unfold F12_leased_0 at h
  refine g_in eF12_leased_0 mx2500 ?_
  refine g_ch [(3, .int 0), (2, .int 0), (0, .ref x0), (1, .int x1)] [] (pc' := 4) rfl rfl rfl ?_
  refine g_end ?_
  exact r_lv (SF12_leased_4 x0 x1 0 0 hp (K := K) k0 h hK) rfl ⟨rfl, rfl, rfl, rfl, trivial⟩
theorem OF12_leased {x0 : Nat} {x1 : Int32} {hp : m_H} {x : Int32} (h : F12_leased x0 x1 hp = some x) : m_isO hp 9 x0 = true := (m_gdd h).1
theorem SF12_leased {xs : Nat → Int32} {L : Nat} {x0 : Nat} {x1 : Int32} {hp : m_H} {x : Int32} (h : F12_leased x0 x1 hp = some x) : m_Rn xs L 1 2500 0 (lv_args 0 [.ref x0, .int x1]) [] hp (.inl (some (.int x)), hp) :=
  r_lv (SF12_leased_0 x0 x1 hp (K := fun y => y = x) (fun y e => by rw [e]) (m_gdd h).2 rfl) rfl ⟨rfl, rfl, trivial⟩
-- F12_looks: LendHouseModel.looks(IIII)V
theorem eF12_looks_0 : m_Fe mi12_61 0 (m_ap [(.aload_n 0, 1)] ((.getfield 35, 3) :: (m_ap [(.iconst 0, 1), (.iload_n 1, 1), (.i2l, 1)] ((.lastore, 1) :: (m_ap [(.aload_n 0, 1)] ((.getfield 35, 3) :: (m_ap [(.iconst 1, 1), (.iload_n 2, 1), (.i2l, 1)] ((.lastore, 1) :: (m_ap [(.aload_n 0, 1)] ((.getfield 35, 3) :: (m_ap [(.iconst 2, 1), (.aload_n 0, 1)] ((.invokevirtual 86, 3) :: (m_ap [(.i2l, 1)] ((.lastore, 1) :: (m_ap [(.aload_n 0, 1)] ((.getfield 35, 3) :: (m_ap [(.iconst 3, 1), (.iload_n 3, 1), (.i2l, 1)] ((.lastore, 1) :: (m_ap [(.aload_n 0, 1)] ((.getfield 35, 3) :: (m_ap [(.iconst 4, 1), (.iload_n 3, 1), (.aload_n 0, 1), (.iload_n 2, 1), (.iconst 0, 1)] ((.invokevirtual 256, 3) :: (m_ap [(.imul, 1), (.i2l, 1)] ((.lastore, 1) :: (m_ap [(.aload_n 0, 1)] ((.getfield 35, 3) :: (m_ap [(.iconst 5, 1), (.aload_n 0, 1), (.iload_n 2, 1), (.aload_n 0, 1)] ((.invokevirtual 86, 3) :: ((.invokevirtual 98, 3) :: (m_ap [(.i2l, 1)] ((.lastore, 1) :: (m_ap [(.aload_n 0, 1)] ((.getfield 35, 3) :: (m_ap [(.bipush 6, 2), (.aload_n 0, 1)] ((.getfield 14, 3) :: (m_ap [(.bipush 109, 2), (.iload_n 1, 1), (.iload_n 2, 1)] ((.invokestatic 109, 3) :: ((.iaload, 1) :: (m_ap [(.i2l, 1)] ((.lastore, 1) :: (m_ap [(.aload_n 0, 1)] ((.getfield 35, 3) :: (m_ap [(.bipush 7, 2), (.aload_n 0, 1)] ((.getfield 14, 3) :: (m_ap [(.iload_n 1, 1), (.iconst 0, 1)] ((.invokestatic 106, 3) :: ((.iaload, 1) :: (m_ap [(.i2l, 1)] ((.lastore, 1) :: (m_ap [(.aload_n 0, 1)] ((.getfield 35, 3) :: (m_ap [(.bipush 8, 2), (.aload_n 0, 1), (.iload_n 1, 1)] ((.invokevirtual 259, 3) :: (m_ap [(.i2l, 1)] ((.lastore, 1) :: (m_ap [(.aload_n 0, 1)] ((.getfield 35, 3) :: (m_ap [(.bipush 9, 2), (.iload 4, 2), (.i2l, 1)] ((.lastore, 1) :: ([(.return_, 1)])))))))))))))))))))))))))))))))))))))))))))))))))))))))))))) := m_Fe_of nd2461 0 84 rfl
theorem SF12_looks_0 {xs : Nat → Int32} {L : Nat} (x0 : Nat) (x1 : Int32) (x2 : Int32) (x3 : Int32) (x4 : Int32) (hp : m_H) {r : m_O × m_H} {K : m_H → Prop} (k0 : ∀ x, K x → r = (.inl none, x)) {t : m_H} (h : F12_looks_0 x0 x1 x2 x3 x4 hp = some t) (hK : K t) : m_Rn xs L 2 2461 0 [(0, .ref x0), (1, .int x1), (2, .int x2), (3, .int x3), (4, .int x4)] [] hp r := by
  unfold F12_looks_0 at h
  refine g_in eF12_looks_0 mx2461 ?_
  refine g_ch [(0, .ref x0), (1, .int x1), (2, .int x2), (3, .int x3), (4, .int x4)] [.ref x0] (pc' := 1) rfl rfl rfl ?_
  obtain ⟨v1, e2, h⟩ := m_bd h
  refine g_gr q12_f35 e2 ?_
  refine g_ch [(0, .ref x0), (1, .int x1), (2, .int x2), (3, .int x3), (4, .int x4)] [.long (m_i2l x1), .int 0, .ref v1] (pc' := 7) rfl rfl rfl ?_
  obtain ⟨h3, e4, h⟩ := m_bd h
  refine g_ls e4 ?_
  refine g_ch [(0, .ref x0), (1, .int x1), (2, .int x2), (3, .int x3), (4, .int x4)] [.ref x0] (pc' := 9) rfl rfl rfl ?_
  obtain ⟨v5, e6, h⟩ := m_bd h
  refine g_gr q12_f35 e6 ?_
  refine g_ch [(0, .ref x0), (1, .int x1), (2, .int x2), (3, .int x3), (4, .int x4)] [.long (m_i2l x2), .int 1, .ref v5] (pc' := 15) rfl rfl rfl ?_
  obtain ⟨h7, e8, h⟩ := m_bd h
  refine g_ls e8 ?_
  refine g_ch [(0, .ref x0), (1, .int x1), (2, .int x2), (3, .int x3), (4, .int x4)] [.ref x0] (pc' := 17) rfl rfl rfl ?_
  obtain ⟨v9, e10, h⟩ := m_bd h
  refine g_gr q12_f35 e10 ?_
  refine g_ch [(0, .ref x0), (1, .int x1), (2, .int x2), (3, .int x3), (4, .int x4)] [.ref x0, .int 2, .ref v9] (pc' := 22) rfl rfl rfl ?_
  obtain ⟨v12, e11, h⟩ := m_bd h
  refine g_call (v := some (.int v12)) (h := h7) (st' := [.int v12, .int 2, .ref v9]) (D1 := 0) (as := [.ref x0]) (Or.inr (Or.inl rfl)) q12_m86 (m_cv (as := []) (rest := [.int 2, .ref v9]) (Or.inl rfl) q12_m86 jv2404 (OF12_week e11) rfl rfl rfl rfl) (by decide) (SF12_week e11) rfl ?_
  refine g_ch [(0, .ref x0), (1, .int x1), (2, .int x2), (3, .int x3), (4, .int x4)] [.long (m_i2l v12), .int 2, .ref v9] (pc' := 26) rfl rfl rfl ?_
  obtain ⟨h13, e14, h⟩ := m_bd h
  refine g_ls e14 ?_
  refine g_ch [(0, .ref x0), (1, .int x1), (2, .int x2), (3, .int x3), (4, .int x4)] [.ref x0] (pc' := 28) rfl rfl rfl ?_
  obtain ⟨v15, e16, h⟩ := m_bd h
  refine g_gr q12_f35 e16 ?_
  refine g_ch [(0, .ref x0), (1, .int x1), (2, .int x2), (3, .int x3), (4, .int x4)] [.long (m_i2l x3), .int 3, .ref v15] (pc' := 34) rfl rfl rfl ?_
  obtain ⟨h17, e18, h⟩ := m_bd h
  refine g_ls e18 ?_
  refine g_ch [(0, .ref x0), (1, .int x1), (2, .int x2), (3, .int x3), (4, .int x4)] [.ref x0] (pc' := 36) rfl rfl rfl ?_
  obtain ⟨v19, e20, h⟩ := m_bd h
  refine g_gr q12_f35 e20 ?_
  refine g_ch [(0, .ref x0), (1, .int x1), (2, .int x2), (3, .int x3), (4, .int x4)] [.int 0, .int x2, .ref x0, .int x3, .int 4, .ref v19] (pc' := 44) rfl rfl rfl ?_
  obtain ⟨v22, e21, h⟩ := m_bd h
  refine g_call (v := some (.int v22)) (h := h17) (st' := [.int v22, .int x3, .int 4, .ref v19]) (D1 := 0) (as := [.ref x0, .int x2, .int 0]) (Or.inr (Or.inl rfl)) q12_m256 (m_cv (as := [.int 0, .int x2]) (rest := [.int x3, .int 4, .ref v19]) (Or.inl rfl) q12_m256 jv2412 (OF12_sortOf e21) rfl rfl rfl rfl) (by decide) (SF12_sortOf e21) rfl ?_
  refine g_ch [(0, .ref x0), (1, .int x1), (2, .int x2), (3, .int x3), (4, .int x4)] [.long (m_i2l (x3 * v22)), .int 4, .ref v19] (pc' := 49) rfl rfl rfl ?_
  obtain ⟨h23, e24, h⟩ := m_bd h
  refine g_ls e24 ?_
  refine g_ch [(0, .ref x0), (1, .int x1), (2, .int x2), (3, .int x3), (4, .int x4)] [.ref x0] (pc' := 51) rfl rfl rfl ?_
  obtain ⟨v25, e26, h⟩ := m_bd h
  refine g_gr q12_f35 e26 ?_
  refine g_ch [(0, .ref x0), (1, .int x1), (2, .int x2), (3, .int x3), (4, .int x4)] [.ref x0, .int x2, .ref x0, .int 5, .ref v25] (pc' := 58) rfl rfl rfl ?_
  obtain ⟨v28, e27, h⟩ := m_bd h
  refine g_call (v := some (.int v28)) (h := h23) (st' := [.int v28, .int x2, .ref x0, .int 5, .ref v25]) (D1 := 0) (as := [.ref x0]) (Or.inr (Or.inl rfl)) q12_m86 (m_cv (as := []) (rest := [.int x2, .ref x0, .int 5, .ref v25]) (Or.inl rfl) q12_m86 jv2404 (OF12_week e27) rfl rfl rfl rfl) (by decide) (SF12_week e27) rfl ?_
  obtain ⟨v30, e29, h⟩ := m_bd h
  refine g_call (v := some (.int v30)) (h := h23) (st' := [.int v30, .int 5, .ref v25]) (D1 := 1) (as := [.ref x0, .int x2, .int v28]) (Or.inr (Or.inl rfl)) q12_m98 (m_cv (as := [.int v28, .int x2]) (rest := [.int 5, .ref v25]) (Or.inl rfl) q12_m98 jv2419 (OF12_priceOf e29) rfl rfl rfl rfl) (by decide) (SF12_priceOf e29) rfl ?_
  refine g_ch [(0, .ref x0), (1, .int x1), (2, .int x2), (3, .int x3), (4, .int x4)] [.long (m_i2l v30), .int 5, .ref v25] (pc' := 65) rfl rfl rfl ?_
  obtain ⟨h31, e32, h⟩ := m_bd h
  refine g_ls e32 ?_
  refine g_ch [(0, .ref x0), (1, .int x1), (2, .int x2), (3, .int x3), (4, .int x4)] [.ref x0] (pc' := 67) rfl rfl rfl ?_
  obtain ⟨v33, e34, h⟩ := m_bd h
  refine g_gr q12_f35 e34 ?_
  refine g_ch [(0, .ref x0), (1, .int x1), (2, .int x2), (3, .int x3), (4, .int x4)] [.ref x0, .int 6, .ref v33] (pc' := 73) rfl rfl rfl ?_
  obtain ⟨v35, e36, h⟩ := m_bd h
  refine g_gr q12_f14 e36 ?_
  refine g_ch [(0, .ref x0), (1, .int x1), (2, .int x2), (3, .int x3), (4, .int x4)] [.int x2, .int x1, .int 109, .ref v35, .int 6, .ref v33] (pc' := 80) rfl rfl rfl ?_
  obtain ⟨v38, e37, h⟩ := m_bd h
  refine g_call (v := some (.int v38)) (h := h31) (st' := [.int v38, .ref v35, .int 6, .ref v33]) (D1 := 0) (as := [.int 109, .int x1, .int x2]) (Or.inl rfl) q12_m109 (m_cs (as := [.int x2, .int x1, .int 109]) (rest := [.ref v35, .int 6, .ref v33]) q12_m109 jv2414 rfl rfl rfl rfl rfl) (by decide) (SF12_both e37) rfl ?_
  obtain ⟨v39, e40, h⟩ := m_bd h
  refine g_ia e40 ?_
  refine g_ch [(0, .ref x0), (1, .int x1), (2, .int x2), (3, .int x3), (4, .int x4)] [.long (m_i2l v39), .int 6, .ref v33] (pc' := 85) rfl rfl rfl ?_
  obtain ⟨h41, e42, h⟩ := m_bd h
  refine g_ls e42 ?_
  refine g_ch [(0, .ref x0), (1, .int x1), (2, .int x2), (3, .int x3), (4, .int x4)] [.ref x0] (pc' := 87) rfl rfl rfl ?_
  obtain ⟨v43, e44, h⟩ := m_bd h
  refine g_gr q12_f35 e44 ?_
  refine g_ch [(0, .ref x0), (1, .int x1), (2, .int x2), (3, .int x3), (4, .int x4)] [.ref x0, .int 7, .ref v43] (pc' := 93) rfl rfl rfl ?_
  obtain ⟨v45, e46, h⟩ := m_bd h
  refine g_gr q12_f14 e46 ?_
  refine g_ch [(0, .ref x0), (1, .int x1), (2, .int x2), (3, .int x3), (4, .int x4)] [.int 0, .int x1, .ref v45, .int 7, .ref v43] (pc' := 98) rfl rfl rfl ?_
  obtain ⟨v48, e47, h⟩ := m_bd h
  refine g_call (v := some (.int v48)) (h := h41) (st' := [.int v48, .ref v45, .int 7, .ref v43]) (D1 := 0) (as := [.int x1, .int 0]) (Or.inl rfl) q12_m106 (m_cs (as := [.int 0, .int x1]) (rest := [.ref v45, .int 7, .ref v43]) q12_m106 jv2413 rfl rfl rfl rfl rfl) (by decide) (SF12_landAt e47) rfl ?_
  obtain ⟨v49, e50, h⟩ := m_bd h
  refine g_ia e50 ?_
  refine g_ch [(0, .ref x0), (1, .int x1), (2, .int x2), (3, .int x3), (4, .int x4)] [.long (m_i2l v49), .int 7, .ref v43] (pc' := 103) rfl rfl rfl ?_
  obtain ⟨h51, e52, h⟩ := m_bd h
  refine g_ls e52 ?_
  refine g_ch [(0, .ref x0), (1, .int x1), (2, .int x2), (3, .int x3), (4, .int x4)] [.ref x0] (pc' := 105) rfl rfl rfl ?_
  obtain ⟨v53, e54, h⟩ := m_bd h
  refine g_gr q12_f35 e54 ?_
  refine g_ch [(0, .ref x0), (1, .int x1), (2, .int x2), (3, .int x3), (4, .int x4)] [.int x1, .ref x0, .int 8, .ref v53] (pc' := 112) rfl rfl rfl ?_
  obtain ⟨v56, e55, h⟩ := m_bd h
  refine g_call (v := some (.int v56)) (h := h51) (st' := [.int v56, .int 8, .ref v53]) (D1 := 1) (as := [.ref x0, .int x1]) (Or.inr (Or.inl rfl)) q12_m259 (m_cv (as := [.int x1]) (rest := [.int 8, .ref v53]) (Or.inl rfl) q12_m259 jv2500 (OF12_leased e55) rfl rfl rfl rfl) (by decide) (SF12_leased e55) rfl ?_
  refine g_ch [(0, .ref x0), (1, .int x1), (2, .int x2), (3, .int x3), (4, .int x4)] [.long (m_i2l v56), .int 8, .ref v53] (pc' := 116) rfl rfl rfl ?_
  obtain ⟨h57, e58, h⟩ := m_bd h
  refine g_ls e58 ?_
  refine g_ch [(0, .ref x0), (1, .int x1), (2, .int x2), (3, .int x3), (4, .int x4)] [.ref x0] (pc' := 118) rfl rfl rfl ?_
  obtain ⟨v59, e60, h⟩ := m_bd h
  refine g_gr q12_f35 e60 ?_
  refine g_ch [(0, .ref x0), (1, .int x1), (2, .int x2), (3, .int x3), (4, .int x4)] [.long (m_i2l x4), .int 9, .ref v59] (pc' := 126) rfl rfl rfl ?_
  obtain ⟨h61, e62, h⟩ := m_bd h
  refine g_ls e62 ?_
  cases h
  rw [k0 _ hK]
  exact g_vret rfl
theorem OF12_looks {x0 : Nat} {x1 : Int32} {x2 : Int32} {x3 : Int32} {x4 : Int32} {hp : m_H} {x : m_H} (h : F12_looks x0 x1 x2 x3 x4 hp = some x) : m_isO hp 9 x0 = true := (m_gdd h).1
theorem SF12_looks {xs : Nat → Int32} {L : Nat} {x0 : Nat} {x1 : Int32} {x2 : Int32} {x3 : Int32} {x4 : Int32} {hp : m_H} {x : m_H} (h : F12_looks x0 x1 x2 x3 x4 hp = some x) : m_Rn xs L 2 2461 0 (lv_args 0 [.ref x0, .int x1, .int x2, .int x3, .int x4]) [] hp (.inl none, x) :=
  r_lv (SF12_looks_0 x0 x1 x2 x3 x4 hp (K := fun y => y = x) (fun y e => by rw [e]) (m_gdd h).2 rfl) rfl ⟨rfl, rfl, rfl, rfl, rfl, trivial⟩
-- F12_holds: LendHouseModel.holds(II)Z
theorem eF12_holds_0 : m_Fe mi12_62 0 (m_ap [(.iload_n 1, 1), (.iload_n 2, 1)] ((.invokestatic 234, 3) :: (m_ap [(.istore_n 3, 1), (.iconst 0, 1), (.istore 4, 2), (.aload_n 0, 1)] ((.getfield 14, 3) :: (m_ap [(.iload_n 3, 1), (.iconst 2, 1), (.iadd, 1)] ((.iaload, 1) :: (m_ap [(.istore 5, 2)] ([])))))))) := m_Fe_of nd2462 0 13 rfl
theorem eF12_holds_19 : m_Fe mi12_62 19 (m_ap [(.iload 5, 2), (.aload_n 0, 1)] ((.getfield 14, 3) :: (m_ap [(.iload_n 3, 1), (.iconst 3, 1), (.iadd, 1)] ((.iaload, 1) :: ([(.if_icmp .ge 230, 3)]))))) := m_Fe_of nd2462 13 8 rfl
theorem eF12_holds_259 : m_Fe mi12_62 259 (m_ap [(.iload 4, 2)] ([(.ifCond .eq 14, 3)])) := m_Fe_of nd2462 142 2 rfl
theorem eF12_holds_275 : m_Fe mi12_62 275 (m_ap [(.iconst 1, 1)] ([(.goto 4, 3)])) := m_Fe_of nd2462 151 2 rfl
theorem eF12_holds_280 : m_Fe mi12_62 280 ([(.ireturn, 1)]) := m_Fe_of nd2462 154 1 rfl
theorem eF12_holds_264 : m_Fe mi12_62 264 (m_ap [(.aload_n 0, 1)] ((.getfield 39, 3) :: (m_ap [(.iconst 0, 1)] ((.laload, 1) :: (m_ap [(.lconst 1, 1), (.lcmp, 1)] ([(.ifCond .ne 7, 3)])))))) := m_Fe_of nd2462 144 7 rfl
theorem eF12_holds_279 : m_Fe mi12_62 279 (m_ap [(.iconst 0, 1)] ([])) := m_Fe_of nd2462 153 1 rfl
theorem eF12_holds_32 : m_Fe mi12_62 32 (m_ap [(.aload_n 0, 1)] ((.getfield 14, 3) :: (m_ap [(.iload_n 1, 1)] ((.invokestatic 166, 3) :: (m_ap [(.bipush 50, 2), (.iadd, 1), (.iconst 2, 1), (.iload 5, 2), (.imul, 1), (.iadd, 1)] ((.iaload, 1) :: (m_ap [(.istore 6, 2), (.iload 6, 2), (.bipush 100, 2)] ([(.if_icmp .gt 53, 3)])))))))) := m_Fe_of nd2462 21 15 rfl
theorem eF12_holds_108 : m_Fe mi12_62 108 (m_ap [(.iload 6, 2), (.bipush 104, 2)] ([(.if_icmp .ne 26, 3)])) := m_Fe_of nd2462 64 3 rfl
theorem eF12_holds_138 : m_Fe mi12_62 138 (m_ap [(.iinc 4 (-1), 3), (.aload_n 0, 1)] ((.getfield 39, 3) :: (m_ap [(.iload 4, 2), (.iconst 1, 1), (.isub, 1)] ((.laload, 1) :: (m_ap [(.lstore 7, 2), (.aload_n 0, 1)] ((.getfield 39, 3) :: (m_ap [(.iload 4, 2)] ((.laload, 1) :: (m_ap [(.lstore 9, 2), (.aload_n 0, 1)] ((.getfield 39, 3) :: (m_ap [(.iload 4, 2), (.iconst 1, 1), (.isub, 1), (.iload 6, 2), (.bipush 101, 2)] ([(.if_icmp .ne 11, 3)])))))))))))) := m_Fe_of nd2462 82 21 rfl
theorem eF12_holds_184 : m_Fe mi12_62 184 (m_ap [(.iload 6, 2), (.bipush 102, 2)] ([(.if_icmp .ne 19, 3)])) := m_Fe_of nd2462 107 3 rfl
theorem eF12_holds_207 : m_Fe mi12_62 207 (m_ap [(.iload 6, 2), (.bipush 103, 2)] ([(.if_icmp .ne 19, 3)])) := m_Fe_of nd2462 118 3 rfl
theorem eF12_holds_230 : m_Fe mi12_62 230 (m_ap [(.iload 6, 2), (.bipush 105, 2)] ([(.if_icmp .ne 11, 3)])) := m_Fe_of nd2462 129 3 rfl
theorem eF12_holds_245 : m_Fe mi12_62 245 (m_ap [(.lload 7, 2), (.lload 9, 2)] ([(.invokestatic 262, 3)])) := m_Fe_of nd2462 136 3 rfl
theorem eF12_holds_252 : m_Fe mi12_62 252 ([(.lastore, 1)]) := m_Fe_of nd2462 139 1 rfl
theorem eF12_holds_253 : m_Fe mi12_62 253 (m_ap [(.iinc 5 1, 3)] ([(.goto (-237), 3)])) := m_Fe_of nd2462 140 2 rfl
theorem eF12_holds_237 : m_Fe mi12_62 237 (m_ap [(.lload 7, 2), (.lload 9, 2), (.lmul, 1)] ([(.goto 10, 3)])) := m_Fe_of nd2462 132 4 rfl
theorem eF12_holds_214 : m_Fe mi12_62 214 (m_ap [(.lload 7, 2), (.lload 9, 2), (.lcmp, 1)] ([(.ifCond .le 7, 3)])) := m_Fe_of nd2462 121 4 rfl
theorem eF12_holds_226 : m_Fe mi12_62 226 (m_ap [(.lconst 0, 1)] ([(.goto 25, 3)])) := m_Fe_of nd2462 127 2 rfl
theorem eF12_holds_222 : m_Fe mi12_62 222 (m_ap [(.lconst 1, 1)] ([(.goto 29, 3)])) := m_Fe_of nd2462 125 2 rfl
theorem eF12_holds_191 : m_Fe mi12_62 191 (m_ap [(.lload 7, 2), (.lload 9, 2), (.lcmp, 1)] ([(.ifCond .ge 7, 3)])) := m_Fe_of nd2462 110 4 rfl
theorem eF12_holds_203 : m_Fe mi12_62 203 (m_ap [(.lconst 0, 1)] ([(.goto 48, 3)])) := m_Fe_of nd2462 116 2 rfl
theorem eF12_holds_199 : m_Fe mi12_62 199 (m_ap [(.lconst 1, 1)] ([(.goto 52, 3)])) := m_Fe_of nd2462 114 2 rfl
theorem eF12_holds_176 : m_Fe mi12_62 176 (m_ap [(.lload 7, 2), (.lload 9, 2), (.ladd, 1)] ([(.goto 71, 3)])) := m_Fe_of nd2462 103 4 rfl
theorem eF12_holds_115 : m_Fe mi12_62 115 (m_ap [(.aload_n 0, 1)] ((.getfield 39, 3) :: (m_ap [(.iload 4, 2), (.iconst 1, 1), (.isub, 1), (.lconst 1, 1), (.aload_n 0, 1)] ((.getfield 39, 3) :: (m_ap [(.iload 4, 2), (.iconst 1, 1), (.isub, 1)] ((.laload, 1) :: (m_ap [(.lsub, 1)] ((.lastore, 1) :: ([(.goto 118, 3)]))))))))) := m_Fe_of nd2462 67 15 rfl
theorem eF12_holds_58 : m_Fe mi12_62 58 (m_ap [(.aload_n 0, 1)] ((.getfield 39, 3) :: (m_ap [(.iload 4, 2), (.iload 6, 2), (.bipush 100, 2)] ([(.if_icmp .ne 26, 3)])))) := m_Fe_of nd2462 36 6 rfl
theorem eF12_holds_94 : m_Fe mi12_62 94 (m_ap [(.aload_n 0, 1)] ((.getfield 35, 3) :: (m_ap [(.iload 6, 2)] ([(.laload, 1)])))) := m_Fe_of nd2462 57 4 rfl
theorem eF12_holds_101 : m_Fe mi12_62 101 ((.lastore, 1) :: (m_ap [(.iinc 4 1, 3)] ([(.goto 148, 3)]))) := m_Fe_of nd2462 61 3 rfl
theorem eF12_holds_71 : m_Fe mi12_62 71 (m_ap [(.aload_n 0, 1)] ((.getfield 14, 3) :: (m_ap [(.iload_n 1, 1)] ((.invokestatic 166, 3) :: (m_ap [(.bipush 50, 2), (.iadd, 1), (.iconst 2, 1), (.iload 5, 2), (.imul, 1), (.iadd, 1), (.iconst 1, 1), (.iadd, 1)] ((.iaload, 1) :: (m_ap [(.i2l, 1)] ([(.goto 10, 3)])))))))) := m_Fe_of nd2462 42 15 rfl
theorem SF12_holds_19b {xs : Nat → Int32} {L : Nat} (x0 : Nat) (x1 : Int32) (x3 : Int32) (s : Int32 × Int32 × m_H) {r : m_O × m_H} {K : ((Int32 × Int32 × m_H) ⊕ (Int32 × m_H)) → Prop} (k0 : ∀ x, K (.inr x) → r = (.inl (some (.int x.1)), x.2)) (k1 : ∀ s, K (.inl s) → m_Rn xs L 7 2462 19 [(0, .ref x0), (1, .int x1), (3, .int x3), (4, .int s.1), (5, .int s.2.1)] [] s.2.2 r) {t : (Int32 × Int32 × m_H) ⊕ (Int32 × m_H)} (h : F12_holds_19b x0 x1 x3 s = some t) (hK : K t) : m_Rn xs L 7 2462 19 [(0, .ref x0), (1, .int x1), (3, .int x3), (4, .int s.1), (5, .int s.2.1)] [] s.2.2 r := by
  unfold F12_holds_19b at h
  refine g_in eF12_holds_19 mx2462 ?_
  refine g_ch [(0, .ref x0), (1, .int x1), (3, .int x3), (4, .int s.1), (5, .int s.2.1)] [.ref x0, .int s.2.1] (pc' := 22) rfl rfl rfl ?_
  obtain ⟨v1, e2, h⟩ := m_bd h
  refine g_gr q12_f14 e2 ?_
  refine g_ch [(0, .ref x0), (1, .int x1), (3, .int x3), (4, .int s.1), (5, .int s.2.1)] [.int (x3 + 3), .ref v1, .int s.2.1] (pc' := 28) rfl rfl rfl ?_
  obtain ⟨v3, e4, h⟩ := m_bd h
  refine g_ia e4 ?_
  rcases m_ifd h with ⟨c5, h⟩ | ⟨c5, h⟩
  · refine g_if (t := 259) rfl (m_geT c5) ?_
    refine g_in eF12_holds_259 mx2462 ?_
    refine g_ch [(0, .ref x0), (1, .int x1), (3, .int x3), (4, .int s.1), (5, .int s.2.1)] [.int s.1] (pc' := 261) rfl rfl rfl ?_
    rcases m_ifd h with ⟨c6, h⟩ | ⟨c6, h⟩
    · refine g_ifc (t := 275) rfl (m_eqT c6) ?_
      refine g_in eF12_holds_275 mx2462 ?_
      refine g_ch [(0, .ref x0), (1, .int x1), (3, .int x3), (4, .int s.1), (5, .int s.2.1)] [.int 1] (pc' := 276) rfl rfl rfl ?_
      refine g_goto (t := 280) rfl ?_
      refine g_in eF12_holds_280 mx2462 ?_
      cases h
      rw [k0 _ hK]
      exact g_iret rfl (by decide +kernel)
    · refine g_ifcn (t := 275) rfl (m_eqF c6) ?_
      refine g_in eF12_holds_264 mx2462 ?_
      refine g_ch [(0, .ref x0), (1, .int x1), (3, .int x3), (4, .int s.1), (5, .int s.2.1)] [.ref x0] (pc' := 265) rfl rfl rfl ?_
      obtain ⟨v7, e8, h⟩ := m_bd h
      refine g_gr q12_f39 e8 ?_
      refine g_ch [(0, .ref x0), (1, .int x1), (3, .int x3), (4, .int s.1), (5, .int s.2.1)] [.int 0, .ref v7] (pc' := 269) rfl rfl rfl ?_
      obtain ⟨v9, e10, h⟩ := m_bd h
      refine g_la e10 ?_
      refine g_ch [(0, .ref x0), (1, .int x1), (3, .int x3), (4, .int s.1), (5, .int s.2.1)] [.int (lg_cmp v9 1)] (pc' := 272) rfl rfl rfl ?_
      rcases m_ifd h with ⟨c11, h⟩ | ⟨c11, h⟩
      · refine g_ifcn (t := 279) rfl (m_neF c11) ?_
        refine g_in eF12_holds_275 mx2462 ?_
        refine g_ch [(0, .ref x0), (1, .int x1), (3, .int x3), (4, .int s.1), (5, .int s.2.1)] [.int 1] (pc' := 276) rfl rfl rfl ?_
        refine g_goto (t := 280) rfl ?_
        refine g_in eF12_holds_280 mx2462 ?_
        cases h
        rw [k0 _ hK]
        exact g_iret rfl (by decide +kernel)
      · refine g_ifc (t := 279) rfl (m_neT c11) ?_
        refine g_in eF12_holds_279 mx2462 ?_
        refine g_ch [(0, .ref x0), (1, .int x1), (3, .int x3), (4, .int s.1), (5, .int s.2.1)] [.int 0] (pc' := 280) rfl rfl rfl ?_
        refine g_end ?_
        refine g_in eF12_holds_280 mx2462 ?_
        cases h
        rw [k0 _ hK]
        exact g_iret rfl (by decide +kernel)
  · refine g_ifn (t := 259) rfl (m_geF c5) ?_
    refine g_in eF12_holds_32 mx2462 ?_
    refine g_ch [(0, .ref x0), (1, .int x1), (3, .int x3), (4, .int s.1), (5, .int s.2.1)] [.ref x0] (pc' := 33) rfl rfl rfl ?_
    obtain ⟨v12, e13, h⟩ := m_bd h
    refine g_gr q12_f14 e13 ?_
    refine g_ch [(0, .ref x0), (1, .int x1), (3, .int x3), (4, .int s.1), (5, .int s.2.1)] [.int x1, .ref v12] (pc' := 37) rfl rfl rfl ?_
    obtain ⟨v15, e14, h⟩ := m_bd h
    refine g_call (v := some (.int v15)) (h := s.2.2) (st' := [.int v15, .ref v12]) (D1 := 0) (as := [.int x1]) (Or.inl rfl) q12_m166 (m_cs (as := [.int x1]) (rest := [.ref v12]) q12_m166 jv2447 rfl rfl rfl rfl rfl) (by decide) (SF12_textAt e14) rfl ?_
    refine g_ch [(0, .ref x0), (1, .int x1), (3, .int x3), (4, .int s.1), (5, .int s.2.1)] [.int ((v15 + 50) + (2 * s.2.1)), .ref v12] (pc' := 48) rfl rfl rfl ?_
    obtain ⟨v16, e17, h⟩ := m_bd h
    refine g_ia e17 ?_
    refine g_ch [(6, .int v16), (0, .ref x0), (1, .int x1), (3, .int x3), (4, .int s.1), (5, .int s.2.1)] [.int 100, .int v16] (pc' := 55) rfl rfl rfl ?_
    rcases m_ifd h with ⟨c18, h⟩ | ⟨c18, h⟩
    · refine g_if (t := 108) rfl (m_gtT c18) ?_
      refine g_in eF12_holds_108 mx2462 ?_
      refine g_ch [(6, .int v16), (0, .ref x0), (1, .int x1), (3, .int x3), (4, .int s.1), (5, .int s.2.1)] [.int 104, .int v16] (pc' := 112) rfl rfl rfl ?_
      rcases m_ifd h with ⟨c19, h⟩ | ⟨c19, h⟩
      · refine g_ifn (t := 138) rfl (m_neF c19) ?_
        refine g_in eF12_holds_115 mx2462 ?_
        refine g_ch [(6, .int v16), (0, .ref x0), (1, .int x1), (3, .int x3), (4, .int s.1), (5, .int s.2.1)] [.ref x0] (pc' := 116) rfl rfl rfl ?_
        obtain ⟨v50, e51, h⟩ := m_bd h
        refine g_gr q12_f39 e51 ?_
        refine g_ch [(6, .int v16), (0, .ref x0), (1, .int x1), (3, .int x3), (4, .int s.1), (5, .int s.2.1)] [.ref x0, .long 1, .int (s.1 - 1), .ref v50] (pc' := 125) rfl rfl rfl ?_
        obtain ⟨v52, e53, h⟩ := m_bd h
        refine g_gr q12_f39 e53 ?_
        refine g_ch [(6, .int v16), (0, .ref x0), (1, .int x1), (3, .int x3), (4, .int s.1), (5, .int s.2.1)] [.int (s.1 - 1), .ref v52, .long 1, .int (s.1 - 1), .ref v50] (pc' := 132) rfl rfl rfl ?_
        obtain ⟨v54, e55, h⟩ := m_bd h
        refine g_la e55 ?_
        refine g_ch [(6, .int v16), (0, .ref x0), (1, .int x1), (3, .int x3), (4, .int s.1), (5, .int s.2.1)] [.long (1 - v54), .int (s.1 - 1), .ref v50] (pc' := 134) rfl rfl rfl ?_
        obtain ⟨h56, e57, h⟩ := m_bd h
        refine g_ls e57 ?_
        refine g_goto (t := 253) rfl ?_
        refine g_in eF12_holds_253 mx2462 ?_
        refine g_ch [(5, .int (s.2.1 + 1)), (6, .int v16), (0, .ref x0), (1, .int x1), (3, .int x3), (4, .int s.1)] [] (pc' := 256) rfl rfl rfl ?_
        refine g_goto (t := 19) rfl ?_
        cases h
        exact r_lv (k1 (s.1, (s.2.1 + 1), h56) hK) rfl ⟨rfl, rfl, rfl, rfl, rfl, trivial⟩
      · refine g_if (t := 138) rfl (m_neT c19) ?_
        refine g_in eF12_holds_138 mx2462 ?_
        refine g_ch [(4, .int (s.1 + (-1))), (6, .int v16), (0, .ref x0), (1, .int x1), (3, .int x3), (5, .int s.2.1)] [.ref x0] (pc' := 142) rfl rfl rfl ?_
        obtain ⟨v20, e21, h⟩ := m_bd h
        refine g_gr q12_f39 e21 ?_
        refine g_ch [(4, .int (s.1 + (-1))), (6, .int v16), (0, .ref x0), (1, .int x1), (3, .int x3), (5, .int s.2.1)] [.int ((s.1 + (-1)) - 1), .ref v20] (pc' := 149) rfl rfl rfl ?_
        obtain ⟨v22, e23, h⟩ := m_bd h
        refine g_la e23 ?_
        refine g_ch [(7, .long v22), (4, .int (s.1 + (-1))), (6, .int v16), (0, .ref x0), (1, .int x1), (3, .int x3), (5, .int s.2.1)] [.ref x0] (pc' := 153) rfl rfl rfl ?_
        obtain ⟨v24, e25, h⟩ := m_bd h
        refine g_gr q12_f39 e25 ?_
        refine g_ch [(7, .long v22), (4, .int (s.1 + (-1))), (6, .int v16), (0, .ref x0), (1, .int x1), (3, .int x3), (5, .int s.2.1)] [.int (s.1 + (-1)), .ref v24] (pc' := 158) rfl rfl rfl ?_
        obtain ⟨v26, e27, h⟩ := m_bd h
        refine g_la e27 ?_
        refine g_ch [(9, .long v26), (7, .long v22), (4, .int (s.1 + (-1))), (6, .int v16), (0, .ref x0), (1, .int x1), (3, .int x3), (5, .int s.2.1)] [.ref x0] (pc' := 162) rfl rfl rfl ?_
        obtain ⟨v28, e29, h⟩ := m_bd h
        refine g_gr q12_f39 e29 ?_
        refine g_ch [(9, .long v26), (7, .long v22), (4, .int (s.1 + (-1))), (6, .int v16), (0, .ref x0), (1, .int x1), (3, .int x3), (5, .int s.2.1)] [.int 101, .int v16, .int ((s.1 + (-1)) - 1), .ref v28] (pc' := 173) rfl rfl rfl ?_
        rcases m_ifd h with ⟨c30, h⟩ | ⟨c30, h⟩
        · refine g_ifn (t := 184) rfl (m_neF c30) ?_
          refine g_in eF12_holds_176 mx2462 ?_
          refine g_ch [(9, .long v26), (7, .long v22), (4, .int (s.1 + (-1))), (6, .int v16), (0, .ref x0), (1, .int x1), (3, .int x3), (5, .int s.2.1)] [.long (v22 + v26), .int ((s.1 + (-1)) - 1), .ref v28] (pc' := 181) rfl rfl rfl ?_
          refine g_goto (t := 252) rfl ?_
          refine g_in eF12_holds_252 mx2462 ?_
          obtain ⟨h48, e49, h⟩ := m_bd h
          refine g_ls e49 ?_
          refine g_end ?_
          refine g_in eF12_holds_253 mx2462 ?_
          refine g_ch [(5, .int (s.2.1 + 1)), (9, .long v26), (7, .long v22), (4, .int (s.1 + (-1))), (6, .int v16), (0, .ref x0), (1, .int x1), (3, .int x3)] [] (pc' := 256) rfl rfl rfl ?_
          refine g_goto (t := 19) rfl ?_
          cases h
          exact r_lv (k1 _ hK) rfl ⟨rfl, rfl, rfl, rfl, rfl, trivial⟩
        · refine g_if (t := 184) rfl (m_neT c30) ?_
          refine g_in eF12_holds_184 mx2462 ?_
          refine g_ch [(9, .long v26), (7, .long v22), (4, .int (s.1 + (-1))), (6, .int v16), (0, .ref x0), (1, .int x1), (3, .int x3), (5, .int s.2.1)] [.int 102, .int v16, .int ((s.1 + (-1)) - 1), .ref v28] (pc' := 188) rfl rfl rfl ?_
          rcases m_ifd h with ⟨c31, h⟩ | ⟨c31, h⟩
          · refine g_ifn (t := 207) rfl (m_neF c31) ?_
            refine g_in eF12_holds_191 mx2462 ?_
            refine g_ch [(9, .long v26), (7, .long v22), (4, .int (s.1 + (-1))), (6, .int v16), (0, .ref x0), (1, .int x1), (3, .int x3), (5, .int s.2.1)] [.int (lg_cmp v22 v26), .int ((s.1 + (-1)) - 1), .ref v28] (pc' := 196) rfl rfl rfl ?_
            rcases m_ifd h with ⟨c43, h⟩ | ⟨c43, h⟩
            · refine g_ifc (t := 203) rfl (m_geT c43) ?_
              refine g_in eF12_holds_203 mx2462 ?_
              refine g_ch [(9, .long v26), (7, .long v22), (4, .int (s.1 + (-1))), (6, .int v16), (0, .ref x0), (1, .int x1), (3, .int x3), (5, .int s.2.1)] [.long 0, .int ((s.1 + (-1)) - 1), .ref v28] (pc' := 204) rfl rfl rfl ?_
              refine g_goto (t := 252) rfl ?_
              refine g_in eF12_holds_252 mx2462 ?_
              obtain ⟨h44, e45, h⟩ := m_bd h
              refine g_ls e45 ?_
              refine g_end ?_
              refine g_in eF12_holds_253 mx2462 ?_
              refine g_ch [(5, .int (s.2.1 + 1)), (9, .long v26), (7, .long v22), (4, .int (s.1 + (-1))), (6, .int v16), (0, .ref x0), (1, .int x1), (3, .int x3)] [] (pc' := 256) rfl rfl rfl ?_
              refine g_goto (t := 19) rfl ?_
              cases h
              exact r_lv (k1 ((s.1 + (-1)), (s.2.1 + 1), h44) hK) rfl ⟨rfl, rfl, rfl, rfl, rfl, trivial⟩
            · refine g_ifcn (t := 203) rfl (m_geF c43) ?_
              refine g_in eF12_holds_199 mx2462 ?_
              refine g_ch [(9, .long v26), (7, .long v22), (4, .int (s.1 + (-1))), (6, .int v16), (0, .ref x0), (1, .int x1), (3, .int x3), (5, .int s.2.1)] [.long 1, .int ((s.1 + (-1)) - 1), .ref v28] (pc' := 200) rfl rfl rfl ?_
              refine g_goto (t := 252) rfl ?_
              refine g_in eF12_holds_252 mx2462 ?_
              obtain ⟨h46, e47, h⟩ := m_bd h
              refine g_ls e47 ?_
              refine g_end ?_
              refine g_in eF12_holds_253 mx2462 ?_
              refine g_ch [(5, .int (s.2.1 + 1)), (9, .long v26), (7, .long v22), (4, .int (s.1 + (-1))), (6, .int v16), (0, .ref x0), (1, .int x1), (3, .int x3)] [] (pc' := 256) rfl rfl rfl ?_
              refine g_goto (t := 19) rfl ?_
              cases h
              exact r_lv (k1 ((s.1 + (-1)), (s.2.1 + 1), h46) hK) rfl ⟨rfl, rfl, rfl, rfl, rfl, trivial⟩
          · refine g_if (t := 207) rfl (m_neT c31) ?_
            refine g_in eF12_holds_207 mx2462 ?_
            refine g_ch [(9, .long v26), (7, .long v22), (4, .int (s.1 + (-1))), (6, .int v16), (0, .ref x0), (1, .int x1), (3, .int x3), (5, .int s.2.1)] [.int 103, .int v16, .int ((s.1 + (-1)) - 1), .ref v28] (pc' := 211) rfl rfl rfl ?_
            rcases m_ifd h with ⟨c32, h⟩ | ⟨c32, h⟩
            · refine g_ifn (t := 230) rfl (m_neF c32) ?_
              refine g_in eF12_holds_214 mx2462 ?_
              refine g_ch [(9, .long v26), (7, .long v22), (4, .int (s.1 + (-1))), (6, .int v16), (0, .ref x0), (1, .int x1), (3, .int x3), (5, .int s.2.1)] [.int (lg_cmp v22 v26), .int ((s.1 + (-1)) - 1), .ref v28] (pc' := 219) rfl rfl rfl ?_
              rcases m_ifd h with ⟨c38, h⟩ | ⟨c38, h⟩
              · refine g_ifc (t := 226) rfl (m_leT c38) ?_
                refine g_in eF12_holds_226 mx2462 ?_
                refine g_ch [(9, .long v26), (7, .long v22), (4, .int (s.1 + (-1))), (6, .int v16), (0, .ref x0), (1, .int x1), (3, .int x3), (5, .int s.2.1)] [.long 0, .int ((s.1 + (-1)) - 1), .ref v28] (pc' := 227) rfl rfl rfl ?_
                refine g_goto (t := 252) rfl ?_
                refine g_in eF12_holds_252 mx2462 ?_
                obtain ⟨h39, e40, h⟩ := m_bd h
                refine g_ls e40 ?_
                refine g_end ?_
                refine g_in eF12_holds_253 mx2462 ?_
                refine g_ch [(5, .int (s.2.1 + 1)), (9, .long v26), (7, .long v22), (4, .int (s.1 + (-1))), (6, .int v16), (0, .ref x0), (1, .int x1), (3, .int x3)] [] (pc' := 256) rfl rfl rfl ?_
                refine g_goto (t := 19) rfl ?_
                cases h
                exact r_lv (k1 ((s.1 + (-1)), (s.2.1 + 1), h39) hK) rfl ⟨rfl, rfl, rfl, rfl, rfl, trivial⟩
              · refine g_ifcn (t := 226) rfl (m_leF c38) ?_
                refine g_in eF12_holds_222 mx2462 ?_
                refine g_ch [(9, .long v26), (7, .long v22), (4, .int (s.1 + (-1))), (6, .int v16), (0, .ref x0), (1, .int x1), (3, .int x3), (5, .int s.2.1)] [.long 1, .int ((s.1 + (-1)) - 1), .ref v28] (pc' := 223) rfl rfl rfl ?_
                refine g_goto (t := 252) rfl ?_
                refine g_in eF12_holds_252 mx2462 ?_
                obtain ⟨h41, e42, h⟩ := m_bd h
                refine g_ls e42 ?_
                refine g_end ?_
                refine g_in eF12_holds_253 mx2462 ?_
                refine g_ch [(5, .int (s.2.1 + 1)), (9, .long v26), (7, .long v22), (4, .int (s.1 + (-1))), (6, .int v16), (0, .ref x0), (1, .int x1), (3, .int x3)] [] (pc' := 256) rfl rfl rfl ?_
                refine g_goto (t := 19) rfl ?_
                cases h
                exact r_lv (k1 ((s.1 + (-1)), (s.2.1 + 1), h41) hK) rfl ⟨rfl, rfl, rfl, rfl, rfl, trivial⟩
            · refine g_if (t := 230) rfl (m_neT c32) ?_
              refine g_in eF12_holds_230 mx2462 ?_
              refine g_ch [(9, .long v26), (7, .long v22), (4, .int (s.1 + (-1))), (6, .int v16), (0, .ref x0), (1, .int x1), (3, .int x3), (5, .int s.2.1)] [.int 105, .int v16, .int ((s.1 + (-1)) - 1), .ref v28] (pc' := 234) rfl rfl rfl ?_
              rcases m_ifd h with ⟨c33, h⟩ | ⟨c33, h⟩
              · refine g_ifn (t := 245) rfl (m_neF c33) ?_
                refine g_in eF12_holds_237 mx2462 ?_
                refine g_ch [(9, .long v26), (7, .long v22), (4, .int (s.1 + (-1))), (6, .int v16), (0, .ref x0), (1, .int x1), (3, .int x3), (5, .int s.2.1)] [.long (v22 * v26), .int ((s.1 + (-1)) - 1), .ref v28] (pc' := 242) rfl rfl rfl ?_
                refine g_goto (t := 252) rfl ?_
                refine g_in eF12_holds_252 mx2462 ?_
                obtain ⟨h36, e37, h⟩ := m_bd h
                refine g_ls e37 ?_
                refine g_end ?_
                refine g_in eF12_holds_253 mx2462 ?_
                refine g_ch [(5, .int (s.2.1 + 1)), (9, .long v26), (7, .long v22), (4, .int (s.1 + (-1))), (6, .int v16), (0, .ref x0), (1, .int x1), (3, .int x3)] [] (pc' := 256) rfl rfl rfl ?_
                refine g_goto (t := 19) rfl ?_
                cases h
                exact r_lv (k1 ((s.1 + (-1)), (s.2.1 + 1), h36) hK) rfl ⟨rfl, rfl, rfl, rfl, rfl, trivial⟩
              · refine g_if (t := 245) rfl (m_neT c33) ?_
                refine g_in eF12_holds_245 mx2462 ?_
                refine g_ch [(9, .long v26), (7, .long v22), (4, .int (s.1 + (-1))), (6, .int v16), (0, .ref x0), (1, .int x1), (3, .int x3), (5, .int s.2.1)] [.long v26, .long v22, .int ((s.1 + (-1)) - 1), .ref v28] (pc' := 249) rfl rfl rfl ?_
                refine g_nat (Or.inl rfl) q12_m262 rfl (z := ([.long (m_maxl v22 v26), .int ((s.1 + (-1)) - 1), .ref v28], s.2.2)) rfl (by decide) ?_
                refine g_end ?_
                refine g_in eF12_holds_252 mx2462 ?_
                obtain ⟨h34, e35, h⟩ := m_bd h
                refine g_ls e35 ?_
                refine g_end ?_
                refine g_in eF12_holds_253 mx2462 ?_
                refine g_ch [(5, .int (s.2.1 + 1)), (9, .long v26), (7, .long v22), (4, .int (s.1 + (-1))), (6, .int v16), (0, .ref x0), (1, .int x1), (3, .int x3)] [] (pc' := 256) rfl rfl rfl ?_
                refine g_goto (t := 19) rfl ?_
                cases h
                exact r_lv (k1 ((s.1 + (-1)), (s.2.1 + 1), h34) hK) rfl ⟨rfl, rfl, rfl, rfl, rfl, trivial⟩
    · refine g_ifn (t := 108) rfl (m_gtF c18) ?_
      refine g_in eF12_holds_58 mx2462 ?_
      refine g_ch [(6, .int v16), (0, .ref x0), (1, .int x1), (3, .int x3), (4, .int s.1), (5, .int s.2.1)] [.ref x0] (pc' := 59) rfl rfl rfl ?_
      obtain ⟨v58, e59, h⟩ := m_bd h
      refine g_gr q12_f39 e59 ?_
      refine g_ch [(6, .int v16), (0, .ref x0), (1, .int x1), (3, .int x3), (4, .int s.1), (5, .int s.2.1)] [.int 100, .int v16, .int s.1, .ref v58] (pc' := 68) rfl rfl rfl ?_
      rcases m_ifd h with ⟨c60, h⟩ | ⟨c60, h⟩
      · refine g_ifn (t := 94) rfl (m_neF c60) ?_
        refine g_in eF12_holds_71 mx2462 ?_
        refine g_ch [(6, .int v16), (0, .ref x0), (1, .int x1), (3, .int x3), (4, .int s.1), (5, .int s.2.1)] [.ref x0, .int s.1, .ref v58] (pc' := 72) rfl rfl rfl ?_
        obtain ⟨v67, e68, h⟩ := m_bd h
        refine g_gr q12_f14 e68 ?_
        refine g_ch [(6, .int v16), (0, .ref x0), (1, .int x1), (3, .int x3), (4, .int s.1), (5, .int s.2.1)] [.int x1, .ref v67, .int s.1, .ref v58] (pc' := 76) rfl rfl rfl ?_
        obtain ⟨v70, e69, h⟩ := m_bd h
        refine g_call (v := some (.int v70)) (h := s.2.2) (st' := [.int v70, .ref v67, .int s.1, .ref v58]) (D1 := 0) (as := [.int x1]) (Or.inl rfl) q12_m166 (m_cs (as := [.int x1]) (rest := [.ref v67, .int s.1, .ref v58]) q12_m166 jv2447 rfl rfl rfl rfl rfl) (by decide) (SF12_textAt e69) rfl ?_
        refine g_ch [(6, .int v16), (0, .ref x0), (1, .int x1), (3, .int x3), (4, .int s.1), (5, .int s.2.1)] [.int (((v70 + 50) + (2 * s.2.1)) + 1), .ref v67, .int s.1, .ref v58] (pc' := 89) rfl rfl rfl ?_
        obtain ⟨v71, e72, h⟩ := m_bd h
        refine g_ia e72 ?_
        refine g_ch [(6, .int v16), (0, .ref x0), (1, .int x1), (3, .int x3), (4, .int s.1), (5, .int s.2.1)] [.long (m_i2l v71), .int s.1, .ref v58] (pc' := 91) rfl rfl rfl ?_
        refine g_goto (t := 101) rfl ?_
        refine g_in eF12_holds_101 mx2462 ?_
        obtain ⟨h73, e74, h⟩ := m_bd h
        refine g_ls e74 ?_
        refine g_ch [(4, .int (s.1 + 1)), (6, .int v16), (0, .ref x0), (1, .int x1), (3, .int x3), (5, .int s.2.1)] [] (pc' := 105) rfl rfl rfl ?_
        refine g_goto (t := 253) rfl ?_
        refine g_in eF12_holds_253 mx2462 ?_
        refine g_ch [(5, .int (s.2.1 + 1)), (4, .int (s.1 + 1)), (6, .int v16), (0, .ref x0), (1, .int x1), (3, .int x3)] [] (pc' := 256) rfl rfl rfl ?_
        refine g_goto (t := 19) rfl ?_
        cases h
        exact r_lv (k1 ((s.1 + 1), (s.2.1 + 1), h73) hK) rfl ⟨rfl, rfl, rfl, rfl, rfl, trivial⟩
      · refine g_if (t := 94) rfl (m_neT c60) ?_
        refine g_in eF12_holds_94 mx2462 ?_
        refine g_ch [(6, .int v16), (0, .ref x0), (1, .int x1), (3, .int x3), (4, .int s.1), (5, .int s.2.1)] [.ref x0, .int s.1, .ref v58] (pc' := 95) rfl rfl rfl ?_
        obtain ⟨v61, e62, h⟩ := m_bd h
        refine g_gr q12_f35 e62 ?_
        refine g_ch [(6, .int v16), (0, .ref x0), (1, .int x1), (3, .int x3), (4, .int s.1), (5, .int s.2.1)] [.int v16, .ref v61, .int s.1, .ref v58] (pc' := 100) rfl rfl rfl ?_
        obtain ⟨v63, e64, h⟩ := m_bd h
        refine g_la e64 ?_
        refine g_end ?_
        refine g_in eF12_holds_101 mx2462 ?_
        obtain ⟨h65, e66, h⟩ := m_bd h
        refine g_ls e66 ?_
        refine g_ch [(4, .int (s.1 + 1)), (6, .int v16), (0, .ref x0), (1, .int x1), (3, .int x3), (5, .int s.2.1)] [] (pc' := 105) rfl rfl rfl ?_
        refine g_goto (t := 253) rfl ?_
        refine g_in eF12_holds_253 mx2462 ?_
        refine g_ch [(5, .int (s.2.1 + 1)), (4, .int (s.1 + 1)), (6, .int v16), (0, .ref x0), (1, .int x1), (3, .int x3)] [] (pc' := 256) rfl rfl rfl ?_
        refine g_goto (t := 19) rfl ?_
        cases h
        exact r_lv (k1 ((s.1 + 1), (s.2.1 + 1), h65) hK) rfl ⟨rfl, rfl, rfl, rfl, rfl, trivial⟩
theorem SF12_holds_19 {xs : Nat → Int32} {L : Nat} (x0 : Nat) (x1 : Int32) (x3 : Int32) (x4 : Int32) (x5 : Int32) (hp : m_H) {r : m_O × m_H} {K : Int32 × m_H → Prop} (k0 : ∀ x, K x → r = (.inl (some (.int x.1)), x.2)) {t : Int32 × m_H} (h : F12_holds_19 x0 x1 x3 x4 x5 hp = some t) (hK : K t) : m_Rn xs L 7 2462 19 [(0, .ref x0), (1, .int x1), (3, .int x3), (4, .int x4), (5, .int x5)] [] hp r :=
  m_wh_ok (P := fun s => m_Rn xs L 7 2462 19 [(0, .ref x0), (1, .int x1), (3, .int x3), (4, .int s.1), (5, .int s.2.1)] [] s.2.2 r) (Q := K) (fun s t hb hK => SF12_holds_19b x0 x1 x3 s (K := m_KK (fun s => m_Rn xs L 7 2462 19 [(0, .ref x0), (1, .int x1), (3, .int x3), (4, .int s.1), (5, .int s.2.1)] [] s.2.2 r) K) k0 (fun _ q => q) hb hK) m_N _ _ h hK
theorem SF12_holds_0 {xs : Nat → Int32} {L : Nat} (x0 : Nat) (x1 : Int32) (x2 : Int32) (hp : m_H) {r : m_O × m_H} {K : (Int32 × m_H) → Prop} (k0 : ∀ x, K x → r = (.inl (some (.int x.1)), x.2)) {t : Int32 × m_H} (h : F12_holds_0 x0 x1 x2 hp = some t) (hK : K t) : m_Rn xs L 7 2462 0 [(0, .ref x0), (1, .int x1), (2, .int x2)] [] hp r := by
  unfold F12_holds_0 at h
  refine g_in eF12_holds_0 mx2462 ?_
  refine g_ch [(0, .ref x0), (1, .int x1), (2, .int x2)] [.int x2, .int x1] (pc' := 2) rfl rfl rfl ?_
  obtain ⟨v2, e1, h⟩ := m_bd h
  refine g_call (v := some (.int v2)) (h := hp) (st' := [.int v2]) (D1 := 1) (as := [.int x1, .int x2]) (Or.inl rfl) q12_m234 (m_cs (as := [.int x2, .int x1]) (rest := []) q12_m234 jv2448 rfl rfl rfl rfl rfl) (by decide) (SF12_lineAt e1) rfl ?_
  refine g_ch [(4, .int 0), (3, .int v2), (0, .ref x0), (1, .int x1), (2, .int x2)] [.ref x0] (pc' := 10) rfl rfl rfl ?_
  obtain ⟨v3, e4, h⟩ := m_bd h
  refine g_gr q12_f14 e4 ?_
  refine g_ch [(4, .int 0), (3, .int v2), (0, .ref x0), (1, .int x1), (2, .int x2)] [.int (v2 + 2), .ref v3] (pc' := 16) rfl rfl rfl ?_
  obtain ⟨v5, e6, h⟩ := m_bd h
  refine g_ia e6 ?_
  refine g_ch [(5, .int v5), (4, .int 0), (3, .int v2), (0, .ref x0), (1, .int x1), (2, .int x2)] [] (pc' := 19) rfl rfl rfl ?_
  refine g_end ?_
  exact r_lv (SF12_holds_19 x0 x1 v2 0 v5 hp (K := K) k0 h hK) rfl ⟨rfl, rfl, rfl, rfl, rfl, trivial⟩
theorem OF12_holds {x0 : Nat} {x1 : Int32} {x2 : Int32} {hp : m_H} {x : Int32 × m_H} (h : F12_holds x0 x1 x2 hp = some x) : m_isO hp 9 x0 = true := (m_gdd h).1
theorem SF12_holds {xs : Nat → Int32} {L : Nat} {x0 : Nat} {x1 : Int32} {x2 : Int32} {hp : m_H} {x : Int32 × m_H} (h : F12_holds x0 x1 x2 hp = some x) : m_Rn xs L 7 2462 0 (lv_args 0 [.ref x0, .int x1, .int x2]) [] hp (.inl (some (.int x.1)), x.2) :=
  r_lv (SF12_holds_0 x0 x1 x2 hp (K := fun y => y = x) (fun y e => by rw [e]) (m_gdd h).2 rfl) rfl ⟨rfl, rfl, rfl, trivial⟩
-- F12_firstOf: LendHouseModel.firstOf(I)I
theorem eF12_firstOf_0 : m_Fe mi12_63 0 (m_ap [(.aload_n 0, 1)] ((.invokevirtual 268, 3) :: (m_ap [(.istore_n 2, 1), (.iconst 0, 1), (.istore_n 3, 1)] ([])))) := m_Fe_of nd2463 0 5 rfl
theorem eF12_firstOf_7 : m_Fe mi12_63 7 (m_ap [(.iload_n 3, 1), (.aload_n 0, 1), (.iload_n 2, 1)] ((.invokevirtual 271, 3) :: ([(.if_icmp .ge 34, 3)]))) := m_Fe_of nd2463 5 5 rfl
theorem eF12_firstOf_47 : m_Fe mi12_63 47 (m_ap [(.iconst (-1), 1)] ([(.ireturn, 1)])) := m_Fe_of nd2463 27 2 rfl
theorem eF12_firstOf_16 : m_Fe mi12_63 16 (m_ap [(.aload_n 0, 1)] ((.getfield 14, 3) :: (m_ap [(.iload_n 2, 1), (.iload_n 3, 1)] ((.invokestatic 234, 3) :: ((.iaload, 1) :: (m_ap [(.iload_n 1, 1)] ([(.if_icmp .ne 14, 3)]))))))) := m_Fe_of nd2463 10 8 rfl
theorem eF12_firstOf_41 : m_Fe mi12_63 41 (m_ap [(.iinc 3 1, 3)] ([(.goto (-37), 3)])) := m_Fe_of nd2463 25 2 rfl
theorem eF12_firstOf_30 : m_Fe mi12_63 30 (m_ap [(.aload_n 0, 1), (.iload_n 2, 1), (.iload_n 3, 1)] ((.invokevirtual 274, 3) :: ([(.ifCond .eq 5, 3)]))) := m_Fe_of nd2463 18 5 rfl
theorem eF12_firstOf_39 : m_Fe mi12_63 39 (m_ap [(.iload_n 3, 1)] ([(.ireturn, 1)])) := m_Fe_of nd2463 23 2 rfl
theorem SF12_firstOf_7b {xs : Nat → Int32} {L : Nat} (x0 : Nat) (x1 : Int32) (x2 : Int32) (s : Int32 × m_H) {r : m_O × m_H} {K : ((Int32 × m_H) ⊕ (Int32 × m_H)) → Prop} (k0 : ∀ x, K (.inr x) → r = (.inl (some (.int x.1)), x.2)) (k1 : ∀ s, K (.inl s) → m_Rn xs L 8 2463 7 [(0, .ref x0), (1, .int x1), (2, .int x2), (3, .int s.1)] [] s.2 r) {t : (Int32 × m_H) ⊕ (Int32 × m_H)} (h : F12_firstOf_7b x0 x1 x2 s = some t) (hK : K t) : m_Rn xs L 8 2463 7 [(0, .ref x0), (1, .int x1), (2, .int x2), (3, .int s.1)] [] s.2 r := by
  unfold F12_firstOf_7b at h
  refine g_in eF12_firstOf_7 mx2463 ?_
  refine g_ch [(0, .ref x0), (1, .int x1), (2, .int x2), (3, .int s.1)] [.int x2, .ref x0, .int s.1] (pc' := 10) rfl rfl rfl ?_
  obtain ⟨v2, e1, h⟩ := m_bd h
  refine g_call (v := some (.int v2)) (h := s.2) (st' := [.int v2, .int s.1]) (D1 := 1) (as := [.ref x0, .int x2]) (Or.inr (Or.inl rfl)) q12_m271 (m_cv (as := [.int x2]) (rest := [.int s.1]) (Or.inl rfl) q12_m271 jv2460 (OF12_linesOf e1) rfl rfl rfl rfl) (by decide) (SF12_linesOf e1) rfl ?_
  rcases m_ifd h with ⟨c3, h⟩ | ⟨c3, h⟩
  · refine g_if (t := 47) rfl (m_geT c3) ?_
    refine g_in eF12_firstOf_47 mx2463 ?_
    refine g_ch [(0, .ref x0), (1, .int x1), (2, .int x2), (3, .int s.1)] [.int (-1)] (pc' := 48) rfl rfl rfl ?_
    cases h
    rw [k0 _ hK]
    exact g_iret rfl rfl
  · refine g_ifn (t := 47) rfl (m_geF c3) ?_
    refine g_in eF12_firstOf_16 mx2463 ?_
    refine g_ch [(0, .ref x0), (1, .int x1), (2, .int x2), (3, .int s.1)] [.ref x0] (pc' := 17) rfl rfl rfl ?_
    obtain ⟨v4, e5, h⟩ := m_bd h
    refine g_gr q12_f14 e5 ?_
    refine g_ch [(0, .ref x0), (1, .int x1), (2, .int x2), (3, .int s.1)] [.int s.1, .int x2, .ref v4] (pc' := 22) rfl rfl rfl ?_
    obtain ⟨v7, e6, h⟩ := m_bd h
    refine g_call (v := some (.int v7)) (h := s.2) (st' := [.int v7, .ref v4]) (D1 := 1) (as := [.int x2, .int s.1]) (Or.inl rfl) q12_m234 (m_cs (as := [.int s.1, .int x2]) (rest := [.ref v4]) q12_m234 jv2448 rfl rfl rfl rfl rfl) (by decide) (SF12_lineAt e6) rfl ?_
    obtain ⟨v8, e9, h⟩ := m_bd h
    refine g_ia e9 ?_
    refine g_ch [(0, .ref x0), (1, .int x1), (2, .int x2), (3, .int s.1)] [.int x1, .int v8] (pc' := 27) rfl rfl rfl ?_
    rcases m_ifd h with ⟨c10, h⟩ | ⟨c10, h⟩
    · refine g_ifn (t := 41) rfl (m_neF c10) ?_
      refine g_in eF12_firstOf_30 mx2463 ?_
      refine g_ch [(0, .ref x0), (1, .int x1), (2, .int x2), (3, .int s.1)] [.int s.1, .int x2, .ref x0] (pc' := 33) rfl rfl rfl ?_
      obtain ⟨z12, e11, h⟩ := m_bd h
      refine g_call (v := some (.int z12.1)) (h := z12.2) (st' := [.int z12.1]) (D1 := 7) (as := [.ref x0, .int x2, .int s.1]) (Or.inr (Or.inl rfl)) q12_m274 (m_cv (as := [.int s.1, .int x2]) (rest := []) (Or.inl rfl) q12_m274 jv2462 (OF12_holds e11) rfl rfl rfl rfl) (by decide) (SF12_holds e11) rfl ?_
      rcases m_ifd h with ⟨c13, h⟩ | ⟨c13, h⟩
      · refine g_ifc (t := 41) rfl (m_eqT c13) ?_
        refine g_in eF12_firstOf_41 mx2463 ?_
        refine g_ch [(3, .int (s.1 + 1)), (0, .ref x0), (1, .int x1), (2, .int x2)] [] (pc' := 44) rfl rfl rfl ?_
        refine g_goto (t := 7) rfl ?_
        cases h
        exact r_lv (k1 ((s.1 + 1), z12.2) hK) rfl ⟨rfl, rfl, rfl, rfl, trivial⟩
      · refine g_ifcn (t := 41) rfl (m_eqF c13) ?_
        refine g_in eF12_firstOf_39 mx2463 ?_
        refine g_ch [(0, .ref x0), (1, .int x1), (2, .int x2), (3, .int s.1)] [.int s.1] (pc' := 40) rfl rfl rfl ?_
        cases h
        rw [k0 _ hK]
        exact g_iret rfl rfl
    · refine g_if (t := 41) rfl (m_neT c10) ?_
      refine g_in eF12_firstOf_41 mx2463 ?_
      refine g_ch [(3, .int (s.1 + 1)), (0, .ref x0), (1, .int x1), (2, .int x2)] [] (pc' := 44) rfl rfl rfl ?_
      refine g_goto (t := 7) rfl ?_
      cases h
      exact r_lv (k1 ((s.1 + 1), s.2) hK) rfl ⟨rfl, rfl, rfl, rfl, trivial⟩
theorem SF12_firstOf_7 {xs : Nat → Int32} {L : Nat} (x0 : Nat) (x1 : Int32) (x2 : Int32) (x3 : Int32) (hp : m_H) {r : m_O × m_H} {K : Int32 × m_H → Prop} (k0 : ∀ x, K x → r = (.inl (some (.int x.1)), x.2)) {t : Int32 × m_H} (h : F12_firstOf_7 x0 x1 x2 x3 hp = some t) (hK : K t) : m_Rn xs L 8 2463 7 [(0, .ref x0), (1, .int x1), (2, .int x2), (3, .int x3)] [] hp r :=
  m_wh_ok (P := fun s => m_Rn xs L 8 2463 7 [(0, .ref x0), (1, .int x1), (2, .int x2), (3, .int s.1)] [] s.2 r) (Q := K) (fun s t hb hK => SF12_firstOf_7b x0 x1 x2 s (K := m_KK (fun s => m_Rn xs L 8 2463 7 [(0, .ref x0), (1, .int x1), (2, .int x2), (3, .int s.1)] [] s.2 r) K) k0 (fun _ q => q) hb hK) m_N _ _ h hK
theorem SF12_firstOf_0 {xs : Nat → Int32} {L : Nat} (x0 : Nat) (x1 : Int32) (hp : m_H) {r : m_O × m_H} {K : (Int32 × m_H) → Prop} (k0 : ∀ x, K x → r = (.inl (some (.int x.1)), x.2)) {t : Int32 × m_H} (h : F12_firstOf_0 x0 x1 hp = some t) (hK : K t) : m_Rn xs L 8 2463 0 [(0, .ref x0), (1, .int x1)] [] hp r := by
  unfold F12_firstOf_0 at h
  refine g_in eF12_firstOf_0 mx2463 ?_
  refine g_ch [(0, .ref x0), (1, .int x1)] [.ref x0] (pc' := 1) rfl rfl rfl ?_
  obtain ⟨v2, e1, h⟩ := m_bd h
  refine g_call (v := some (.int v2)) (h := hp) (st' := [.int v2]) (D1 := 1) (as := [.ref x0]) (Or.inr (Or.inl rfl)) q12_m268 (m_cv (as := []) (rest := []) (Or.inl rfl) q12_m268 jv2459 (OF12_text e1) rfl rfl rfl rfl) (by decide) (SF12_text e1) rfl ?_
  refine g_ch [(3, .int 0), (2, .int v2), (0, .ref x0), (1, .int x1)] [] (pc' := 7) rfl rfl rfl ?_
  refine g_end ?_
  exact r_lv (SF12_firstOf_7 x0 x1 v2 0 hp (K := K) k0 h hK) rfl ⟨rfl, rfl, rfl, rfl, trivial⟩
theorem OF12_firstOf {x0 : Nat} {x1 : Int32} {hp : m_H} {x : Int32 × m_H} (h : F12_firstOf x0 x1 hp = some x) : m_isO hp 9 x0 = true := (m_gdd h).1
theorem SF12_firstOf {xs : Nat → Int32} {L : Nat} {x0 : Nat} {x1 : Int32} {hp : m_H} {x : Int32 × m_H} (h : F12_firstOf x0 x1 hp = some x) : m_Rn xs L 8 2463 0 (lv_args 0 [.ref x0, .int x1]) [] hp (.inl (some (.int x.1)), x.2) :=
  r_lv (SF12_firstOf_0 x0 x1 hp (K := fun y => y = x) (fun y e => by rw [e]) (m_gdd h).2 rfl) rfl ⟨rfl, rfl, trivial⟩
-- F12_allOf: LendHouseModel.allOf(I)I
theorem eF12_allOf_0 : m_Fe mi12_64 0 (m_ap [(.aload_n 0, 1)] ((.invokevirtual 268, 3) :: (m_ap [(.istore_n 2, 1), (.iconst 0, 1), (.istore_n 3, 1), (.iconst 0, 1), (.istore 4, 2)] ([])))) := m_Fe_of nd2464 0 7 rfl
theorem eF12_allOf_10 : m_Fe mi12_64 10 (m_ap [(.iload 4, 2), (.aload_n 0, 1), (.iload_n 2, 1)] ((.invokevirtual 271, 3) :: ([(.if_icmp .ge 78, 3)]))) := m_Fe_of nd2464 7 5 rfl
theorem eF12_allOf_95 : m_Fe mi12_64 95 (m_ap [(.iload_n 3, 1)] ([(.ireturn, 1)])) := m_Fe_of nd2464 53 2 rfl
theorem eF12_allOf_20 : m_Fe mi12_64 20 (m_ap [(.aload_n 0, 1)] ((.getfield 14, 3) :: (m_ap [(.iload_n 2, 1), (.iload 4, 2)] ((.invokestatic 234, 3) :: ((.iaload, 1) :: (m_ap [(.iload_n 1, 1)] ([(.if_icmp .ne 57, 3)]))))))) := m_Fe_of nd2464 12 8 rfl
theorem eF12_allOf_89 : m_Fe mi12_64 89 (m_ap [(.iinc 4 1, 3)] ([(.goto (-82), 3)])) := m_Fe_of nd2464 51 2 rfl
theorem eF12_allOf_35 : m_Fe mi12_64 35 (m_ap [(.aload_n 0, 1), (.iload_n 2, 1), (.iload 4, 2)] ((.invokevirtual 274, 3) :: ([(.ifCond .ne 6, 3)]))) := m_Fe_of nd2464 20 5 rfl
theorem eF12_allOf_48 : m_Fe mi12_64 48 (m_ap [(.iload_n 1, 1), (.iconst 1, 1)] ([(.if_icmp .ne 21, 3)])) := m_Fe_of nd2464 26 3 rfl
theorem eF12_allOf_71 : m_Fe mi12_64 71 (m_ap [(.iload_n 3, 1), (.aload_n 0, 1)] ((.getfield 14, 3) :: (m_ap [(.iload_n 2, 1), (.iload 4, 2)] ((.invokestatic 234, 3) :: (m_ap [(.iconst 1, 1), (.iadd, 1)] ((.iaload, 1) :: ([(.invokestatic 277, 3)]))))))) := m_Fe_of nd2464 40 10 rfl
theorem eF12_allOf_88 : m_Fe mi12_64 88 (m_ap [(.istore_n 3, 1)] ([])) := m_Fe_of nd2464 50 1 rfl
theorem eF12_allOf_53 : m_Fe mi12_64 53 (m_ap [(.iload_n 3, 1), (.aload_n 0, 1)] ((.getfield 14, 3) :: (m_ap [(.iload_n 2, 1), (.iload 4, 2)] ((.invokestatic 234, 3) :: (m_ap [(.iconst 1, 1), (.iadd, 1)] ((.iaload, 1) :: (m_ap [(.iadd, 1)] ([(.goto 20, 3)])))))))) := m_Fe_of nd2464 29 11 rfl
theorem eF12_allOf_45 : m_Fe mi12_64 45 ([(.goto 44, 3)]) := m_Fe_of nd2464 25 1 rfl
theorem SF12_allOf_10b {xs : Nat → Int32} {L : Nat} (x0 : Nat) (x1 : Int32) (x2 : Int32) (s : Int32 × Int32 × m_H) {r : m_O × m_H} {K : ((Int32 × Int32 × m_H) ⊕ (Int32 × m_H)) → Prop} (k0 : ∀ x, K (.inr x) → r = (.inl (some (.int x.1)), x.2)) (k1 : ∀ s, K (.inl s) → m_Rn xs L 8 2464 10 [(0, .ref x0), (1, .int x1), (2, .int x2), (3, .int s.1), (4, .int s.2.1)] [] s.2.2 r) {t : (Int32 × Int32 × m_H) ⊕ (Int32 × m_H)} (h : F12_allOf_10b x0 x1 x2 s = some t) (hK : K t) : m_Rn xs L 8 2464 10 [(0, .ref x0), (1, .int x1), (2, .int x2), (3, .int s.1), (4, .int s.2.1)] [] s.2.2 r := by
  unfold F12_allOf_10b at h
  refine g_in eF12_allOf_10 mx2464 ?_
  refine g_ch [(0, .ref x0), (1, .int x1), (2, .int x2), (3, .int s.1), (4, .int s.2.1)] [.int x2, .ref x0, .int s.2.1] (pc' := 14) rfl rfl rfl ?_
  obtain ⟨v2, e1, h⟩ := m_bd h
  refine g_call (v := some (.int v2)) (h := s.2.2) (st' := [.int v2, .int s.2.1]) (D1 := 1) (as := [.ref x0, .int x2]) (Or.inr (Or.inl rfl)) q12_m271 (m_cv (as := [.int x2]) (rest := [.int s.2.1]) (Or.inl rfl) q12_m271 jv2460 (OF12_linesOf e1) rfl rfl rfl rfl) (by decide) (SF12_linesOf e1) rfl ?_
  rcases m_ifd h with ⟨c3, h⟩ | ⟨c3, h⟩
  · refine g_if (t := 95) rfl (m_geT c3) ?_
    refine g_in eF12_allOf_95 mx2464 ?_
    refine g_ch [(0, .ref x0), (1, .int x1), (2, .int x2), (3, .int s.1), (4, .int s.2.1)] [.int s.1] (pc' := 96) rfl rfl rfl ?_
    cases h
    rw [k0 _ hK]
    exact g_iret rfl rfl
  · refine g_ifn (t := 95) rfl (m_geF c3) ?_
    refine g_in eF12_allOf_20 mx2464 ?_
    refine g_ch [(0, .ref x0), (1, .int x1), (2, .int x2), (3, .int s.1), (4, .int s.2.1)] [.ref x0] (pc' := 21) rfl rfl rfl ?_
    obtain ⟨v4, e5, h⟩ := m_bd h
    refine g_gr q12_f14 e5 ?_
    refine g_ch [(0, .ref x0), (1, .int x1), (2, .int x2), (3, .int s.1), (4, .int s.2.1)] [.int s.2.1, .int x2, .ref v4] (pc' := 27) rfl rfl rfl ?_
    obtain ⟨v7, e6, h⟩ := m_bd h
    refine g_call (v := some (.int v7)) (h := s.2.2) (st' := [.int v7, .ref v4]) (D1 := 1) (as := [.int x2, .int s.2.1]) (Or.inl rfl) q12_m234 (m_cs (as := [.int s.2.1, .int x2]) (rest := [.ref v4]) q12_m234 jv2448 rfl rfl rfl rfl rfl) (by decide) (SF12_lineAt e6) rfl ?_
    obtain ⟨v8, e9, h⟩ := m_bd h
    refine g_ia e9 ?_
    refine g_ch [(0, .ref x0), (1, .int x1), (2, .int x2), (3, .int s.1), (4, .int s.2.1)] [.int x1, .int v8] (pc' := 32) rfl rfl rfl ?_
    rcases m_ifd h with ⟨c10, h⟩ | ⟨c10, h⟩
    · refine g_ifn (t := 89) rfl (m_neF c10) ?_
      refine g_in eF12_allOf_35 mx2464 ?_
      refine g_ch [(0, .ref x0), (1, .int x1), (2, .int x2), (3, .int s.1), (4, .int s.2.1)] [.int s.2.1, .int x2, .ref x0] (pc' := 39) rfl rfl rfl ?_
      obtain ⟨z12, e11, h⟩ := m_bd h
      refine g_call (v := some (.int z12.1)) (h := z12.2) (st' := [.int z12.1]) (D1 := 7) (as := [.ref x0, .int x2, .int s.2.1]) (Or.inr (Or.inl rfl)) q12_m274 (m_cv (as := [.int s.2.1, .int x2]) (rest := []) (Or.inl rfl) q12_m274 jv2462 (OF12_holds e11) rfl rfl rfl rfl) (by decide) (SF12_holds e11) rfl ?_
      rcases m_ifd h with ⟨c13, h⟩ | ⟨c13, h⟩
      · refine g_ifcn (t := 48) rfl (m_neF c13) ?_
        refine g_in eF12_allOf_45 mx2464 ?_
        refine g_goto (t := 89) rfl ?_
        refine g_in eF12_allOf_89 mx2464 ?_
        refine g_ch [(4, .int (s.2.1 + 1)), (0, .ref x0), (1, .int x1), (2, .int x2), (3, .int s.1)] [] (pc' := 92) rfl rfl rfl ?_
        refine g_goto (t := 10) rfl ?_
        cases h
        exact r_lv (k1 (s.1, (s.2.1 + 1), z12.2) hK) rfl ⟨rfl, rfl, rfl, rfl, rfl, trivial⟩
      · refine g_ifc (t := 48) rfl (m_neT c13) ?_
        refine g_in eF12_allOf_48 mx2464 ?_
        refine g_ch [(0, .ref x0), (1, .int x1), (2, .int x2), (3, .int s.1), (4, .int s.2.1)] [.int 1, .int x1] (pc' := 50) rfl rfl rfl ?_
        rcases m_ifd h with ⟨c14, h⟩ | ⟨c14, h⟩
        · refine g_ifn (t := 71) rfl (m_neF c14) ?_
          refine g_in eF12_allOf_53 mx2464 ?_
          refine g_ch [(0, .ref x0), (1, .int x1), (2, .int x2), (3, .int s.1), (4, .int s.2.1)] [.ref x0, .int s.1] (pc' := 55) rfl rfl rfl ?_
          obtain ⟨v21, e22, h⟩ := m_bd h
          refine g_gr q12_f14 e22 ?_
          refine g_ch [(0, .ref x0), (1, .int x1), (2, .int x2), (3, .int s.1), (4, .int s.2.1)] [.int s.2.1, .int x2, .ref v21, .int s.1] (pc' := 61) rfl rfl rfl ?_
          obtain ⟨v24, e23, h⟩ := m_bd h
          refine g_call (v := some (.int v24)) (h := z12.2) (st' := [.int v24, .ref v21, .int s.1]) (D1 := 1) (as := [.int x2, .int s.2.1]) (Or.inl rfl) q12_m234 (m_cs (as := [.int s.2.1, .int x2]) (rest := [.ref v21, .int s.1]) q12_m234 jv2448 rfl rfl rfl rfl rfl) (by decide) (SF12_lineAt e23) rfl ?_
          refine g_ch [(0, .ref x0), (1, .int x1), (2, .int x2), (3, .int s.1), (4, .int s.2.1)] [.int (v24 + 1), .ref v21, .int s.1] (pc' := 66) rfl rfl rfl ?_
          obtain ⟨v25, e26, h⟩ := m_bd h
          refine g_ia e26 ?_
          refine g_ch [(0, .ref x0), (1, .int x1), (2, .int x2), (3, .int s.1), (4, .int s.2.1)] [.int (s.1 + v25)] (pc' := 68) rfl rfl rfl ?_
          refine g_goto (t := 88) rfl ?_
          refine g_in eF12_allOf_88 mx2464 ?_
          refine g_ch [(3, .int (s.1 + v25)), (0, .ref x0), (1, .int x1), (2, .int x2), (4, .int s.2.1)] [] (pc' := 89) rfl rfl rfl ?_
          refine g_end ?_
          refine g_in eF12_allOf_89 mx2464 ?_
          refine g_ch [(4, .int (s.2.1 + 1)), (3, .int (s.1 + v25)), (0, .ref x0), (1, .int x1), (2, .int x2)] [] (pc' := 92) rfl rfl rfl ?_
          refine g_goto (t := 10) rfl ?_
          cases h
          exact r_lv (k1 ((s.1 + v25), (s.2.1 + 1), z12.2) hK) rfl ⟨rfl, rfl, rfl, rfl, rfl, trivial⟩
        · refine g_if (t := 71) rfl (m_neT c14) ?_
          refine g_in eF12_allOf_71 mx2464 ?_
          refine g_ch [(0, .ref x0), (1, .int x1), (2, .int x2), (3, .int s.1), (4, .int s.2.1)] [.ref x0, .int s.1] (pc' := 73) rfl rfl rfl ?_
          obtain ⟨v15, e16, h⟩ := m_bd h
          refine g_gr q12_f14 e16 ?_
          refine g_ch [(0, .ref x0), (1, .int x1), (2, .int x2), (3, .int s.1), (4, .int s.2.1)] [.int s.2.1, .int x2, .ref v15, .int s.1] (pc' := 79) rfl rfl rfl ?_
          obtain ⟨v18, e17, h⟩ := m_bd h
          refine g_call (v := some (.int v18)) (h := z12.2) (st' := [.int v18, .ref v15, .int s.1]) (D1 := 1) (as := [.int x2, .int s.2.1]) (Or.inl rfl) q12_m234 (m_cs (as := [.int s.2.1, .int x2]) (rest := [.ref v15, .int s.1]) q12_m234 jv2448 rfl rfl rfl rfl rfl) (by decide) (SF12_lineAt e17) rfl ?_
          refine g_ch [(0, .ref x0), (1, .int x1), (2, .int x2), (3, .int s.1), (4, .int s.2.1)] [.int (v18 + 1), .ref v15, .int s.1] (pc' := 84) rfl rfl rfl ?_
          obtain ⟨v19, e20, h⟩ := m_bd h
          refine g_ia e20 ?_
          refine g_nat (Or.inl rfl) q12_m277 rfl (z := ([.int (m_max s.1 v19)], z12.2)) rfl (by decide) ?_
          refine g_end ?_
          refine g_in eF12_allOf_88 mx2464 ?_
          refine g_ch [(3, .int (m_max s.1 v19)), (0, .ref x0), (1, .int x1), (2, .int x2), (4, .int s.2.1)] [] (pc' := 89) rfl rfl rfl ?_
          refine g_end ?_
          refine g_in eF12_allOf_89 mx2464 ?_
          refine g_ch [(4, .int (s.2.1 + 1)), (3, .int (m_max s.1 v19)), (0, .ref x0), (1, .int x1), (2, .int x2)] [] (pc' := 92) rfl rfl rfl ?_
          refine g_goto (t := 10) rfl ?_
          cases h
          exact r_lv (k1 ((m_max s.1 v19), (s.2.1 + 1), z12.2) hK) rfl ⟨rfl, rfl, rfl, rfl, rfl, trivial⟩
    · refine g_if (t := 89) rfl (m_neT c10) ?_
      refine g_in eF12_allOf_89 mx2464 ?_
      refine g_ch [(4, .int (s.2.1 + 1)), (0, .ref x0), (1, .int x1), (2, .int x2), (3, .int s.1)] [] (pc' := 92) rfl rfl rfl ?_
      refine g_goto (t := 10) rfl ?_
      cases h
      exact r_lv (k1 (s.1, (s.2.1 + 1), s.2.2) hK) rfl ⟨rfl, rfl, rfl, rfl, rfl, trivial⟩
theorem SF12_allOf_10 {xs : Nat → Int32} {L : Nat} (x0 : Nat) (x1 : Int32) (x2 : Int32) (x3 : Int32) (x4 : Int32) (hp : m_H) {r : m_O × m_H} {K : Int32 × m_H → Prop} (k0 : ∀ x, K x → r = (.inl (some (.int x.1)), x.2)) {t : Int32 × m_H} (h : F12_allOf_10 x0 x1 x2 x3 x4 hp = some t) (hK : K t) : m_Rn xs L 8 2464 10 [(0, .ref x0), (1, .int x1), (2, .int x2), (3, .int x3), (4, .int x4)] [] hp r :=
  m_wh_ok (P := fun s => m_Rn xs L 8 2464 10 [(0, .ref x0), (1, .int x1), (2, .int x2), (3, .int s.1), (4, .int s.2.1)] [] s.2.2 r) (Q := K) (fun s t hb hK => SF12_allOf_10b x0 x1 x2 s (K := m_KK (fun s => m_Rn xs L 8 2464 10 [(0, .ref x0), (1, .int x1), (2, .int x2), (3, .int s.1), (4, .int s.2.1)] [] s.2.2 r) K) k0 (fun _ q => q) hb hK) m_N _ _ h hK
theorem SF12_allOf_0 {xs : Nat → Int32} {L : Nat} (x0 : Nat) (x1 : Int32) (hp : m_H) {r : m_O × m_H} {K : (Int32 × m_H) → Prop} (k0 : ∀ x, K x → r = (.inl (some (.int x.1)), x.2)) {t : Int32 × m_H} (h : F12_allOf_0 x0 x1 hp = some t) (hK : K t) : m_Rn xs L 8 2464 0 [(0, .ref x0), (1, .int x1)] [] hp r := by
  unfold F12_allOf_0 at h
  refine g_in eF12_allOf_0 mx2464 ?_
  refine g_ch [(0, .ref x0), (1, .int x1)] [.ref x0] (pc' := 1) rfl rfl rfl ?_
  obtain ⟨v2, e1, h⟩ := m_bd h
  refine g_call (v := some (.int v2)) (h := hp) (st' := [.int v2]) (D1 := 1) (as := [.ref x0]) (Or.inr (Or.inl rfl)) q12_m268 (m_cv (as := []) (rest := []) (Or.inl rfl) q12_m268 jv2459 (OF12_text e1) rfl rfl rfl rfl) (by decide) (SF12_text e1) rfl ?_
  refine g_ch [(4, .int 0), (3, .int 0), (2, .int v2), (0, .ref x0), (1, .int x1)] [] (pc' := 10) rfl rfl rfl ?_
  refine g_end ?_
  exact r_lv (SF12_allOf_10 x0 x1 v2 0 0 hp (K := K) k0 h hK) rfl ⟨rfl, rfl, rfl, rfl, rfl, trivial⟩
theorem OF12_allOf {x0 : Nat} {x1 : Int32} {hp : m_H} {x : Int32 × m_H} (h : F12_allOf x0 x1 hp = some x) : m_isO hp 9 x0 = true := (m_gdd h).1
theorem SF12_allOf {xs : Nat → Int32} {L : Nat} {x0 : Nat} {x1 : Int32} {hp : m_H} {x : Int32 × m_H} (h : F12_allOf x0 x1 hp = some x) : m_Rn xs L 8 2464 0 (lv_args 0 [.ref x0, .int x1]) [] hp (.inl (some (.int x.1)), x.2) :=
  r_lv (SF12_allOf_0 x0 x1 hp (K := fun y => y = x) (fun y e => by rw [e]) (m_gdd h).2 rfl) rfl ⟨rfl, rfl, trivial⟩
-- F12_requestAt: LendHouseModel.requestAt(I)I
theorem eF12_requestAt_0 : m_Fe mi12_65 0 (m_ap [(.sipush 2909, 3), (.iconst 5, 1), (.iload_n 0, 1), (.imul, 1), (.iadd, 1)] ([(.ireturn, 1)])) := m_Fe_of nd2465 0 6 rfl
theorem SF12_requestAt_0 {xs : Nat → Int32} {L : Nat} (x0 : Int32) (hp : m_H) {r : m_O × m_H} {K : Int32 → Prop} (k0 : ∀ x, K x → r = (.inl (some (.int x)), hp)) {t : Int32} (h : F12_requestAt_0 x0 hp = some t) (hK : K t) : m_Rn xs L 0 2465 0 [(0, .int x0)] [] hp r := by
  unfold F12_requestAt_0 at h
  refine g_in eF12_requestAt_0 mx2465 ?_
  refine g_ch [(0, .int x0)] [.int (2909 + (5 * x0))] (pc' := 7) rfl rfl rfl ?_
  cases h
  rw [k0 _ hK]
  exact g_iret rfl rfl
theorem SF12_requestAt {xs : Nat → Int32} {L : Nat} {x0 : Int32} {hp : m_H} {x : Int32} (h : F12_requestAt x0 hp = some x) : m_Rn xs L 0 2465 0 (lv_args 0 [.int x0]) [] hp (.inl (some (.int x)), hp) :=
  r_lv (SF12_requestAt_0 x0 hp (K := fun y => y = x) (fun y e => by rw [e]) h rfl) rfl ⟨rfl, trivial⟩
-- F12_noRequest: LendHouseModel.noRequest(I)Z
theorem eF12_noRequest_0 : m_Fe mi12_66 0 (m_ap [(.iload_n 1, 1), (.iconst 0, 1), (.aload_n 0, 1)] ((.getfield 14, 3) :: (m_ap [(.sipush 2908, 3)] ((.iaload, 1) :: (m_ap [(.iconst 1, 1), (.isub, 1)] ((.invokestatic 74, 3) :: ([(.ifCond .ne 7, 3)]))))))) := m_Fe_of nd2466 0 10 rfl
theorem eF12_noRequest_22 : m_Fe mi12_66 22 (m_ap [(.iconst 0, 1)] ([])) := m_Fe_of nd2466 12 1 rfl
theorem eF12_noRequest_23 : m_Fe mi12_66 23 ([(.ireturn, 1)]) := m_Fe_of nd2466 13 1 rfl
theorem eF12_noRequest_18 : m_Fe mi12_66 18 (m_ap [(.iconst 1, 1)] ([(.goto 4, 3)])) := m_Fe_of nd2466 10 2 rfl
theorem SF12_noRequest_0 {xs : Nat → Int32} {L : Nat} (x0 : Nat) (x1 : Int32) (hp : m_H) {r : m_O × m_H} {K : Int32 → Prop} (k0 : ∀ x, K x → r = (.inl (some (.int x)), hp)) {t : Int32} (h : F12_noRequest_0 x0 x1 hp = some t) (hK : K t) : m_Rn xs L 1 2466 0 [(0, .ref x0), (1, .int x1)] [] hp r := by
  unfold F12_noRequest_0 at h
  refine g_in eF12_noRequest_0 mx2466 ?_
  refine g_ch [(0, .ref x0), (1, .int x1)] [.ref x0, .int 0, .int x1] (pc' := 3) rfl rfl rfl ?_
  obtain ⟨v1, e2, h⟩ := m_bd h
  refine g_gr q12_f14 e2 ?_
  refine g_ch [(0, .ref x0), (1, .int x1)] [.int 2908, .ref v1, .int 0, .int x1] (pc' := 9) rfl rfl rfl ?_
  obtain ⟨v3, e4, h⟩ := m_bd h
  refine g_ia e4 ?_
  refine g_ch [(0, .ref x0), (1, .int x1)] [.int (v3 - 1), .int 0, .int x1] (pc' := 12) rfl rfl rfl ?_
  obtain ⟨v6, e5, h⟩ := m_bd h
  refine g_call (v := some (.int v6)) (h := hp) (st' := [.int v6]) (D1 := 0) (as := [.int x1, .int 0, .int (v3 - 1)]) (Or.inl rfl) q12_m74 (m_cs (as := [.int (v3 - 1), .int 0, .int x1]) (rest := []) q12_m74 jv2402 rfl rfl rfl rfl rfl) (by decide) (SF12_in e5) rfl ?_
  rcases m_ifd h with ⟨c7, h⟩ | ⟨c7, h⟩
  · refine g_ifcn (t := 22) rfl (m_neF c7) ?_
    refine g_in eF12_noRequest_18 mx2466 ?_
    refine g_ch [(0, .ref x0), (1, .int x1)] [.int 1] (pc' := 19) rfl rfl rfl ?_
    refine g_goto (t := 23) rfl ?_
    refine g_in eF12_noRequest_23 mx2466 ?_
    cases h
    rw [k0 _ hK]
    exact g_iret rfl (by decide +kernel)
  · refine g_ifc (t := 22) rfl (m_neT c7) ?_
    refine g_in eF12_noRequest_22 mx2466 ?_
    refine g_ch [(0, .ref x0), (1, .int x1)] [.int 0] (pc' := 23) rfl rfl rfl ?_
    refine g_end ?_
    refine g_in eF12_noRequest_23 mx2466 ?_
    cases h
    rw [k0 _ hK]
    exact g_iret rfl (by decide +kernel)
theorem OF12_noRequest {x0 : Nat} {x1 : Int32} {hp : m_H} {x : Int32} (h : F12_noRequest x0 x1 hp = some x) : m_isO hp 9 x0 = true := (m_gdd h).1
theorem SF12_noRequest {xs : Nat → Int32} {L : Nat} {x0 : Nat} {x1 : Int32} {hp : m_H} {x : Int32} (h : F12_noRequest x0 x1 hp = some x) : m_Rn xs L 1 2466 0 (lv_args 0 [.ref x0, .int x1]) [] hp (.inl (some (.int x)), hp) :=
  r_lv (SF12_noRequest_0 x0 x1 hp (K := fun y => y = x) (fun y e => by rw [e]) (m_gdd h).2 rfl) rfl ⟨rfl, rfl, trivial⟩
-- F12_ask: LendHouseModel.ask(IIII)I
theorem eF12_ask_0 : m_Fe mi12_67 0 (m_ap [(.aload_n 0, 1), (.iconst 0, 1)] ((.putfield 3, 3) :: (m_ap [(.aload_n 0, 1), (.iload_n 1, 1)] ((.invokestatic 103, 3) :: ([(.ifCond .ne 10, 3)]))))) := m_Fe_of nd2467 0 7 rfl
theorem eF12_ask_13 : m_Fe mi12_67 13 (m_ap [(.iload_n 2, 1)] ((.invokestatic 78, 3) :: ([(.ifCond .eq 7, 3)]))) := m_Fe_of nd2467 7 3 rfl
theorem eF12_ask_24 : m_Fe mi12_67 24 (m_ap [(.iconst 0, 1)] ([])) := m_Fe_of nd2467 12 1 rfl
theorem eF12_ask_20 : m_Fe mi12_67 20 (m_ap [(.iconst 1, 1)] ([(.goto 4, 3)])) := m_Fe_of nd2467 10 2 rfl
theorem eF12_ask_25 : m_Fe mi12_67 25 (m_ap [(.iconst 1, 1)] ((.invokevirtual 82, 3) :: ([(.ifCond .ne 69, 3)]))) := m_Fe_of nd2467 13 3 rfl
theorem eF12_ask_98 : m_Fe mi12_67 98 (m_ap [(.iconst 0, 1)] ([(.ireturn, 1)])) := m_Fe_of nd2467 48 2 rfl
theorem eF12_ask_32 : m_Fe mi12_67 32 (m_ap [(.aload_n 0, 1), (.iload_n 1, 1)] ([(.ifCond .eq 26, 3)])) := m_Fe_of nd2467 16 3 rfl
theorem eF12_ask_37 : m_Fe mi12_67 37 (m_ap [(.iload_n 3, 1), (.iconst 1, 1), (.sipush 1000, 3)] ((.invokestatic 74, 3) :: ([(.ifCond .eq 15, 3)]))) := m_Fe_of nd2467 19 5 rfl
theorem eF12_ask_48 : m_Fe mi12_67 48 (m_ap [(.iload 4, 2), (.iconst 0, 1), (.sipush 9999, 3)] ((.invokestatic 74, 3) :: ([(.ifCond .ne 7, 3)]))) := m_Fe_of nd2467 24 5 rfl
theorem eF12_ask_64 : m_Fe mi12_67 64 (m_ap [(.iconst 0, 1)] ([])) := m_Fe_of nd2467 31 1 rfl
theorem eF12_ask_60 : m_Fe mi12_67 60 (m_ap [(.iconst 1, 1)] ([(.goto 4, 3)])) := m_Fe_of nd2467 29 2 rfl
theorem eF12_ask_65 : m_Fe mi12_67 65 (m_ap [(.iconst 2, 1)] ((.invokevirtual 82, 3) :: ([(.ifCond .ne 29, 3)]))) := m_Fe_of nd2467 32 3 rfl
theorem eF12_ask_72 : m_Fe mi12_67 72 (m_ap [(.aload_n 0, 1), (.aload_n 0, 1)] ((.getfield 14, 3) :: (m_ap [(.sipush 2908, 3)] ((.iaload, 1) :: (m_ap [(.bipush 60, 2)] ([(.if_icmp .ne 7, 3)])))))) := m_Fe_of nd2467 35 7 rfl
theorem eF12_ask_90 : m_Fe mi12_67 90 (m_ap [(.iconst 0, 1)] ([])) := m_Fe_of nd2467 44 1 rfl
theorem eF12_ask_86 : m_Fe mi12_67 86 (m_ap [(.iconst 1, 1)] ([(.goto 4, 3)])) := m_Fe_of nd2467 42 2 rfl
theorem eF12_ask_91 : m_Fe mi12_67 91 (m_ap [(.iconst 3, 1)] ((.invokevirtual 82, 3) :: ([(.ifCond .eq 5, 3)]))) := m_Fe_of nd2467 45 3 rfl
theorem eF12_ask_100 : m_Fe mi12_67 100 (m_ap [(.aload_n 0, 1)] ((.getfield 14, 3) :: (m_ap [(.sipush 2908, 3)] ((.iaload, 1) :: (m_ap [(.istore 5, 2), (.iload 5, 2)] ((.invokestatic 279, 3) :: (m_ap [(.istore 6, 2), (.aload_n 0, 1)] ((.getfield 14, 3) :: (m_ap [(.iload 6, 2), (.iload_n 1, 1)] ((.iastore, 1) :: (m_ap [(.aload_n 0, 1)] ((.getfield 14, 3) :: (m_ap [(.iload 6, 2), (.iconst 1, 1), (.iadd, 1), (.iload_n 2, 1)] ((.iastore, 1) :: (m_ap [(.aload_n 0, 1)] ((.getfield 14, 3) :: (m_ap [(.iload 6, 2), (.iconst 2, 1), (.iadd, 1), (.iload_n 3, 1)] ((.iastore, 1) :: (m_ap [(.aload_n 0, 1)] ((.getfield 14, 3) :: (m_ap [(.iload 6, 2), (.iconst 3, 1), (.iadd, 1), (.iload 4, 2)] ((.iastore, 1) :: (m_ap [(.aload_n 0, 1)] ((.getfield 14, 3) :: (m_ap [(.iload 6, 2), (.iconst 4, 1), (.iadd, 1), (.iconst 0, 1)] ((.iastore, 1) :: (m_ap [(.aload_n 0, 1)] ((.getfield 14, 3) :: (m_ap [(.sipush 2908, 3), (.dup2, 1)] ((.iaload, 1) :: (m_ap [(.iconst 1, 1), (.iadd, 1)] ((.iastore, 1) :: (m_ap [(.iload 5, 2)] ([(.ireturn, 1)])))))))))))))))))))))))))))))))))) := m_Fe_of nd2467 50 51 rfl
theorem SF12_ask_91 {xs : Nat → Int32} {L : Nat} (x0 : Nat) (x1 : Int32) (x2 : Int32) (x3 : Int32) (x4 : Int32) (s0 : Int32) (s1 : Nat) (hp : m_H) {r : m_O × m_H} {K : (Int32 × m_H) → Prop} (k0 : ∀ x, K x → r = (.inl (some (.int x.1)), x.2)) {t : Int32 × m_H} (h : F12_ask_91 x0 x1 x2 x3 x4 s0 s1 hp = some t) (hK : K t) : m_Rn xs L 2 2467 91 [(0, .ref x0), (1, .int x1), (2, .int x2), (3, .int x3), (4, .int x4)] [.int s0, .ref s1] hp r := by
  unfold F12_ask_91 at h
  refine g_in eF12_ask_91 mx2467 ?_
  refine g_ch [(0, .ref x0), (1, .int x1), (2, .int x2), (3, .int x3), (4, .int x4)] [.int 3, .int s0, .ref s1] (pc' := 92) rfl rfl rfl ?_
  obtain ⟨z2, e1, h⟩ := m_bd h
  refine g_call (v := some (.int z2.1)) (h := z2.2) (st' := [.int z2.1]) (D1 := 0) (as := [.ref s1, .int s0, .int 3]) (Or.inr (Or.inl rfl)) q12_m82 (m_cv (as := [.int 3, .int s0]) (rest := []) (Or.inl rfl) q12_m82 jv2401 (OF12_throwsIf e1) rfl rfl rfl rfl) (by decide) (SF12_throwsIf e1) rfl ?_
  rcases m_ifd h with ⟨c3, h⟩ | ⟨c3, h⟩
  · refine g_ifc (t := 100) rfl (m_eqT c3) ?_
    refine g_in eF12_ask_100 mx2467 ?_
    refine g_ch [(0, .ref x0), (1, .int x1), (2, .int x2), (3, .int x3), (4, .int x4)] [.ref x0] (pc' := 101) rfl rfl rfl ?_
    obtain ⟨v4, e5, h⟩ := m_bd h
    refine g_gr q12_f14 e5 ?_
    refine g_ch [(0, .ref x0), (1, .int x1), (2, .int x2), (3, .int x3), (4, .int x4)] [.int 2908, .ref v4] (pc' := 107) rfl rfl rfl ?_
    obtain ⟨v6, e7, h⟩ := m_bd h
    refine g_ia e7 ?_
    refine g_ch [(5, .int v6), (0, .ref x0), (1, .int x1), (2, .int x2), (3, .int x3), (4, .int x4)] [.int v6] (pc' := 112) rfl rfl rfl ?_
    obtain ⟨v9, e8, h⟩ := m_bd h
    refine g_call (v := some (.int v9)) (h := z2.2) (st' := [.int v9]) (D1 := 0) (as := [.int v6]) (Or.inl rfl) q12_m279 (m_cs (as := [.int v6]) (rest := []) q12_m279 jv2465 rfl rfl rfl rfl rfl) (by decide) (SF12_requestAt e8) rfl ?_
    refine g_ch [(6, .int v9), (5, .int v6), (0, .ref x0), (1, .int x1), (2, .int x2), (3, .int x3), (4, .int x4)] [.ref x0] (pc' := 118) rfl rfl rfl ?_
    obtain ⟨v10, e11, h⟩ := m_bd h
    refine g_gr q12_f14 e11 ?_
    refine g_ch [(6, .int v9), (5, .int v6), (0, .ref x0), (1, .int x1), (2, .int x2), (3, .int x3), (4, .int x4)] [.int x1, .int v9, .ref v10] (pc' := 124) rfl rfl rfl ?_
    obtain ⟨h12, e13, h⟩ := m_bd h
    refine g_is e13 ?_
    refine g_ch [(6, .int v9), (5, .int v6), (0, .ref x0), (1, .int x1), (2, .int x2), (3, .int x3), (4, .int x4)] [.ref x0] (pc' := 126) rfl rfl rfl ?_
    obtain ⟨v14, e15, h⟩ := m_bd h
    refine g_gr q12_f14 e15 ?_
    refine g_ch [(6, .int v9), (5, .int v6), (0, .ref x0), (1, .int x1), (2, .int x2), (3, .int x3), (4, .int x4)] [.int x2, .int (v9 + 1), .ref v14] (pc' := 134) rfl rfl rfl ?_
    obtain ⟨h16, e17, h⟩ := m_bd h
    refine g_is e17 ?_
    refine g_ch [(6, .int v9), (5, .int v6), (0, .ref x0), (1, .int x1), (2, .int x2), (3, .int x3), (4, .int x4)] [.ref x0] (pc' := 136) rfl rfl rfl ?_
    obtain ⟨v18, e19, h⟩ := m_bd h
    refine g_gr q12_f14 e19 ?_
    refine g_ch [(6, .int v9), (5, .int v6), (0, .ref x0), (1, .int x1), (2, .int x2), (3, .int x3), (4, .int x4)] [.int x3, .int (v9 + 2), .ref v18] (pc' := 144) rfl rfl rfl ?_
    obtain ⟨h20, e21, h⟩ := m_bd h
    refine g_is e21 ?_
    refine g_ch [(6, .int v9), (5, .int v6), (0, .ref x0), (1, .int x1), (2, .int x2), (3, .int x3), (4, .int x4)] [.ref x0] (pc' := 146) rfl rfl rfl ?_
    obtain ⟨v22, e23, h⟩ := m_bd h
    refine g_gr q12_f14 e23 ?_
    refine g_ch [(6, .int v9), (5, .int v6), (0, .ref x0), (1, .int x1), (2, .int x2), (3, .int x3), (4, .int x4)] [.int x4, .int (v9 + 3), .ref v22] (pc' := 155) rfl rfl rfl ?_
    obtain ⟨h24, e25, h⟩ := m_bd h
    refine g_is e25 ?_
    refine g_ch [(6, .int v9), (5, .int v6), (0, .ref x0), (1, .int x1), (2, .int x2), (3, .int x3), (4, .int x4)] [.ref x0] (pc' := 157) rfl rfl rfl ?_
    obtain ⟨v26, e27, h⟩ := m_bd h
    refine g_gr q12_f14 e27 ?_
    refine g_ch [(6, .int v9), (5, .int v6), (0, .ref x0), (1, .int x1), (2, .int x2), (3, .int x3), (4, .int x4)] [.int 0, .int (v9 + 4), .ref v26] (pc' := 165) rfl rfl rfl ?_
    obtain ⟨h28, e29, h⟩ := m_bd h
    refine g_is e29 ?_
    refine g_ch [(6, .int v9), (5, .int v6), (0, .ref x0), (1, .int x1), (2, .int x2), (3, .int x3), (4, .int x4)] [.ref x0] (pc' := 167) rfl rfl rfl ?_
    obtain ⟨v30, e31, h⟩ := m_bd h
    refine g_gr q12_f14 e31 ?_
    refine g_ch [(6, .int v9), (5, .int v6), (0, .ref x0), (1, .int x1), (2, .int x2), (3, .int x3), (4, .int x4)] [.int 2908, .ref v30, .int 2908, .ref v30] (pc' := 174) rfl rfl rfl ?_
    obtain ⟨v32, e33, h⟩ := m_bd h
    refine g_ia e33 ?_
    refine g_ch [(6, .int v9), (5, .int v6), (0, .ref x0), (1, .int x1), (2, .int x2), (3, .int x3), (4, .int x4)] [.int (v32 + 1), .int 2908, .ref v30] (pc' := 177) rfl rfl rfl ?_
    obtain ⟨h34, e35, h⟩ := m_bd h
    refine g_is e35 ?_
    refine g_ch [(6, .int v9), (5, .int v6), (0, .ref x0), (1, .int x1), (2, .int x2), (3, .int x3), (4, .int x4)] [.int v6] (pc' := 180) rfl rfl rfl ?_
    cases h
    rw [k0 _ hK]
    exact g_iret rfl rfl
  · refine g_ifcn (t := 100) rfl (m_eqF c3) ?_
    refine g_in eF12_ask_98 mx2467 ?_
    refine g_ch [(0, .ref x0), (1, .int x1), (2, .int x2), (3, .int x3), (4, .int x4)] [.int 0] (pc' := 99) rfl rfl rfl ?_
    cases h
    rw [k0 _ hK]
    exact g_iret rfl rfl
theorem SF12_ask_65 {xs : Nat → Int32} {L : Nat} (x0 : Nat) (x1 : Int32) (x2 : Int32) (x3 : Int32) (x4 : Int32) (s0 : Int32) (s1 : Nat) (hp : m_H) {r : m_O × m_H} {K : (Int32 × m_H) → Prop} (k0 : ∀ x, K x → r = (.inl (some (.int x.1)), x.2)) {t : Int32 × m_H} (h : F12_ask_65 x0 x1 x2 x3 x4 s0 s1 hp = some t) (hK : K t) : m_Rn xs L 2 2467 65 [(0, .ref x0), (1, .int x1), (2, .int x2), (3, .int x3), (4, .int x4)] [.int s0, .ref s1] hp r := by
  unfold F12_ask_65 at h
  refine g_in eF12_ask_65 mx2467 ?_
  refine g_ch [(0, .ref x0), (1, .int x1), (2, .int x2), (3, .int x3), (4, .int x4)] [.int 2, .int s0, .ref s1] (pc' := 66) rfl rfl rfl ?_
  obtain ⟨z2, e1, h⟩ := m_bd h
  refine g_call (v := some (.int z2.1)) (h := z2.2) (st' := [.int z2.1]) (D1 := 0) (as := [.ref s1, .int s0, .int 2]) (Or.inr (Or.inl rfl)) q12_m82 (m_cv (as := [.int 2, .int s0]) (rest := []) (Or.inl rfl) q12_m82 jv2401 (OF12_throwsIf e1) rfl rfl rfl rfl) (by decide) (SF12_throwsIf e1) rfl ?_
  rcases m_ifd h with ⟨c3, h⟩ | ⟨c3, h⟩
  · refine g_ifcn (t := 98) rfl (m_neF c3) ?_
    refine g_in eF12_ask_72 mx2467 ?_
    refine g_ch [(0, .ref x0), (1, .int x1), (2, .int x2), (3, .int x3), (4, .int x4)] [.ref x0, .ref x0] (pc' := 74) rfl rfl rfl ?_
    obtain ⟨v4, e5, h⟩ := m_bd h
    refine g_gr q12_f14 e5 ?_
    refine g_ch [(0, .ref x0), (1, .int x1), (2, .int x2), (3, .int x3), (4, .int x4)] [.int 2908, .ref v4, .ref x0] (pc' := 80) rfl rfl rfl ?_
    obtain ⟨v6, e7, h⟩ := m_bd h
    refine g_ia e7 ?_
    refine g_ch [(0, .ref x0), (1, .int x1), (2, .int x2), (3, .int x3), (4, .int x4)] [.int 60, .int v6, .ref x0] (pc' := 83) rfl rfl rfl ?_
    rcases m_ifd h with ⟨c8, h⟩ | ⟨c8, h⟩
    · refine g_ifn (t := 90) rfl (m_neF c8) ?_
      refine g_in eF12_ask_86 mx2467 ?_
      refine g_ch [(0, .ref x0), (1, .int x1), (2, .int x2), (3, .int x3), (4, .int x4)] [.int 1, .ref x0] (pc' := 87) rfl rfl rfl ?_
      refine g_goto (t := 91) rfl ?_
      exact r_lv (SF12_ask_91 x0 x1 x2 x3 x4 1 x0 z2.2 (K := K) k0 h hK) rfl ⟨rfl, rfl, rfl, rfl, rfl, trivial⟩
    · refine g_if (t := 90) rfl (m_neT c8) ?_
      refine g_in eF12_ask_90 mx2467 ?_
      refine g_ch [(0, .ref x0), (1, .int x1), (2, .int x2), (3, .int x3), (4, .int x4)] [.int 0, .ref x0] (pc' := 91) rfl rfl rfl ?_
      refine g_end ?_
      exact r_lv (SF12_ask_91 x0 x1 x2 x3 x4 0 x0 z2.2 (K := K) k0 h hK) rfl ⟨rfl, rfl, rfl, rfl, rfl, trivial⟩
  · refine g_ifc (t := 98) rfl (m_neT c3) ?_
    refine g_in eF12_ask_98 mx2467 ?_
    refine g_ch [(0, .ref x0), (1, .int x1), (2, .int x2), (3, .int x3), (4, .int x4)] [.int 0] (pc' := 99) rfl rfl rfl ?_
    cases h
    rw [k0 _ hK]
    exact g_iret rfl rfl
theorem SF12_ask_60 {xs : Nat → Int32} {L : Nat} (x0 : Nat) (x1 : Int32) (x2 : Int32) (x3 : Int32) (x4 : Int32) (s0 : Nat) (hp : m_H) {r : m_O × m_H} {K : (Int32 × m_H) → Prop} (k0 : ∀ x, K x → r = (.inl (some (.int x.1)), x.2)) {t : Int32 × m_H} (h : F12_ask_60 x0 x1 x2 x3 x4 s0 hp = some t) (hK : K t) : m_Rn xs L 2 2467 60 [(0, .ref x0), (1, .int x1), (2, .int x2), (3, .int x3), (4, .int x4)] [.ref s0] hp r := by
  unfold F12_ask_60 at h
  refine g_in eF12_ask_60 mx2467 ?_
  refine g_ch [(0, .ref x0), (1, .int x1), (2, .int x2), (3, .int x3), (4, .int x4)] [.int 1, .ref s0] (pc' := 61) rfl rfl rfl ?_
  refine g_goto (t := 65) rfl ?_
  exact r_lv (SF12_ask_65 x0 x1 x2 x3 x4 1 s0 hp (K := K) k0 h hK) rfl ⟨rfl, rfl, rfl, rfl, rfl, trivial⟩
theorem SF12_ask_25 {xs : Nat → Int32} {L : Nat} (x0 : Nat) (x1 : Int32) (x2 : Int32) (x3 : Int32) (x4 : Int32) (s0 : Int32) (s1 : Nat) (hp : m_H) {r : m_O × m_H} {K : (Int32 × m_H) → Prop} (k0 : ∀ x, K x → r = (.inl (some (.int x.1)), x.2)) {t : Int32 × m_H} (h : F12_ask_25 x0 x1 x2 x3 x4 s0 s1 hp = some t) (hK : K t) : m_Rn xs L 2 2467 25 [(0, .ref x0), (1, .int x1), (2, .int x2), (3, .int x3), (4, .int x4)] [.int s0, .ref s1] hp r := by
  unfold F12_ask_25 at h
  refine g_in eF12_ask_25 mx2467 ?_
  refine g_ch [(0, .ref x0), (1, .int x1), (2, .int x2), (3, .int x3), (4, .int x4)] [.int 1, .int s0, .ref s1] (pc' := 26) rfl rfl rfl ?_
  obtain ⟨z2, e1, h⟩ := m_bd h
  refine g_call (v := some (.int z2.1)) (h := z2.2) (st' := [.int z2.1]) (D1 := 0) (as := [.ref s1, .int s0, .int 1]) (Or.inr (Or.inl rfl)) q12_m82 (m_cv (as := [.int 1, .int s0]) (rest := []) (Or.inl rfl) q12_m82 jv2401 (OF12_throwsIf e1) rfl rfl rfl rfl) (by decide) (SF12_throwsIf e1) rfl ?_
  rcases m_ifd h with ⟨c3, h⟩ | ⟨c3, h⟩
  · refine g_ifcn (t := 98) rfl (m_neF c3) ?_
    refine g_in eF12_ask_32 mx2467 ?_
    refine g_ch [(0, .ref x0), (1, .int x1), (2, .int x2), (3, .int x3), (4, .int x4)] [.int x1, .ref x0] (pc' := 34) rfl rfl rfl ?_
    rcases m_ifd h with ⟨c4, h⟩ | ⟨c4, h⟩
    · refine g_ifc (t := 60) rfl (m_eqT c4) ?_
      exact r_lv (SF12_ask_60 x0 x1 x2 x3 x4 x0 z2.2 (K := K) k0 h hK) rfl ⟨rfl, rfl, rfl, rfl, rfl, trivial⟩
    · refine g_ifcn (t := 60) rfl (m_eqF c4) ?_
      refine g_in eF12_ask_37 mx2467 ?_
      refine g_ch [(0, .ref x0), (1, .int x1), (2, .int x2), (3, .int x3), (4, .int x4)] [.int 1000, .int 1, .int x3, .ref x0] (pc' := 42) rfl rfl rfl ?_
      obtain ⟨v6, e5, h⟩ := m_bd h
      refine g_call (v := some (.int v6)) (h := z2.2) (st' := [.int v6, .ref x0]) (D1 := 0) (as := [.int x3, .int 1, .int 1000]) (Or.inl rfl) q12_m74 (m_cs (as := [.int 1000, .int 1, .int x3]) (rest := [.ref x0]) q12_m74 jv2402 rfl rfl rfl rfl rfl) (by decide) (SF12_in e5) rfl ?_
      rcases m_ifd h with ⟨c7, h⟩ | ⟨c7, h⟩
      · refine g_ifc (t := 60) rfl (m_eqT c7) ?_
        exact r_lv (SF12_ask_60 x0 x1 x2 x3 x4 x0 z2.2 (K := K) k0 h hK) rfl ⟨rfl, rfl, rfl, rfl, rfl, trivial⟩
      · refine g_ifcn (t := 60) rfl (m_eqF c7) ?_
        refine g_in eF12_ask_48 mx2467 ?_
        refine g_ch [(0, .ref x0), (1, .int x1), (2, .int x2), (3, .int x3), (4, .int x4)] [.int 9999, .int 0, .int x4, .ref x0] (pc' := 54) rfl rfl rfl ?_
        obtain ⟨v9, e8, h⟩ := m_bd h
        refine g_call (v := some (.int v9)) (h := z2.2) (st' := [.int v9, .ref x0]) (D1 := 0) (as := [.int x4, .int 0, .int 9999]) (Or.inl rfl) q12_m74 (m_cs (as := [.int 9999, .int 0, .int x4]) (rest := [.ref x0]) q12_m74 jv2402 rfl rfl rfl rfl rfl) (by decide) (SF12_in e8) rfl ?_
        rcases m_ifd h with ⟨c10, h⟩ | ⟨c10, h⟩
        · refine g_ifcn (t := 64) rfl (m_neF c10) ?_
          exact r_lv (SF12_ask_60 x0 x1 x2 x3 x4 x0 z2.2 (K := K) k0 h hK) rfl ⟨rfl, rfl, rfl, rfl, rfl, trivial⟩
        · refine g_ifc (t := 64) rfl (m_neT c10) ?_
          refine g_in eF12_ask_64 mx2467 ?_
          refine g_ch [(0, .ref x0), (1, .int x1), (2, .int x2), (3, .int x3), (4, .int x4)] [.int 0, .ref x0] (pc' := 65) rfl rfl rfl ?_
          refine g_end ?_
          exact r_lv (SF12_ask_65 x0 x1 x2 x3 x4 0 x0 z2.2 (K := K) k0 h hK) rfl ⟨rfl, rfl, rfl, rfl, rfl, trivial⟩
  · refine g_ifc (t := 98) rfl (m_neT c3) ?_
    refine g_in eF12_ask_98 mx2467 ?_
    refine g_ch [(0, .ref x0), (1, .int x1), (2, .int x2), (3, .int x3), (4, .int x4)] [.int 0] (pc' := 99) rfl rfl rfl ?_
    cases h
    rw [k0 _ hK]
    exact g_iret rfl rfl
theorem SF12_ask_20 {xs : Nat → Int32} {L : Nat} (x0 : Nat) (x1 : Int32) (x2 : Int32) (x3 : Int32) (x4 : Int32) (s0 : Nat) (hp : m_H) {r : m_O × m_H} {K : (Int32 × m_H) → Prop} (k0 : ∀ x, K x → r = (.inl (some (.int x.1)), x.2)) {t : Int32 × m_H} (h : F12_ask_20 x0 x1 x2 x3 x4 s0 hp = some t) (hK : K t) : m_Rn xs L 2 2467 20 [(0, .ref x0), (1, .int x1), (2, .int x2), (3, .int x3), (4, .int x4)] [.ref s0] hp r := by
  unfold F12_ask_20 at h
  refine g_in eF12_ask_20 mx2467 ?_
  refine g_ch [(0, .ref x0), (1, .int x1), (2, .int x2), (3, .int x3), (4, .int x4)] [.int 1, .ref s0] (pc' := 21) rfl rfl rfl ?_
  refine g_goto (t := 25) rfl ?_
  exact r_lv (SF12_ask_25 x0 x1 x2 x3 x4 1 s0 hp (K := K) k0 h hK) rfl ⟨rfl, rfl, rfl, rfl, rfl, trivial⟩
theorem SF12_ask_0 {xs : Nat → Int32} {L : Nat} (x0 : Nat) (x1 : Int32) (x2 : Int32) (x3 : Int32) (x4 : Int32) (hp : m_H) {r : m_O × m_H} {K : (Int32 × m_H) → Prop} (k0 : ∀ x, K x → r = (.inl (some (.int x.1)), x.2)) {t : Int32 × m_H} (h : F12_ask_0 x0 x1 x2 x3 x4 hp = some t) (hK : K t) : m_Rn xs L 2 2467 0 [(0, .ref x0), (1, .int x1), (2, .int x2), (3, .int x3), (4, .int x4)] [] hp r := by
  unfold F12_ask_0 at h
  refine g_in eF12_ask_0 mx2467 ?_
  refine g_ch [(0, .ref x0), (1, .int x1), (2, .int x2), (3, .int x3), (4, .int x4)] [.int 0, .ref x0] (pc' := 2) rfl rfl rfl ?_
  obtain ⟨h1, e2, h⟩ := m_bd h
  refine g_pf q12_f3 e2 ?_
  refine g_ch [(0, .ref x0), (1, .int x1), (2, .int x2), (3, .int x3), (4, .int x4)] [.int x1, .ref x0] (pc' := 7) rfl rfl rfl ?_
  obtain ⟨v4, e3, h⟩ := m_bd h
  refine g_call (v := some (.int v4)) (h := h1) (st' := [.int v4, .ref x0]) (D1 := 1) (as := [.int x1]) (Or.inl rfl) q12_m103 (m_cs (as := [.int x1]) (rest := [.ref x0]) q12_m103 jv2411 rfl rfl rfl rfl rfl) (by decide) (SF12_noLand e3) rfl ?_
  rcases m_ifd h with ⟨c5, h⟩ | ⟨c5, h⟩
  · refine g_ifcn (t := 20) rfl (m_neF c5) ?_
    refine g_in eF12_ask_13 mx2467 ?_
    refine g_ch [(0, .ref x0), (1, .int x1), (2, .int x2), (3, .int x3), (4, .int x4)] [.int x2, .ref x0] (pc' := 14) rfl rfl rfl ?_
    obtain ⟨v7, e6, h⟩ := m_bd h
    refine g_call (v := some (.int v7)) (h := h1) (st' := [.int v7, .ref x0]) (D1 := 1) (as := [.int x2]) (Or.inl rfl) q12_m78 (m_cs (as := [.int x2]) (rest := [.ref x0]) q12_m78 jv2410 rfl rfl rfl rfl rfl) (by decide) (SF12_noSort e6) rfl ?_
    rcases m_ifd h with ⟨c8, h⟩ | ⟨c8, h⟩
    · refine g_ifc (t := 24) rfl (m_eqT c8) ?_
      refine g_in eF12_ask_24 mx2467 ?_
      refine g_ch [(0, .ref x0), (1, .int x1), (2, .int x2), (3, .int x3), (4, .int x4)] [.int 0, .ref x0] (pc' := 25) rfl rfl rfl ?_
      refine g_end ?_
      exact r_lv (SF12_ask_25 x0 x1 x2 x3 x4 0 x0 h1 (K := K) k0 h hK) rfl ⟨rfl, rfl, rfl, rfl, rfl, trivial⟩
    · refine g_ifcn (t := 24) rfl (m_eqF c8) ?_
      exact r_lv (SF12_ask_20 x0 x1 x2 x3 x4 x0 h1 (K := K) k0 h hK) rfl ⟨rfl, rfl, rfl, rfl, rfl, trivial⟩
  · refine g_ifc (t := 20) rfl (m_neT c5) ?_
    exact r_lv (SF12_ask_20 x0 x1 x2 x3 x4 x0 h1 (K := K) k0 h hK) rfl ⟨rfl, rfl, rfl, rfl, rfl, trivial⟩
theorem OF12_ask {x0 : Nat} {x1 : Int32} {x2 : Int32} {x3 : Int32} {x4 : Int32} {hp : m_H} {x : Int32 × m_H} (h : F12_ask x0 x1 x2 x3 x4 hp = some x) : m_isO hp 9 x0 = true := (m_gdd h).1
theorem SF12_ask {xs : Nat → Int32} {L : Nat} {x0 : Nat} {x1 : Int32} {x2 : Int32} {x3 : Int32} {x4 : Int32} {hp : m_H} {x : Int32 × m_H} (h : F12_ask x0 x1 x2 x3 x4 hp = some x) : m_Rn xs L 2 2467 0 (lv_args 0 [.ref x0, .int x1, .int x2, .int x3, .int x4]) [] hp (.inl (some (.int x.1)), x.2) :=
  r_lv (SF12_ask_0 x0 x1 x2 x3 x4 hp (K := fun y => y = x) (fun y e => by rw [e]) (m_gdd h).2 rfl) rfl ⟨rfl, rfl, rfl, rfl, rfl, trivial⟩
-- F12_lacks: LendHouseModel.lacks(I)I
theorem eF12_lacks_0 : m_Fe mi12_68 0 (m_ap [(.aload_n 0, 1)] ((.getfield 14, 3) :: (m_ap [(.iload_n 1, 1)] ((.invokestatic 279, 3) :: (m_ap [(.iconst 2, 1), (.iadd, 1)] ((.iaload, 1) :: (m_ap [(.aload_n 0, 1)] ((.getfield 14, 3) :: (m_ap [(.iload_n 1, 1)] ((.invokestatic 279, 3) :: (m_ap [(.iconst 4, 1), (.iadd, 1)] ((.iaload, 1) :: (m_ap [(.isub, 1)] ([(.ireturn, 1)])))))))))))))) := m_Fe_of nd2468 0 16 rfl
theorem SF12_lacks_0 {xs : Nat → Int32} {L : Nat} (x0 : Nat) (x1 : Int32) (hp : m_H) {r : m_O × m_H} {K : Int32 → Prop} (k0 : ∀ x, K x → r = (.inl (some (.int x)), hp)) {t : Int32} (h : F12_lacks_0 x0 x1 hp = some t) (hK : K t) : m_Rn xs L 1 2468 0 [(0, .ref x0), (1, .int x1)] [] hp r := by
  unfold F12_lacks_0 at h
  refine g_in eF12_lacks_0 mx2468 ?_
  refine g_ch [(0, .ref x0), (1, .int x1)] [.ref x0] (pc' := 1) rfl rfl rfl ?_
  obtain ⟨v1, e2, h⟩ := m_bd h
  refine g_gr q12_f14 e2 ?_
  refine g_ch [(0, .ref x0), (1, .int x1)] [.int x1, .ref v1] (pc' := 5) rfl rfl rfl ?_
  obtain ⟨v4, e3, h⟩ := m_bd h
  refine g_call (v := some (.int v4)) (h := hp) (st' := [.int v4, .ref v1]) (D1 := 0) (as := [.int x1]) (Or.inl rfl) q12_m279 (m_cs (as := [.int x1]) (rest := [.ref v1]) q12_m279 jv2465 rfl rfl rfl rfl rfl) (by decide) (SF12_requestAt e3) rfl ?_
  refine g_ch [(0, .ref x0), (1, .int x1)] [.int (v4 + 2), .ref v1] (pc' := 10) rfl rfl rfl ?_
  obtain ⟨v5, e6, h⟩ := m_bd h
  refine g_ia e6 ?_
  refine g_ch [(0, .ref x0), (1, .int x1)] [.ref x0, .int v5] (pc' := 12) rfl rfl rfl ?_
  obtain ⟨v7, e8, h⟩ := m_bd h
  refine g_gr q12_f14 e8 ?_
  refine g_ch [(0, .ref x0), (1, .int x1)] [.int x1, .ref v7, .int v5] (pc' := 16) rfl rfl rfl ?_
  obtain ⟨v10, e9, h⟩ := m_bd h
  refine g_call (v := some (.int v10)) (h := hp) (st' := [.int v10, .ref v7, .int v5]) (D1 := 0) (as := [.int x1]) (Or.inl rfl) q12_m279 (m_cs (as := [.int x1]) (rest := [.ref v7, .int v5]) q12_m279 jv2465 rfl rfl rfl rfl rfl) (by decide) (SF12_requestAt e9) rfl ?_
  refine g_ch [(0, .ref x0), (1, .int x1)] [.int (v10 + 4), .ref v7, .int v5] (pc' := 21) rfl rfl rfl ?_
  obtain ⟨v11, e12, h⟩ := m_bd h
  refine g_ia e12 ?_
  refine g_ch [(0, .ref x0), (1, .int x1)] [.int (v5 - v11)] (pc' := 23) rfl rfl rfl ?_
  cases h
  rw [k0 _ hK]
  exact g_iret rfl rfl
theorem OF12_lacks {x0 : Nat} {x1 : Int32} {hp : m_H} {x : Int32} (h : F12_lacks x0 x1 hp = some x) : m_isO hp 9 x0 = true := (m_gdd h).1
theorem SF12_lacks {xs : Nat → Int32} {L : Nat} {x0 : Nat} {x1 : Int32} {hp : m_H} {x : Int32} (h : F12_lacks x0 x1 hp = some x) : m_Rn xs L 1 2468 0 (lv_args 0 [.ref x0, .int x1]) [] hp (.inl (some (.int x)), hp) :=
  r_lv (SF12_lacks_0 x0 x1 hp (K := fun y => y = x) (fun y e => by rw [e]) (m_gdd h).2 rfl) rfl ⟨rfl, rfl, trivial⟩
-- F12_looksAt: LendHouseModel.looksAt(II)V
theorem eF12_looksAt_0 : m_Fe mi12_69 0 (m_ap [(.aload_n 0, 1), (.aload_n 0, 1)] ((.getfield 14, 3) :: (m_ap [(.iload_n 1, 1)] ((.invokestatic 279, 3) :: ((.iaload, 1) :: (m_ap [(.aload_n 0, 1)] ((.getfield 14, 3) :: (m_ap [(.iload_n 1, 1)] ((.invokestatic 279, 3) :: (m_ap [(.iconst 1, 1), (.iadd, 1)] ((.iaload, 1) :: (m_ap [(.iload_n 2, 1), (.iconst 0, 1)] ((.invokevirtual 282, 3) :: ([(.return_, 1)])))))))))))))) := m_Fe_of nd2469 0 17 rfl
theorem SF12_looksAt_0 {xs : Nat → Int32} {L : Nat} (x0 : Nat) (x1 : Int32) (x2 : Int32) (hp : m_H) {r : m_O × m_H} {K : m_H → Prop} (k0 : ∀ x, K x → r = (.inl none, x)) {t : m_H} (h : F12_looksAt_0 x0 x1 x2 hp = some t) (hK : K t) : m_Rn xs L 3 2469 0 [(0, .ref x0), (1, .int x1), (2, .int x2)] [] hp r := by
  unfold F12_looksAt_0 at h
  refine g_in eF12_looksAt_0 mx2469 ?_
  refine g_ch [(0, .ref x0), (1, .int x1), (2, .int x2)] [.ref x0, .ref x0] (pc' := 2) rfl rfl rfl ?_
  obtain ⟨v1, e2, h⟩ := m_bd h
  refine g_gr q12_f14 e2 ?_
  refine g_ch [(0, .ref x0), (1, .int x1), (2, .int x2)] [.int x1, .ref v1, .ref x0] (pc' := 6) rfl rfl rfl ?_
  obtain ⟨v4, e3, h⟩ := m_bd h
  refine g_call (v := some (.int v4)) (h := hp) (st' := [.int v4, .ref v1, .ref x0]) (D1 := 0) (as := [.int x1]) (Or.inl rfl) q12_m279 (m_cs (as := [.int x1]) (rest := [.ref v1, .ref x0]) q12_m279 jv2465 rfl rfl rfl rfl rfl) (by decide) (SF12_requestAt e3) rfl ?_
  obtain ⟨v5, e6, h⟩ := m_bd h
  refine g_ia e6 ?_
  refine g_ch [(0, .ref x0), (1, .int x1), (2, .int x2)] [.ref x0, .int v5, .ref x0] (pc' := 11) rfl rfl rfl ?_
  obtain ⟨v7, e8, h⟩ := m_bd h
  refine g_gr q12_f14 e8 ?_
  refine g_ch [(0, .ref x0), (1, .int x1), (2, .int x2)] [.int x1, .ref v7, .int v5, .ref x0] (pc' := 15) rfl rfl rfl ?_
  obtain ⟨v10, e9, h⟩ := m_bd h
  refine g_call (v := some (.int v10)) (h := hp) (st' := [.int v10, .ref v7, .int v5, .ref x0]) (D1 := 0) (as := [.int x1]) (Or.inl rfl) q12_m279 (m_cs (as := [.int x1]) (rest := [.ref v7, .int v5, .ref x0]) q12_m279 jv2465 rfl rfl rfl rfl rfl) (by decide) (SF12_requestAt e9) rfl ?_
  refine g_ch [(0, .ref x0), (1, .int x1), (2, .int x2)] [.int (v10 + 1), .ref v7, .int v5, .ref x0] (pc' := 20) rfl rfl rfl ?_
  obtain ⟨v11, e12, h⟩ := m_bd h
  refine g_ia e12 ?_
  refine g_ch [(0, .ref x0), (1, .int x1), (2, .int x2)] [.int 0, .int x2, .int v11, .int v5, .ref x0] (pc' := 23) rfl rfl rfl ?_
  obtain ⟨h14, e13, h⟩ := m_bd h
  refine g_call (v := none) (h := h14) (st' := []) (D1 := 2) (as := [.ref x0, .int v5, .int v11, .int x2, .int 0]) (Or.inr (Or.inl rfl)) q12_m282 (m_cv (as := [.int 0, .int x2, .int v11, .int v5]) (rest := []) (Or.inl rfl) q12_m282 jv2461 (OF12_looks e13) rfl rfl rfl rfl) (by decide) (SF12_looks e13) rfl ?_
  cases h
  rw [k0 _ hK]
  exact g_vret rfl
theorem OF12_looksAt {x0 : Nat} {x1 : Int32} {x2 : Int32} {hp : m_H} {x : m_H} (h : F12_looksAt x0 x1 x2 hp = some x) : m_isO hp 9 x0 = true := (m_gdd h).1
theorem SF12_looksAt {xs : Nat → Int32} {L : Nat} {x0 : Nat} {x1 : Int32} {x2 : Int32} {hp : m_H} {x : m_H} (h : F12_looksAt x0 x1 x2 hp = some x) : m_Rn xs L 3 2469 0 (lv_args 0 [.ref x0, .int x1, .int x2]) [] hp (.inl none, x) :=
  r_lv (SF12_looksAt_0 x0 x1 x2 hp (K := fun y => y = x) (fun y e => by rw [e]) (m_gdd h).2 rfl) rfl ⟨rfl, rfl, rfl, trivial⟩
-- F12_weigh: LendHouseModel.weigh(II)I
theorem eF12_weigh_0 : m_Fe mi12_70 0 (m_ap [(.aload_n 0, 1), (.iconst 0, 1)] ((.putfield 3, 3) :: (m_ap [(.aload_n 0, 1), (.aload_n 0, 1), (.iload_n 1, 1)] ((.invokevirtual 286, 3) :: (m_ap [(.iconst 1, 1)] ((.invokevirtual 82, 3) :: ([(.ifCond .eq 5, 3)]))))))) := m_Fe_of nd2470 0 10 rfl
theorem eF12_weigh_20 : m_Fe mi12_70 20 (m_ap [(.aload_n 0, 1), (.iload_n 1, 1), (.aload_n 0, 1)] ((.getfield 14, 3) :: (m_ap [(.iload_n 1, 1)] ((.invokestatic 279, 3) :: (m_ap [(.iconst 2, 1), (.iadd, 1)] ((.iaload, 1) :: ((.invokevirtual 289, 3) :: (m_ap [(.iload_n 2, 1)] ([(.tableswitch 81 0 5 #[39, 45, 51, 57, 69, 75], 39)]))))))))) := m_Fe_of nd2470 12 12 rfl
theorem eF12_weigh_118 : m_Fe mi12_70 118 (m_ap [(.aload_n 0, 1), (.iconst 2, 1)] ((.putfield 3, 3) :: (m_ap [(.iconst 0, 1)] ([(.ireturn, 1)])))) := m_Fe_of nd2470 52 5 rfl
theorem eF12_weigh_76 : m_Fe mi12_70 76 (m_ap [(.aload_n 0, 1), (.iconst 1, 1)] ((.invokevirtual 292, 3) :: ([(.ireturn, 1)]))) := m_Fe_of nd2470 24 4 rfl
theorem eF12_weigh_82 : m_Fe mi12_70 82 (m_ap [(.aload_n 0, 1), (.iconst 1, 1)] ((.invokevirtual 295, 3) :: ([(.ireturn, 1)]))) := m_Fe_of nd2470 28 4 rfl
theorem eF12_weigh_88 : m_Fe mi12_70 88 (m_ap [(.aload_n 0, 1), (.iconst 0, 1)] ((.invokevirtual 295, 3) :: ([(.ireturn, 1)]))) := m_Fe_of nd2470 32 4 rfl
theorem eF12_weigh_94 : m_Fe mi12_70 94 (m_ap [(.aload_n 0, 1)] ((.getfield 14, 3) :: (m_ap [(.iload_n 1, 1)] ((.invokestatic 279, 3) :: (m_ap [(.iconst 4, 1), (.iadd, 1)] ((.iaload, 1) :: ([(.ireturn, 1)]))))))) := m_Fe_of nd2470 36 8 rfl
theorem eF12_weigh_106 : m_Fe mi12_70 106 (m_ap [(.aload_n 0, 1), (.iload_n 1, 1)] ((.invokevirtual 298, 3) :: ([(.ireturn, 1)]))) := m_Fe_of nd2470 44 4 rfl
theorem eF12_weigh_112 : m_Fe mi12_70 112 (m_ap [(.aload_n 0, 1), (.iconst 2, 1)] ((.invokevirtual 292, 3) :: ([(.ireturn, 1)]))) := m_Fe_of nd2470 48 4 rfl
theorem eF12_weigh_18 : m_Fe mi12_70 18 (m_ap [(.iconst 0, 1)] ([(.ireturn, 1)])) := m_Fe_of nd2470 10 2 rfl
theorem SF12_weigh_0 {xs : Nat → Int32} {L : Nat} (x0 : Nat) (x1 : Int32) (x2 : Int32) (hp : m_H) {r : m_O × m_H} {K : (Int32 × m_H) → Prop} (k0 : ∀ x, K x → r = (.inl (some (.int x.1)), x.2)) {t : Int32 × m_H} (h : F12_weigh_0 x0 x1 x2 hp = some t) (hK : K t) : m_Rn xs L 9 2470 0 [(0, .ref x0), (1, .int x1), (2, .int x2)] [] hp r := by
  unfold F12_weigh_0 at h
  refine g_in eF12_weigh_0 mx2470 ?_
  refine g_ch [(0, .ref x0), (1, .int x1), (2, .int x2)] [.int 0, .ref x0] (pc' := 2) rfl rfl rfl ?_
  obtain ⟨h1, e2, h⟩ := m_bd h
  refine g_pf q12_f3 e2 ?_
  refine g_ch [(0, .ref x0), (1, .int x1), (2, .int x2)] [.int x1, .ref x0, .ref x0] (pc' := 8) rfl rfl rfl ?_
  obtain ⟨v4, e3, h⟩ := m_bd h
  refine g_call (v := some (.int v4)) (h := h1) (st' := [.int v4, .ref x0]) (D1 := 1) (as := [.ref x0, .int x1]) (Or.inr (Or.inl rfl)) q12_m286 (m_cv (as := [.int x1]) (rest := [.ref x0]) (Or.inl rfl) q12_m286 jv2466 (OF12_noRequest e3) rfl rfl rfl rfl) (by decide) (SF12_noRequest e3) rfl ?_
  refine g_ch [(0, .ref x0), (1, .int x1), (2, .int x2)] [.int 1, .int v4, .ref x0] (pc' := 12) rfl rfl rfl ?_
  obtain ⟨z6, e5, h⟩ := m_bd h
  refine g_call (v := some (.int z6.1)) (h := z6.2) (st' := [.int z6.1]) (D1 := 0) (as := [.ref x0, .int v4, .int 1]) (Or.inr (Or.inl rfl)) q12_m82 (m_cv (as := [.int 1, .int v4]) (rest := []) (Or.inl rfl) q12_m82 jv2401 (OF12_throwsIf e5) rfl rfl rfl rfl) (by decide) (SF12_throwsIf e5) rfl ?_
  rcases m_ifd h with ⟨c7, h⟩ | ⟨c7, h⟩
  · refine g_ifc (t := 20) rfl (m_eqT c7) ?_
    refine g_in eF12_weigh_20 mx2470 ?_
    refine g_ch [(0, .ref x0), (1, .int x1), (2, .int x2)] [.ref x0, .int x1, .ref x0] (pc' := 23) rfl rfl rfl ?_
    obtain ⟨v8, e9, h⟩ := m_bd h
    refine g_gr q12_f14 e9 ?_
    refine g_ch [(0, .ref x0), (1, .int x1), (2, .int x2)] [.int x1, .ref v8, .int x1, .ref x0] (pc' := 27) rfl rfl rfl ?_
    obtain ⟨v11, e10, h⟩ := m_bd h
    refine g_call (v := some (.int v11)) (h := z6.2) (st' := [.int v11, .ref v8, .int x1, .ref x0]) (D1 := 0) (as := [.int x1]) (Or.inl rfl) q12_m279 (m_cs (as := [.int x1]) (rest := [.ref v8, .int x1, .ref x0]) q12_m279 jv2465 rfl rfl rfl rfl rfl) (by decide) (SF12_requestAt e10) rfl ?_
    refine g_ch [(0, .ref x0), (1, .int x1), (2, .int x2)] [.int (v11 + 2), .ref v8, .int x1, .ref x0] (pc' := 32) rfl rfl rfl ?_
    obtain ⟨v12, e13, h⟩ := m_bd h
    refine g_ia e13 ?_
    obtain ⟨h15, e14, h⟩ := m_bd h
    refine g_call (v := none) (h := h15) (st' := []) (D1 := 3) (as := [.ref x0, .int x1, .int v12]) (Or.inr (Or.inl rfl)) q12_m289 (m_cv (as := [.int v12, .int x1]) (rest := []) (Or.inl rfl) q12_m289 jv2469 (OF12_looksAt e14) rfl rfl rfl rfl) (by decide) (SF12_looksAt e14) rfl ?_
    refine g_ch [(0, .ref x0), (1, .int x1), (2, .int x2)] [.int x2] (pc' := 37) rfl rfl rfl ?_
    rcases m_swd h with ⟨e17, h⟩ | ⟨w16, e17, h⟩
    · refine g_swd e17 (t := 118) rfl ?_
      refine g_in eF12_weigh_118 mx2470 ?_
      refine g_ch [(0, .ref x0), (1, .int x1), (2, .int x2)] [.int 2, .ref x0] (pc' := 120) rfl rfl rfl ?_
      obtain ⟨h18, e19, h⟩ := m_bd h
      refine g_pf q12_f3 e19 ?_
      refine g_ch [(0, .ref x0), (1, .int x1), (2, .int x2)] [.int 0] (pc' := 124) rfl rfl rfl ?_
      cases h
      rw [k0 _ hK]
      exact g_iret rfl rfl
    · rcases m_ifd h with ⟨c20, hc20⟩ | ⟨c20, h⟩
      · subst c20
        have h := hc20
        refine g_sw (o := 39) (t := 76) e17 rfl rfl ?_
        refine g_in eF12_weigh_76 mx2470 ?_
        refine g_ch [(0, .ref x0), (1, .int x1), (2, .int x2)] [.int 1, .ref x0] (pc' := 78) rfl rfl rfl ?_
        obtain ⟨z22, e21, h⟩ := m_bd h
        refine g_call (v := some (.int z22.1)) (h := z22.2) (st' := [.int z22.1]) (D1 := 8) (as := [.ref x0, .int 1]) (Or.inr (Or.inl rfl)) q12_m292 (m_cv (as := [.int 1]) (rest := []) (Or.inl rfl) q12_m292 jv2464 (OF12_allOf e21) rfl rfl rfl rfl) (by decide) (SF12_allOf e21) rfl ?_
        cases h
        rw [k0 _ hK]
        exact g_iret rfl rfl
      rcases m_ifd h with ⟨c23, hc23⟩ | ⟨c23, h⟩
      · subst c23
        have h := hc23
        refine g_sw (o := 45) (t := 82) e17 rfl rfl ?_
        refine g_in eF12_weigh_82 mx2470 ?_
        refine g_ch [(0, .ref x0), (1, .int x1), (2, .int x2)] [.int 1, .ref x0] (pc' := 84) rfl rfl rfl ?_
        obtain ⟨z25, e24, h⟩ := m_bd h
        refine g_call (v := some (.int z25.1)) (h := z25.2) (st' := [.int z25.1]) (D1 := 8) (as := [.ref x0, .int 1]) (Or.inr (Or.inl rfl)) q12_m295 (m_cv (as := [.int 1]) (rest := []) (Or.inl rfl) q12_m295 jv2463 (OF12_firstOf e24) rfl rfl rfl rfl) (by decide) (SF12_firstOf e24) rfl ?_
        cases h
        rw [k0 _ hK]
        exact g_iret rfl rfl
      rcases m_ifd h with ⟨c26, hc26⟩ | ⟨c26, h⟩
      · subst c26
        have h := hc26
        refine g_sw (o := 51) (t := 88) e17 rfl rfl ?_
        refine g_in eF12_weigh_88 mx2470 ?_
        refine g_ch [(0, .ref x0), (1, .int x1), (2, .int x2)] [.int 0, .ref x0] (pc' := 90) rfl rfl rfl ?_
        obtain ⟨z28, e27, h⟩ := m_bd h
        refine g_call (v := some (.int z28.1)) (h := z28.2) (st' := [.int z28.1]) (D1 := 8) (as := [.ref x0, .int 0]) (Or.inr (Or.inl rfl)) q12_m295 (m_cv (as := [.int 0]) (rest := []) (Or.inl rfl) q12_m295 jv2463 (OF12_firstOf e27) rfl rfl rfl rfl) (by decide) (SF12_firstOf e27) rfl ?_
        cases h
        rw [k0 _ hK]
        exact g_iret rfl rfl
      rcases m_ifd h with ⟨c29, hc29⟩ | ⟨c29, h⟩
      · subst c29
        have h := hc29
        refine g_sw (o := 57) (t := 94) e17 rfl rfl ?_
        refine g_in eF12_weigh_94 mx2470 ?_
        refine g_ch [(0, .ref x0), (1, .int x1), (2, .int x2)] [.ref x0] (pc' := 95) rfl rfl rfl ?_
        obtain ⟨v30, e31, h⟩ := m_bd h
        refine g_gr q12_f14 e31 ?_
        refine g_ch [(0, .ref x0), (1, .int x1), (2, .int x2)] [.int x1, .ref v30] (pc' := 99) rfl rfl rfl ?_
        obtain ⟨v33, e32, h⟩ := m_bd h
        refine g_call (v := some (.int v33)) (h := h15) (st' := [.int v33, .ref v30]) (D1 := 0) (as := [.int x1]) (Or.inl rfl) q12_m279 (m_cs (as := [.int x1]) (rest := [.ref v30]) q12_m279 jv2465 rfl rfl rfl rfl rfl) (by decide) (SF12_requestAt e32) rfl ?_
        refine g_ch [(0, .ref x0), (1, .int x1), (2, .int x2)] [.int (v33 + 4), .ref v30] (pc' := 104) rfl rfl rfl ?_
        obtain ⟨v34, e35, h⟩ := m_bd h
        refine g_ia e35 ?_
        cases h
        rw [k0 _ hK]
        exact g_iret rfl rfl
      rcases m_ifd h with ⟨c36, hc36⟩ | ⟨c36, h⟩
      · subst c36
        have h := hc36
        refine g_sw (o := 69) (t := 106) e17 rfl rfl ?_
        refine g_in eF12_weigh_106 mx2470 ?_
        refine g_ch [(0, .ref x0), (1, .int x1), (2, .int x2)] [.int x1, .ref x0] (pc' := 108) rfl rfl rfl ?_
        obtain ⟨v38, e37, h⟩ := m_bd h
        refine g_call (v := some (.int v38)) (h := h15) (st' := [.int v38]) (D1 := 1) (as := [.ref x0, .int x1]) (Or.inr (Or.inl rfl)) q12_m298 (m_cv (as := [.int x1]) (rest := []) (Or.inl rfl) q12_m298 jv2468 (OF12_lacks e37) rfl rfl rfl rfl) (by decide) (SF12_lacks e37) rfl ?_
        cases h
        rw [k0 _ hK]
        exact g_iret rfl rfl
      rcases m_ifd h with ⟨c39, hc39⟩ | ⟨c39, h⟩
      · subst c39
        have h := hc39
        refine g_sw (o := 75) (t := 112) e17 rfl rfl ?_
        refine g_in eF12_weigh_112 mx2470 ?_
        refine g_ch [(0, .ref x0), (1, .int x1), (2, .int x2)] [.int 2, .ref x0] (pc' := 114) rfl rfl rfl ?_
        obtain ⟨z41, e40, h⟩ := m_bd h
        refine g_call (v := some (.int z41.1)) (h := z41.2) (st' := [.int z41.1]) (D1 := 8) (as := [.ref x0, .int 2]) (Or.inr (Or.inl rfl)) q12_m292 (m_cv (as := [.int 2]) (rest := []) (Or.inl rfl) q12_m292 jv2464 (OF12_allOf e40) rfl rfl rfl rfl) (by decide) (SF12_allOf e40) rfl ?_
        cases h
        rw [k0 _ hK]
        exact g_iret rfl rfl
      cases h
  · refine g_ifcn (t := 20) rfl (m_eqF c7) ?_
    refine g_in eF12_weigh_18 mx2470 ?_
    refine g_ch [(0, .ref x0), (1, .int x1), (2, .int x2)] [.int 0] (pc' := 19) rfl rfl rfl ?_
    cases h
    rw [k0 _ hK]
    exact g_iret rfl rfl
theorem OF12_weigh {x0 : Nat} {x1 : Int32} {x2 : Int32} {hp : m_H} {x : Int32 × m_H} (h : F12_weigh x0 x1 x2 hp = some x) : m_isO hp 9 x0 = true := (m_gdd h).1
theorem SF12_weigh {xs : Nat → Int32} {L : Nat} {x0 : Nat} {x1 : Int32} {x2 : Int32} {hp : m_H} {x : Int32 × m_H} (h : F12_weigh x0 x1 x2 hp = some x) : m_Rn xs L 9 2470 0 (lv_args 0 [.ref x0, .int x1, .int x2]) [] hp (.inl (some (.int x.1)), x.2) :=
  r_lv (SF12_weigh_0 x0 x1 x2 hp (K := fun y => y = x) (fun y e => by rw [e]) (m_gdd h).2 rfl) rfl ⟨rfl, rfl, rfl, trivial⟩
-- F12_isAhead: LendHouseModel.isAhead(II)Z
theorem eF12_isAhead_0 : m_Fe mi12_71 0 (m_ap [(.aload_n 0, 1)] ((.getfield 42, 3) :: (m_ap [(.iload_n 1, 1)] ((.iaload, 1) :: (m_ap [(.aload_n 0, 1)] ((.getfield 42, 3) :: (m_ap [(.iload_n 2, 1)] ((.iaload, 1) :: ([(.if_icmp .eq 24, 3)]))))))))) := m_Fe_of nd2471 0 9 rfl
theorem eF12_isAhead_36 : m_Fe mi12_71 36 (m_ap [(.aload_n 0, 1)] ((.getfield 14, 3) :: (m_ap [(.iload_n 1, 1)] ((.invokestatic 279, 3) :: (m_ap [(.iconst 3, 1), (.iadd, 1)] ((.iaload, 1) :: (m_ap [(.istore_n 3, 1), (.aload_n 0, 1)] ((.getfield 14, 3) :: (m_ap [(.iload_n 2, 1)] ((.invokestatic 279, 3) :: (m_ap [(.iconst 3, 1), (.iadd, 1)] ((.iaload, 1) :: (m_ap [(.istore 4, 2), (.iload_n 3, 1), (.iload 4, 2)] ([(.if_icmp .lt 14, 3)])))))))))))))) := m_Fe_of nd2471 22 19 rfl
theorem eF12_isAhead_78 : m_Fe mi12_71 78 (m_ap [(.iconst 1, 1)] ([(.goto 4, 3)])) := m_Fe_of nd2471 47 2 rfl
theorem eF12_isAhead_83 : m_Fe mi12_71 83 ([(.ireturn, 1)]) := m_Fe_of nd2471 50 1 rfl
theorem eF12_isAhead_67 : m_Fe mi12_71 67 (m_ap [(.iload_n 3, 1), (.iload 4, 2)] ([(.if_icmp .ne 12, 3)])) := m_Fe_of nd2471 41 3 rfl
theorem eF12_isAhead_82 : m_Fe mi12_71 82 (m_ap [(.iconst 0, 1)] ([])) := m_Fe_of nd2471 49 1 rfl
theorem eF12_isAhead_73 : m_Fe mi12_71 73 (m_ap [(.iload_n 1, 1), (.iload_n 2, 1)] ([(.if_icmp .ge 7, 3)])) := m_Fe_of nd2471 44 3 rfl
theorem eF12_isAhead_15 : m_Fe mi12_71 15 (m_ap [(.aload_n 0, 1)] ((.getfield 42, 3) :: (m_ap [(.iload_n 1, 1)] ((.iaload, 1) :: (m_ap [(.aload_n 0, 1)] ((.getfield 42, 3) :: (m_ap [(.iload_n 2, 1)] ((.iaload, 1) :: ([(.if_icmp .le 7, 3)]))))))))) := m_Fe_of nd2471 9 9 rfl
theorem eF12_isAhead_34 : m_Fe mi12_71 34 (m_ap [(.iconst 0, 1)] ([])) := m_Fe_of nd2471 20 1 rfl
theorem eF12_isAhead_35 : m_Fe mi12_71 35 ([(.ireturn, 1)]) := m_Fe_of nd2471 21 1 rfl
theorem eF12_isAhead_30 : m_Fe mi12_71 30 (m_ap [(.iconst 1, 1)] ([(.goto 4, 3)])) := m_Fe_of nd2471 18 2 rfl
theorem SF12_isAhead_0 {xs : Nat → Int32} {L : Nat} (x0 : Nat) (x1 : Int32) (x2 : Int32) (hp : m_H) {r : m_O × m_H} {K : Int32 → Prop} (k0 : ∀ x, K x → r = (.inl (some (.int x)), hp)) {t : Int32} (h : F12_isAhead_0 x0 x1 x2 hp = some t) (hK : K t) : m_Rn xs L 1 2471 0 [(0, .ref x0), (1, .int x1), (2, .int x2)] [] hp r := by
  unfold F12_isAhead_0 at h
  refine g_in eF12_isAhead_0 mx2471 ?_
  refine g_ch [(0, .ref x0), (1, .int x1), (2, .int x2)] [.ref x0] (pc' := 1) rfl rfl rfl ?_
  obtain ⟨v1, e2, h⟩ := m_bd h
  refine g_gr q12_f42 e2 ?_
  refine g_ch [(0, .ref x0), (1, .int x1), (2, .int x2)] [.int x1, .ref v1] (pc' := 5) rfl rfl rfl ?_
  obtain ⟨v3, e4, h⟩ := m_bd h
  refine g_ia e4 ?_
  refine g_ch [(0, .ref x0), (1, .int x1), (2, .int x2)] [.ref x0, .int v3] (pc' := 7) rfl rfl rfl ?_
  obtain ⟨v5, e6, h⟩ := m_bd h
  refine g_gr q12_f42 e6 ?_
  refine g_ch [(0, .ref x0), (1, .int x1), (2, .int x2)] [.int x2, .ref v5, .int v3] (pc' := 11) rfl rfl rfl ?_
  obtain ⟨v7, e8, h⟩ := m_bd h
  refine g_ia e8 ?_
  rcases m_ifd h with ⟨c9, h⟩ | ⟨c9, h⟩
  · refine g_if (t := 36) rfl (m_eqT c9) ?_
    refine g_in eF12_isAhead_36 mx2471 ?_
    refine g_ch [(0, .ref x0), (1, .int x1), (2, .int x2)] [.ref x0] (pc' := 37) rfl rfl rfl ?_
    obtain ⟨v10, e11, h⟩ := m_bd h
    refine g_gr q12_f14 e11 ?_
    refine g_ch [(0, .ref x0), (1, .int x1), (2, .int x2)] [.int x1, .ref v10] (pc' := 41) rfl rfl rfl ?_
    obtain ⟨v13, e12, h⟩ := m_bd h
    refine g_call (v := some (.int v13)) (h := hp) (st' := [.int v13, .ref v10]) (D1 := 0) (as := [.int x1]) (Or.inl rfl) q12_m279 (m_cs (as := [.int x1]) (rest := [.ref v10]) q12_m279 jv2465 rfl rfl rfl rfl rfl) (by decide) (SF12_requestAt e12) rfl ?_
    refine g_ch [(0, .ref x0), (1, .int x1), (2, .int x2)] [.int (v13 + 3), .ref v10] (pc' := 46) rfl rfl rfl ?_
    obtain ⟨v14, e15, h⟩ := m_bd h
    refine g_ia e15 ?_
    refine g_ch [(3, .int v14), (0, .ref x0), (1, .int x1), (2, .int x2)] [.ref x0] (pc' := 49) rfl rfl rfl ?_
    obtain ⟨v16, e17, h⟩ := m_bd h
    refine g_gr q12_f14 e17 ?_
    refine g_ch [(3, .int v14), (0, .ref x0), (1, .int x1), (2, .int x2)] [.int x2, .ref v16] (pc' := 53) rfl rfl rfl ?_
    obtain ⟨v19, e18, h⟩ := m_bd h
    refine g_call (v := some (.int v19)) (h := hp) (st' := [.int v19, .ref v16]) (D1 := 0) (as := [.int x2]) (Or.inl rfl) q12_m279 (m_cs (as := [.int x2]) (rest := [.ref v16]) q12_m279 jv2465 rfl rfl rfl rfl rfl) (by decide) (SF12_requestAt e18) rfl ?_
    refine g_ch [(3, .int v14), (0, .ref x0), (1, .int x1), (2, .int x2)] [.int (v19 + 3), .ref v16] (pc' := 58) rfl rfl rfl ?_
    obtain ⟨v20, e21, h⟩ := m_bd h
    refine g_ia e21 ?_
    refine g_ch [(4, .int v20), (3, .int v14), (0, .ref x0), (1, .int x1), (2, .int x2)] [.int v20, .int v14] (pc' := 64) rfl rfl rfl ?_
    rcases m_ifd h with ⟨c22, h⟩ | ⟨c22, h⟩
    · refine g_if (t := 78) rfl (m_ltT c22) ?_
      refine g_in eF12_isAhead_78 mx2471 ?_
      refine g_ch [(4, .int v20), (3, .int v14), (0, .ref x0), (1, .int x1), (2, .int x2)] [.int 1] (pc' := 79) rfl rfl rfl ?_
      refine g_goto (t := 83) rfl ?_
      refine g_in eF12_isAhead_83 mx2471 ?_
      cases h
      rw [k0 _ hK]
      exact g_iret rfl (by decide +kernel)
    · refine g_ifn (t := 78) rfl (m_ltF c22) ?_
      refine g_in eF12_isAhead_67 mx2471 ?_
      refine g_ch [(4, .int v20), (3, .int v14), (0, .ref x0), (1, .int x1), (2, .int x2)] [.int v20, .int v14] (pc' := 70) rfl rfl rfl ?_
      rcases m_ifd h with ⟨c23, h⟩ | ⟨c23, h⟩
      · refine g_ifn (t := 82) rfl (m_neF c23) ?_
        refine g_in eF12_isAhead_73 mx2471 ?_
        refine g_ch [(4, .int v20), (3, .int v14), (0, .ref x0), (1, .int x1), (2, .int x2)] [.int x2, .int x1] (pc' := 75) rfl rfl rfl ?_
        rcases m_ifd h with ⟨c24, h⟩ | ⟨c24, h⟩
        · refine g_if (t := 82) rfl (m_geT c24) ?_
          refine g_in eF12_isAhead_82 mx2471 ?_
          refine g_ch [(4, .int v20), (3, .int v14), (0, .ref x0), (1, .int x1), (2, .int x2)] [.int 0] (pc' := 83) rfl rfl rfl ?_
          refine g_end ?_
          refine g_in eF12_isAhead_83 mx2471 ?_
          cases h
          rw [k0 _ hK]
          exact g_iret rfl (by decide +kernel)
        · refine g_ifn (t := 82) rfl (m_geF c24) ?_
          refine g_in eF12_isAhead_78 mx2471 ?_
          refine g_ch [(4, .int v20), (3, .int v14), (0, .ref x0), (1, .int x1), (2, .int x2)] [.int 1] (pc' := 79) rfl rfl rfl ?_
          refine g_goto (t := 83) rfl ?_
          refine g_in eF12_isAhead_83 mx2471 ?_
          cases h
          rw [k0 _ hK]
          exact g_iret rfl (by decide +kernel)
      · refine g_if (t := 82) rfl (m_neT c23) ?_
        refine g_in eF12_isAhead_82 mx2471 ?_
        refine g_ch [(4, .int v20), (3, .int v14), (0, .ref x0), (1, .int x1), (2, .int x2)] [.int 0] (pc' := 83) rfl rfl rfl ?_
        refine g_end ?_
        refine g_in eF12_isAhead_83 mx2471 ?_
        cases h
        rw [k0 _ hK]
        exact g_iret rfl (by decide +kernel)
  · refine g_ifn (t := 36) rfl (m_eqF c9) ?_
    refine g_in eF12_isAhead_15 mx2471 ?_
    refine g_ch [(0, .ref x0), (1, .int x1), (2, .int x2)] [.ref x0] (pc' := 16) rfl rfl rfl ?_
    obtain ⟨v25, e26, h⟩ := m_bd h
    refine g_gr q12_f42 e26 ?_
    refine g_ch [(0, .ref x0), (1, .int x1), (2, .int x2)] [.int x1, .ref v25] (pc' := 20) rfl rfl rfl ?_
    obtain ⟨v27, e28, h⟩ := m_bd h
    refine g_ia e28 ?_
    refine g_ch [(0, .ref x0), (1, .int x1), (2, .int x2)] [.ref x0, .int v27] (pc' := 22) rfl rfl rfl ?_
    obtain ⟨v29, e30, h⟩ := m_bd h
    refine g_gr q12_f42 e30 ?_
    refine g_ch [(0, .ref x0), (1, .int x1), (2, .int x2)] [.int x2, .ref v29, .int v27] (pc' := 26) rfl rfl rfl ?_
    obtain ⟨v31, e32, h⟩ := m_bd h
    refine g_ia e32 ?_
    rcases m_ifd h with ⟨c33, h⟩ | ⟨c33, h⟩
    · refine g_if (t := 34) rfl (m_leT c33) ?_
      refine g_in eF12_isAhead_34 mx2471 ?_
      refine g_ch [(0, .ref x0), (1, .int x1), (2, .int x2)] [.int 0] (pc' := 35) rfl rfl rfl ?_
      refine g_end ?_
      refine g_in eF12_isAhead_35 mx2471 ?_
      cases h
      rw [k0 _ hK]
      exact g_iret rfl (by decide +kernel)
    · refine g_ifn (t := 34) rfl (m_leF c33) ?_
      refine g_in eF12_isAhead_30 mx2471 ?_
      refine g_ch [(0, .ref x0), (1, .int x1), (2, .int x2)] [.int 1] (pc' := 31) rfl rfl rfl ?_
      refine g_goto (t := 35) rfl ?_
      refine g_in eF12_isAhead_35 mx2471 ?_
      cases h
      rw [k0 _ hK]
      exact g_iret rfl (by decide +kernel)
theorem OF12_isAhead {x0 : Nat} {x1 : Int32} {x2 : Int32} {hp : m_H} {x : Int32} (h : F12_isAhead x0 x1 x2 hp = some x) : m_isO hp 9 x0 = true := (m_gdd h).1
theorem SF12_isAhead {xs : Nat → Int32} {L : Nat} {x0 : Nat} {x1 : Int32} {x2 : Int32} {hp : m_H} {x : Int32} (h : F12_isAhead x0 x1 x2 hp = some x) : m_Rn xs L 1 2471 0 (lv_args 0 [.ref x0, .int x1, .int x2]) [] hp (.inl (some (.int x)), hp) :=
  r_lv (SF12_isAhead_0 x0 x1 x2 hp (K := fun y => y = x) (fun y e => by rw [e]) (m_gdd h).2 rfl) rfl ⟨rfl, rfl, rfl, trivial⟩
-- F12_nextFor: LendHouseModel.nextFor(I)I
theorem eF12_nextFor_0 : m_Fe mi12_72 0 (m_ap [(.iconst (-1), 1), (.istore_n 2, 1), (.iconst 0, 1), (.istore_n 3, 1)] ([])) := m_Fe_of nd2472 0 4 rfl
theorem eF12_nextFor_4 : m_Fe mi12_72 4 (m_ap [(.iload_n 3, 1), (.aload_n 0, 1)] ((.getfield 14, 3) :: (m_ap [(.sipush 2908, 3)] ((.iaload, 1) :: ([(.if_icmp .ge 56, 3)]))))) := m_Fe_of nd2472 4 6 rfl
theorem eF12_nextFor_69 : m_Fe mi12_72 69 (m_ap [(.iload_n 2, 1)] ([(.ireturn, 1)])) := m_Fe_of nd2472 39 2 rfl
theorem eF12_nextFor_16 : m_Fe mi12_72 16 (m_ap [(.aload_n 0, 1)] ((.getfield 14, 3) :: (m_ap [(.iload_n 3, 1)] ((.invokestatic 279, 3) :: (m_ap [(.iconst 1, 1), (.iadd, 1)] ((.iaload, 1) :: (m_ap [(.iload_n 1, 1)] ([(.if_icmp .ne 35, 3)])))))))) := m_Fe_of nd2472 10 9 rfl
theorem eF12_nextFor_63 : m_Fe mi12_72 63 (m_ap [(.iinc 3 1, 3)] ([(.goto (-62), 3)])) := m_Fe_of nd2472 37 2 rfl
theorem eF12_nextFor_31 : m_Fe mi12_72 31 (m_ap [(.aload_n 0, 1)] ((.getfield 45, 3) :: (m_ap [(.iload_n 3, 1)] ((.baload, 1) :: ([(.ifCond .ne 26, 3)]))))) := m_Fe_of nd2472 19 5 rfl
theorem eF12_nextFor_40 : m_Fe mi12_72 40 (m_ap [(.aload_n 0, 1), (.iload_n 3, 1)] ((.invokevirtual 298, 3) :: ([(.ifCond .le 18, 3)]))) := m_Fe_of nd2472 24 4 rfl
theorem eF12_nextFor_48 : m_Fe mi12_72 48 (m_ap [(.iload_n 2, 1)] ([(.ifCond .lt 12, 3)])) := m_Fe_of nd2472 28 2 rfl
theorem eF12_nextFor_61 : m_Fe mi12_72 61 (m_ap [(.iload_n 3, 1), (.istore_n 2, 1)] ([])) := m_Fe_of nd2472 35 2 rfl
theorem eF12_nextFor_52 : m_Fe mi12_72 52 (m_ap [(.aload_n 0, 1), (.iload_n 3, 1), (.iload_n 2, 1)] ((.invokevirtual 301, 3) :: ([(.ifCond .eq 5, 3)]))) := m_Fe_of nd2472 30 5 rfl
theorem SF12_nextFor_4b {xs : Nat → Int32} {L : Nat} (x0 : Nat) (x1 : Int32) (hp : m_H) (s : Int32 × Int32) {r : m_O × m_H} {K : ((Int32 × Int32) ⊕ Int32) → Prop} (k0 : ∀ x, K (.inr x) → r = (.inl (some (.int x)), hp)) (k1 : ∀ s, K (.inl s) → m_Rn xs L 2 2472 4 [(0, .ref x0), (1, .int x1), (2, .int s.1), (3, .int s.2)] [] hp r) {t : (Int32 × Int32) ⊕ Int32} (h : F12_nextFor_4b x0 x1 hp s = some t) (hK : K t) : m_Rn xs L 2 2472 4 [(0, .ref x0), (1, .int x1), (2, .int s.1), (3, .int s.2)] [] hp r := by
  unfold F12_nextFor_4b at h
  refine g_in eF12_nextFor_4 mx2472 ?_
  refine g_ch [(0, .ref x0), (1, .int x1), (2, .int s.1), (3, .int s.2)] [.ref x0, .int s.2] (pc' := 6) rfl rfl rfl ?_
  obtain ⟨v1, e2, h⟩ := m_bd h
  refine g_gr q12_f14 e2 ?_
  refine g_ch [(0, .ref x0), (1, .int x1), (2, .int s.1), (3, .int s.2)] [.int 2908, .ref v1, .int s.2] (pc' := 12) rfl rfl rfl ?_
  obtain ⟨v3, e4, h⟩ := m_bd h
  refine g_ia e4 ?_
  rcases m_ifd h with ⟨c5, h⟩ | ⟨c5, h⟩
  · refine g_if (t := 69) rfl (m_geT c5) ?_
    refine g_in eF12_nextFor_69 mx2472 ?_
    refine g_ch [(0, .ref x0), (1, .int x1), (2, .int s.1), (3, .int s.2)] [.int s.1] (pc' := 70) rfl rfl rfl ?_
    cases h
    rw [k0 _ hK]
    exact g_iret rfl rfl
  · refine g_ifn (t := 69) rfl (m_geF c5) ?_
    refine g_in eF12_nextFor_16 mx2472 ?_
    refine g_ch [(0, .ref x0), (1, .int x1), (2, .int s.1), (3, .int s.2)] [.ref x0] (pc' := 17) rfl rfl rfl ?_
    obtain ⟨v6, e7, h⟩ := m_bd h
    refine g_gr q12_f14 e7 ?_
    refine g_ch [(0, .ref x0), (1, .int x1), (2, .int s.1), (3, .int s.2)] [.int s.2, .ref v6] (pc' := 21) rfl rfl rfl ?_
    obtain ⟨v9, e8, h⟩ := m_bd h
    refine g_call (v := some (.int v9)) (h := hp) (st' := [.int v9, .ref v6]) (D1 := 0) (as := [.int s.2]) (Or.inl rfl) q12_m279 (m_cs (as := [.int s.2]) (rest := [.ref v6]) q12_m279 jv2465 rfl rfl rfl rfl rfl) (by decide) (SF12_requestAt e8) rfl ?_
    refine g_ch [(0, .ref x0), (1, .int x1), (2, .int s.1), (3, .int s.2)] [.int (v9 + 1), .ref v6] (pc' := 26) rfl rfl rfl ?_
    obtain ⟨v10, e11, h⟩ := m_bd h
    refine g_ia e11 ?_
    refine g_ch [(0, .ref x0), (1, .int x1), (2, .int s.1), (3, .int s.2)] [.int x1, .int v10] (pc' := 28) rfl rfl rfl ?_
    rcases m_ifd h with ⟨c12, h⟩ | ⟨c12, h⟩
    · refine g_ifn (t := 63) rfl (m_neF c12) ?_
      refine g_in eF12_nextFor_31 mx2472 ?_
      refine g_ch [(0, .ref x0), (1, .int x1), (2, .int s.1), (3, .int s.2)] [.ref x0] (pc' := 32) rfl rfl rfl ?_
      obtain ⟨v13, e14, h⟩ := m_bd h
      refine g_gr q12_f45 e14 ?_
      refine g_ch [(0, .ref x0), (1, .int x1), (2, .int s.1), (3, .int s.2)] [.int s.2, .ref v13] (pc' := 36) rfl rfl rfl ?_
      obtain ⟨v15, e16, h⟩ := m_bd h
      refine g_ba3 e16 ?_
      rcases m_ifd h with ⟨c17, h⟩ | ⟨c17, h⟩
      · refine g_ifcn (t := 63) rfl (m_neF c17) ?_
        refine g_in eF12_nextFor_40 mx2472 ?_
        refine g_ch [(0, .ref x0), (1, .int x1), (2, .int s.1), (3, .int s.2)] [.int s.2, .ref x0] (pc' := 42) rfl rfl rfl ?_
        obtain ⟨v19, e18, h⟩ := m_bd h
        refine g_call (v := some (.int v19)) (h := hp) (st' := [.int v19]) (D1 := 1) (as := [.ref x0, .int s.2]) (Or.inr (Or.inl rfl)) q12_m298 (m_cv (as := [.int s.2]) (rest := []) (Or.inl rfl) q12_m298 jv2468 (OF12_lacks e18) rfl rfl rfl rfl) (by decide) (SF12_lacks e18) rfl ?_
        rcases m_ifd h with ⟨c20, h⟩ | ⟨c20, h⟩
        · refine g_ifc (t := 63) rfl (m_leT c20) ?_
          refine g_in eF12_nextFor_63 mx2472 ?_
          refine g_ch [(3, .int (s.2 + 1)), (0, .ref x0), (1, .int x1), (2, .int s.1)] [] (pc' := 66) rfl rfl rfl ?_
          refine g_goto (t := 4) rfl ?_
          cases h
          exact r_lv (k1 (s.1, (s.2 + 1)) hK) rfl ⟨rfl, rfl, rfl, rfl, trivial⟩
        · refine g_ifcn (t := 63) rfl (m_leF c20) ?_
          refine g_in eF12_nextFor_48 mx2472 ?_
          refine g_ch [(0, .ref x0), (1, .int x1), (2, .int s.1), (3, .int s.2)] [.int s.1] (pc' := 49) rfl rfl rfl ?_
          rcases m_ifd h with ⟨c21, h⟩ | ⟨c21, h⟩
          · refine g_ifc (t := 61) rfl (m_ltT c21) ?_
            refine g_in eF12_nextFor_61 mx2472 ?_
            refine g_ch [(2, .int s.2), (0, .ref x0), (1, .int x1), (3, .int s.2)] [] (pc' := 63) rfl rfl rfl ?_
            refine g_end ?_
            refine g_in eF12_nextFor_63 mx2472 ?_
            refine g_ch [(3, .int (s.2 + 1)), (2, .int s.2), (0, .ref x0), (1, .int x1)] [] (pc' := 66) rfl rfl rfl ?_
            refine g_goto (t := 4) rfl ?_
            cases h
            exact r_lv (k1 (s.2, (s.2 + 1)) hK) rfl ⟨rfl, rfl, rfl, rfl, trivial⟩
          · refine g_ifcn (t := 61) rfl (m_ltF c21) ?_
            refine g_in eF12_nextFor_52 mx2472 ?_
            refine g_ch [(0, .ref x0), (1, .int x1), (2, .int s.1), (3, .int s.2)] [.int s.1, .int s.2, .ref x0] (pc' := 55) rfl rfl rfl ?_
            obtain ⟨v23, e22, h⟩ := m_bd h
            refine g_call (v := some (.int v23)) (h := hp) (st' := [.int v23]) (D1 := 1) (as := [.ref x0, .int s.2, .int s.1]) (Or.inr (Or.inl rfl)) q12_m301 (m_cv (as := [.int s.1, .int s.2]) (rest := []) (Or.inl rfl) q12_m301 jv2471 (OF12_isAhead e22) rfl rfl rfl rfl) (by decide) (SF12_isAhead e22) rfl ?_
            rcases m_ifd h with ⟨c24, h⟩ | ⟨c24, h⟩
            · refine g_ifc (t := 63) rfl (m_eqT c24) ?_
              refine g_in eF12_nextFor_63 mx2472 ?_
              refine g_ch [(3, .int (s.2 + 1)), (0, .ref x0), (1, .int x1), (2, .int s.1)] [] (pc' := 66) rfl rfl rfl ?_
              refine g_goto (t := 4) rfl ?_
              cases h
              exact r_lv (k1 (s.1, (s.2 + 1)) hK) rfl ⟨rfl, rfl, rfl, rfl, trivial⟩
            · refine g_ifcn (t := 63) rfl (m_eqF c24) ?_
              refine g_in eF12_nextFor_61 mx2472 ?_
              refine g_ch [(2, .int s.2), (0, .ref x0), (1, .int x1), (3, .int s.2)] [] (pc' := 63) rfl rfl rfl ?_
              refine g_end ?_
              refine g_in eF12_nextFor_63 mx2472 ?_
              refine g_ch [(3, .int (s.2 + 1)), (2, .int s.2), (0, .ref x0), (1, .int x1)] [] (pc' := 66) rfl rfl rfl ?_
              refine g_goto (t := 4) rfl ?_
              cases h
              exact r_lv (k1 (s.2, (s.2 + 1)) hK) rfl ⟨rfl, rfl, rfl, rfl, trivial⟩
      · refine g_ifc (t := 63) rfl (m_neT c17) ?_
        refine g_in eF12_nextFor_63 mx2472 ?_
        refine g_ch [(3, .int (s.2 + 1)), (0, .ref x0), (1, .int x1), (2, .int s.1)] [] (pc' := 66) rfl rfl rfl ?_
        refine g_goto (t := 4) rfl ?_
        cases h
        exact r_lv (k1 (s.1, (s.2 + 1)) hK) rfl ⟨rfl, rfl, rfl, rfl, trivial⟩
    · refine g_if (t := 63) rfl (m_neT c12) ?_
      refine g_in eF12_nextFor_63 mx2472 ?_
      refine g_ch [(3, .int (s.2 + 1)), (0, .ref x0), (1, .int x1), (2, .int s.1)] [] (pc' := 66) rfl rfl rfl ?_
      refine g_goto (t := 4) rfl ?_
      cases h
      exact r_lv (k1 (s.1, (s.2 + 1)) hK) rfl ⟨rfl, rfl, rfl, rfl, trivial⟩
theorem SF12_nextFor_4 {xs : Nat → Int32} {L : Nat} (x0 : Nat) (x1 : Int32) (x2 : Int32) (x3 : Int32) (hp : m_H) {r : m_O × m_H} {K : Int32 → Prop} (k0 : ∀ x, K x → r = (.inl (some (.int x)), hp)) {t : Int32} (h : F12_nextFor_4 x0 x1 x2 x3 hp = some t) (hK : K t) : m_Rn xs L 2 2472 4 [(0, .ref x0), (1, .int x1), (2, .int x2), (3, .int x3)] [] hp r :=
  m_wh_ok (P := fun s => m_Rn xs L 2 2472 4 [(0, .ref x0), (1, .int x1), (2, .int s.1), (3, .int s.2)] [] hp r) (Q := K) (fun s t hb hK => SF12_nextFor_4b x0 x1 hp s (K := m_KK (fun s => m_Rn xs L 2 2472 4 [(0, .ref x0), (1, .int x1), (2, .int s.1), (3, .int s.2)] [] hp r) K) k0 (fun _ q => q) hb hK) m_N _ _ h hK
theorem SF12_nextFor_0 {xs : Nat → Int32} {L : Nat} (x0 : Nat) (x1 : Int32) (hp : m_H) {r : m_O × m_H} {K : Int32 → Prop} (k0 : ∀ x, K x → r = (.inl (some (.int x)), hp)) {t : Int32} (h : F12_nextFor_0 x0 x1 hp = some t) (hK : K t) : m_Rn xs L 2 2472 0 [(0, .ref x0), (1, .int x1)] [] hp r := by
  unfold F12_nextFor_0 at h
  refine g_in eF12_nextFor_0 mx2472 ?_
  refine g_ch [(3, .int 0), (2, .int (-1)), (0, .ref x0), (1, .int x1)] [] (pc' := 4) rfl rfl rfl ?_
  refine g_end ?_
  exact r_lv (SF12_nextFor_4 x0 x1 (-1) 0 hp (K := K) k0 h hK) rfl ⟨rfl, rfl, rfl, rfl, trivial⟩
theorem OF12_nextFor {x0 : Nat} {x1 : Int32} {hp : m_H} {x : Int32} (h : F12_nextFor x0 x1 hp = some x) : m_isO hp 9 x0 = true := (m_gdd h).1
theorem SF12_nextFor {xs : Nat → Int32} {L : Nat} {x0 : Nat} {x1 : Int32} {hp : m_H} {x : Int32} (h : F12_nextFor x0 x1 hp = some x) : m_Rn xs L 2 2472 0 (lv_args 0 [.ref x0, .int x1]) [] hp (.inl (some (.int x)), hp) :=
  r_lv (SF12_nextFor_0 x0 x1 hp (K := fun y => y = x) (fun y e => by rw [e]) (m_gdd h).2 rfl) rfl ⟨rfl, rfl, trivial⟩
-- F12_stockOf: LendHouseModel.stockOf(I)I
theorem eF12_stockOf_0 : m_Fe mi12_73 0 (m_ap [(.iconst 0, 1), (.istore_n 2, 1), (.iconst 0, 1), (.istore_n 3, 1)] ([])) := m_Fe_of nd2473 0 4 rfl
theorem eF12_stockOf_4 : m_Fe mi12_73 4 (m_ap [(.iload_n 3, 1), (.aload_n 0, 1)] ((.getfield 14, 3) :: (m_ap [(.sipush 807, 3)] ((.iaload, 1) :: ([(.if_icmp .ge 41, 3)]))))) := m_Fe_of nd2473 4 6 rfl
theorem eF12_stockOf_54 : m_Fe mi12_73 54 (m_ap [(.iload_n 2, 1)] ([(.ireturn, 1)])) := m_Fe_of nd2473 31 2 rfl
theorem eF12_stockOf_16 : m_Fe mi12_73 16 (m_ap [(.iload_n 2, 1), (.aload_n 0, 1), (.iload_n 3, 1)] ((.invokevirtual 128, 3) :: ([(.ifCond .eq 23, 3)]))) := m_Fe_of nd2473 10 5 rfl
theorem eF12_stockOf_45 : m_Fe mi12_73 45 (m_ap [(.iconst 0, 1)] ([])) := m_Fe_of nd2473 26 1 rfl
theorem eF12_stockOf_46 : m_Fe mi12_73 46 (m_ap [(.iadd, 1), (.istore_n 2, 1), (.iinc 3 1, 3)] ([(.goto (-47), 3)])) := m_Fe_of nd2473 27 4 rfl
theorem eF12_stockOf_25 : m_Fe mi12_73 25 (m_ap [(.aload_n 0, 1), (.iload_n 3, 1), (.iconst 0, 1)] ((.invokevirtual 115, 3) :: (m_ap [(.iload_n 1, 1)] ([(.if_icmp .ne 13, 3)])))) := m_Fe_of nd2473 15 6 rfl
theorem eF12_stockOf_35 : m_Fe mi12_73 35 (m_ap [(.aload_n 0, 1), (.iload_n 3, 1), (.bipush 11, 2)] ((.invokevirtual 115, 3) :: ([(.goto 4, 3)]))) := m_Fe_of nd2473 21 5 rfl
theorem SF12_stockOf_4b {xs : Nat → Int32} {L : Nat} (x0 : Nat) (x1 : Int32) (hp : m_H) (s : Int32 × Int32) {r : m_O × m_H} {K : ((Int32 × Int32) ⊕ Int32) → Prop} (k0 : ∀ x, K (.inr x) → r = (.inl (some (.int x)), hp)) (k1 : ∀ s, K (.inl s) → m_Rn xs L 3 2473 4 [(0, .ref x0), (1, .int x1), (2, .int s.1), (3, .int s.2)] [] hp r) {t : (Int32 × Int32) ⊕ Int32} (h : F12_stockOf_4b x0 x1 hp s = some t) (hK : K t) : m_Rn xs L 3 2473 4 [(0, .ref x0), (1, .int x1), (2, .int s.1), (3, .int s.2)] [] hp r := by
  unfold F12_stockOf_4b at h
  refine g_in eF12_stockOf_4 mx2473 ?_
  refine g_ch [(0, .ref x0), (1, .int x1), (2, .int s.1), (3, .int s.2)] [.ref x0, .int s.2] (pc' := 6) rfl rfl rfl ?_
  obtain ⟨v1, e2, h⟩ := m_bd h
  refine g_gr q12_f14 e2 ?_
  refine g_ch [(0, .ref x0), (1, .int x1), (2, .int s.1), (3, .int s.2)] [.int 807, .ref v1, .int s.2] (pc' := 12) rfl rfl rfl ?_
  obtain ⟨v3, e4, h⟩ := m_bd h
  refine g_ia e4 ?_
  rcases m_ifd h with ⟨c5, h⟩ | ⟨c5, h⟩
  · refine g_if (t := 54) rfl (m_geT c5) ?_
    refine g_in eF12_stockOf_54 mx2473 ?_
    refine g_ch [(0, .ref x0), (1, .int x1), (2, .int s.1), (3, .int s.2)] [.int s.1] (pc' := 55) rfl rfl rfl ?_
    cases h
    rw [k0 _ hK]
    exact g_iret rfl rfl
  · refine g_ifn (t := 54) rfl (m_geF c5) ?_
    refine g_in eF12_stockOf_16 mx2473 ?_
    refine g_ch [(0, .ref x0), (1, .int x1), (2, .int s.1), (3, .int s.2)] [.int s.2, .ref x0, .int s.1] (pc' := 19) rfl rfl rfl ?_
    obtain ⟨v7, e6, h⟩ := m_bd h
    refine g_call (v := some (.int v7)) (h := hp) (st' := [.int v7, .int s.1]) (D1 := 2) (as := [.ref x0, .int s.2]) (Or.inr (Or.inl rfl)) q12_m128 (m_cv (as := [.int s.2]) (rest := [.int s.1]) (Or.inl rfl) q12_m128 jv2430 (OF12_isStock e6) rfl rfl rfl rfl) (by decide) (SF12_isStock e6) rfl ?_
    rcases m_ifd h with ⟨c8, h⟩ | ⟨c8, h⟩
    · refine g_ifc (t := 45) rfl (m_eqT c8) ?_
      refine g_in eF12_stockOf_45 mx2473 ?_
      refine g_ch [(0, .ref x0), (1, .int x1), (2, .int s.1), (3, .int s.2)] [.int 0, .int s.1] (pc' := 46) rfl rfl rfl ?_
      refine g_end ?_
      refine g_in eF12_stockOf_46 mx2473 ?_
      refine g_ch [(3, .int (s.2 + 1)), (2, .int (s.1 + 0)), (0, .ref x0), (1, .int x1)] [] (pc' := 51) rfl rfl rfl ?_
      refine g_goto (t := 4) rfl ?_
      cases h
      exact r_lv (k1 ((s.1 + 0), (s.2 + 1)) hK) rfl ⟨rfl, rfl, rfl, rfl, trivial⟩
    · refine g_ifcn (t := 45) rfl (m_eqF c8) ?_
      refine g_in eF12_stockOf_25 mx2473 ?_
      refine g_ch [(0, .ref x0), (1, .int x1), (2, .int s.1), (3, .int s.2)] [.int 0, .int s.2, .ref x0, .int s.1] (pc' := 28) rfl rfl rfl ?_
      obtain ⟨v10, e9, h⟩ := m_bd h
      refine g_call (v := some (.int v10)) (h := hp) (st' := [.int v10, .int s.1]) (D1 := 1) (as := [.ref x0, .int s.2, .int 0]) (Or.inr (Or.inl rfl)) q12_m115 (m_cv (as := [.int 0, .int s.2]) (rest := [.int s.1]) (Or.inl rfl) q12_m115 jv2426 (OF12_of e9) rfl rfl rfl rfl) (by decide) (SF12_of e9) rfl ?_
      refine g_ch [(0, .ref x0), (1, .int x1), (2, .int s.1), (3, .int s.2)] [.int x1, .int v10, .int s.1] (pc' := 32) rfl rfl rfl ?_
      rcases m_ifd h with ⟨c11, h⟩ | ⟨c11, h⟩
      · refine g_ifn (t := 45) rfl (m_neF c11) ?_
        refine g_in eF12_stockOf_35 mx2473 ?_
        refine g_ch [(0, .ref x0), (1, .int x1), (2, .int s.1), (3, .int s.2)] [.int 11, .int s.2, .ref x0, .int s.1] (pc' := 39) rfl rfl rfl ?_
        obtain ⟨v13, e12, h⟩ := m_bd h
        refine g_call (v := some (.int v13)) (h := hp) (st' := [.int v13, .int s.1]) (D1 := 1) (as := [.ref x0, .int s.2, .int 11]) (Or.inr (Or.inl rfl)) q12_m115 (m_cv (as := [.int 11, .int s.2]) (rest := [.int s.1]) (Or.inl rfl) q12_m115 jv2426 (OF12_of e12) rfl rfl rfl rfl) (by decide) (SF12_of e12) rfl ?_
        refine g_goto (t := 46) rfl ?_
        refine g_in eF12_stockOf_46 mx2473 ?_
        refine g_ch [(3, .int (s.2 + 1)), (2, .int (s.1 + v13)), (0, .ref x0), (1, .int x1)] [] (pc' := 51) rfl rfl rfl ?_
        refine g_goto (t := 4) rfl ?_
        cases h
        exact r_lv (k1 ((s.1 + v13), (s.2 + 1)) hK) rfl ⟨rfl, rfl, rfl, rfl, trivial⟩
      · refine g_if (t := 45) rfl (m_neT c11) ?_
        refine g_in eF12_stockOf_45 mx2473 ?_
        refine g_ch [(0, .ref x0), (1, .int x1), (2, .int s.1), (3, .int s.2)] [.int 0, .int s.1] (pc' := 46) rfl rfl rfl ?_
        refine g_end ?_
        refine g_in eF12_stockOf_46 mx2473 ?_
        refine g_ch [(3, .int (s.2 + 1)), (2, .int (s.1 + 0)), (0, .ref x0), (1, .int x1)] [] (pc' := 51) rfl rfl rfl ?_
        refine g_goto (t := 4) rfl ?_
        cases h
        exact r_lv (k1 ((s.1 + 0), (s.2 + 1)) hK) rfl ⟨rfl, rfl, rfl, rfl, trivial⟩
theorem SF12_stockOf_4 {xs : Nat → Int32} {L : Nat} (x0 : Nat) (x1 : Int32) (x2 : Int32) (x3 : Int32) (hp : m_H) {r : m_O × m_H} {K : Int32 → Prop} (k0 : ∀ x, K x → r = (.inl (some (.int x)), hp)) {t : Int32} (h : F12_stockOf_4 x0 x1 x2 x3 hp = some t) (hK : K t) : m_Rn xs L 3 2473 4 [(0, .ref x0), (1, .int x1), (2, .int x2), (3, .int x3)] [] hp r :=
  m_wh_ok (P := fun s => m_Rn xs L 3 2473 4 [(0, .ref x0), (1, .int x1), (2, .int s.1), (3, .int s.2)] [] hp r) (Q := K) (fun s t hb hK => SF12_stockOf_4b x0 x1 hp s (K := m_KK (fun s => m_Rn xs L 3 2473 4 [(0, .ref x0), (1, .int x1), (2, .int s.1), (3, .int s.2)] [] hp r) K) k0 (fun _ q => q) hb hK) m_N _ _ h hK
theorem SF12_stockOf_0 {xs : Nat → Int32} {L : Nat} (x0 : Nat) (x1 : Int32) (hp : m_H) {r : m_O × m_H} {K : Int32 → Prop} (k0 : ∀ x, K x → r = (.inl (some (.int x)), hp)) {t : Int32} (h : F12_stockOf_0 x0 x1 hp = some t) (hK : K t) : m_Rn xs L 3 2473 0 [(0, .ref x0), (1, .int x1)] [] hp r := by
  unfold F12_stockOf_0 at h
  refine g_in eF12_stockOf_0 mx2473 ?_
  refine g_ch [(3, .int 0), (2, .int 0), (0, .ref x0), (1, .int x1)] [] (pc' := 4) rfl rfl rfl ?_
  refine g_end ?_
  exact r_lv (SF12_stockOf_4 x0 x1 0 0 hp (K := K) k0 h hK) rfl ⟨rfl, rfl, rfl, rfl, trivial⟩
theorem OF12_stockOf {x0 : Nat} {x1 : Int32} {hp : m_H} {x : Int32} (h : F12_stockOf x0 x1 hp = some x) : m_isO hp 9 x0 = true := (m_gdd h).1
theorem SF12_stockOf {xs : Nat → Int32} {L : Nat} {x0 : Nat} {x1 : Int32} {hp : m_H} {x : Int32} (h : F12_stockOf x0 x1 hp = some x) : m_Rn xs L 3 2473 0 (lv_args 0 [.ref x0, .int x1]) [] hp (.inl (some (.int x)), hp) :=
  r_lv (SF12_stockOf_0 x0 x1 hp (K := fun y => y = x) (fun y e => by rw [e]) (m_gdd h).2 rfl) rfl ⟨rfl, rfl, trivial⟩
-- F12_empties: LendHouseModel.empties(II)V
theorem eF12_empties_0 : m_Fe mi12_74 0 (m_ap [(.iload_n 2, 1), (.istore_n 3, 1), (.iconst 0, 1), (.istore 4, 2)] ([])) := m_Fe_of nd2474 0 4 rfl
theorem eF12_empties_5 : m_Fe mi12_74 5 (m_ap [(.iload 4, 2), (.aload_n 0, 1)] ((.getfield 14, 3) :: (m_ap [(.sipush 807, 3)] ((.iaload, 1) :: ([(.if_icmp .ge 88, 3)]))))) := m_Fe_of nd2474 4 6 rfl
theorem eF12_empties_103 : m_Fe mi12_74 103 ([(.return_, 1)]) := m_Fe_of nd2474 56 1 rfl
theorem eF12_empties_18 : m_Fe mi12_74 18 (m_ap [(.iload_n 3, 1)] ([(.ifCond .le 84, 3)])) := m_Fe_of nd2474 10 2 rfl
theorem eF12_empties_22 : m_Fe mi12_74 22 (m_ap [(.aload_n 0, 1), (.iload 4, 2)] ((.invokevirtual 128, 3) :: ([(.ifCond .eq 69, 3)]))) := m_Fe_of nd2474 12 4 rfl
theorem eF12_empties_97 : m_Fe mi12_74 97 (m_ap [(.iinc 4 1, 3)] ([(.goto (-95), 3)])) := m_Fe_of nd2474 54 2 rfl
theorem eF12_empties_31 : m_Fe mi12_74 31 (m_ap [(.aload_n 0, 1), (.iload 4, 2), (.iconst 0, 1)] ((.invokevirtual 115, 3) :: (m_ap [(.iload_n 1, 1)] ([(.if_icmp .eq 6, 3)])))) := m_Fe_of nd2474 16 6 rfl
theorem eF12_empties_45 : m_Fe mi12_74 45 (m_ap [(.iload_n 3, 1), (.aload_n 0, 1), (.iload 4, 2), (.bipush 11, 2)] ((.invokevirtual 115, 3) :: ((.invokestatic 304, 3) :: (m_ap [(.istore 5, 2), (.aload_n 0, 1)] ((.getfield 14, 3) :: (m_ap [(.iload 4, 2), (.bipush 11, 2)] ((.invokestatic 112, 3) :: (m_ap [(.dup2, 1)] ((.iaload, 1) :: (m_ap [(.iload 5, 2), (.isub, 1)] ((.iastore, 1) :: (m_ap [(.aload_n 0, 1)] ((.getfield 14, 3) :: (m_ap [(.iload 4, 2), (.iconst 1, 1)] ((.invokestatic 112, 3) :: (m_ap [(.dup2, 1)] ((.iaload, 1) :: (m_ap [(.iload 5, 2), (.isub, 1)] ((.iastore, 1) :: (m_ap [(.iload_n 3, 1), (.iload 5, 2), (.isub, 1), (.istore_n 3, 1)] ([]))))))))))))))))))))) := m_Fe_of nd2474 23 31 rfl
theorem eF12_empties_42 : m_Fe mi12_74 42 ([(.goto 55, 3)]) := m_Fe_of nd2474 22 1 rfl
theorem SF12_empties_5b {xs : Nat → Int32} {L : Nat} (x0 : Nat) (x1 : Int32) (s : Int32 × Int32 × m_H) {r : m_O × m_H} {K : ((Int32 × Int32 × m_H) ⊕ m_H) → Prop} (k0 : ∀ x, K (.inr x) → r = (.inl none, x)) (k1 : ∀ s, K (.inl s) → m_Rn xs L 7 2474 5 [(0, .ref x0), (1, .int x1), (3, .int s.1), (4, .int s.2.1)] [] s.2.2 r) {t : (Int32 × Int32 × m_H) ⊕ m_H} (h : F12_empties_5b x0 x1 s = some t) (hK : K t) : m_Rn xs L 7 2474 5 [(0, .ref x0), (1, .int x1), (3, .int s.1), (4, .int s.2.1)] [] s.2.2 r := by
  unfold F12_empties_5b at h
  refine g_in eF12_empties_5 mx2474 ?_
  refine g_ch [(0, .ref x0), (1, .int x1), (3, .int s.1), (4, .int s.2.1)] [.ref x0, .int s.2.1] (pc' := 8) rfl rfl rfl ?_
  obtain ⟨v1, e2, h⟩ := m_bd h
  refine g_gr q12_f14 e2 ?_
  refine g_ch [(0, .ref x0), (1, .int x1), (3, .int s.1), (4, .int s.2.1)] [.int 807, .ref v1, .int s.2.1] (pc' := 14) rfl rfl rfl ?_
  obtain ⟨v3, e4, h⟩ := m_bd h
  refine g_ia e4 ?_
  rcases m_ifd h with ⟨c5, h⟩ | ⟨c5, h⟩
  · refine g_if (t := 103) rfl (m_geT c5) ?_
    refine g_in eF12_empties_103 mx2474 ?_
    cases h
    rw [k0 _ hK]
    exact g_vret rfl
  · refine g_ifn (t := 103) rfl (m_geF c5) ?_
    refine g_in eF12_empties_18 mx2474 ?_
    refine g_ch [(0, .ref x0), (1, .int x1), (3, .int s.1), (4, .int s.2.1)] [.int s.1] (pc' := 19) rfl rfl rfl ?_
    rcases m_ifd h with ⟨c6, h⟩ | ⟨c6, h⟩
    · refine g_ifc (t := 103) rfl (m_leT c6) ?_
      refine g_in eF12_empties_103 mx2474 ?_
      cases h
      rw [k0 _ hK]
      exact g_vret rfl
    · refine g_ifcn (t := 103) rfl (m_leF c6) ?_
      refine g_in eF12_empties_22 mx2474 ?_
      refine g_ch [(0, .ref x0), (1, .int x1), (3, .int s.1), (4, .int s.2.1)] [.int s.2.1, .ref x0] (pc' := 25) rfl rfl rfl ?_
      obtain ⟨v8, e7, h⟩ := m_bd h
      refine g_call (v := some (.int v8)) (h := s.2.2) (st' := [.int v8]) (D1 := 2) (as := [.ref x0, .int s.2.1]) (Or.inr (Or.inl rfl)) q12_m128 (m_cv (as := [.int s.2.1]) (rest := []) (Or.inl rfl) q12_m128 jv2430 (OF12_isStock e7) rfl rfl rfl rfl) (by decide) (SF12_isStock e7) rfl ?_
      rcases m_ifd h with ⟨c9, h⟩ | ⟨c9, h⟩
      · refine g_ifc (t := 97) rfl (m_eqT c9) ?_
        refine g_in eF12_empties_97 mx2474 ?_
        refine g_ch [(4, .int (s.2.1 + 1)), (0, .ref x0), (1, .int x1), (3, .int s.1)] [] (pc' := 100) rfl rfl rfl ?_
        refine g_goto (t := 5) rfl ?_
        cases h
        exact r_lv (k1 (s.1, (s.2.1 + 1), s.2.2) hK) rfl ⟨rfl, rfl, rfl, rfl, trivial⟩
      · refine g_ifcn (t := 97) rfl (m_eqF c9) ?_
        refine g_in eF12_empties_31 mx2474 ?_
        refine g_ch [(0, .ref x0), (1, .int x1), (3, .int s.1), (4, .int s.2.1)] [.int 0, .int s.2.1, .ref x0] (pc' := 35) rfl rfl rfl ?_
        obtain ⟨v11, e10, h⟩ := m_bd h
        refine g_call (v := some (.int v11)) (h := s.2.2) (st' := [.int v11]) (D1 := 1) (as := [.ref x0, .int s.2.1, .int 0]) (Or.inr (Or.inl rfl)) q12_m115 (m_cv (as := [.int 0, .int s.2.1]) (rest := []) (Or.inl rfl) q12_m115 jv2426 (OF12_of e10) rfl rfl rfl rfl) (by decide) (SF12_of e10) rfl ?_
        refine g_ch [(0, .ref x0), (1, .int x1), (3, .int s.1), (4, .int s.2.1)] [.int x1, .int v11] (pc' := 39) rfl rfl rfl ?_
        rcases m_ifd h with ⟨c12, h⟩ | ⟨c12, h⟩
        · refine g_if (t := 45) rfl (m_eqT c12) ?_
          refine g_in eF12_empties_45 mx2474 ?_
          refine g_ch [(0, .ref x0), (1, .int x1), (3, .int s.1), (4, .int s.2.1)] [.int 11, .int s.2.1, .ref x0, .int s.1] (pc' := 51) rfl rfl rfl ?_
          obtain ⟨v14, e13, h⟩ := m_bd h
          refine g_call (v := some (.int v14)) (h := s.2.2) (st' := [.int v14, .int s.1]) (D1 := 1) (as := [.ref x0, .int s.2.1, .int 11]) (Or.inr (Or.inl rfl)) q12_m115 (m_cv (as := [.int 11, .int s.2.1]) (rest := [.int s.1]) (Or.inl rfl) q12_m115 jv2426 (OF12_of e13) rfl rfl rfl rfl) (by decide) (SF12_of e13) rfl ?_
          refine g_nat (Or.inl rfl) q12_m304 rfl (z := ([.int (m_min s.1 v14)], s.2.2)) rfl (by decide) ?_
          refine g_ch [(5, .int (m_min s.1 v14)), (0, .ref x0), (1, .int x1), (3, .int s.1), (4, .int s.2.1)] [.ref x0] (pc' := 60) rfl rfl rfl ?_
          obtain ⟨v15, e16, h⟩ := m_bd h
          refine g_gr q12_f14 e16 ?_
          refine g_ch [(5, .int (m_min s.1 v14)), (0, .ref x0), (1, .int x1), (3, .int s.1), (4, .int s.2.1)] [.int 11, .int s.2.1, .ref v15] (pc' := 67) rfl rfl rfl ?_
          obtain ⟨v18, e17, h⟩ := m_bd h
          refine g_call (v := some (.int v18)) (h := s.2.2) (st' := [.int v18, .ref v15]) (D1 := 0) (as := [.int s.2.1, .int 11]) (Or.inl rfl) q12_m112 (m_cs (as := [.int 11, .int s.2.1]) (rest := [.ref v15]) q12_m112 jv2425 rfl rfl rfl rfl rfl) (by decide) (SF12_lotAt e17) rfl ?_
          refine g_ch [(5, .int (m_min s.1 v14)), (0, .ref x0), (1, .int x1), (3, .int s.1), (4, .int s.2.1)] [.int v18, .ref v15, .int v18, .ref v15] (pc' := 71) rfl rfl rfl ?_
          obtain ⟨v19, e20, h⟩ := m_bd h
          refine g_ia e20 ?_
          refine g_ch [(5, .int (m_min s.1 v14)), (0, .ref x0), (1, .int x1), (3, .int s.1), (4, .int s.2.1)] [.int (v19 - (m_min s.1 v14)), .int v18, .ref v15] (pc' := 75) rfl rfl rfl ?_
          obtain ⟨h21, e22, h⟩ := m_bd h
          refine g_is e22 ?_
          refine g_ch [(5, .int (m_min s.1 v14)), (0, .ref x0), (1, .int x1), (3, .int s.1), (4, .int s.2.1)] [.ref x0] (pc' := 77) rfl rfl rfl ?_
          obtain ⟨v23, e24, h⟩ := m_bd h
          refine g_gr q12_f14 e24 ?_
          refine g_ch [(5, .int (m_min s.1 v14)), (0, .ref x0), (1, .int x1), (3, .int s.1), (4, .int s.2.1)] [.int 1, .int s.2.1, .ref v23] (pc' := 83) rfl rfl rfl ?_
          obtain ⟨v26, e25, h⟩ := m_bd h
          refine g_call (v := some (.int v26)) (h := h21) (st' := [.int v26, .ref v23]) (D1 := 0) (as := [.int s.2.1, .int 1]) (Or.inl rfl) q12_m112 (m_cs (as := [.int 1, .int s.2.1]) (rest := [.ref v23]) q12_m112 jv2425 rfl rfl rfl rfl rfl) (by decide) (SF12_lotAt e25) rfl ?_
          refine g_ch [(5, .int (m_min s.1 v14)), (0, .ref x0), (1, .int x1), (3, .int s.1), (4, .int s.2.1)] [.int v26, .ref v23, .int v26, .ref v23] (pc' := 87) rfl rfl rfl ?_
          obtain ⟨v27, e28, h⟩ := m_bd h
          refine g_ia e28 ?_
          refine g_ch [(5, .int (m_min s.1 v14)), (0, .ref x0), (1, .int x1), (3, .int s.1), (4, .int s.2.1)] [.int (v27 - (m_min s.1 v14)), .int v26, .ref v23] (pc' := 91) rfl rfl rfl ?_
          obtain ⟨h29, e30, h⟩ := m_bd h
          refine g_is e30 ?_
          refine g_ch [(3, .int (s.1 - (m_min s.1 v14))), (5, .int (m_min s.1 v14)), (0, .ref x0), (1, .int x1), (4, .int s.2.1)] [] (pc' := 97) rfl rfl rfl ?_
          refine g_end ?_
          refine g_in eF12_empties_97 mx2474 ?_
          refine g_ch [(4, .int (s.2.1 + 1)), (3, .int (s.1 - (m_min s.1 v14))), (5, .int (m_min s.1 v14)), (0, .ref x0), (1, .int x1)] [] (pc' := 100) rfl rfl rfl ?_
          refine g_goto (t := 5) rfl ?_
          cases h
          exact r_lv (k1 ((s.1 - (m_min s.1 v14)), (s.2.1 + 1), h29) hK) rfl ⟨rfl, rfl, rfl, rfl, trivial⟩
        · refine g_ifn (t := 45) rfl (m_eqF c12) ?_
          refine g_in eF12_empties_42 mx2474 ?_
          refine g_goto (t := 97) rfl ?_
          refine g_in eF12_empties_97 mx2474 ?_
          refine g_ch [(4, .int (s.2.1 + 1)), (0, .ref x0), (1, .int x1), (3, .int s.1)] [] (pc' := 100) rfl rfl rfl ?_
          refine g_goto (t := 5) rfl ?_
          cases h
          exact r_lv (k1 (s.1, (s.2.1 + 1), s.2.2) hK) rfl ⟨rfl, rfl, rfl, rfl, trivial⟩
theorem SF12_empties_5 {xs : Nat → Int32} {L : Nat} (x0 : Nat) (x1 : Int32) (x3 : Int32) (x4 : Int32) (hp : m_H) {r : m_O × m_H} {K : m_H → Prop} (k0 : ∀ x, K x → r = (.inl none, x)) {t : m_H} (h : F12_empties_5 x0 x1 x3 x4 hp = some t) (hK : K t) : m_Rn xs L 7 2474 5 [(0, .ref x0), (1, .int x1), (3, .int x3), (4, .int x4)] [] hp r :=
  m_wh_ok (P := fun s => m_Rn xs L 7 2474 5 [(0, .ref x0), (1, .int x1), (3, .int s.1), (4, .int s.2.1)] [] s.2.2 r) (Q := K) (fun s t hb hK => SF12_empties_5b x0 x1 s (K := m_KK (fun s => m_Rn xs L 7 2474 5 [(0, .ref x0), (1, .int x1), (3, .int s.1), (4, .int s.2.1)] [] s.2.2 r) K) k0 (fun _ q => q) hb hK) m_N _ _ h hK
theorem SF12_empties_0 {xs : Nat → Int32} {L : Nat} (x0 : Nat) (x1 : Int32) (x2 : Int32) (hp : m_H) {r : m_O × m_H} {K : m_H → Prop} (k0 : ∀ x, K x → r = (.inl none, x)) {t : m_H} (h : F12_empties_0 x0 x1 x2 hp = some t) (hK : K t) : m_Rn xs L 7 2474 0 [(0, .ref x0), (1, .int x1), (2, .int x2)] [] hp r := by
  unfold F12_empties_0 at h
  refine g_in eF12_empties_0 mx2474 ?_
  refine g_ch [(4, .int 0), (3, .int x2), (0, .ref x0), (1, .int x1), (2, .int x2)] [] (pc' := 5) rfl rfl rfl ?_
  refine g_end ?_
  exact r_lv (SF12_empties_5 x0 x1 x2 0 hp (K := K) k0 h hK) rfl ⟨rfl, rfl, rfl, rfl, trivial⟩
theorem OF12_empties {x0 : Nat} {x1 : Int32} {x2 : Int32} {hp : m_H} {x : m_H} (h : F12_empties x0 x1 x2 hp = some x) : m_isO hp 9 x0 = true := (m_gdd h).1
theorem SF12_empties {xs : Nat → Int32} {L : Nat} {x0 : Nat} {x1 : Int32} {x2 : Int32} {hp : m_H} {x : m_H} (h : F12_empties x0 x1 x2 hp = some x) : m_Rn xs L 7 2474 0 (lv_args 0 [.ref x0, .int x1, .int x2]) [] hp (.inl none, x) :=
  r_lv (SF12_empties_0 x0 x1 x2 hp (K := fun y => y = x) (fun y e => by rw [e]) (m_gdd h).2 rfl) rfl ⟨rfl, rfl, rfl, trivial⟩
