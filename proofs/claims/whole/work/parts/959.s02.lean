/-! ===== m_: the small machine does what the functions say, piece 2 (printed) ===== -/
-- F5_sure: LendHouse$Ledger.sure(LLendHouse$House;LLendHouse$Books;I)J
theorem eF5_sure_0 : m_Fe mi5_7 0 (m_ap [(.lconst 0, 1), (.lstore_n 3, 1), (.iconst 0, 1), (.istore 5, 2)] ([])) := m_Fe_of nd1007 0 4 rfl
theorem eF5_sure_5 : m_Fe mi5_7 5 (m_ap [(.iload 5, 2), (.bipush 8, 2)] ([(.if_icmp .ge 66, 3)])) := m_Fe_of nd1007 4 3 rfl
theorem eF5_sure_75 : m_Fe mi5_7 75 (m_ap [(.lload_n 3, 1)] ([(.lreturn, 1)])) := m_Fe_of nd1007 42 2 rfl
theorem eF5_sure_12 : m_Fe mi5_7 12 (m_ap [(.aload_n 0, 1), (.iload_n 2, 1), (.iload 5, 2)] ((.invokestatic 60, 3) :: (m_ap [(.istore 6, 2), (.iload 6, 2), (.iconst (-1), 1)] ([(.if_icmp .eq 45, 3)])))) := m_Fe_of nd1007 7 8 rfl
theorem eF5_sure_69 : m_Fe mi5_7 69 (m_ap [(.iinc 5 1, 3)] ([(.goto (-67), 3)])) := m_Fe_of nd1007 40 2 rfl
theorem eF5_sure_27 : m_Fe mi5_7 27 (m_ap [(.aload_n 0, 1), (.aload_n 1, 1), (.iload_n 2, 1), (.iload 5, 2), (.aload_n 0, 1)] ((.getfield 57, 3) :: (m_ap [(.iload 6, 2), (.iconst 3, 1)] ((.invokevirtual 15, 3) :: ((.invokestatic 63, 3) :: (m_ap [(.i2l, 1), (.lstore 7, 2), (.lload_n 3, 1), (.lconst 0, 1), (.lload 7, 2), (.aload_n 0, 1)] ((.getfield 57, 3) :: (m_ap [(.iload 6, 2), (.iconst 2, 1)] ((.invokevirtual 15, 3) :: (m_ap [(.i2l, 1), (.lsub, 1)] ((.invokestatic 67, 3) :: (m_ap [(.ladd, 1), (.lstore_n 3, 1)] ([]))))))))))))) := m_Fe_of nd1007 15 25 rfl
theorem SF5_sure_5b {xs : Nat → Int32} {L : Nat} (x0 : Nat) (x1 : Nat) (x2 : Int32) (hp : m_H) (s : Int64 × Int32) {r : m_O × m_H} {K : ((Int64 × Int32) ⊕ Int64) → Prop} (k0 : ∀ x, K (.inr x) → r = (.inl (some (.long x)), hp)) (k1 : ∀ s, K (.inl s) → m_Rn xs L 7 1007 5 [(0, .ref x0), (1, .ref x1), (2, .int x2), (3, .long s.1), (5, .int s.2)] [] hp r) {t : (Int64 × Int32) ⊕ Int64} (h : F5_sure_5b x0 x1 x2 hp s = some t) (hK : K t) : m_Rn xs L 7 1007 5 [(0, .ref x0), (1, .ref x1), (2, .int x2), (3, .long s.1), (5, .int s.2)] [] hp r := by
  unfold F5_sure_5b at h
  refine g_in eF5_sure_5 mx1007 ?_
  refine g_ch [(0, .ref x0), (1, .ref x1), (2, .int x2), (3, .long s.1), (5, .int s.2)] [.int 8, .int s.2] (pc' := 9) rfl rfl rfl ?_
  rcases m_ifd h with ⟨c1, h⟩ | ⟨c1, h⟩
  · refine g_if (t := 75) rfl (m_geT c1) ?_
    refine g_in eF5_sure_75 mx1007 ?_
    refine g_ch [(0, .ref x0), (1, .ref x1), (2, .int x2), (3, .long s.1), (5, .int s.2)] [.long s.1] (pc' := 76) rfl rfl rfl ?_
    cases h
    rw [k0 _ hK]
    exact g_lret rfl
  · refine g_ifn (t := 75) rfl (m_geF c1) ?_
    refine g_in eF5_sure_12 mx1007 ?_
    refine g_ch [(0, .ref x0), (1, .ref x1), (2, .int x2), (3, .long s.1), (5, .int s.2)] [.int s.2, .int x2, .ref x0] (pc' := 16) rfl rfl rfl ?_
    obtain ⟨v3, e2, h⟩ := m_bd h
    refine g_call (v := some (.int v3)) (h := hp) (st' := [.int v3]) (D1 := 2) (as := [.ref x0, .int x2, .int s.2]) (Or.inl rfl) q5_m60 (m_cs (as := [.int s.2, .int x2, .ref x0]) (rest := []) q5_m60 jv1006 rfl rfl rfl rfl rfl) (by decide) (SF5_latestReturn e2) rfl ?_
    refine g_ch [(6, .int v3), (0, .ref x0), (1, .ref x1), (2, .int x2), (3, .long s.1), (5, .int s.2)] [.int (-1), .int v3] (pc' := 24) rfl rfl rfl ?_
    rcases m_ifd h with ⟨c4, h⟩ | ⟨c4, h⟩
    · refine g_if (t := 69) rfl (m_eqT c4) ?_
      refine g_in eF5_sure_69 mx1007 ?_
      refine g_ch [(5, .int (s.2 + 1)), (6, .int v3), (0, .ref x0), (1, .ref x1), (2, .int x2), (3, .long s.1)] [] (pc' := 72) rfl rfl rfl ?_
      refine g_goto (t := 5) rfl ?_
      cases h
      exact r_lv (k1 (s.1, (s.2 + 1)) hK) rfl ⟨rfl, rfl, rfl, rfl, rfl, trivial⟩
    · refine g_ifn (t := 69) rfl (m_eqF c4) ?_
      refine g_in eF5_sure_27 mx1007 ?_
      refine g_ch [(6, .int v3), (0, .ref x0), (1, .ref x1), (2, .int x2), (3, .long s.1), (5, .int s.2)] [.ref x0, .int s.2, .int x2, .ref x1, .ref x0] (pc' := 33) rfl rfl rfl ?_
      obtain ⟨v5, e6, h⟩ := m_bd h
      refine g_gr q5_f57 e6 ?_
      refine g_ch [(6, .int v3), (0, .ref x0), (1, .ref x1), (2, .int x2), (3, .long s.1), (5, .int s.2)] [.int 3, .int v3, .ref v5, .int s.2, .int x2, .ref x1, .ref x0] (pc' := 39) rfl rfl rfl ?_
      obtain ⟨v8, e7, h⟩ := m_bd h
      refine g_call (v := some (.int v8)) (h := hp) (st' := [.int v8, .int s.2, .int x2, .ref x1, .ref x0]) (D1 := 1) (as := [.ref v5, .int v3, .int 3]) (Or.inr (Or.inl rfl)) q5_m15 (m_cv (as := [.int 3, .int v3]) (rest := [.int s.2, .int x2, .ref x1, .ref x0]) (Or.inl rfl) q5_m15 jv1604 (OF8_get e7) rfl rfl rfl rfl) (by decide) (SF8_get e7) rfl ?_
      obtain ⟨v10, e9, h⟩ := m_bd h
      refine g_call (v := some (.int v10)) (h := hp) (st' := [.int v10]) (D1 := 5) (as := [.ref x0, .ref x1, .int x2, .int s.2, .int v8]) (Or.inl rfl) q5_m63 (m_cs (as := [.int v8, .int s.2, .int x2, .ref x1, .ref x0]) (rest := []) q5_m63 jv1005 rfl rfl rfl rfl rfl) (by decide) (SF5_landedAtEnd e9) rfl ?_
      refine g_ch [(7, .long (m_i2l v10)), (6, .int v3), (0, .ref x0), (1, .ref x1), (2, .int x2), (3, .long s.1), (5, .int s.2)] [.ref x0, .long (m_i2l v10), .long 0, .long s.1] (pc' := 53) rfl rfl rfl ?_
      obtain ⟨v11, e12, h⟩ := m_bd h
      refine g_gr q5_f57 e12 ?_
      refine g_ch [(7, .long (m_i2l v10)), (6, .int v3), (0, .ref x0), (1, .ref x1), (2, .int x2), (3, .long s.1), (5, .int s.2)] [.int 2, .int v3, .ref v11, .long (m_i2l v10), .long 0, .long s.1] (pc' := 59) rfl rfl rfl ?_
      obtain ⟨v14, e13, h⟩ := m_bd h
      refine g_call (v := some (.int v14)) (h := hp) (st' := [.int v14, .long (m_i2l v10), .long 0, .long s.1]) (D1 := 1) (as := [.ref v11, .int v3, .int 2]) (Or.inr (Or.inl rfl)) q5_m15 (m_cv (as := [.int 2, .int v3]) (rest := [.long (m_i2l v10), .long 0, .long s.1]) (Or.inl rfl) q5_m15 jv1604 (OF8_get e13) rfl rfl rfl rfl) (by decide) (SF8_get e13) rfl ?_
      refine g_ch [(7, .long (m_i2l v10)), (6, .int v3), (0, .ref x0), (1, .ref x1), (2, .int x2), (3, .long s.1), (5, .int s.2)] [.long ((m_i2l v10) - (m_i2l v14)), .long 0, .long s.1] (pc' := 64) rfl rfl rfl ?_
      refine g_nat (Or.inl rfl) q5_m67 rfl (z := ([.long (m_maxl 0 ((m_i2l v10) - (m_i2l v14))), .long s.1], hp)) rfl (by decide) ?_
      refine g_ch [(3, .long (s.1 + (m_maxl 0 ((m_i2l v10) - (m_i2l v14))))), (7, .long (m_i2l v10)), (6, .int v3), (0, .ref x0), (1, .ref x1), (2, .int x2), (5, .int s.2)] [] (pc' := 69) rfl rfl rfl ?_
      refine g_end ?_
      refine g_in eF5_sure_69 mx1007 ?_
      refine g_ch [(5, .int (s.2 + 1)), (3, .long (s.1 + (m_maxl 0 ((m_i2l v10) - (m_i2l v14))))), (7, .long (m_i2l v10)), (6, .int v3), (0, .ref x0), (1, .ref x1), (2, .int x2)] [] (pc' := 72) rfl rfl rfl ?_
      refine g_goto (t := 5) rfl ?_
      cases h
      exact r_lv (k1 ((s.1 + (m_maxl 0 ((m_i2l v10) - (m_i2l v14)))), (s.2 + 1)) hK) rfl ⟨rfl, rfl, rfl, rfl, rfl, trivial⟩
theorem SF5_sure_5 {xs : Nat → Int32} {L : Nat} (x0 : Nat) (x1 : Nat) (x2 : Int32) (x3 : Int64) (x5 : Int32) (hp : m_H) {r : m_O × m_H} {K : Int64 → Prop} (k0 : ∀ x, K x → r = (.inl (some (.long x)), hp)) {t : Int64} (h : F5_sure_5 x0 x1 x2 x3 x5 hp = some t) (hK : K t) : m_Rn xs L 7 1007 5 [(0, .ref x0), (1, .ref x1), (2, .int x2), (3, .long x3), (5, .int x5)] [] hp r :=
  m_wh_ok (P := fun s => m_Rn xs L 7 1007 5 [(0, .ref x0), (1, .ref x1), (2, .int x2), (3, .long s.1), (5, .int s.2)] [] hp r) (Q := K) (fun s t hb hK => SF5_sure_5b x0 x1 x2 hp s (K := m_KK (fun s => m_Rn xs L 7 1007 5 [(0, .ref x0), (1, .ref x1), (2, .int x2), (3, .long s.1), (5, .int s.2)] [] hp r) K) k0 (fun _ q => q) hb hK) m_N _ _ h hK
theorem SF5_sure_0 {xs : Nat → Int32} {L : Nat} (x0 : Nat) (x1 : Nat) (x2 : Int32) (hp : m_H) {r : m_O × m_H} {K : Int64 → Prop} (k0 : ∀ x, K x → r = (.inl (some (.long x)), hp)) {t : Int64} (h : F5_sure_0 x0 x1 x2 hp = some t) (hK : K t) : m_Rn xs L 7 1007 0 [(0, .ref x0), (1, .ref x1), (2, .int x2)] [] hp r := by
  unfold F5_sure_0 at h
  refine g_in eF5_sure_0 mx1007 ?_
  refine g_ch [(5, .int 0), (3, .long 0), (0, .ref x0), (1, .ref x1), (2, .int x2)] [] (pc' := 5) rfl rfl rfl ?_
  refine g_end ?_
  exact r_lv (SF5_sure_5 x0 x1 x2 0 0 hp (K := K) k0 h hK) rfl ⟨rfl, rfl, rfl, rfl, rfl, trivial⟩
theorem SF5_sure {xs : Nat → Int32} {L : Nat} {x0 : Nat} {x1 : Nat} {x2 : Int32} {hp : m_H} {x : Int64} (h : F5_sure x0 x1 x2 hp = some x) : m_Rn xs L 7 1007 0 (lv_args 0 [.ref x0, .ref x1, .int x2]) [] hp (.inl (some (.long x)), hp) :=
  r_lv (SF5_sure_0 x0 x1 x2 hp (K := fun y => y = x) (fun y e => by rw [e]) h rfl) rfl ⟨rfl, rfl, rfl, trivial⟩
-- F5_landedWithoutReturn: LendHouse$Ledger.landedWithoutReturn(LLendHouse$House;I)J
theorem eF5_landedWithoutReturn_0 : m_Fe mi5_8 0 (m_ap [(.lconst 0, 1), (.lstore_n 2, 1), (.iconst 0, 1), (.istore 4, 2)] ([])) := m_Fe_of nd1008 0 4 rfl
theorem eF5_landedWithoutReturn_5 : m_Fe mi5_8 5 (m_ap [(.iload 4, 2), (.bipush 8, 2)] ([(.if_icmp .ge 31, 3)])) := m_Fe_of nd1008 4 3 rfl
theorem eF5_landedWithoutReturn_40 : m_Fe mi5_8 40 (m_ap [(.lload_n 2, 1)] ([(.lreturn, 1)])) := m_Fe_of nd1008 23 2 rfl
theorem eF5_landedWithoutReturn_12 : m_Fe mi5_8 12 (m_ap [(.aload_n 0, 1), (.iload_n 1, 1), (.iload 4, 2)] ((.invokestatic 60, 3) :: (m_ap [(.iconst (-1), 1)] ([(.if_icmp .ne 14, 3)])))) := m_Fe_of nd1008 7 6 rfl
theorem eF5_landedWithoutReturn_34 : m_Fe mi5_8 34 (m_ap [(.iinc 4 1, 3)] ([(.goto (-32), 3)])) := m_Fe_of nd1008 21 2 rfl
theorem eF5_landedWithoutReturn_23 : m_Fe mi5_8 23 (m_ap [(.lload_n 2, 1), (.aload_n 0, 1), (.iload_n 1, 1), (.iload 4, 2)] ((.invokestatic 47, 3) :: (m_ap [(.i2l, 1), (.ladd, 1), (.lstore_n 2, 1)] ([])))) := m_Fe_of nd1008 13 8 rfl
theorem SF5_landedWithoutReturn_5b {xs : Nat → Int32} {L : Nat} (x0 : Nat) (x1 : Int32) (hp : m_H) (s : Int64 × Int32) {r : m_O × m_H} {K : ((Int64 × Int32) ⊕ Int64) → Prop} (k0 : ∀ x, K (.inr x) → r = (.inl (some (.long x)), hp)) (k1 : ∀ s, K (.inl s) → m_Rn xs L 5 1008 5 [(0, .ref x0), (1, .int x1), (2, .long s.1), (4, .int s.2)] [] hp r) {t : (Int64 × Int32) ⊕ Int64} (h : F5_landedWithoutReturn_5b x0 x1 hp s = some t) (hK : K t) : m_Rn xs L 5 1008 5 [(0, .ref x0), (1, .int x1), (2, .long s.1), (4, .int s.2)] [] hp r := by
  unfold F5_landedWithoutReturn_5b at h
  refine g_in eF5_landedWithoutReturn_5 mx1008 ?_
  refine g_ch [(0, .ref x0), (1, .int x1), (2, .long s.1), (4, .int s.2)] [.int 8, .int s.2] (pc' := 9) rfl rfl rfl ?_
  rcases m_ifd h with ⟨c1, h⟩ | ⟨c1, h⟩
  · refine g_if (t := 40) rfl (m_geT c1) ?_
    refine g_in eF5_landedWithoutReturn_40 mx1008 ?_
    refine g_ch [(0, .ref x0), (1, .int x1), (2, .long s.1), (4, .int s.2)] [.long s.1] (pc' := 41) rfl rfl rfl ?_
    cases h
    rw [k0 _ hK]
    exact g_lret rfl
  · refine g_ifn (t := 40) rfl (m_geF c1) ?_
    refine g_in eF5_landedWithoutReturn_12 mx1008 ?_
    refine g_ch [(0, .ref x0), (1, .int x1), (2, .long s.1), (4, .int s.2)] [.int s.2, .int x1, .ref x0] (pc' := 16) rfl rfl rfl ?_
    obtain ⟨v3, e2, h⟩ := m_bd h
    refine g_call (v := some (.int v3)) (h := hp) (st' := [.int v3]) (D1 := 2) (as := [.ref x0, .int x1, .int s.2]) (Or.inl rfl) q5_m60 (m_cs (as := [.int s.2, .int x1, .ref x0]) (rest := []) q5_m60 jv1006 rfl rfl rfl rfl rfl) (by decide) (SF5_latestReturn e2) rfl ?_
    refine g_ch [(0, .ref x0), (1, .int x1), (2, .long s.1), (4, .int s.2)] [.int (-1), .int v3] (pc' := 20) rfl rfl rfl ?_
    rcases m_ifd h with ⟨c4, h⟩ | ⟨c4, h⟩
    · refine g_ifn (t := 34) rfl (m_neF c4) ?_
      refine g_in eF5_landedWithoutReturn_23 mx1008 ?_
      refine g_ch [(0, .ref x0), (1, .int x1), (2, .long s.1), (4, .int s.2)] [.int s.2, .int x1, .ref x0, .long s.1] (pc' := 28) rfl rfl rfl ?_
      obtain ⟨v6, e5, h⟩ := m_bd h
      refine g_call (v := some (.int v6)) (h := hp) (st' := [.int v6, .long s.1]) (D1 := 4) (as := [.ref x0, .int x1, .int s.2]) (Or.inl rfl) q5_m47 (m_cs (as := [.int s.2, .int x1, .ref x0]) (rest := [.long s.1]) q5_m47 jv1004 rfl rfl rfl rfl rfl) (by decide) (SF5_landedOf e5) rfl ?_
      refine g_ch [(2, .long (s.1 + (m_i2l v6))), (0, .ref x0), (1, .int x1), (4, .int s.2)] [] (pc' := 34) rfl rfl rfl ?_
      refine g_end ?_
      refine g_in eF5_landedWithoutReturn_34 mx1008 ?_
      refine g_ch [(4, .int (s.2 + 1)), (2, .long (s.1 + (m_i2l v6))), (0, .ref x0), (1, .int x1)] [] (pc' := 37) rfl rfl rfl ?_
      refine g_goto (t := 5) rfl ?_
      cases h
      exact r_lv (k1 ((s.1 + (m_i2l v6)), (s.2 + 1)) hK) rfl ⟨rfl, rfl, rfl, rfl, trivial⟩
    · refine g_if (t := 34) rfl (m_neT c4) ?_
      refine g_in eF5_landedWithoutReturn_34 mx1008 ?_
      refine g_ch [(4, .int (s.2 + 1)), (0, .ref x0), (1, .int x1), (2, .long s.1)] [] (pc' := 37) rfl rfl rfl ?_
      refine g_goto (t := 5) rfl ?_
      cases h
      exact r_lv (k1 (s.1, (s.2 + 1)) hK) rfl ⟨rfl, rfl, rfl, rfl, trivial⟩
theorem SF5_landedWithoutReturn_5 {xs : Nat → Int32} {L : Nat} (x0 : Nat) (x1 : Int32) (x2 : Int64) (x4 : Int32) (hp : m_H) {r : m_O × m_H} {K : Int64 → Prop} (k0 : ∀ x, K x → r = (.inl (some (.long x)), hp)) {t : Int64} (h : F5_landedWithoutReturn_5 x0 x1 x2 x4 hp = some t) (hK : K t) : m_Rn xs L 5 1008 5 [(0, .ref x0), (1, .int x1), (2, .long x2), (4, .int x4)] [] hp r :=
  m_wh_ok (P := fun s => m_Rn xs L 5 1008 5 [(0, .ref x0), (1, .int x1), (2, .long s.1), (4, .int s.2)] [] hp r) (Q := K) (fun s t hb hK => SF5_landedWithoutReturn_5b x0 x1 hp s (K := m_KK (fun s => m_Rn xs L 5 1008 5 [(0, .ref x0), (1, .int x1), (2, .long s.1), (4, .int s.2)] [] hp r) K) k0 (fun _ q => q) hb hK) m_N _ _ h hK
theorem SF5_landedWithoutReturn_0 {xs : Nat → Int32} {L : Nat} (x0 : Nat) (x1 : Int32) (hp : m_H) {r : m_O × m_H} {K : Int64 → Prop} (k0 : ∀ x, K x → r = (.inl (some (.long x)), hp)) {t : Int64} (h : F5_landedWithoutReturn_0 x0 x1 hp = some t) (hK : K t) : m_Rn xs L 5 1008 0 [(0, .ref x0), (1, .int x1)] [] hp r := by
  unfold F5_landedWithoutReturn_0 at h
  refine g_in eF5_landedWithoutReturn_0 mx1008 ?_
  refine g_ch [(4, .int 0), (2, .long 0), (0, .ref x0), (1, .int x1)] [] (pc' := 5) rfl rfl rfl ?_
  refine g_end ?_
  exact r_lv (SF5_landedWithoutReturn_5 x0 x1 0 0 hp (K := K) k0 h hK) rfl ⟨rfl, rfl, rfl, rfl, trivial⟩
theorem SF5_landedWithoutReturn {xs : Nat → Int32} {L : Nat} {x0 : Nat} {x1 : Int32} {hp : m_H} {x : Int64} (h : F5_landedWithoutReturn x0 x1 hp = some x) : m_Rn xs L 5 1008 0 (lv_args 0 [.ref x0, .int x1]) [] hp (.inl (some (.long x)), hp) :=
  r_lv (SF5_landedWithoutReturn_0 x0 x1 hp (K := fun y => y = x) (fun y e => by rw [e]) h rfl) rfl ⟨rfl, rfl, trivial⟩
-- F5_worthOf: LendHouse$Ledger.worthOf(LLendHouse$House;III)I
theorem eF5_worthOf_0 : m_Fe mi5_10 0 (m_ap [(.iload_n 2, 1)] ([(.ifCond .ne 10, 3)])) := m_Fe_of nd1010 0 2 rfl
theorem eF5_worthOf_11 : m_Fe mi5_10 11 (m_ap [(.aload_n 0, 1)] ((.getfield 89, 3) :: (m_ap [(.iload_n 1, 1), (.iload_n 2, 1), (.iconst 1, 1)] ([(.if_icmp .ne 7, 3)])))) := m_Fe_of nd1010 7 6 rfl
theorem eF5_worthOf_25 : m_Fe mi5_10 25 (m_ap [(.iconst 0, 1)] ([])) := m_Fe_of nd1010 15 1 rfl
theorem eF5_worthOf_26 : m_Fe mi5_10 26 ((.invokevirtual 15, 3) :: ([(.ireturn, 1)])) := m_Fe_of nd1010 16 2 rfl
theorem eF5_worthOf_21 : m_Fe mi5_10 21 (m_ap [(.iconst 2, 1)] ([(.goto 4, 3)])) := m_Fe_of nd1010 13 2 rfl
theorem eF5_worthOf_4 : m_Fe mi5_10 4 (m_ap [(.aload_n 0, 1), (.iload_n 1, 1), (.iload_n 3, 1)] ((.invokevirtual 86, 3) :: ([(.ireturn, 1)]))) := m_Fe_of nd1010 2 5 rfl
theorem SF5_worthOf_0 {xs : Nat → Int32} {L : Nat} (x0 : Nat) (x1 : Int32) (x2 : Int32) (x3 : Int32) (hp : m_H) {r : m_O × m_H} {K : Int32 → Prop} (k0 : ∀ x, K x → r = (.inl (some (.int x)), hp)) {t : Int32} (h : F5_worthOf_0 x0 x1 x2 x3 hp = some t) (hK : K t) : m_Rn xs L 4 1010 0 [(0, .ref x0), (1, .int x1), (2, .int x2), (3, .int x3)] [] hp r := by
  unfold F5_worthOf_0 at h
  refine g_in eF5_worthOf_0 mx1010 ?_
  refine g_ch [(0, .ref x0), (1, .int x1), (2, .int x2), (3, .int x3)] [.int x2] (pc' := 1) rfl rfl rfl ?_
  rcases m_ifd h with ⟨c1, h⟩ | ⟨c1, h⟩
  · refine g_ifcn (t := 11) rfl (m_neF c1) ?_
    refine g_in eF5_worthOf_4 mx1010 ?_
    refine g_ch [(0, .ref x0), (1, .int x1), (2, .int x2), (3, .int x3)] [.int x3, .int x1, .ref x0] (pc' := 7) rfl rfl rfl ?_
    obtain ⟨v10, e9, h⟩ := m_bd h
    refine g_call (v := some (.int v10)) (h := hp) (st' := [.int v10]) (D1 := 3) (as := [.ref x0, .int x1, .int x3]) (Or.inr (Or.inl rfl)) q5_m86 (m_cv (as := [.int x3, .int x1]) (rest := []) (Or.inl rfl) q5_m86 jv606 (OF3_priceIn e9) rfl rfl rfl rfl) (by decide) (SF3_priceIn e9) rfl ?_
    cases h
    rw [k0 _ hK]
    exact g_iret rfl rfl
  · refine g_ifc (t := 11) rfl (m_neT c1) ?_
    refine g_in eF5_worthOf_11 mx1010 ?_
    refine g_ch [(0, .ref x0), (1, .int x1), (2, .int x2), (3, .int x3)] [.ref x0] (pc' := 12) rfl rfl rfl ?_
    obtain ⟨v2, e3, h⟩ := m_bd h
    refine g_gr q5_f89 e3 ?_
    refine g_ch [(0, .ref x0), (1, .int x1), (2, .int x2), (3, .int x3)] [.int 1, .int x2, .int x1, .ref v2] (pc' := 18) rfl rfl rfl ?_
    rcases m_ifd h with ⟨c4, h⟩ | ⟨c4, h⟩
    · refine g_ifn (t := 25) rfl (m_neF c4) ?_
      refine g_in eF5_worthOf_21 mx1010 ?_
      refine g_ch [(0, .ref x0), (1, .int x1), (2, .int x2), (3, .int x3)] [.int 2, .int x1, .ref v2] (pc' := 22) rfl rfl rfl ?_
      refine g_goto (t := 26) rfl ?_
      refine g_in eF5_worthOf_26 mx1010 ?_
      obtain ⟨v8, e7, h⟩ := m_bd h
      refine g_call (v := some (.int v8)) (h := hp) (st' := [.int v8]) (D1 := 1) (as := [.ref v2, .int x1, .int 2]) (Or.inr (Or.inl rfl)) q5_m15 (m_cv (as := [.int 2, .int x1]) (rest := []) (Or.inl rfl) q5_m15 jv1604 (OF8_get e7) rfl rfl rfl rfl) (by decide) (SF8_get e7) rfl ?_
      cases h
      rw [k0 _ hK]
      exact g_iret rfl rfl
    · refine g_if (t := 25) rfl (m_neT c4) ?_
      refine g_in eF5_worthOf_25 mx1010 ?_
      refine g_ch [(0, .ref x0), (1, .int x1), (2, .int x2), (3, .int x3)] [.int 0, .int x1, .ref v2] (pc' := 26) rfl rfl rfl ?_
      refine g_end ?_
      refine g_in eF5_worthOf_26 mx1010 ?_
      obtain ⟨v6, e5, h⟩ := m_bd h
      refine g_call (v := some (.int v6)) (h := hp) (st' := [.int v6]) (D1 := 1) (as := [.ref v2, .int x1, .int 0]) (Or.inr (Or.inl rfl)) q5_m15 (m_cv (as := [.int 0, .int x1]) (rest := []) (Or.inl rfl) q5_m15 jv1604 (OF8_get e5) rfl rfl rfl rfl) (by decide) (SF8_get e5) rfl ?_
      cases h
      rw [k0 _ hK]
      exact g_iret rfl rfl
theorem SF5_worthOf {xs : Nat → Int32} {L : Nat} {x0 : Nat} {x1 : Int32} {x2 : Int32} {x3 : Int32} {hp : m_H} {x : Int32} (h : F5_worthOf x0 x1 x2 x3 hp = some x) : m_Rn xs L 4 1010 0 (lv_args 0 [.ref x0, .int x1, .int x2, .int x3]) [] hp (.inl (some (.int x)), hp) :=
  r_lv (SF5_worthOf_0 x0 x1 x2 x3 hp (K := fun y => y = x) (fun y e => by rw [e]) h rfl) rfl ⟨rfl, rfl, rfl, rfl, trivial⟩
-- F5_cameBack: LendHouse$Ledger.cameBack(LLendHouse$House;II)I
theorem eF5_cameBack_0 : m_Fe mi5_11 0 (m_ap [(.iconst 0, 1), (.istore_n 3, 1), (.iconst 0, 1), (.istore 4, 2)] ([])) := m_Fe_of nd1011 0 4 rfl
theorem eF5_cameBack_5 : m_Fe mi5_11 5 (m_ap [(.iload 4, 2), (.aload_n 0, 1)] ((.getfield 9, 3) :: ((.getfield 25, 3) :: ([(.if_icmp .ge 48, 3)])))) := m_Fe_of nd1011 4 5 rfl
theorem eF5_cameBack_62 : m_Fe mi5_11 62 (m_ap [(.iload_n 3, 1)] ([(.ireturn, 1)])) := m_Fe_of nd1011 32 2 rfl
theorem eF5_cameBack_17 : m_Fe mi5_11 17 (m_ap [(.aload_n 0, 1)] ((.getfield 9, 3) :: (m_ap [(.iload 4, 2), (.iconst 2, 1)] ((.invokevirtual 15, 3) :: (m_ap [(.iload_n 1, 1)] ([(.if_icmp .ne 28, 3)])))))) := m_Fe_of nd1011 9 7 rfl
theorem eF5_cameBack_56 : m_Fe mi5_11 56 (m_ap [(.iinc 4 1, 3)] ([(.goto (-54), 3)])) := m_Fe_of nd1011 30 2 rfl
theorem eF5_cameBack_31 : m_Fe mi5_11 31 (m_ap [(.aload_n 0, 1)] ((.getfield 9, 3) :: (m_ap [(.iload 4, 2), (.iconst 0, 1)] ((.invokevirtual 15, 3) :: (m_ap [(.iload_n 2, 1)] ([(.if_icmp .ne 14, 3)])))))) := m_Fe_of nd1011 16 7 rfl
theorem eF5_cameBack_45 : m_Fe mi5_11 45 (m_ap [(.iload_n 3, 1), (.aload_n 0, 1), (.iload 4, 2), (.bipush 7, 2)] ((.invokevirtual 39, 3) :: (m_ap [(.iadd, 1), (.istore_n 3, 1)] ([])))) := m_Fe_of nd1011 23 7 rfl
theorem SF5_cameBack_5b {xs : Nat → Int32} {L : Nat} (x0 : Nat) (x1 : Int32) (x2 : Int32) (hp : m_H) (s : Int32 × Int32) {r : m_O × m_H} {K : ((Int32 × Int32) ⊕ Int32) → Prop} (k0 : ∀ x, K (.inr x) → r = (.inl (some (.int x)), hp)) (k1 : ∀ s, K (.inl s) → m_Rn xs L 3 1011 5 [(0, .ref x0), (1, .int x1), (2, .int x2), (3, .int s.1), (4, .int s.2)] [] hp r) {t : (Int32 × Int32) ⊕ Int32} (h : F5_cameBack_5b x0 x1 x2 hp s = some t) (hK : K t) : m_Rn xs L 3 1011 5 [(0, .ref x0), (1, .int x1), (2, .int x2), (3, .int s.1), (4, .int s.2)] [] hp r := by
  unfold F5_cameBack_5b at h
  refine g_in eF5_cameBack_5 mx1011 ?_
  refine g_ch [(0, .ref x0), (1, .int x1), (2, .int x2), (3, .int s.1), (4, .int s.2)] [.ref x0, .int s.2] (pc' := 8) rfl rfl rfl ?_
  obtain ⟨v1, e2, h⟩ := m_bd h
  refine g_gr q5_f9 e2 ?_
  obtain ⟨v3, e4, h⟩ := m_bd h
  refine g_gi q5_f25 e4 ?_
  rcases m_ifd h with ⟨c5, h⟩ | ⟨c5, h⟩
  · refine g_if (t := 62) rfl (m_geT c5) ?_
    refine g_in eF5_cameBack_62 mx1011 ?_
    refine g_ch [(0, .ref x0), (1, .int x1), (2, .int x2), (3, .int s.1), (4, .int s.2)] [.int s.1] (pc' := 63) rfl rfl rfl ?_
    cases h
    rw [k0 _ hK]
    exact g_iret rfl rfl
  · refine g_ifn (t := 62) rfl (m_geF c5) ?_
    refine g_in eF5_cameBack_17 mx1011 ?_
    refine g_ch [(0, .ref x0), (1, .int x1), (2, .int x2), (3, .int s.1), (4, .int s.2)] [.ref x0] (pc' := 18) rfl rfl rfl ?_
    obtain ⟨v6, e7, h⟩ := m_bd h
    refine g_gr q5_f9 e7 ?_
    refine g_ch [(0, .ref x0), (1, .int x1), (2, .int x2), (3, .int s.1), (4, .int s.2)] [.int 2, .int s.2, .ref v6] (pc' := 24) rfl rfl rfl ?_
    obtain ⟨v9, e8, h⟩ := m_bd h
    refine g_call (v := some (.int v9)) (h := hp) (st' := [.int v9]) (D1 := 1) (as := [.ref v6, .int s.2, .int 2]) (Or.inr (Or.inl rfl)) q5_m15 (m_cv (as := [.int 2, .int s.2]) (rest := []) (Or.inl rfl) q5_m15 jv1604 (OF8_get e8) rfl rfl rfl rfl) (by decide) (SF8_get e8) rfl ?_
    refine g_ch [(0, .ref x0), (1, .int x1), (2, .int x2), (3, .int s.1), (4, .int s.2)] [.int x1, .int v9] (pc' := 28) rfl rfl rfl ?_
    rcases m_ifd h with ⟨c10, h⟩ | ⟨c10, h⟩
    · refine g_ifn (t := 56) rfl (m_neF c10) ?_
      refine g_in eF5_cameBack_31 mx1011 ?_
      refine g_ch [(0, .ref x0), (1, .int x1), (2, .int x2), (3, .int s.1), (4, .int s.2)] [.ref x0] (pc' := 32) rfl rfl rfl ?_
      obtain ⟨v11, e12, h⟩ := m_bd h
      refine g_gr q5_f9 e12 ?_
      refine g_ch [(0, .ref x0), (1, .int x1), (2, .int x2), (3, .int s.1), (4, .int s.2)] [.int 0, .int s.2, .ref v11] (pc' := 38) rfl rfl rfl ?_
      obtain ⟨v14, e13, h⟩ := m_bd h
      refine g_call (v := some (.int v14)) (h := hp) (st' := [.int v14]) (D1 := 1) (as := [.ref v11, .int s.2, .int 0]) (Or.inr (Or.inl rfl)) q5_m15 (m_cv (as := [.int 0, .int s.2]) (rest := []) (Or.inl rfl) q5_m15 jv1604 (OF8_get e13) rfl rfl rfl rfl) (by decide) (SF8_get e13) rfl ?_
      refine g_ch [(0, .ref x0), (1, .int x1), (2, .int x2), (3, .int s.1), (4, .int s.2)] [.int x2, .int v14] (pc' := 42) rfl rfl rfl ?_
      rcases m_ifd h with ⟨c15, h⟩ | ⟨c15, h⟩
      · refine g_ifn (t := 56) rfl (m_neF c15) ?_
        refine g_in eF5_cameBack_45 mx1011 ?_
        refine g_ch [(0, .ref x0), (1, .int x1), (2, .int x2), (3, .int s.1), (4, .int s.2)] [.int 7, .int s.2, .ref x0, .int s.1] (pc' := 51) rfl rfl rfl ?_
        obtain ⟨v17, e16, h⟩ := m_bd h
        refine g_call (v := some (.int v17)) (h := hp) (st' := [.int v17, .int s.1]) (D1 := 2) (as := [.ref x0, .int s.2, .int 7]) (Or.inr (Or.inl rfl)) q5_m39 (m_cv (as := [.int 7, .int s.2]) (rest := [.int s.1]) (Or.inl rfl) q5_m39 jv616 (OF3_crates e16) rfl rfl rfl rfl) (by decide) (SF3_crates e16) rfl ?_
        refine g_ch [(3, .int (s.1 + v17)), (0, .ref x0), (1, .int x1), (2, .int x2), (4, .int s.2)] [] (pc' := 56) rfl rfl rfl ?_
        refine g_end ?_
        refine g_in eF5_cameBack_56 mx1011 ?_
        refine g_ch [(4, .int (s.2 + 1)), (3, .int (s.1 + v17)), (0, .ref x0), (1, .int x1), (2, .int x2)] [] (pc' := 59) rfl rfl rfl ?_
        refine g_goto (t := 5) rfl ?_
        cases h
        exact r_lv (k1 ((s.1 + v17), (s.2 + 1)) hK) rfl ⟨rfl, rfl, rfl, rfl, rfl, trivial⟩
      · refine g_if (t := 56) rfl (m_neT c15) ?_
        refine g_in eF5_cameBack_56 mx1011 ?_
        refine g_ch [(4, .int (s.2 + 1)), (0, .ref x0), (1, .int x1), (2, .int x2), (3, .int s.1)] [] (pc' := 59) rfl rfl rfl ?_
        refine g_goto (t := 5) rfl ?_
        cases h
        exact r_lv (k1 (s.1, (s.2 + 1)) hK) rfl ⟨rfl, rfl, rfl, rfl, rfl, trivial⟩
    · refine g_if (t := 56) rfl (m_neT c10) ?_
      refine g_in eF5_cameBack_56 mx1011 ?_
      refine g_ch [(4, .int (s.2 + 1)), (0, .ref x0), (1, .int x1), (2, .int x2), (3, .int s.1)] [] (pc' := 59) rfl rfl rfl ?_
      refine g_goto (t := 5) rfl ?_
      cases h
      exact r_lv (k1 (s.1, (s.2 + 1)) hK) rfl ⟨rfl, rfl, rfl, rfl, rfl, trivial⟩
theorem SF5_cameBack_5 {xs : Nat → Int32} {L : Nat} (x0 : Nat) (x1 : Int32) (x2 : Int32) (x3 : Int32) (x4 : Int32) (hp : m_H) {r : m_O × m_H} {K : Int32 → Prop} (k0 : ∀ x, K x → r = (.inl (some (.int x)), hp)) {t : Int32} (h : F5_cameBack_5 x0 x1 x2 x3 x4 hp = some t) (hK : K t) : m_Rn xs L 3 1011 5 [(0, .ref x0), (1, .int x1), (2, .int x2), (3, .int x3), (4, .int x4)] [] hp r :=
  m_wh_ok (P := fun s => m_Rn xs L 3 1011 5 [(0, .ref x0), (1, .int x1), (2, .int x2), (3, .int s.1), (4, .int s.2)] [] hp r) (Q := K) (fun s t hb hK => SF5_cameBack_5b x0 x1 x2 hp s (K := m_KK (fun s => m_Rn xs L 3 1011 5 [(0, .ref x0), (1, .int x1), (2, .int x2), (3, .int s.1), (4, .int s.2)] [] hp r) K) k0 (fun _ q => q) hb hK) m_N _ _ h hK
theorem SF5_cameBack_0 {xs : Nat → Int32} {L : Nat} (x0 : Nat) (x1 : Int32) (x2 : Int32) (hp : m_H) {r : m_O × m_H} {K : Int32 → Prop} (k0 : ∀ x, K x → r = (.inl (some (.int x)), hp)) {t : Int32} (h : F5_cameBack_0 x0 x1 x2 hp = some t) (hK : K t) : m_Rn xs L 3 1011 0 [(0, .ref x0), (1, .int x1), (2, .int x2)] [] hp r := by
  unfold F5_cameBack_0 at h
  refine g_in eF5_cameBack_0 mx1011 ?_
  refine g_ch [(4, .int 0), (3, .int 0), (0, .ref x0), (1, .int x1), (2, .int x2)] [] (pc' := 5) rfl rfl rfl ?_
  refine g_end ?_
  exact r_lv (SF5_cameBack_5 x0 x1 x2 0 0 hp (K := K) k0 h hK) rfl ⟨rfl, rfl, rfl, rfl, rfl, trivial⟩
theorem SF5_cameBack {xs : Nat → Int32} {L : Nat} {x0 : Nat} {x1 : Int32} {x2 : Int32} {hp : m_H} {x : Int32} (h : F5_cameBack x0 x1 x2 hp = some x) : m_Rn xs L 3 1011 0 (lv_args 0 [.ref x0, .int x1, .int x2]) [] hp (.inl (some (.int x)), hp) :=
  r_lv (SF5_cameBack_0 x0 x1 x2 hp (K := fun y => y = x) (fun y e => by rw [e]) h rfl) rfl ⟨rfl, rfl, rfl, trivial⟩
-- F5_balanceBy: LendHouse$Ledger.balanceBy(LLendHouse$House;III)J
theorem eF5_balanceBy_0 : m_Fe mi5_9 0 (m_ap [(.lconst 0, 1), (.lstore 4, 2), (.iconst 0, 1), (.istore 6, 2)] ([])) := m_Fe_of nd1009 0 4 rfl
theorem eF5_balanceBy_6 : m_Fe mi5_9 6 (m_ap [(.iload 6, 2), (.bipush 8, 2)] ([(.if_icmp .ge 51, 3)])) := m_Fe_of nd1009 4 3 rfl
theorem eF5_balanceBy_61 : m_Fe mi5_9 61 (m_ap [(.lload 4, 2)] ([(.lreturn, 1)])) := m_Fe_of nd1009 34 2 rfl
theorem eF5_balanceBy_13 : m_Fe mi5_9 13 (m_ap [(.aload_n 0, 1)] ((.getfield 73, 3) :: (m_ap [(.iload_n 1, 1), (.iload 6, 2)] ((.invokestatic 76, 3) :: (m_ap [(.iconst 1, 1)] ((.invokevirtual 15, 3) :: (m_ap [(.aload_n 0, 1), (.iload_n 1, 1), (.iload 6, 2)] ((.invokestatic 79, 3) :: (m_ap [(.isub, 1), (.i2l, 1), (.lstore 7, 2), (.lload 4, 2), (.lload 7, 2), (.aload_n 0, 1), (.iload 6, 2), (.iload_n 2, 1)] (m_ap [(.iload_n 3, 1)] ((.invokestatic 82, 3) :: (m_ap [(.i2l, 1), (.lmul, 1), (.ladd, 1), (.lstore 4, 2), (.iinc 6 1, 3)] ([(.goto (-52), 3)]))))))))))))) := m_Fe_of nd1009 7 27 rfl
theorem SF5_balanceBy_6b {xs : Nat → Int32} {L : Nat} (x0 : Nat) (x1 : Int32) (x2 : Int32) (x3 : Int32) (hp : m_H) (s : Int64 × Int32) {r : m_O × m_H} {K : ((Int64 × Int32) ⊕ Int64) → Prop} (k0 : ∀ x, K (.inr x) → r = (.inl (some (.long x)), hp)) (k1 : ∀ s, K (.inl s) → m_Rn xs L 5 1009 6 [(0, .ref x0), (1, .int x1), (2, .int x2), (3, .int x3), (4, .long s.1), (6, .int s.2)] [] hp r) {t : (Int64 × Int32) ⊕ Int64} (h : F5_balanceBy_6b x0 x1 x2 x3 hp s = some t) (hK : K t) : m_Rn xs L 5 1009 6 [(0, .ref x0), (1, .int x1), (2, .int x2), (3, .int x3), (4, .long s.1), (6, .int s.2)] [] hp r := by
  unfold F5_balanceBy_6b at h
  refine g_in eF5_balanceBy_6 mx1009 ?_
  refine g_ch [(0, .ref x0), (1, .int x1), (2, .int x2), (3, .int x3), (4, .long s.1), (6, .int s.2)] [.int 8, .int s.2] (pc' := 10) rfl rfl rfl ?_
  rcases m_ifd h with ⟨c1, h⟩ | ⟨c1, h⟩
  · refine g_if (t := 61) rfl (m_geT c1) ?_
    refine g_in eF5_balanceBy_61 mx1009 ?_
    refine g_ch [(0, .ref x0), (1, .int x1), (2, .int x2), (3, .int x3), (4, .long s.1), (6, .int s.2)] [.long s.1] (pc' := 63) rfl rfl rfl ?_
    cases h
    rw [k0 _ hK]
    exact g_lret rfl
  · refine g_ifn (t := 61) rfl (m_geF c1) ?_
    refine g_in eF5_balanceBy_13 mx1009 ?_
    refine g_ch [(0, .ref x0), (1, .int x1), (2, .int x2), (3, .int x3), (4, .long s.1), (6, .int s.2)] [.ref x0] (pc' := 14) rfl rfl rfl ?_
    obtain ⟨v2, e3, h⟩ := m_bd h
    refine g_gr q5_f73 e3 ?_
    refine g_ch [(0, .ref x0), (1, .int x1), (2, .int x2), (3, .int x3), (4, .long s.1), (6, .int s.2)] [.int s.2, .int x1, .ref v2] (pc' := 20) rfl rfl rfl ?_
    obtain ⟨v5, e4, h⟩ := m_bd h
    refine g_call (v := some (.int v5)) (h := hp) (st' := [.int v5, .ref v2]) (D1 := 0) (as := [.int x1, .int s.2]) (Or.inl rfl) q5_m76 (m_cs (as := [.int s.2, .int x1]) (rest := [.ref v2]) q5_m76 jv603 rfl rfl rfl rfl rfl) (by decide) (SF3_tradeRow e4) rfl ?_
    refine g_ch [(0, .ref x0), (1, .int x1), (2, .int x2), (3, .int x3), (4, .long s.1), (6, .int s.2)] [.int 1, .int v5, .ref v2] (pc' := 24) rfl rfl rfl ?_
    obtain ⟨v7, e6, h⟩ := m_bd h
    refine g_call (v := some (.int v7)) (h := hp) (st' := [.int v7]) (D1 := 1) (as := [.ref v2, .int v5, .int 1]) (Or.inr (Or.inl rfl)) q5_m15 (m_cv (as := [.int 1, .int v5]) (rest := []) (Or.inl rfl) q5_m15 jv1604 (OF8_get e6) rfl rfl rfl rfl) (by decide) (SF8_get e6) rfl ?_
    refine g_ch [(0, .ref x0), (1, .int x1), (2, .int x2), (3, .int x3), (4, .long s.1), (6, .int s.2)] [.int s.2, .int x1, .ref x0, .int v7] (pc' := 31) rfl rfl rfl ?_
    obtain ⟨v9, e8, h⟩ := m_bd h
    refine g_call (v := some (.int v9)) (h := hp) (st' := [.int v9, .int v7]) (D1 := 3) (as := [.ref x0, .int x1, .int s.2]) (Or.inl rfl) q5_m79 (m_cs (as := [.int s.2, .int x1, .ref x0]) (rest := [.int v7]) q5_m79 jv1011 rfl rfl rfl rfl rfl) (by decide) (SF5_cameBack e8) rfl ?_
    refine g_ch [(7, .long (m_i2l (v7 - v9))), (0, .ref x0), (1, .int x1), (2, .int x2), (3, .int x3), (4, .long s.1), (6, .int s.2)] [.int x2, .int s.2, .ref x0, .long (m_i2l (v7 - v9)), .long s.1] (pc' := 46) rfl rfl rfl ?_
    refine g_ch [(7, .long (m_i2l (v7 - v9))), (0, .ref x0), (1, .int x1), (2, .int x2), (3, .int x3), (4, .long s.1), (6, .int s.2)] [.int x3, .int x2, .int s.2, .ref x0, .long (m_i2l (v7 - v9)), .long s.1] (pc' := 47) rfl rfl rfl ?_
    obtain ⟨v11, e10, h⟩ := m_bd h
    refine g_call (v := some (.int v11)) (h := hp) (st' := [.int v11, .long (m_i2l (v7 - v9)), .long s.1]) (D1 := 4) (as := [.ref x0, .int s.2, .int x2, .int x3]) (Or.inl rfl) q5_m82 (m_cs (as := [.int x3, .int x2, .int s.2, .ref x0]) (rest := [.long (m_i2l (v7 - v9)), .long s.1]) q5_m82 jv1010 rfl rfl rfl rfl rfl) (by decide) (SF5_worthOf e10) rfl ?_
    refine g_ch [(6, .int (s.2 + 1)), (4, .long (s.1 + ((m_i2l (v7 - v9)) * (m_i2l v11)))), (7, .long (m_i2l (v7 - v9))), (0, .ref x0), (1, .int x1), (2, .int x2), (3, .int x3)] [] (pc' := 58) rfl rfl rfl ?_
    refine g_goto (t := 6) rfl ?_
    cases h
    exact r_lv (k1 ((s.1 + ((m_i2l (v7 - v9)) * (m_i2l v11))), (s.2 + 1)) hK) rfl ⟨rfl, rfl, rfl, rfl, rfl, rfl, trivial⟩
theorem SF5_balanceBy_6 {xs : Nat → Int32} {L : Nat} (x0 : Nat) (x1 : Int32) (x2 : Int32) (x3 : Int32) (x4 : Int64) (x6 : Int32) (hp : m_H) {r : m_O × m_H} {K : Int64 → Prop} (k0 : ∀ x, K x → r = (.inl (some (.long x)), hp)) {t : Int64} (h : F5_balanceBy_6 x0 x1 x2 x3 x4 x6 hp = some t) (hK : K t) : m_Rn xs L 5 1009 6 [(0, .ref x0), (1, .int x1), (2, .int x2), (3, .int x3), (4, .long x4), (6, .int x6)] [] hp r :=
  m_wh_ok (P := fun s => m_Rn xs L 5 1009 6 [(0, .ref x0), (1, .int x1), (2, .int x2), (3, .int x3), (4, .long s.1), (6, .int s.2)] [] hp r) (Q := K) (fun s t hb hK => SF5_balanceBy_6b x0 x1 x2 x3 hp s (K := m_KK (fun s => m_Rn xs L 5 1009 6 [(0, .ref x0), (1, .int x1), (2, .int x2), (3, .int x3), (4, .long s.1), (6, .int s.2)] [] hp r) K) k0 (fun _ q => q) hb hK) m_N _ _ h hK
theorem SF5_balanceBy_0 {xs : Nat → Int32} {L : Nat} (x0 : Nat) (x1 : Int32) (x2 : Int32) (x3 : Int32) (hp : m_H) {r : m_O × m_H} {K : Int64 → Prop} (k0 : ∀ x, K x → r = (.inl (some (.long x)), hp)) {t : Int64} (h : F5_balanceBy_0 x0 x1 x2 x3 hp = some t) (hK : K t) : m_Rn xs L 5 1009 0 [(0, .ref x0), (1, .int x1), (2, .int x2), (3, .int x3)] [] hp r := by
  unfold F5_balanceBy_0 at h
  refine g_in eF5_balanceBy_0 mx1009 ?_
  refine g_ch [(6, .int 0), (4, .long 0), (0, .ref x0), (1, .int x1), (2, .int x2), (3, .int x3)] [] (pc' := 6) rfl rfl rfl ?_
  refine g_end ?_
  exact r_lv (SF5_balanceBy_6 x0 x1 x2 x3 0 0 hp (K := K) k0 h hK) rfl ⟨rfl, rfl, rfl, rfl, rfl, rfl, trivial⟩
theorem SF5_balanceBy {xs : Nat → Int32} {L : Nat} {x0 : Nat} {x1 : Int32} {x2 : Int32} {x3 : Int32} {hp : m_H} {x : Int64} (h : F5_balanceBy x0 x1 x2 x3 hp = some x) : m_Rn xs L 5 1009 0 (lv_args 0 [.ref x0, .int x1, .int x2, .int x3]) [] hp (.inl (some (.long x)), hp) :=
  r_lv (SF5_balanceBy_0 x0 x1 x2 x3 hp (K := fun y => y = x) (fun y e => by rw [e]) h rfl) rfl ⟨rfl, rfl, rfl, rfl, trivial⟩
-- F5_unexplained: LendHouse$Ledger.unexplained(LLendHouse$House;II)I
theorem eF5_unexplained_0 : m_Fe mi5_12 0 (m_ap [(.iconst 0, 1), (.istore_n 3, 1), (.iconst 0, 1), (.istore 4, 2)] ([])) := m_Fe_of nd1012 0 4 rfl
theorem eF5_unexplained_5 : m_Fe mi5_12 5 (m_ap [(.iload 4, 2), (.aload_n 0, 1)] ((.getfield 92, 3) :: ((.getfield 25, 3) :: ([(.if_icmp .ge 52, 3)])))) := m_Fe_of nd1012 4 5 rfl
theorem eF5_unexplained_66 : m_Fe mi5_12 66 (m_ap [(.iload_n 1, 1), (.iload_n 2, 1)] ((.invokestatic 76, 3) :: (m_ap [(.istore 4, 2), (.aload_n 0, 1)] ((.getfield 73, 3) :: (m_ap [(.iload 4, 2), (.iconst 1, 1)] ((.invokevirtual 15, 3) :: (m_ap [(.aload_n 0, 1)] ((.getfield 73, 3) :: (m_ap [(.iload 4, 2), (.iconst 2, 1)] ((.invokevirtual 15, 3) :: (m_ap [(.iadd, 1), (.istore 5, 2), (.iconst 0, 1), (.iload_n 3, 1), (.iload 5, 2), (.isub, 1)] ((.invokestatic 95, 3) :: ([(.ireturn, 1)]))))))))))))) := m_Fe_of nd1012 33 22 rfl
theorem eF5_unexplained_17 : m_Fe mi5_12 17 (m_ap [(.aload_n 0, 1)] ((.getfield 92, 3) :: (m_ap [(.iload 4, 2), (.iconst 0, 1)] ((.invokevirtual 15, 3) :: (m_ap [(.iload_n 1, 1)] ([(.if_icmp .ne 32, 3)])))))) := m_Fe_of nd1012 9 7 rfl
theorem eF5_unexplained_60 : m_Fe mi5_12 60 (m_ap [(.iinc 4 1, 3)] ([(.goto (-58), 3)])) := m_Fe_of nd1012 31 2 rfl
theorem eF5_unexplained_31 : m_Fe mi5_12 31 (m_ap [(.aload_n 0, 1)] ((.getfield 92, 3) :: (m_ap [(.iload 4, 2), (.iconst 1, 1)] ((.invokevirtual 15, 3) :: (m_ap [(.iload_n 2, 1)] ([(.if_icmp .ne 18, 3)])))))) := m_Fe_of nd1012 16 7 rfl
theorem eF5_unexplained_45 : m_Fe mi5_12 45 (m_ap [(.iload_n 3, 1), (.aload_n 0, 1)] ((.getfield 92, 3) :: (m_ap [(.iload 4, 2), (.iconst 2, 1)] ((.invokevirtual 15, 3) :: ((.invokestatic 95, 3) :: (m_ap [(.istore_n 3, 1)] ([]))))))) := m_Fe_of nd1012 23 8 rfl
theorem SF5_unexplained_5b {xs : Nat → Int32} {L : Nat} (x0 : Nat) (x1 : Int32) (x2 : Int32) (hp : m_H) (s : Int32 × Int32) {r : m_O × m_H} {K : ((Int32 × Int32) ⊕ Int32) → Prop} (k0 : ∀ x, K (.inr x) → r = (.inl (some (.int x)), hp)) (k1 : ∀ s, K (.inl s) → m_Rn xs L 7 1012 5 [(0, .ref x0), (1, .int x1), (2, .int x2), (3, .int s.1), (4, .int s.2)] [] hp r) {t : (Int32 × Int32) ⊕ Int32} (h : F5_unexplained_5b x0 x1 x2 hp s = some t) (hK : K t) : m_Rn xs L 7 1012 5 [(0, .ref x0), (1, .int x1), (2, .int x2), (3, .int s.1), (4, .int s.2)] [] hp r := by
  unfold F5_unexplained_5b at h
  refine g_in eF5_unexplained_5 mx1012 ?_
  refine g_ch [(0, .ref x0), (1, .int x1), (2, .int x2), (3, .int s.1), (4, .int s.2)] [.ref x0, .int s.2] (pc' := 8) rfl rfl rfl ?_
  obtain ⟨v1, e2, h⟩ := m_bd h
  refine g_gr q5_f92 e2 ?_
  obtain ⟨v3, e4, h⟩ := m_bd h
  refine g_gi q5_f25 e4 ?_
  rcases m_ifd h with ⟨c5, h⟩ | ⟨c5, h⟩
  · refine g_if (t := 66) rfl (m_geT c5) ?_
    refine g_in eF5_unexplained_66 mx1012 ?_
    refine g_ch [(0, .ref x0), (1, .int x1), (2, .int x2), (3, .int s.1), (4, .int s.2)] [.int x2, .int x1] (pc' := 68) rfl rfl rfl ?_
    obtain ⟨v7, e6, h⟩ := m_bd h
    refine g_call (v := some (.int v7)) (h := hp) (st' := [.int v7]) (D1 := 0) (as := [.int x1, .int x2]) (Or.inl rfl) q5_m76 (m_cs (as := [.int x2, .int x1]) (rest := []) q5_m76 jv603 rfl rfl rfl rfl rfl) (by decide) (SF3_tradeRow e6) rfl ?_
    refine g_ch [(4, .int v7), (0, .ref x0), (1, .int x1), (2, .int x2), (3, .int s.1)] [.ref x0] (pc' := 74) rfl rfl rfl ?_
    obtain ⟨v8, e9, h⟩ := m_bd h
    refine g_gr q5_f73 e9 ?_
    refine g_ch [(4, .int v7), (0, .ref x0), (1, .int x1), (2, .int x2), (3, .int s.1)] [.int 1, .int v7, .ref v8] (pc' := 80) rfl rfl rfl ?_
    obtain ⟨v11, e10, h⟩ := m_bd h
    refine g_call (v := some (.int v11)) (h := hp) (st' := [.int v11]) (D1 := 1) (as := [.ref v8, .int v7, .int 1]) (Or.inr (Or.inl rfl)) q5_m15 (m_cv (as := [.int 1, .int v7]) (rest := []) (Or.inl rfl) q5_m15 jv1604 (OF8_get e10) rfl rfl rfl rfl) (by decide) (SF8_get e10) rfl ?_
    refine g_ch [(4, .int v7), (0, .ref x0), (1, .int x1), (2, .int x2), (3, .int s.1)] [.ref x0, .int v11] (pc' := 84) rfl rfl rfl ?_
    obtain ⟨v12, e13, h⟩ := m_bd h
    refine g_gr q5_f73 e13 ?_
    refine g_ch [(4, .int v7), (0, .ref x0), (1, .int x1), (2, .int x2), (3, .int s.1)] [.int 2, .int v7, .ref v12, .int v11] (pc' := 90) rfl rfl rfl ?_
    obtain ⟨v15, e14, h⟩ := m_bd h
    refine g_call (v := some (.int v15)) (h := hp) (st' := [.int v15, .int v11]) (D1 := 1) (as := [.ref v12, .int v7, .int 2]) (Or.inr (Or.inl rfl)) q5_m15 (m_cv (as := [.int 2, .int v7]) (rest := [.int v11]) (Or.inl rfl) q5_m15 jv1604 (OF8_get e14) rfl rfl rfl rfl) (by decide) (SF8_get e14) rfl ?_
    refine g_ch [(5, .int (v11 + v15)), (4, .int v7), (0, .ref x0), (1, .int x1), (2, .int x2), (3, .int s.1)] [.int (s.1 - (v11 + v15)), .int 0] (pc' := 101) rfl rfl rfl ?_
    refine g_nat (Or.inl rfl) q5_m95 rfl (z := ([.int (m_max 0 (s.1 - (v11 + v15)))], hp)) rfl (by decide) ?_
    cases h
    rw [k0 _ hK]
    exact g_iret rfl rfl
  · refine g_ifn (t := 66) rfl (m_geF c5) ?_
    refine g_in eF5_unexplained_17 mx1012 ?_
    refine g_ch [(0, .ref x0), (1, .int x1), (2, .int x2), (3, .int s.1), (4, .int s.2)] [.ref x0] (pc' := 18) rfl rfl rfl ?_
    obtain ⟨v16, e17, h⟩ := m_bd h
    refine g_gr q5_f92 e17 ?_
    refine g_ch [(0, .ref x0), (1, .int x1), (2, .int x2), (3, .int s.1), (4, .int s.2)] [.int 0, .int s.2, .ref v16] (pc' := 24) rfl rfl rfl ?_
    obtain ⟨v19, e18, h⟩ := m_bd h
    refine g_call (v := some (.int v19)) (h := hp) (st' := [.int v19]) (D1 := 1) (as := [.ref v16, .int s.2, .int 0]) (Or.inr (Or.inl rfl)) q5_m15 (m_cv (as := [.int 0, .int s.2]) (rest := []) (Or.inl rfl) q5_m15 jv1604 (OF8_get e18) rfl rfl rfl rfl) (by decide) (SF8_get e18) rfl ?_
    refine g_ch [(0, .ref x0), (1, .int x1), (2, .int x2), (3, .int s.1), (4, .int s.2)] [.int x1, .int v19] (pc' := 28) rfl rfl rfl ?_
    rcases m_ifd h with ⟨c20, h⟩ | ⟨c20, h⟩
    · refine g_ifn (t := 60) rfl (m_neF c20) ?_
      refine g_in eF5_unexplained_31 mx1012 ?_
      refine g_ch [(0, .ref x0), (1, .int x1), (2, .int x2), (3, .int s.1), (4, .int s.2)] [.ref x0] (pc' := 32) rfl rfl rfl ?_
      obtain ⟨v21, e22, h⟩ := m_bd h
      refine g_gr q5_f92 e22 ?_
      refine g_ch [(0, .ref x0), (1, .int x1), (2, .int x2), (3, .int s.1), (4, .int s.2)] [.int 1, .int s.2, .ref v21] (pc' := 38) rfl rfl rfl ?_
      obtain ⟨v24, e23, h⟩ := m_bd h
      refine g_call (v := some (.int v24)) (h := hp) (st' := [.int v24]) (D1 := 1) (as := [.ref v21, .int s.2, .int 1]) (Or.inr (Or.inl rfl)) q5_m15 (m_cv (as := [.int 1, .int s.2]) (rest := []) (Or.inl rfl) q5_m15 jv1604 (OF8_get e23) rfl rfl rfl rfl) (by decide) (SF8_get e23) rfl ?_
      refine g_ch [(0, .ref x0), (1, .int x1), (2, .int x2), (3, .int s.1), (4, .int s.2)] [.int x2, .int v24] (pc' := 42) rfl rfl rfl ?_
      rcases m_ifd h with ⟨c25, h⟩ | ⟨c25, h⟩
      · refine g_ifn (t := 60) rfl (m_neF c25) ?_
        refine g_in eF5_unexplained_45 mx1012 ?_
        refine g_ch [(0, .ref x0), (1, .int x1), (2, .int x2), (3, .int s.1), (4, .int s.2)] [.ref x0, .int s.1] (pc' := 47) rfl rfl rfl ?_
        obtain ⟨v26, e27, h⟩ := m_bd h
        refine g_gr q5_f92 e27 ?_
        refine g_ch [(0, .ref x0), (1, .int x1), (2, .int x2), (3, .int s.1), (4, .int s.2)] [.int 2, .int s.2, .ref v26, .int s.1] (pc' := 53) rfl rfl rfl ?_
        obtain ⟨v29, e28, h⟩ := m_bd h
        refine g_call (v := some (.int v29)) (h := hp) (st' := [.int v29, .int s.1]) (D1 := 1) (as := [.ref v26, .int s.2, .int 2]) (Or.inr (Or.inl rfl)) q5_m15 (m_cv (as := [.int 2, .int s.2]) (rest := [.int s.1]) (Or.inl rfl) q5_m15 jv1604 (OF8_get e28) rfl rfl rfl rfl) (by decide) (SF8_get e28) rfl ?_
        refine g_nat (Or.inl rfl) q5_m95 rfl (z := ([.int (m_max s.1 v29)], hp)) rfl (by decide) ?_
        refine g_ch [(3, .int (m_max s.1 v29)), (0, .ref x0), (1, .int x1), (2, .int x2), (4, .int s.2)] [] (pc' := 60) rfl rfl rfl ?_
        refine g_end ?_
        refine g_in eF5_unexplained_60 mx1012 ?_
        refine g_ch [(4, .int (s.2 + 1)), (3, .int (m_max s.1 v29)), (0, .ref x0), (1, .int x1), (2, .int x2)] [] (pc' := 63) rfl rfl rfl ?_
        refine g_goto (t := 5) rfl ?_
        cases h
        exact r_lv (k1 ((m_max s.1 v29), (s.2 + 1)) hK) rfl ⟨rfl, rfl, rfl, rfl, rfl, trivial⟩
      · refine g_if (t := 60) rfl (m_neT c25) ?_
        refine g_in eF5_unexplained_60 mx1012 ?_
        refine g_ch [(4, .int (s.2 + 1)), (0, .ref x0), (1, .int x1), (2, .int x2), (3, .int s.1)] [] (pc' := 63) rfl rfl rfl ?_
        refine g_goto (t := 5) rfl ?_
        cases h
        exact r_lv (k1 (s.1, (s.2 + 1)) hK) rfl ⟨rfl, rfl, rfl, rfl, rfl, trivial⟩
    · refine g_if (t := 60) rfl (m_neT c20) ?_
      refine g_in eF5_unexplained_60 mx1012 ?_
      refine g_ch [(4, .int (s.2 + 1)), (0, .ref x0), (1, .int x1), (2, .int x2), (3, .int s.1)] [] (pc' := 63) rfl rfl rfl ?_
      refine g_goto (t := 5) rfl ?_
      cases h
      exact r_lv (k1 (s.1, (s.2 + 1)) hK) rfl ⟨rfl, rfl, rfl, rfl, rfl, trivial⟩
theorem SF5_unexplained_5 {xs : Nat → Int32} {L : Nat} (x0 : Nat) (x1 : Int32) (x2 : Int32) (x3 : Int32) (x4 : Int32) (hp : m_H) {r : m_O × m_H} {K : Int32 → Prop} (k0 : ∀ x, K x → r = (.inl (some (.int x)), hp)) {t : Int32} (h : F5_unexplained_5 x0 x1 x2 x3 x4 hp = some t) (hK : K t) : m_Rn xs L 7 1012 5 [(0, .ref x0), (1, .int x1), (2, .int x2), (3, .int x3), (4, .int x4)] [] hp r :=
  m_wh_ok (P := fun s => m_Rn xs L 7 1012 5 [(0, .ref x0), (1, .int x1), (2, .int x2), (3, .int s.1), (4, .int s.2)] [] hp r) (Q := K) (fun s t hb hK => SF5_unexplained_5b x0 x1 x2 hp s (K := m_KK (fun s => m_Rn xs L 7 1012 5 [(0, .ref x0), (1, .int x1), (2, .int x2), (3, .int s.1), (4, .int s.2)] [] hp r) K) k0 (fun _ q => q) hb hK) m_N _ _ h hK
theorem SF5_unexplained_0 {xs : Nat → Int32} {L : Nat} (x0 : Nat) (x1 : Int32) (x2 : Int32) (hp : m_H) {r : m_O × m_H} {K : Int32 → Prop} (k0 : ∀ x, K x → r = (.inl (some (.int x)), hp)) {t : Int32} (h : F5_unexplained_0 x0 x1 x2 hp = some t) (hK : K t) : m_Rn xs L 7 1012 0 [(0, .ref x0), (1, .int x1), (2, .int x2)] [] hp r := by
  unfold F5_unexplained_0 at h
  refine g_in eF5_unexplained_0 mx1012 ?_
  refine g_ch [(4, .int 0), (3, .int 0), (0, .ref x0), (1, .int x1), (2, .int x2)] [] (pc' := 5) rfl rfl rfl ?_
  refine g_end ?_
  exact r_lv (SF5_unexplained_5 x0 x1 x2 0 0 hp (K := K) k0 h hK) rfl ⟨rfl, rfl, rfl, rfl, rfl, trivial⟩
theorem SF5_unexplained {xs : Nat → Int32} {L : Nat} {x0 : Nat} {x1 : Int32} {x2 : Int32} {hp : m_H} {x : Int32} (h : F5_unexplained x0 x1 x2 hp = some x) : m_Rn xs L 7 1012 0 (lv_args 0 [.ref x0, .int x1, .int x2]) [] hp (.inl (some (.int x)), hp) :=
  r_lv (SF5_unexplained_0 x0 x1 x2 hp (K := fun y => y = x) (fun y e => by rw [e]) h rfl) rfl ⟨rfl, rfl, rfl, trivial⟩
-- F5_landsWith: LendHouse$Ledger.landsWith(LLendHouse$House;I)I
theorem eF5_landsWith_0 : m_Fe mi5_13 0 (m_ap [(.iconst 0, 1), (.istore_n 2, 1), (.iconst 1, 1), (.istore_n 3, 1)] ([])) := m_Fe_of nd1013 0 4 rfl
theorem eF5_landsWith_4 : m_Fe mi5_13 4 (m_ap [(.iload_n 3, 1), (.bipush 6, 2)] ([(.if_icmp .ge 31, 3)])) := m_Fe_of nd1013 4 3 rfl
theorem eF5_landsWith_38 : m_Fe mi5_13 38 (m_ap [(.iload_n 2, 1)] ([(.ireturn, 1)])) := m_Fe_of nd1013 23 2 rfl
theorem eF5_landsWith_10 : m_Fe mi5_13 10 (m_ap [(.aload_n 0, 1)] ((.getfield 73, 3) :: (m_ap [(.iload_n 3, 1), (.iload_n 1, 1)] ((.invokestatic 76, 3) :: (m_ap [(.iconst 1, 1)] ((.invokevirtual 15, 3) :: ([(.ifCond .le 9, 3)]))))))) := m_Fe_of nd1013 7 8 rfl
theorem eF5_landsWith_32 : m_Fe mi5_13 32 (m_ap [(.iinc 3 1, 3)] ([(.goto (-31), 3)])) := m_Fe_of nd1013 21 2 rfl
theorem eF5_landsWith_26 : m_Fe mi5_13 26 (m_ap [(.iload_n 2, 1), (.iconst 1, 1), (.iload_n 3, 1), (.ishl, 1), (.ior, 1), (.istore_n 2, 1)] ([])) := m_Fe_of nd1013 15 6 rfl
theorem SF5_landsWith_4b {xs : Nat → Int32} {L : Nat} (x0 : Nat) (x1 : Int32) (hp : m_H) (s : Int32 × Int32) {r : m_O × m_H} {K : ((Int32 × Int32) ⊕ Int32) → Prop} (k0 : ∀ x, K (.inr x) → r = (.inl (some (.int x)), hp)) (k1 : ∀ s, K (.inl s) → m_Rn xs L 2 1013 4 [(0, .ref x0), (1, .int x1), (2, .int s.1), (3, .int s.2)] [] hp r) {t : (Int32 × Int32) ⊕ Int32} (h : F5_landsWith_4b x0 x1 hp s = some t) (hK : K t) : m_Rn xs L 2 1013 4 [(0, .ref x0), (1, .int x1), (2, .int s.1), (3, .int s.2)] [] hp r := by
  unfold F5_landsWith_4b at h
  refine g_in eF5_landsWith_4 mx1013 ?_
  refine g_ch [(0, .ref x0), (1, .int x1), (2, .int s.1), (3, .int s.2)] [.int 6, .int s.2] (pc' := 7) rfl rfl rfl ?_
  rcases m_ifd h with ⟨c1, h⟩ | ⟨c1, h⟩
  · refine g_if (t := 38) rfl (m_geT c1) ?_
    refine g_in eF5_landsWith_38 mx1013 ?_
    refine g_ch [(0, .ref x0), (1, .int x1), (2, .int s.1), (3, .int s.2)] [.int s.1] (pc' := 39) rfl rfl rfl ?_
    cases h
    rw [k0 _ hK]
    exact g_iret rfl rfl
  · refine g_ifn (t := 38) rfl (m_geF c1) ?_
    refine g_in eF5_landsWith_10 mx1013 ?_
    refine g_ch [(0, .ref x0), (1, .int x1), (2, .int s.1), (3, .int s.2)] [.ref x0] (pc' := 11) rfl rfl rfl ?_
    obtain ⟨v2, e3, h⟩ := m_bd h
    refine g_gr q5_f73 e3 ?_
    refine g_ch [(0, .ref x0), (1, .int x1), (2, .int s.1), (3, .int s.2)] [.int x1, .int s.2, .ref v2] (pc' := 16) rfl rfl rfl ?_
    obtain ⟨v5, e4, h⟩ := m_bd h
    refine g_call (v := some (.int v5)) (h := hp) (st' := [.int v5, .ref v2]) (D1 := 0) (as := [.int s.2, .int x1]) (Or.inl rfl) q5_m76 (m_cs (as := [.int x1, .int s.2]) (rest := [.ref v2]) q5_m76 jv603 rfl rfl rfl rfl rfl) (by decide) (SF3_tradeRow e4) rfl ?_
    refine g_ch [(0, .ref x0), (1, .int x1), (2, .int s.1), (3, .int s.2)] [.int 1, .int v5, .ref v2] (pc' := 20) rfl rfl rfl ?_
    obtain ⟨v7, e6, h⟩ := m_bd h
    refine g_call (v := some (.int v7)) (h := hp) (st' := [.int v7]) (D1 := 1) (as := [.ref v2, .int v5, .int 1]) (Or.inr (Or.inl rfl)) q5_m15 (m_cv (as := [.int 1, .int v5]) (rest := []) (Or.inl rfl) q5_m15 jv1604 (OF8_get e6) rfl rfl rfl rfl) (by decide) (SF8_get e6) rfl ?_
    rcases m_ifd h with ⟨c8, h⟩ | ⟨c8, h⟩
    · refine g_ifc (t := 32) rfl (m_leT c8) ?_
      refine g_in eF5_landsWith_32 mx1013 ?_
      refine g_ch [(3, .int (s.2 + 1)), (0, .ref x0), (1, .int x1), (2, .int s.1)] [] (pc' := 35) rfl rfl rfl ?_
      refine g_goto (t := 4) rfl ?_
      cases h
      exact r_lv (k1 (s.1, (s.2 + 1)) hK) rfl ⟨rfl, rfl, rfl, rfl, trivial⟩
    · refine g_ifcn (t := 32) rfl (m_leF c8) ?_
      refine g_in eF5_landsWith_26 mx1013 ?_
      refine g_ch [(2, .int (s.1 ||| (1 <<< (s.2 &&& 31)))), (0, .ref x0), (1, .int x1), (3, .int s.2)] [] (pc' := 32) rfl rfl rfl ?_
      refine g_end ?_
      refine g_in eF5_landsWith_32 mx1013 ?_
      refine g_ch [(3, .int (s.2 + 1)), (2, .int (s.1 ||| (1 <<< (s.2 &&& 31)))), (0, .ref x0), (1, .int x1)] [] (pc' := 35) rfl rfl rfl ?_
      refine g_goto (t := 4) rfl ?_
      cases h
      exact r_lv (k1 ((s.1 ||| (1 <<< (s.2 &&& 31))), (s.2 + 1)) hK) rfl ⟨rfl, rfl, rfl, rfl, trivial⟩
theorem SF5_landsWith_4 {xs : Nat → Int32} {L : Nat} (x0 : Nat) (x1 : Int32) (x2 : Int32) (x3 : Int32) (hp : m_H) {r : m_O × m_H} {K : Int32 → Prop} (k0 : ∀ x, K x → r = (.inl (some (.int x)), hp)) {t : Int32} (h : F5_landsWith_4 x0 x1 x2 x3 hp = some t) (hK : K t) : m_Rn xs L 2 1013 4 [(0, .ref x0), (1, .int x1), (2, .int x2), (3, .int x3)] [] hp r :=
  m_wh_ok (P := fun s => m_Rn xs L 2 1013 4 [(0, .ref x0), (1, .int x1), (2, .int s.1), (3, .int s.2)] [] hp r) (Q := K) (fun s t hb hK => SF5_landsWith_4b x0 x1 hp s (K := m_KK (fun s => m_Rn xs L 2 1013 4 [(0, .ref x0), (1, .int x1), (2, .int s.1), (3, .int s.2)] [] hp r) K) k0 (fun _ q => q) hb hK) m_N _ _ h hK
theorem SF5_landsWith_0 {xs : Nat → Int32} {L : Nat} (x0 : Nat) (x1 : Int32) (hp : m_H) {r : m_O × m_H} {K : Int32 → Prop} (k0 : ∀ x, K x → r = (.inl (some (.int x)), hp)) {t : Int32} (h : F5_landsWith_0 x0 x1 hp = some t) (hK : K t) : m_Rn xs L 2 1013 0 [(0, .ref x0), (1, .int x1)] [] hp r := by
  unfold F5_landsWith_0 at h
  refine g_in eF5_landsWith_0 mx1013 ?_
  refine g_ch [(3, .int 1), (2, .int 0), (0, .ref x0), (1, .int x1)] [] (pc' := 4) rfl rfl rfl ?_
  refine g_end ?_
  exact r_lv (SF5_landsWith_4 x0 x1 0 1 hp (K := K) k0 h hK) rfl ⟨rfl, rfl, rfl, rfl, trivial⟩
theorem SF5_landsWith {xs : Nat → Int32} {L : Nat} {x0 : Nat} {x1 : Int32} {hp : m_H} {x : Int32} (h : F5_landsWith x0 x1 hp = some x) : m_Rn xs L 2 1013 0 (lv_args 0 [.ref x0, .int x1]) [] hp (.inl (some (.int x)), hp) :=
  r_lv (SF5_landsWith_0 x0 x1 hp (K := fun y => y = x) (fun y e => by rw [e]) h rfl) rfl ⟨rfl, rfl, trivial⟩
-- F5_firstNotPaid: LendHouse$Ledger.firstNotPaid(LLendHouse$House;[I)I
theorem eF5_firstNotPaid_0 : m_Fe mi5_14 0 (m_ap [(.iconst 0, 1), (.istore_n 2, 1)] ([])) := m_Fe_of nd1014 0 2 rfl
theorem eF5_firstNotPaid_2 : m_Fe mi5_14 2 (m_ap [(.iload_n 2, 1), (.aload_n 0, 1)] ((.getfield 9, 3) :: ((.getfield 25, 3) :: ([(.if_icmp .ge 83, 3)])))) := m_Fe_of nd1014 2 5 rfl
theorem eF5_firstNotPaid_93 : m_Fe mi5_14 93 (m_ap [(.iconst (-1), 1)] ([(.ireturn, 1)])) := m_Fe_of nd1014 54 2 rfl
theorem eF5_firstNotPaid_13 : m_Fe mi5_14 13 (m_ap [(.aload_n 0, 1)] ((.getfield 9, 3) :: (m_ap [(.iload_n 2, 1), (.iconst 2, 1)] ((.invokevirtual 15, 3) :: (m_ap [(.istore_n 3, 1), (.aload_n 0, 1)] ((.getfield 9, 3) :: (m_ap [(.iload_n 2, 1), (.bipush 6, 2)] ((.invokevirtual 15, 3) :: (m_ap [(.iconst (-1), 1)] ([(.if_icmp .eq 53, 3)])))))))))) := m_Fe_of nd1014 7 13 rfl
theorem eF5_firstNotPaid_87 : m_Fe mi5_14 87 (m_ap [(.iinc 2 1, 3)] ([(.goto (-88), 3)])) := m_Fe_of nd1014 52 2 rfl
theorem eF5_firstNotPaid_37 : m_Fe mi5_14 37 (m_ap [(.iload_n 3, 1)] ([(.ifCond .lt 49, 3)])) := m_Fe_of nd1014 20 2 rfl
theorem eF5_firstNotPaid_41 : m_Fe mi5_14 41 (m_ap [(.iload_n 3, 1), (.aload_n 1, 1)] ((.arraylength, 1) :: ([(.if_icmp .ge 43, 3)]))) := m_Fe_of nd1014 22 4 rfl
theorem eF5_firstNotPaid_47 : m_Fe mi5_14 47 (m_ap [(.aload_n 0, 1)] ((.getfield 9, 3) :: (m_ap [(.iload_n 2, 1), (.iconst 1, 1)] ((.invokevirtual 15, 3) :: (m_ap [(.aload_n 0, 1)] ((.getfield 9, 3) :: (m_ap [(.iload_n 2, 1), (.bipush 20, 2)] ((.invokevirtual 15, 3) :: (m_ap [(.imul, 1), (.istore 4, 2), (.iload 4, 2), (.aload_n 1, 1), (.iload_n 3, 1)] ((.iaload, 1) :: ([(.if_icmp .le 5, 3)]))))))))))) := m_Fe_of nd1014 26 17 rfl
theorem eF5_firstNotPaid_79 : m_Fe mi5_14 79 (m_ap [(.aload_n 1, 1), (.iload_n 3, 1), (.dup2, 1)] ((.iaload, 1) :: (m_ap [(.iload 4, 2), (.isub, 1)] ([(.iastore, 1)])))) := m_Fe_of nd1014 45 7 rfl
theorem eF5_firstNotPaid_77 : m_Fe mi5_14 77 (m_ap [(.iload_n 2, 1)] ([(.ireturn, 1)])) := m_Fe_of nd1014 43 2 rfl
theorem SF5_firstNotPaid_2b {xs : Nat → Int32} {L : Nat} (x0 : Nat) (x1 : Nat) (s : Int32 × m_H) {r : m_O × m_H} {K : ((Int32 × m_H) ⊕ (Int32 × m_H)) → Prop} (k0 : ∀ x, K (.inr x) → r = (.inl (some (.int x.1)), x.2)) (k1 : ∀ s, K (.inl s) → m_Rn xs L 2 1014 2 [(0, .ref x0), (1, .ref x1), (2, .int s.1)] [] s.2 r) {t : (Int32 × m_H) ⊕ (Int32 × m_H)} (h : F5_firstNotPaid_2b x0 x1 s = some t) (hK : K t) : m_Rn xs L 2 1014 2 [(0, .ref x0), (1, .ref x1), (2, .int s.1)] [] s.2 r := by
  unfold F5_firstNotPaid_2b at h
  refine g_in eF5_firstNotPaid_2 mx1014 ?_
  refine g_ch [(0, .ref x0), (1, .ref x1), (2, .int s.1)] [.ref x0, .int s.1] (pc' := 4) rfl rfl rfl ?_
  obtain ⟨v1, e2, h⟩ := m_bd h
  refine g_gr q5_f9 e2 ?_
  obtain ⟨v3, e4, h⟩ := m_bd h
  refine g_gi q5_f25 e4 ?_
  rcases m_ifd h with ⟨c5, h⟩ | ⟨c5, h⟩
  · refine g_if (t := 93) rfl (m_geT c5) ?_
    refine g_in eF5_firstNotPaid_93 mx1014 ?_
    refine g_ch [(0, .ref x0), (1, .ref x1), (2, .int s.1)] [.int (-1)] (pc' := 94) rfl rfl rfl ?_
    cases h
    rw [k0 _ hK]
    exact g_iret rfl rfl
  · refine g_ifn (t := 93) rfl (m_geF c5) ?_
    refine g_in eF5_firstNotPaid_13 mx1014 ?_
    refine g_ch [(0, .ref x0), (1, .ref x1), (2, .int s.1)] [.ref x0] (pc' := 14) rfl rfl rfl ?_
    obtain ⟨v6, e7, h⟩ := m_bd h
    refine g_gr q5_f9 e7 ?_
    refine g_ch [(0, .ref x0), (1, .ref x1), (2, .int s.1)] [.int 2, .int s.1, .ref v6] (pc' := 19) rfl rfl rfl ?_
    obtain ⟨v9, e8, h⟩ := m_bd h
    refine g_call (v := some (.int v9)) (h := s.2) (st' := [.int v9]) (D1 := 1) (as := [.ref v6, .int s.1, .int 2]) (Or.inr (Or.inl rfl)) q5_m15 (m_cv (as := [.int 2, .int s.1]) (rest := []) (Or.inl rfl) q5_m15 jv1604 (OF8_get e8) rfl rfl rfl rfl) (by decide) (SF8_get e8) rfl ?_
    refine g_ch [(3, .int v9), (0, .ref x0), (1, .ref x1), (2, .int s.1)] [.ref x0] (pc' := 24) rfl rfl rfl ?_
    obtain ⟨v10, e11, h⟩ := m_bd h
    refine g_gr q5_f9 e11 ?_
    refine g_ch [(3, .int v9), (0, .ref x0), (1, .ref x1), (2, .int s.1)] [.int 6, .int s.1, .ref v10] (pc' := 30) rfl rfl rfl ?_
    obtain ⟨v13, e12, h⟩ := m_bd h
    refine g_call (v := some (.int v13)) (h := s.2) (st' := [.int v13]) (D1 := 1) (as := [.ref v10, .int s.1, .int 6]) (Or.inr (Or.inl rfl)) q5_m15 (m_cv (as := [.int 6, .int s.1]) (rest := []) (Or.inl rfl) q5_m15 jv1604 (OF8_get e12) rfl rfl rfl rfl) (by decide) (SF8_get e12) rfl ?_
    refine g_ch [(3, .int v9), (0, .ref x0), (1, .ref x1), (2, .int s.1)] [.int (-1), .int v13] (pc' := 34) rfl rfl rfl ?_
    rcases m_ifd h with ⟨c14, h⟩ | ⟨c14, h⟩
    · refine g_if (t := 87) rfl (m_eqT c14) ?_
      refine g_in eF5_firstNotPaid_87 mx1014 ?_
      refine g_ch [(2, .int (s.1 + 1)), (3, .int v9), (0, .ref x0), (1, .ref x1)] [] (pc' := 90) rfl rfl rfl ?_
      refine g_goto (t := 2) rfl ?_
      cases h
      exact r_lv (k1 ((s.1 + 1), s.2) hK) rfl ⟨rfl, rfl, rfl, trivial⟩
    · refine g_ifn (t := 87) rfl (m_eqF c14) ?_
      refine g_in eF5_firstNotPaid_37 mx1014 ?_
      refine g_ch [(3, .int v9), (0, .ref x0), (1, .ref x1), (2, .int s.1)] [.int v9] (pc' := 38) rfl rfl rfl ?_
      rcases m_ifd h with ⟨c15, h⟩ | ⟨c15, h⟩
      · refine g_ifc (t := 87) rfl (m_ltT c15) ?_
        refine g_in eF5_firstNotPaid_87 mx1014 ?_
        refine g_ch [(2, .int (s.1 + 1)), (3, .int v9), (0, .ref x0), (1, .ref x1)] [] (pc' := 90) rfl rfl rfl ?_
        refine g_goto (t := 2) rfl ?_
        cases h
        exact r_lv (k1 ((s.1 + 1), s.2) hK) rfl ⟨rfl, rfl, rfl, trivial⟩
      · refine g_ifcn (t := 87) rfl (m_ltF c15) ?_
        refine g_in eF5_firstNotPaid_41 mx1014 ?_
        refine g_ch [(3, .int v9), (0, .ref x0), (1, .ref x1), (2, .int s.1)] [.ref x1, .int v9] (pc' := 43) rfl rfl rfl ?_
        obtain ⟨v16, e17, h⟩ := m_bd h
        refine g_len e17 ?_
        rcases m_ifd h with ⟨c18, h⟩ | ⟨c18, h⟩
        · refine g_if (t := 87) rfl (m_geT c18) ?_
          refine g_in eF5_firstNotPaid_87 mx1014 ?_
          refine g_ch [(2, .int (s.1 + 1)), (3, .int v9), (0, .ref x0), (1, .ref x1)] [] (pc' := 90) rfl rfl rfl ?_
          refine g_goto (t := 2) rfl ?_
          cases h
          exact r_lv (k1 ((s.1 + 1), s.2) hK) rfl ⟨rfl, rfl, rfl, trivial⟩
        · refine g_ifn (t := 87) rfl (m_geF c18) ?_
          refine g_in eF5_firstNotPaid_47 mx1014 ?_
          refine g_ch [(3, .int v9), (0, .ref x0), (1, .ref x1), (2, .int s.1)] [.ref x0] (pc' := 48) rfl rfl rfl ?_
          obtain ⟨v19, e20, h⟩ := m_bd h
          refine g_gr q5_f9 e20 ?_
          refine g_ch [(3, .int v9), (0, .ref x0), (1, .ref x1), (2, .int s.1)] [.int 1, .int s.1, .ref v19] (pc' := 53) rfl rfl rfl ?_
          obtain ⟨v22, e21, h⟩ := m_bd h
          refine g_call (v := some (.int v22)) (h := s.2) (st' := [.int v22]) (D1 := 1) (as := [.ref v19, .int s.1, .int 1]) (Or.inr (Or.inl rfl)) q5_m15 (m_cv (as := [.int 1, .int s.1]) (rest := []) (Or.inl rfl) q5_m15 jv1604 (OF8_get e21) rfl rfl rfl rfl) (by decide) (SF8_get e21) rfl ?_
          refine g_ch [(3, .int v9), (0, .ref x0), (1, .ref x1), (2, .int s.1)] [.ref x0, .int v22] (pc' := 57) rfl rfl rfl ?_
          obtain ⟨v23, e24, h⟩ := m_bd h
          refine g_gr q5_f9 e24 ?_
          refine g_ch [(3, .int v9), (0, .ref x0), (1, .ref x1), (2, .int s.1)] [.int 20, .int s.1, .ref v23, .int v22] (pc' := 63) rfl rfl rfl ?_
          obtain ⟨v26, e25, h⟩ := m_bd h
          refine g_call (v := some (.int v26)) (h := s.2) (st' := [.int v26, .int v22]) (D1 := 1) (as := [.ref v23, .int s.1, .int 20]) (Or.inr (Or.inl rfl)) q5_m15 (m_cv (as := [.int 20, .int s.1]) (rest := [.int v22]) (Or.inl rfl) q5_m15 jv1604 (OF8_get e25) rfl rfl rfl rfl) (by decide) (SF8_get e25) rfl ?_
          refine g_ch [(4, .int (v22 * v26)), (3, .int v9), (0, .ref x0), (1, .ref x1), (2, .int s.1)] [.int v9, .ref x1, .int (v22 * v26)] (pc' := 73) rfl rfl rfl ?_
          obtain ⟨v27, e28, h⟩ := m_bd h
          refine g_ia e28 ?_
          rcases m_ifd h with ⟨c29, h⟩ | ⟨c29, h⟩
          · refine g_if (t := 79) rfl (m_leT c29) ?_
            refine g_in eF5_firstNotPaid_79 mx1014 ?_
            refine g_ch [(4, .int (v22 * v26)), (3, .int v9), (0, .ref x0), (1, .ref x1), (2, .int s.1)] [.int v9, .ref x1, .int v9, .ref x1] (pc' := 82) rfl rfl rfl ?_
            obtain ⟨v30, e31, h⟩ := m_bd h
            refine g_ia e31 ?_
            refine g_ch [(4, .int (v22 * v26)), (3, .int v9), (0, .ref x0), (1, .ref x1), (2, .int s.1)] [.int (v30 - (v22 * v26)), .int v9, .ref x1] (pc' := 86) rfl rfl rfl ?_
            obtain ⟨h32, e33, h⟩ := m_bd h
            refine g_is e33 ?_
            refine g_end ?_
            refine g_in eF5_firstNotPaid_87 mx1014 ?_
            refine g_ch [(2, .int (s.1 + 1)), (4, .int (v22 * v26)), (3, .int v9), (0, .ref x0), (1, .ref x1)] [] (pc' := 90) rfl rfl rfl ?_
            refine g_goto (t := 2) rfl ?_
            cases h
            exact r_lv (k1 ((s.1 + 1), h32) hK) rfl ⟨rfl, rfl, rfl, trivial⟩
          · refine g_ifn (t := 79) rfl (m_leF c29) ?_
            refine g_in eF5_firstNotPaid_77 mx1014 ?_
            refine g_ch [(4, .int (v22 * v26)), (3, .int v9), (0, .ref x0), (1, .ref x1), (2, .int s.1)] [.int s.1] (pc' := 78) rfl rfl rfl ?_
            cases h
            rw [k0 _ hK]
            exact g_iret rfl rfl
theorem SF5_firstNotPaid_2 {xs : Nat → Int32} {L : Nat} (x0 : Nat) (x1 : Nat) (x2 : Int32) (hp : m_H) {r : m_O × m_H} {K : Int32 × m_H → Prop} (k0 : ∀ x, K x → r = (.inl (some (.int x.1)), x.2)) {t : Int32 × m_H} (h : F5_firstNotPaid_2 x0 x1 x2 hp = some t) (hK : K t) : m_Rn xs L 2 1014 2 [(0, .ref x0), (1, .ref x1), (2, .int x2)] [] hp r :=
  m_wh_ok (P := fun s => m_Rn xs L 2 1014 2 [(0, .ref x0), (1, .ref x1), (2, .int s.1)] [] s.2 r) (Q := K) (fun s t hb hK => SF5_firstNotPaid_2b x0 x1 s (K := m_KK (fun s => m_Rn xs L 2 1014 2 [(0, .ref x0), (1, .ref x1), (2, .int s.1)] [] s.2 r) K) k0 (fun _ q => q) hb hK) m_N _ _ h hK
theorem SF5_firstNotPaid_0 {xs : Nat → Int32} {L : Nat} (x0 : Nat) (x1 : Nat) (hp : m_H) {r : m_O × m_H} {K : (Int32 × m_H) → Prop} (k0 : ∀ x, K x → r = (.inl (some (.int x.1)), x.2)) {t : Int32 × m_H} (h : F5_firstNotPaid_0 x0 x1 hp = some t) (hK : K t) : m_Rn xs L 2 1014 0 [(0, .ref x0), (1, .ref x1)] [] hp r := by
  unfold F5_firstNotPaid_0 at h
  refine g_in eF5_firstNotPaid_0 mx1014 ?_
  refine g_ch [(2, .int 0), (0, .ref x0), (1, .ref x1)] [] (pc' := 2) rfl rfl rfl ?_
  refine g_end ?_
  exact r_lv (SF5_firstNotPaid_2 x0 x1 0 hp (K := K) k0 h hK) rfl ⟨rfl, rfl, rfl, trivial⟩
theorem SF5_firstNotPaid {xs : Nat → Int32} {L : Nat} {x0 : Nat} {x1 : Nat} {hp : m_H} {x : Int32 × m_H} (h : F5_firstNotPaid x0 x1 hp = some x) : m_Rn xs L 2 1014 0 (lv_args 0 [.ref x0, .ref x1]) [] hp (.inl (some (.int x.1)), x.2) :=
  r_lv (SF5_firstNotPaid_0 x0 x1 hp (K := fun y => y = x) (fun y e => by rw [e]) h rfl) rfl ⟨rfl, rfl, trivial⟩
-- F6_isIn: LendHouse$Plans.isIn(II)Z
theorem eF6_isIn_0 : m_Fe mi6_0 0 (m_ap [(.iload_n 0, 1), (.iload_n 1, 1), (.iushr, 1), (.iconst 1, 1), (.iand, 1), (.iconst 1, 1)] ([(.if_icmp .ne 7, 3)])) := m_Fe_of nd1200 0 7 rfl
theorem eF6_isIn_13 : m_Fe mi6_0 13 (m_ap [(.iconst 0, 1)] ([])) := m_Fe_of nd1200 9 1 rfl
theorem eF6_isIn_14 : m_Fe mi6_0 14 ([(.ireturn, 1)]) := m_Fe_of nd1200 10 1 rfl
theorem eF6_isIn_9 : m_Fe mi6_0 9 (m_ap [(.iconst 1, 1)] ([(.goto 4, 3)])) := m_Fe_of nd1200 7 2 rfl
theorem SF6_isIn_0 {xs : Nat → Int32} {L : Nat} (x0 : Int32) (x1 : Int32) (hp : m_H) {r : m_O × m_H} {K : Int32 → Prop} (k0 : ∀ x, K x → r = (.inl (some (.int x)), hp)) {t : Int32} (h : F6_isIn_0 x0 x1 hp = some t) (hK : K t) : m_Rn xs L 0 1200 0 [(0, .int x0), (1, .int x1)] [] hp r := by
  unfold F6_isIn_0 at h
  refine g_in eF6_isIn_0 mx1200 ?_
  refine g_ch [(0, .int x0), (1, .int x1)] [.int 1, .int ((m_ushr x0 x1) &&& 1)] (pc' := 6) rfl rfl rfl ?_
  rcases m_ifd h with ⟨c1, h⟩ | ⟨c1, h⟩
  · refine g_ifn (t := 13) rfl (m_neF c1) ?_
    refine g_in eF6_isIn_9 mx1200 ?_
    refine g_ch [(0, .int x0), (1, .int x1)] [.int 1] (pc' := 10) rfl rfl rfl ?_
    refine g_goto (t := 14) rfl ?_
    refine g_in eF6_isIn_14 mx1200 ?_
    cases h
    rw [k0 _ hK]
    exact g_iret rfl (by decide +kernel)
  · refine g_if (t := 13) rfl (m_neT c1) ?_
    refine g_in eF6_isIn_13 mx1200 ?_
    refine g_ch [(0, .int x0), (1, .int x1)] [.int 0] (pc' := 14) rfl rfl rfl ?_
    refine g_end ?_
    refine g_in eF6_isIn_14 mx1200 ?_
    cases h
    rw [k0 _ hK]
    exact g_iret rfl (by decide +kernel)
theorem SF6_isIn {xs : Nat → Int32} {L : Nat} {x0 : Int32} {x1 : Int32} {hp : m_H} {x : Int32} (h : F6_isIn x0 x1 hp = some x) : m_Rn xs L 0 1200 0 (lv_args 0 [.int x0, .int x1]) [] hp (.inl (some (.int x)), hp) :=
  r_lv (SF6_isIn_0 x0 x1 hp (K := fun y => y = x) (fun y e => by rw [e]) h rfl) rfl ⟨rfl, rfl, trivial⟩
-- F6_ordersNotBegun: LendHouse$Plans.ordersNotBegun(LLendHouse$House;[I)I
theorem eF6_ordersNotBegun_0 : m_Fe mi6_1 0 (m_ap [(.iconst 0, 1), (.istore_n 2, 1), (.iconst 0, 1), (.istore_n 3, 1)] ([])) := m_Fe_of nd1201 0 4 rfl
theorem eF6_ordersNotBegun_4 : m_Fe mi6_1 4 (m_ap [(.iload_n 3, 1), (.aload_n 0, 1)] ((.getfield 9, 3) :: ((.getfield 15, 3) :: ([(.if_icmp .ge 30, 3)])))) := m_Fe_of nd1201 4 5 rfl
theorem eF6_ordersNotBegun_42 : m_Fe mi6_1 42 (m_ap [(.iload_n 2, 1)] ([(.ireturn, 1)])) := m_Fe_of nd1201 24 2 rfl
theorem eF6_ordersNotBegun_15 : m_Fe mi6_1 15 (m_ap [(.aload_n 0, 1), (.iload_n 3, 1)] ((.invokevirtual 21, 3) :: ([(.ifCond .eq 16, 3)]))) := m_Fe_of nd1201 9 4 rfl
theorem eF6_ordersNotBegun_36 : m_Fe mi6_1 36 (m_ap [(.iinc 3 1, 3)] ([(.goto (-35), 3)])) := m_Fe_of nd1201 22 2 rfl
theorem eF6_ordersNotBegun_23 : m_Fe mi6_1 23 (m_ap [(.iload_n 2, 1), (.aload_n 1, 1)] ((.arraylength, 1) :: ([(.if_icmp .ge 10, 3)]))) := m_Fe_of nd1201 13 4 rfl
theorem eF6_ordersNotBegun_29 : m_Fe mi6_1 29 (m_ap [(.aload_n 1, 1), (.iload_n 2, 1), (.iload_n 3, 1)] ((.iastore, 1) :: (m_ap [(.iinc 2 1, 3)] ([])))) := m_Fe_of nd1201 17 5 rfl
theorem SF6_ordersNotBegun_4b {xs : Nat → Int32} {L : Nat} (x0 : Nat) (x1 : Nat) (s : Int32 × Int32 × m_H) {r : m_O × m_H} {K : ((Int32 × Int32 × m_H) ⊕ (Int32 × m_H)) → Prop} (k0 : ∀ x, K (.inr x) → r = (.inl (some (.int x.1)), x.2)) (k1 : ∀ s, K (.inl s) → m_Rn xs L 4 1201 4 [(0, .ref x0), (1, .ref x1), (2, .int s.1), (3, .int s.2.1)] [] s.2.2 r) {t : (Int32 × Int32 × m_H) ⊕ (Int32 × m_H)} (h : F6_ordersNotBegun_4b x0 x1 s = some t) (hK : K t) : m_Rn xs L 4 1201 4 [(0, .ref x0), (1, .ref x1), (2, .int s.1), (3, .int s.2.1)] [] s.2.2 r := by
  unfold F6_ordersNotBegun_4b at h
  refine g_in eF6_ordersNotBegun_4 mx1201 ?_
  refine g_ch [(0, .ref x0), (1, .ref x1), (2, .int s.1), (3, .int s.2.1)] [.ref x0, .int s.2.1] (pc' := 6) rfl rfl rfl ?_
  obtain ⟨v1, e2, h⟩ := m_bd h
  refine g_gr q6_f9 e2 ?_
  obtain ⟨v3, e4, h⟩ := m_bd h
  refine g_gi q6_f15 e4 ?_
  rcases m_ifd h with ⟨c5, h⟩ | ⟨c5, h⟩
  · refine g_if (t := 42) rfl (m_geT c5) ?_
    refine g_in eF6_ordersNotBegun_42 mx1201 ?_
    refine g_ch [(0, .ref x0), (1, .ref x1), (2, .int s.1), (3, .int s.2.1)] [.int s.1] (pc' := 43) rfl rfl rfl ?_
    cases h
    rw [k0 _ hK]
    exact g_iret rfl rfl
  · refine g_ifn (t := 42) rfl (m_geF c5) ?_
    refine g_in eF6_ordersNotBegun_15 mx1201 ?_
    refine g_ch [(0, .ref x0), (1, .ref x1), (2, .int s.1), (3, .int s.2.1)] [.int s.2.1, .ref x0] (pc' := 17) rfl rfl rfl ?_
    obtain ⟨v7, e6, h⟩ := m_bd h
    refine g_call (v := some (.int v7)) (h := s.2.2) (st' := [.int v7]) (D1 := 3) (as := [.ref x0, .int s.2.1]) (Or.inr (Or.inl rfl)) q6_m21 (m_cv (as := [.int s.2.1]) (rest := []) (Or.inl rfl) q6_m21 jv615 (OF3_isOrderNotBegun e6) rfl rfl rfl rfl) (by decide) (SF3_isOrderNotBegun e6) rfl ?_
    rcases m_ifd h with ⟨c8, h⟩ | ⟨c8, h⟩
    · refine g_ifc (t := 36) rfl (m_eqT c8) ?_
      refine g_in eF6_ordersNotBegun_36 mx1201 ?_
      refine g_ch [(3, .int (s.2.1 + 1)), (0, .ref x0), (1, .ref x1), (2, .int s.1)] [] (pc' := 39) rfl rfl rfl ?_
      refine g_goto (t := 4) rfl ?_
      cases h
      exact r_lv (k1 (s.1, (s.2.1 + 1), s.2.2) hK) rfl ⟨rfl, rfl, rfl, rfl, trivial⟩
    · refine g_ifcn (t := 36) rfl (m_eqF c8) ?_
      refine g_in eF6_ordersNotBegun_23 mx1201 ?_
      refine g_ch [(0, .ref x0), (1, .ref x1), (2, .int s.1), (3, .int s.2.1)] [.ref x1, .int s.1] (pc' := 25) rfl rfl rfl ?_
      obtain ⟨v9, e10, h⟩ := m_bd h
      refine g_len e10 ?_
      rcases m_ifd h with ⟨c11, h⟩ | ⟨c11, h⟩
      · refine g_if (t := 36) rfl (m_geT c11) ?_
        refine g_in eF6_ordersNotBegun_36 mx1201 ?_
        refine g_ch [(3, .int (s.2.1 + 1)), (0, .ref x0), (1, .ref x1), (2, .int s.1)] [] (pc' := 39) rfl rfl rfl ?_
        refine g_goto (t := 4) rfl ?_
        cases h
        exact r_lv (k1 (s.1, (s.2.1 + 1), s.2.2) hK) rfl ⟨rfl, rfl, rfl, rfl, trivial⟩
      · refine g_ifn (t := 36) rfl (m_geF c11) ?_
        refine g_in eF6_ordersNotBegun_29 mx1201 ?_
        refine g_ch [(0, .ref x0), (1, .ref x1), (2, .int s.1), (3, .int s.2.1)] [.int s.2.1, .int s.1, .ref x1] (pc' := 32) rfl rfl rfl ?_
        obtain ⟨h12, e13, h⟩ := m_bd h
        refine g_is e13 ?_
        refine g_ch [(2, .int (s.1 + 1)), (0, .ref x0), (1, .ref x1), (3, .int s.2.1)] [] (pc' := 36) rfl rfl rfl ?_
        refine g_end ?_
        refine g_in eF6_ordersNotBegun_36 mx1201 ?_
        refine g_ch [(3, .int (s.2.1 + 1)), (2, .int (s.1 + 1)), (0, .ref x0), (1, .ref x1)] [] (pc' := 39) rfl rfl rfl ?_
        refine g_goto (t := 4) rfl ?_
        cases h
        exact r_lv (k1 ((s.1 + 1), (s.2.1 + 1), h12) hK) rfl ⟨rfl, rfl, rfl, rfl, trivial⟩
theorem SF6_ordersNotBegun_4 {xs : Nat → Int32} {L : Nat} (x0 : Nat) (x1 : Nat) (x2 : Int32) (x3 : Int32) (hp : m_H) {r : m_O × m_H} {K : Int32 × m_H → Prop} (k0 : ∀ x, K x → r = (.inl (some (.int x.1)), x.2)) {t : Int32 × m_H} (h : F6_ordersNotBegun_4 x0 x1 x2 x3 hp = some t) (hK : K t) : m_Rn xs L 4 1201 4 [(0, .ref x0), (1, .ref x1), (2, .int x2), (3, .int x3)] [] hp r :=
  m_wh_ok (P := fun s => m_Rn xs L 4 1201 4 [(0, .ref x0), (1, .ref x1), (2, .int s.1), (3, .int s.2.1)] [] s.2.2 r) (Q := K) (fun s t hb hK => SF6_ordersNotBegun_4b x0 x1 s (K := m_KK (fun s => m_Rn xs L 4 1201 4 [(0, .ref x0), (1, .ref x1), (2, .int s.1), (3, .int s.2.1)] [] s.2.2 r) K) k0 (fun _ q => q) hb hK) m_N _ _ h hK
theorem SF6_ordersNotBegun_0 {xs : Nat → Int32} {L : Nat} (x0 : Nat) (x1 : Nat) (hp : m_H) {r : m_O × m_H} {K : (Int32 × m_H) → Prop} (k0 : ∀ x, K x → r = (.inl (some (.int x.1)), x.2)) {t : Int32 × m_H} (h : F6_ordersNotBegun_0 x0 x1 hp = some t) (hK : K t) : m_Rn xs L 4 1201 0 [(0, .ref x0), (1, .ref x1)] [] hp r := by
  unfold F6_ordersNotBegun_0 at h
  refine g_in eF6_ordersNotBegun_0 mx1201 ?_
  refine g_ch [(3, .int 0), (2, .int 0), (0, .ref x0), (1, .ref x1)] [] (pc' := 4) rfl rfl rfl ?_
  refine g_end ?_
  exact r_lv (SF6_ordersNotBegun_4 x0 x1 0 0 hp (K := K) k0 h hK) rfl ⟨rfl, rfl, rfl, rfl, trivial⟩
theorem SF6_ordersNotBegun {xs : Nat → Int32} {L : Nat} {x0 : Nat} {x1 : Nat} {hp : m_H} {x : Int32 × m_H} (h : F6_ordersNotBegun x0 x1 hp = some x) : m_Rn xs L 4 1201 0 (lv_args 0 [.ref x0, .ref x1]) [] hp (.inl (some (.int x.1)), x.2) :=
  r_lv (SF6_ordersNotBegun_0 x0 x1 hp (K := fun y => y = x) (fun y e => by rw [e]) h rfl) rfl ⟨rfl, rfl, trivial⟩
-- F6_bestOrdersOf: LendHouse$Plans.bestOrdersOf(LLendHouse$House;)I
theorem eF6_bestOrdersOf_0 : m_Fe mi6_2 0 (m_ap [(.bipush 8, 2)] ((.newarray .int, 2) :: (m_ap [(.astore_n 1, 1), (.aload_n 0, 1), (.aload_n 1, 1)] ((.invokestatic 27, 3) :: (m_ap [(.aload_n 1, 1)] ((.arraylength, 1) :: ((.invokestatic 31, 3) :: (m_ap [(.istore_n 2, 1), (.iconst 0, 1), (.istore_n 3, 1), (.iconst 0, 1), (.istore 4, 2), (.iconst 0, 1), (.istore 5, 2), (.iconst 1, 1)] (m_ap [(.istore 6, 2)] ([])))))))))) := m_Fe_of nd1202 0 18 rfl
theorem eF6_bestOrdersOf_27 : m_Fe mi6_2 27 (m_ap [(.iload 6, 2), (.iconst 1, 1), (.iload_n 2, 1), (.ishl, 1)] ([(.if_icmp .ge 178, 3)])) := m_Fe_of nd1202 18 5 rfl
theorem eF6_bestOrdersOf_210 : m_Fe mi6_2 210 (m_ap [(.iload_n 3, 1)] ([(.ireturn, 1)])) := m_Fe_of nd1202 115 2 rfl
theorem eF6_bestOrdersOf_35 : m_Fe mi6_2 35 (m_ap [(.iconst 0, 1), (.istore 7, 2), (.iconst 0, 1), (.istore 8, 2), (.iconst 0, 1), (.istore 9, 2), (.iconst 0, 1), (.istore 10, 2)] ([])) := m_Fe_of nd1202 23 8 rfl
theorem eF6_bestOrdersOf_47 : m_Fe mi6_2 47 (m_ap [(.iload 10, 2), (.iload_n 2, 1)] ([(.if_icmp .ge 92, 3)])) := m_Fe_of nd1202 31 3 rfl
theorem eF6_bestOrdersOf_53 : m_Fe mi6_2 53 (m_ap [(.iload 10, 2), (.aload_n 1, 1)] ((.arraylength, 1) :: ([(.if_icmp .ge 85, 3)]))) := m_Fe_of nd1202 34 4 rfl
theorem eF6_bestOrdersOf_60 : m_Fe mi6_2 60 (m_ap [(.iload 6, 2), (.iload 10, 2)] ((.invokestatic 37, 3) :: ([(.ifCond .eq 69, 3)]))) := m_Fe_of nd1202 38 4 rfl
theorem eF6_bestOrdersOf_136 : m_Fe mi6_2 136 (m_ap [(.iinc 10 1, 3)] ([(.goto (-92), 3)])) := m_Fe_of nd1202 82 2 rfl
theorem eF6_bestOrdersOf_70 : m_Fe mi6_2 70 (m_ap [(.iload 7, 2), (.aload_n 0, 1), (.aload_n 1, 1), (.iload 10, 2)] ((.iaload, 1) :: (m_ap [(.iconst 1, 1)] ((.invokevirtual 41, 3) :: (m_ap [(.iadd, 1), (.istore 7, 2), (.iload 8, 2), (.aload_n 0, 1), (.aload_n 1, 1), (.iload 10, 2)] ((.iaload, 1) :: (m_ap [(.iconst 2, 1)] ((.invokevirtual 41, 3) :: (m_ap [(.iadd, 1), (.istore 8, 2), (.iload 9, 2), (.aload_n 0, 1)] ((.getfield 9, 3) :: (m_ap [(.aload_n 1, 1), (.iload 10, 2)] ((.iaload, 1) :: (m_ap [(.iconst 1, 1)] ((.invokevirtual 44, 3) :: (m_ap [(.aload_n 0, 1), (.aload_n 0, 1)] ((.getfield 9, 3) :: (m_ap [(.aload_n 1, 1), (.iload 10, 2)] ((.iaload, 1) :: (m_ap [(.iconst 0, 1)] ((.invokevirtual 44, 3) :: (m_ap [(.aload_n 0, 1)] ((.getfield 47, 3) :: ((.invokevirtual 50, 3) :: (m_ap [(.imul, 1), (.iadd, 1), (.istore 9, 2)] ([]))))))))))))))))))))))))) := m_Fe_of nd1202 42 40 rfl
theorem eF6_bestOrdersOf_142 : m_Fe mi6_2 142 (m_ap [(.iload 9, 2), (.iload 4, 2)] ([(.if_icmp .gt 17, 3)])) := m_Fe_of nd1202 84 3 rfl
theorem eF6_bestOrdersOf_149 : m_Fe mi6_2 149 (m_ap [(.iload 9, 2), (.iload 4, 2)] ([(.if_icmp .ne 14, 3)])) := m_Fe_of nd1202 87 3 rfl
theorem eF6_bestOrdersOf_156 : m_Fe mi6_2 156 (m_ap [(.iload 7, 2), (.iload 5, 2)] ([(.if_icmp .ge 7, 3)])) := m_Fe_of nd1202 90 3 rfl
theorem eF6_bestOrdersOf_163 : m_Fe mi6_2 163 (m_ap [(.iconst 1, 1)] ([(.goto 4, 3)])) := m_Fe_of nd1202 93 2 rfl
theorem eF6_bestOrdersOf_167 : m_Fe mi6_2 167 (m_ap [(.iconst 0, 1)] ([])) := m_Fe_of nd1202 95 1 rfl
theorem eF6_bestOrdersOf_168 : m_Fe mi6_2 168 (m_ap [(.istore 10, 2), (.iload 7, 2), (.aload_n 0, 1)] ((.getfield 53, 3) :: ([(.if_icmp .gt 28, 3)]))) := m_Fe_of nd1202 96 5 rfl
theorem eF6_bestOrdersOf_204 : m_Fe mi6_2 204 (m_ap [(.iinc 6 1, 3)] ([(.goto (-180), 3)])) := m_Fe_of nd1202 113 2 rfl
theorem eF6_bestOrdersOf_179 : m_Fe mi6_2 179 (m_ap [(.iload 8, 2), (.aload_n 0, 1)] ((.getfield 56, 3) :: ([(.if_icmp .gt 19, 3)]))) := m_Fe_of nd1202 101 4 rfl
theorem eF6_bestOrdersOf_188 : m_Fe mi6_2 188 (m_ap [(.iload 10, 2)] ([(.ifCond .eq 14, 3)])) := m_Fe_of nd1202 105 2 rfl
theorem eF6_bestOrdersOf_193 : m_Fe mi6_2 193 (m_ap [(.iload 6, 2), (.istore_n 3, 1), (.iload 9, 2), (.istore 4, 2), (.iload 7, 2), (.istore 5, 2)] ([])) := m_Fe_of nd1202 107 6 rfl
theorem SF6_bestOrdersOf_168 {xs : Nat → Int32} {L : Nat} (x0 : Nat) (x1 : Nat) (x2 : Int32) (x3 : Int32) (x4 : Int32) (x5 : Int32) (x6 : Int32) (x7 : Int32) (x8 : Int32) (x9 : Int32) (s0 : Int32) (hp : m_H) {r : m_O × m_H} {K : ((Int32 × Int32 × Int32 × Int32) ⊕ (Int32 × m_H)) → Prop} (k0 : ∀ x, K (.inr x) → r = (.inl (some (.int x.1)), x.2)) (k1 : ∀ s, K (.inl s) → m_Rn xs L 7 1202 27 [(0, .ref x0), (1, .ref x1), (2, .int x2), (3, .int s.1), (4, .int s.2.1), (5, .int s.2.2.1), (6, .int s.2.2.2)] [] hp r) {t : (Int32 × Int32 × Int32 × Int32) ⊕ (Int32 × m_H)} (h : F6_bestOrdersOf_168 x0 x1 x2 x3 x4 x5 x6 x7 x8 x9 s0 hp = some t) (hK : K t) : m_Rn xs L 7 1202 168 [(0, .ref x0), (1, .ref x1), (2, .int x2), (3, .int x3), (4, .int x4), (5, .int x5), (6, .int x6), (7, .int x7), (8, .int x8), (9, .int x9)] [.int s0] hp r := by
  unfold F6_bestOrdersOf_168 at h
  refine g_in eF6_bestOrdersOf_168 mx1202 ?_
  refine g_ch [(10, .int s0), (0, .ref x0), (1, .ref x1), (2, .int x2), (3, .int x3), (4, .int x4), (5, .int x5), (6, .int x6), (7, .int x7), (8, .int x8), (9, .int x9)] [.ref x0, .int x7] (pc' := 173) rfl rfl rfl ?_
  obtain ⟨v1, e2, h⟩ := m_bd h
  refine g_gi q6_f53 e2 ?_
  rcases m_ifd h with ⟨c3, h⟩ | ⟨c3, h⟩
  · refine g_if (t := 204) rfl (m_gtT c3) ?_
    refine g_in eF6_bestOrdersOf_204 mx1202 ?_
    refine g_ch [(6, .int (x6 + 1)), (10, .int s0), (0, .ref x0), (1, .ref x1), (2, .int x2), (3, .int x3), (4, .int x4), (5, .int x5), (7, .int x7), (8, .int x8), (9, .int x9)] [] (pc' := 207) rfl rfl rfl ?_
    refine g_goto (t := 27) rfl ?_
    cases h
    exact r_lv (k1 (x3, x4, x5, (x6 + 1)) hK) rfl ⟨rfl, rfl, rfl, rfl, rfl, rfl, rfl, trivial⟩
  · refine g_ifn (t := 204) rfl (m_gtF c3) ?_
    refine g_in eF6_bestOrdersOf_179 mx1202 ?_
    refine g_ch [(10, .int s0), (0, .ref x0), (1, .ref x1), (2, .int x2), (3, .int x3), (4, .int x4), (5, .int x5), (6, .int x6), (7, .int x7), (8, .int x8), (9, .int x9)] [.ref x0, .int x8] (pc' := 182) rfl rfl rfl ?_
    obtain ⟨v4, e5, h⟩ := m_bd h
    refine g_gi q6_f56 e5 ?_
    rcases m_ifd h with ⟨c6, h⟩ | ⟨c6, h⟩
    · refine g_if (t := 204) rfl (m_gtT c6) ?_
      refine g_in eF6_bestOrdersOf_204 mx1202 ?_
      refine g_ch [(6, .int (x6 + 1)), (10, .int s0), (0, .ref x0), (1, .ref x1), (2, .int x2), (3, .int x3), (4, .int x4), (5, .int x5), (7, .int x7), (8, .int x8), (9, .int x9)] [] (pc' := 207) rfl rfl rfl ?_
      refine g_goto (t := 27) rfl ?_
      cases h
      exact r_lv (k1 (x3, x4, x5, (x6 + 1)) hK) rfl ⟨rfl, rfl, rfl, rfl, rfl, rfl, rfl, trivial⟩
    · refine g_ifn (t := 204) rfl (m_gtF c6) ?_
      refine g_in eF6_bestOrdersOf_188 mx1202 ?_
      refine g_ch [(10, .int s0), (0, .ref x0), (1, .ref x1), (2, .int x2), (3, .int x3), (4, .int x4), (5, .int x5), (6, .int x6), (7, .int x7), (8, .int x8), (9, .int x9)] [.int s0] (pc' := 190) rfl rfl rfl ?_
      rcases m_ifd h with ⟨c7, h⟩ | ⟨c7, h⟩
      · refine g_ifc (t := 204) rfl (m_eqT c7) ?_
        refine g_in eF6_bestOrdersOf_204 mx1202 ?_
        refine g_ch [(6, .int (x6 + 1)), (10, .int s0), (0, .ref x0), (1, .ref x1), (2, .int x2), (3, .int x3), (4, .int x4), (5, .int x5), (7, .int x7), (8, .int x8), (9, .int x9)] [] (pc' := 207) rfl rfl rfl ?_
        refine g_goto (t := 27) rfl ?_
        cases h
        exact r_lv (k1 (x3, x4, x5, (x6 + 1)) hK) rfl ⟨rfl, rfl, rfl, rfl, rfl, rfl, rfl, trivial⟩
      · refine g_ifcn (t := 204) rfl (m_eqF c7) ?_
        refine g_in eF6_bestOrdersOf_193 mx1202 ?_
        refine g_ch [(5, .int x7), (4, .int x9), (3, .int x6), (10, .int s0), (0, .ref x0), (1, .ref x1), (2, .int x2), (6, .int x6), (7, .int x7), (8, .int x8), (9, .int x9)] [] (pc' := 204) rfl rfl rfl ?_
        refine g_end ?_
        refine g_in eF6_bestOrdersOf_204 mx1202 ?_
        refine g_ch [(6, .int (x6 + 1)), (5, .int x7), (4, .int x9), (3, .int x6), (10, .int s0), (0, .ref x0), (1, .ref x1), (2, .int x2), (7, .int x7), (8, .int x8), (9, .int x9)] [] (pc' := 207) rfl rfl rfl ?_
        refine g_goto (t := 27) rfl ?_
        cases h
        exact r_lv (k1 (x6, x9, x7, (x6 + 1)) hK) rfl ⟨rfl, rfl, rfl, rfl, rfl, rfl, rfl, trivial⟩
theorem SF6_bestOrdersOf_163 {xs : Nat → Int32} {L : Nat} (x0 : Nat) (x1 : Nat) (x2 : Int32) (x3 : Int32) (x4 : Int32) (x5 : Int32) (x6 : Int32) (x7 : Int32) (x8 : Int32) (x9 : Int32) (hp : m_H) {r : m_O × m_H} {K : ((Int32 × Int32 × Int32 × Int32) ⊕ (Int32 × m_H)) → Prop} (k0 : ∀ x, K (.inr x) → r = (.inl (some (.int x.1)), x.2)) (k1 : ∀ s, K (.inl s) → m_Rn xs L 7 1202 27 [(0, .ref x0), (1, .ref x1), (2, .int x2), (3, .int s.1), (4, .int s.2.1), (5, .int s.2.2.1), (6, .int s.2.2.2)] [] hp r) {t : (Int32 × Int32 × Int32 × Int32) ⊕ (Int32 × m_H)} (h : F6_bestOrdersOf_163 x0 x1 x2 x3 x4 x5 x6 x7 x8 x9 hp = some t) (hK : K t) : m_Rn xs L 7 1202 163 [(0, .ref x0), (1, .ref x1), (2, .int x2), (3, .int x3), (4, .int x4), (5, .int x5), (6, .int x6), (7, .int x7), (8, .int x8), (9, .int x9)] [] hp r := by
  unfold F6_bestOrdersOf_163 at h
  refine g_in eF6_bestOrdersOf_163 mx1202 ?_
  refine g_ch [(0, .ref x0), (1, .ref x1), (2, .int x2), (3, .int x3), (4, .int x4), (5, .int x5), (6, .int x6), (7, .int x7), (8, .int x8), (9, .int x9)] [.int 1] (pc' := 164) rfl rfl rfl ?_
  refine g_goto (t := 168) rfl ?_
  exact r_lv (SF6_bestOrdersOf_168 x0 x1 x2 x3 x4 x5 x6 x7 x8 x9 1 hp (K := K) k0 k1 h hK) rfl ⟨rfl, rfl, rfl, rfl, rfl, rfl, rfl, rfl, rfl, rfl, trivial⟩
theorem SF6_bestOrdersOf_167 {xs : Nat → Int32} {L : Nat} (x0 : Nat) (x1 : Nat) (x2 : Int32) (x3 : Int32) (x4 : Int32) (x5 : Int32) (x6 : Int32) (x7 : Int32) (x8 : Int32) (x9 : Int32) (hp : m_H) {r : m_O × m_H} {K : ((Int32 × Int32 × Int32 × Int32) ⊕ (Int32 × m_H)) → Prop} (k0 : ∀ x, K (.inr x) → r = (.inl (some (.int x.1)), x.2)) (k1 : ∀ s, K (.inl s) → m_Rn xs L 7 1202 27 [(0, .ref x0), (1, .ref x1), (2, .int x2), (3, .int s.1), (4, .int s.2.1), (5, .int s.2.2.1), (6, .int s.2.2.2)] [] hp r) {t : (Int32 × Int32 × Int32 × Int32) ⊕ (Int32 × m_H)} (h : F6_bestOrdersOf_167 x0 x1 x2 x3 x4 x5 x6 x7 x8 x9 hp = some t) (hK : K t) : m_Rn xs L 7 1202 167 [(0, .ref x0), (1, .ref x1), (2, .int x2), (3, .int x3), (4, .int x4), (5, .int x5), (6, .int x6), (7, .int x7), (8, .int x8), (9, .int x9)] [] hp r := by
  unfold F6_bestOrdersOf_167 at h
  refine g_in eF6_bestOrdersOf_167 mx1202 ?_
  refine g_ch [(0, .ref x0), (1, .ref x1), (2, .int x2), (3, .int x3), (4, .int x4), (5, .int x5), (6, .int x6), (7, .int x7), (8, .int x8), (9, .int x9)] [.int 0] (pc' := 168) rfl rfl rfl ?_
  refine g_end ?_
  exact r_lv (SF6_bestOrdersOf_168 x0 x1 x2 x3 x4 x5 x6 x7 x8 x9 0 hp (K := K) k0 k1 h hK) rfl ⟨rfl, rfl, rfl, rfl, rfl, rfl, rfl, rfl, rfl, rfl, trivial⟩
theorem SF6_bestOrdersOf_142 {xs : Nat → Int32} {L : Nat} (x0 : Nat) (x1 : Nat) (x2 : Int32) (x3 : Int32) (x4 : Int32) (x5 : Int32) (x6 : Int32) (x7 : Int32) (x8 : Int32) (x9 : Int32) (hp : m_H) {r : m_O × m_H} {K : ((Int32 × Int32 × Int32 × Int32) ⊕ (Int32 × m_H)) → Prop} (k0 : ∀ x, K (.inr x) → r = (.inl (some (.int x.1)), x.2)) (k1 : ∀ s, K (.inl s) → m_Rn xs L 7 1202 27 [(0, .ref x0), (1, .ref x1), (2, .int x2), (3, .int s.1), (4, .int s.2.1), (5, .int s.2.2.1), (6, .int s.2.2.2)] [] hp r) {t : (Int32 × Int32 × Int32 × Int32) ⊕ (Int32 × m_H)} (h : F6_bestOrdersOf_142 x0 x1 x2 x3 x4 x5 x6 x7 x8 x9 hp = some t) (hK : K t) : m_Rn xs L 7 1202 142 [(0, .ref x0), (1, .ref x1), (2, .int x2), (3, .int x3), (4, .int x4), (5, .int x5), (6, .int x6), (7, .int x7), (8, .int x8), (9, .int x9)] [] hp r := by
  unfold F6_bestOrdersOf_142 at h
  refine g_in eF6_bestOrdersOf_142 mx1202 ?_
  refine g_ch [(0, .ref x0), (1, .ref x1), (2, .int x2), (3, .int x3), (4, .int x4), (5, .int x5), (6, .int x6), (7, .int x7), (8, .int x8), (9, .int x9)] [.int x4, .int x9] (pc' := 146) rfl rfl rfl ?_
  rcases m_ifd h with ⟨c1, h⟩ | ⟨c1, h⟩
  · refine g_if (t := 163) rfl (m_gtT c1) ?_
    exact r_lv (SF6_bestOrdersOf_163 x0 x1 x2 x3 x4 x5 x6 x7 x8 x9 hp (K := K) k0 k1 h hK) rfl ⟨rfl, rfl, rfl, rfl, rfl, rfl, rfl, rfl, rfl, rfl, trivial⟩
  · refine g_ifn (t := 163) rfl (m_gtF c1) ?_
    refine g_in eF6_bestOrdersOf_149 mx1202 ?_
    refine g_ch [(0, .ref x0), (1, .ref x1), (2, .int x2), (3, .int x3), (4, .int x4), (5, .int x5), (6, .int x6), (7, .int x7), (8, .int x8), (9, .int x9)] [.int x4, .int x9] (pc' := 153) rfl rfl rfl ?_
    rcases m_ifd h with ⟨c2, h⟩ | ⟨c2, h⟩
    · refine g_ifn (t := 167) rfl (m_neF c2) ?_
      refine g_in eF6_bestOrdersOf_156 mx1202 ?_
      refine g_ch [(0, .ref x0), (1, .ref x1), (2, .int x2), (3, .int x3), (4, .int x4), (5, .int x5), (6, .int x6), (7, .int x7), (8, .int x8), (9, .int x9)] [.int x5, .int x7] (pc' := 160) rfl rfl rfl ?_
      rcases m_ifd h with ⟨c3, h⟩ | ⟨c3, h⟩
      · refine g_if (t := 167) rfl (m_geT c3) ?_
        exact r_lv (SF6_bestOrdersOf_167 x0 x1 x2 x3 x4 x5 x6 x7 x8 x9 hp (K := K) k0 k1 h hK) rfl ⟨rfl, rfl, rfl, rfl, rfl, rfl, rfl, rfl, rfl, rfl, trivial⟩
      · refine g_ifn (t := 167) rfl (m_geF c3) ?_
        exact r_lv (SF6_bestOrdersOf_163 x0 x1 x2 x3 x4 x5 x6 x7 x8 x9 hp (K := K) k0 k1 h hK) rfl ⟨rfl, rfl, rfl, rfl, rfl, rfl, rfl, rfl, rfl, rfl, trivial⟩
    · refine g_if (t := 167) rfl (m_neT c2) ?_
      exact r_lv (SF6_bestOrdersOf_167 x0 x1 x2 x3 x4 x5 x6 x7 x8 x9 hp (K := K) k0 k1 h hK) rfl ⟨rfl, rfl, rfl, rfl, rfl, rfl, rfl, rfl, rfl, rfl, trivial⟩
theorem SF6_bestOrdersOf_47b {xs : Nat → Int32} {L : Nat} (x0 : Nat) (x1 : Nat) (x2 : Int32) (x3 : Int32) (x4 : Int32) (x5 : Int32) (x6 : Int32) (hp : m_H) (s : Int32 × Int32 × Int32 × Int32) {r : m_O × m_H} {K : ((Int32 × Int32 × Int32 × Int32) ⊕ ((Int32 × Int32 × Int32 × Int32) ⊕ (Int32 × m_H))) → Prop} (k0 : ∀ x, K (.inr (.inr x)) → r = (.inl (some (.int x.1)), x.2)) (k1 : ∀ s, K (.inr (.inl s)) → m_Rn xs L 7 1202 27 [(0, .ref x0), (1, .ref x1), (2, .int x2), (3, .int s.1), (4, .int s.2.1), (5, .int s.2.2.1), (6, .int s.2.2.2)] [] hp r) (k2 : ∀ s, K (.inl s) → m_Rn xs L 7 1202 47 [(0, .ref x0), (1, .ref x1), (2, .int x2), (3, .int x3), (4, .int x4), (5, .int x5), (6, .int x6), (7, .int s.1), (8, .int s.2.1), (9, .int s.2.2.1), (10, .int s.2.2.2)] [] hp r) {t : (Int32 × Int32 × Int32 × Int32) ⊕ ((Int32 × Int32 × Int32 × Int32) ⊕ (Int32 × m_H))} (h : F6_bestOrdersOf_47b x0 x1 x2 x3 x4 x5 x6 hp s = some t) (hK : K t) : m_Rn xs L 7 1202 47 [(0, .ref x0), (1, .ref x1), (2, .int x2), (3, .int x3), (4, .int x4), (5, .int x5), (6, .int x6), (7, .int s.1), (8, .int s.2.1), (9, .int s.2.2.1), (10, .int s.2.2.2)] [] hp r := by
  unfold F6_bestOrdersOf_47b at h
  refine g_in eF6_bestOrdersOf_47 mx1202 ?_
  refine g_ch [(0, .ref x0), (1, .ref x1), (2, .int x2), (3, .int x3), (4, .int x4), (5, .int x5), (6, .int x6), (7, .int s.1), (8, .int s.2.1), (9, .int s.2.2.1), (10, .int s.2.2.2)] [.int x2, .int s.2.2.2] (pc' := 50) rfl rfl rfl ?_
  rcases m_ifd h with ⟨c1, h⟩ | ⟨c1, h⟩
  · refine g_if (t := 142) rfl (m_geT c1) ?_
    obtain ⟨t', h2, rfl⟩ := Option.map_eq_some_iff.mp h
    exact r_lv (SF6_bestOrdersOf_142 x0 x1 x2 x3 x4 x5 x6 s.1 s.2.1 s.2.2.1 hp (K := fun t => K (.inr t)) k0 k1 h2 hK) rfl ⟨rfl, rfl, rfl, rfl, rfl, rfl, rfl, rfl, rfl, rfl, trivial⟩
  · refine g_ifn (t := 142) rfl (m_geF c1) ?_
    refine g_in eF6_bestOrdersOf_53 mx1202 ?_
    refine g_ch [(0, .ref x0), (1, .ref x1), (2, .int x2), (3, .int x3), (4, .int x4), (5, .int x5), (6, .int x6), (7, .int s.1), (8, .int s.2.1), (9, .int s.2.2.1), (10, .int s.2.2.2)] [.ref x1, .int s.2.2.2] (pc' := 56) rfl rfl rfl ?_
    obtain ⟨v2, e3, h⟩ := m_bd h
    refine g_len e3 ?_
    rcases m_ifd h with ⟨c4, h⟩ | ⟨c4, h⟩
    · refine g_if (t := 142) rfl (m_geT c4) ?_
      obtain ⟨t', h2, rfl⟩ := Option.map_eq_some_iff.mp h
      exact r_lv (SF6_bestOrdersOf_142 x0 x1 x2 x3 x4 x5 x6 s.1 s.2.1 s.2.2.1 hp (K := fun t => K (.inr t)) k0 k1 h2 hK) rfl ⟨rfl, rfl, rfl, rfl, rfl, rfl, rfl, rfl, rfl, rfl, trivial⟩
    · refine g_ifn (t := 142) rfl (m_geF c4) ?_
      refine g_in eF6_bestOrdersOf_60 mx1202 ?_
      refine g_ch [(0, .ref x0), (1, .ref x1), (2, .int x2), (3, .int x3), (4, .int x4), (5, .int x5), (6, .int x6), (7, .int s.1), (8, .int s.2.1), (9, .int s.2.2.1), (10, .int s.2.2.2)] [.int s.2.2.2, .int x6] (pc' := 64) rfl rfl rfl ?_
      obtain ⟨v6, e5, h⟩ := m_bd h
      refine g_call (v := some (.int v6)) (h := hp) (st' := [.int v6]) (D1 := 0) (as := [.int x6, .int s.2.2.2]) (Or.inl rfl) q6_m37 (m_cs (as := [.int s.2.2.2, .int x6]) (rest := []) q6_m37 jv1200 rfl rfl rfl rfl rfl) (by decide) (SF6_isIn e5) rfl ?_
      rcases m_ifd h with ⟨c7, h⟩ | ⟨c7, h⟩
      · refine g_ifc (t := 136) rfl (m_eqT c7) ?_
        refine g_in eF6_bestOrdersOf_136 mx1202 ?_
        refine g_ch [(10, .int (s.2.2.2 + 1)), (0, .ref x0), (1, .ref x1), (2, .int x2), (3, .int x3), (4, .int x4), (5, .int x5), (6, .int x6), (7, .int s.1), (8, .int s.2.1), (9, .int s.2.2.1)] [] (pc' := 139) rfl rfl rfl ?_
        refine g_goto (t := 47) rfl ?_
        cases h
        exact r_lv (k2 (s.1, s.2.1, s.2.2.1, (s.2.2.2 + 1)) hK) rfl ⟨rfl, rfl, rfl, rfl, rfl, rfl, rfl, rfl, rfl, rfl, rfl, trivial⟩
      · refine g_ifcn (t := 136) rfl (m_eqF c7) ?_
        refine g_in eF6_bestOrdersOf_70 mx1202 ?_
        refine g_ch [(0, .ref x0), (1, .ref x1), (2, .int x2), (3, .int x3), (4, .int x4), (5, .int x5), (6, .int x6), (7, .int s.1), (8, .int s.2.1), (9, .int s.2.2.1), (10, .int s.2.2.2)] [.int s.2.2.2, .ref x1, .ref x0, .int s.1] (pc' := 76) rfl rfl rfl ?_
        obtain ⟨v8, e9, h⟩ := m_bd h
        refine g_ia e9 ?_
        refine g_ch [(0, .ref x0), (1, .ref x1), (2, .int x2), (3, .int x3), (4, .int x4), (5, .int x5), (6, .int x6), (7, .int s.1), (8, .int s.2.1), (9, .int s.2.2.1), (10, .int s.2.2.2)] [.int 1, .int v8, .ref x0, .int s.1] (pc' := 78) rfl rfl rfl ?_
        obtain ⟨v11, e10, h⟩ := m_bd h
        refine g_call (v := some (.int v11)) (h := hp) (st' := [.int v11, .int s.1]) (D1 := 2) (as := [.ref x0, .int v8, .int 1]) (Or.inr (Or.inl rfl)) q6_m41 (m_cv (as := [.int 1, .int v8]) (rest := [.int s.1]) (Or.inl rfl) q6_m41 jv619 (OF3_needOfAll e10) rfl rfl rfl rfl) (by decide) (SF3_needOfAll e10) rfl ?_
        refine g_ch [(7, .int (s.1 + v11)), (0, .ref x0), (1, .ref x1), (2, .int x2), (3, .int x3), (4, .int x4), (5, .int x5), (6, .int x6), (8, .int s.2.1), (9, .int s.2.2.1), (10, .int s.2.2.2)] [.int s.2.2.2, .ref x1, .ref x0, .int s.2.1] (pc' := 90) rfl rfl rfl ?_
        obtain ⟨v12, e13, h⟩ := m_bd h
        refine g_ia e13 ?_
        refine g_ch [(7, .int (s.1 + v11)), (0, .ref x0), (1, .ref x1), (2, .int x2), (3, .int x3), (4, .int x4), (5, .int x5), (6, .int x6), (8, .int s.2.1), (9, .int s.2.2.1), (10, .int s.2.2.2)] [.int 2, .int v12, .ref x0, .int s.2.1] (pc' := 92) rfl rfl rfl ?_
        obtain ⟨v15, e14, h⟩ := m_bd h
        refine g_call (v := some (.int v15)) (h := hp) (st' := [.int v15, .int s.2.1]) (D1 := 2) (as := [.ref x0, .int v12, .int 2]) (Or.inr (Or.inl rfl)) q6_m41 (m_cv (as := [.int 2, .int v12]) (rest := [.int s.2.1]) (Or.inl rfl) q6_m41 jv619 (OF3_needOfAll e14) rfl rfl rfl rfl) (by decide) (SF3_needOfAll e14) rfl ?_
        refine g_ch [(8, .int (s.2.1 + v15)), (7, .int (s.1 + v11)), (0, .ref x0), (1, .ref x1), (2, .int x2), (3, .int x3), (4, .int x4), (5, .int x5), (6, .int x6), (9, .int s.2.2.1), (10, .int s.2.2.2)] [.ref x0, .int s.2.2.1] (pc' := 101) rfl rfl rfl ?_
        obtain ⟨v16, e17, h⟩ := m_bd h
        refine g_gr q6_f9 e17 ?_
        refine g_ch [(8, .int (s.2.1 + v15)), (7, .int (s.1 + v11)), (0, .ref x0), (1, .ref x1), (2, .int x2), (3, .int x3), (4, .int x4), (5, .int x5), (6, .int x6), (9, .int s.2.2.1), (10, .int s.2.2.2)] [.int s.2.2.2, .ref x1, .ref v16, .int s.2.2.1] (pc' := 107) rfl rfl rfl ?_
        obtain ⟨v18, e19, h⟩ := m_bd h
        refine g_ia e19 ?_
        refine g_ch [(8, .int (s.2.1 + v15)), (7, .int (s.1 + v11)), (0, .ref x0), (1, .ref x1), (2, .int x2), (3, .int x3), (4, .int x4), (5, .int x5), (6, .int x6), (9, .int s.2.2.1), (10, .int s.2.2.2)] [.int 1, .int v18, .ref v16, .int s.2.2.1] (pc' := 109) rfl rfl rfl ?_
        obtain ⟨v21, e20, h⟩ := m_bd h
        refine g_call (v := some (.int v21)) (h := hp) (st' := [.int v21, .int s.2.2.1]) (D1 := 1) (as := [.ref v16, .int v18, .int 1]) (Or.inr (Or.inl rfl)) q6_m44 (m_cv (as := [.int 1, .int v18]) (rest := [.int s.2.2.1]) (Or.inl rfl) q6_m44 jv1604 (OF8_get e20) rfl rfl rfl rfl) (by decide) (SF8_get e20) rfl ?_
        refine g_ch [(8, .int (s.2.1 + v15)), (7, .int (s.1 + v11)), (0, .ref x0), (1, .ref x1), (2, .int x2), (3, .int x3), (4, .int x4), (5, .int x5), (6, .int x6), (9, .int s.2.2.1), (10, .int s.2.2.2)] [.ref x0, .ref x0, .int v21, .int s.2.2.1] (pc' := 114) rfl rfl rfl ?_
        obtain ⟨v22, e23, h⟩ := m_bd h
        refine g_gr q6_f9 e23 ?_
        refine g_ch [(8, .int (s.2.1 + v15)), (7, .int (s.1 + v11)), (0, .ref x0), (1, .ref x1), (2, .int x2), (3, .int x3), (4, .int x4), (5, .int x5), (6, .int x6), (9, .int s.2.2.1), (10, .int s.2.2.2)] [.int s.2.2.2, .ref x1, .ref v22, .ref x0, .int v21, .int s.2.2.1] (pc' := 120) rfl rfl rfl ?_
        obtain ⟨v24, e25, h⟩ := m_bd h
        refine g_ia e25 ?_
        refine g_ch [(8, .int (s.2.1 + v15)), (7, .int (s.1 + v11)), (0, .ref x0), (1, .ref x1), (2, .int x2), (3, .int x3), (4, .int x4), (5, .int x5), (6, .int x6), (9, .int s.2.2.1), (10, .int s.2.2.2)] [.int 0, .int v24, .ref v22, .ref x0, .int v21, .int s.2.2.1] (pc' := 122) rfl rfl rfl ?_
        obtain ⟨v27, e26, h⟩ := m_bd h
        refine g_call (v := some (.int v27)) (h := hp) (st' := [.int v27, .ref x0, .int v21, .int s.2.2.1]) (D1 := 1) (as := [.ref v22, .int v24, .int 0]) (Or.inr (Or.inl rfl)) q6_m44 (m_cv (as := [.int 0, .int v24]) (rest := [.ref x0, .int v21, .int s.2.2.1]) (Or.inl rfl) q6_m44 jv1604 (OF8_get e26) rfl rfl rfl rfl) (by decide) (SF8_get e26) rfl ?_
        refine g_ch [(8, .int (s.2.1 + v15)), (7, .int (s.1 + v11)), (0, .ref x0), (1, .ref x1), (2, .int x2), (3, .int x3), (4, .int x4), (5, .int x5), (6, .int x6), (9, .int s.2.2.1), (10, .int s.2.2.2)] [.ref x0, .int v27, .ref x0, .int v21, .int s.2.2.1] (pc' := 126) rfl rfl rfl ?_
        obtain ⟨v28, e29, h⟩ := m_bd h
        refine g_gi q6_f47 e29 ?_
        obtain ⟨v31, e30, h⟩ := m_bd h
        refine g_call (v := some (.int v31)) (h := hp) (st' := [.int v31, .int v21, .int s.2.2.1]) (D1 := 3) (as := [.ref x0, .int v27, .int v28]) (Or.inr (Or.inl rfl)) q6_m50 (m_cv (as := [.int v28, .int v27]) (rest := [.int v21, .int s.2.2.1]) (Or.inl rfl) q6_m50 jv606 (OF3_priceIn e30) rfl rfl rfl rfl) (by decide) (SF3_priceIn e30) rfl ?_
        refine g_ch [(9, .int (s.2.2.1 + (v21 * v31))), (8, .int (s.2.1 + v15)), (7, .int (s.1 + v11)), (0, .ref x0), (1, .ref x1), (2, .int x2), (3, .int x3), (4, .int x4), (5, .int x5), (6, .int x6), (10, .int s.2.2.2)] [] (pc' := 136) rfl rfl rfl ?_
        refine g_end ?_
        refine g_in eF6_bestOrdersOf_136 mx1202 ?_
        refine g_ch [(10, .int (s.2.2.2 + 1)), (9, .int (s.2.2.1 + (v21 * v31))), (8, .int (s.2.1 + v15)), (7, .int (s.1 + v11)), (0, .ref x0), (1, .ref x1), (2, .int x2), (3, .int x3), (4, .int x4), (5, .int x5), (6, .int x6)] [] (pc' := 139) rfl rfl rfl ?_
        refine g_goto (t := 47) rfl ?_
        cases h
        exact r_lv (k2 ((s.1 + v11), (s.2.1 + v15), (s.2.2.1 + (v21 * v31)), (s.2.2.2 + 1)) hK) rfl ⟨rfl, rfl, rfl, rfl, rfl, rfl, rfl, rfl, rfl, rfl, rfl, trivial⟩
theorem SF6_bestOrdersOf_47 {xs : Nat → Int32} {L : Nat} (x0 : Nat) (x1 : Nat) (x2 : Int32) (x3 : Int32) (x4 : Int32) (x5 : Int32) (x6 : Int32) (x7 : Int32) (x8 : Int32) (x9 : Int32) (x10 : Int32) (hp : m_H) {r : m_O × m_H} {K : (Int32 × Int32 × Int32 × Int32) ⊕ (Int32 × m_H) → Prop} (k0 : ∀ x, K (.inr x) → r = (.inl (some (.int x.1)), x.2)) (k1 : ∀ s, K (.inl s) → m_Rn xs L 7 1202 27 [(0, .ref x0), (1, .ref x1), (2, .int x2), (3, .int s.1), (4, .int s.2.1), (5, .int s.2.2.1), (6, .int s.2.2.2)] [] hp r) {t : (Int32 × Int32 × Int32 × Int32) ⊕ (Int32 × m_H)} (h : F6_bestOrdersOf_47 x0 x1 x2 x3 x4 x5 x6 x7 x8 x9 x10 hp = some t) (hK : K t) : m_Rn xs L 7 1202 47 [(0, .ref x0), (1, .ref x1), (2, .int x2), (3, .int x3), (4, .int x4), (5, .int x5), (6, .int x6), (7, .int x7), (8, .int x8), (9, .int x9), (10, .int x10)] [] hp r :=
  m_wh_ok (P := fun s => m_Rn xs L 7 1202 47 [(0, .ref x0), (1, .ref x1), (2, .int x2), (3, .int x3), (4, .int x4), (5, .int x5), (6, .int x6), (7, .int s.1), (8, .int s.2.1), (9, .int s.2.2.1), (10, .int s.2.2.2)] [] hp r) (Q := K) (fun s t hb hK => SF6_bestOrdersOf_47b x0 x1 x2 x3 x4 x5 x6 hp s (K := m_KK (fun s => m_Rn xs L 7 1202 47 [(0, .ref x0), (1, .ref x1), (2, .int x2), (3, .int x3), (4, .int x4), (5, .int x5), (6, .int x6), (7, .int s.1), (8, .int s.2.1), (9, .int s.2.2.1), (10, .int s.2.2.2)] [] hp r) K) k0 k1 (fun _ q => q) hb hK) m_N _ _ h hK
theorem SF6_bestOrdersOf_27b {xs : Nat → Int32} {L : Nat} (x0 : Nat) (x1 : Nat) (x2 : Int32) (hp : m_H) (s : Int32 × Int32 × Int32 × Int32) {r : m_O × m_H} {K : ((Int32 × Int32 × Int32 × Int32) ⊕ (Int32 × m_H)) → Prop} (k0 : ∀ x, K (.inr x) → r = (.inl (some (.int x.1)), x.2)) (k1 : ∀ s, K (.inl s) → m_Rn xs L 7 1202 27 [(0, .ref x0), (1, .ref x1), (2, .int x2), (3, .int s.1), (4, .int s.2.1), (5, .int s.2.2.1), (6, .int s.2.2.2)] [] hp r) {t : (Int32 × Int32 × Int32 × Int32) ⊕ (Int32 × m_H)} (h : F6_bestOrdersOf_27b x0 x1 x2 hp s = some t) (hK : K t) : m_Rn xs L 7 1202 27 [(0, .ref x0), (1, .ref x1), (2, .int x2), (3, .int s.1), (4, .int s.2.1), (5, .int s.2.2.1), (6, .int s.2.2.2)] [] hp r := by
  unfold F6_bestOrdersOf_27b at h
  refine g_in eF6_bestOrdersOf_27 mx1202 ?_
  refine g_ch [(0, .ref x0), (1, .ref x1), (2, .int x2), (3, .int s.1), (4, .int s.2.1), (5, .int s.2.2.1), (6, .int s.2.2.2)] [.int (1 <<< (x2 &&& 31)), .int s.2.2.2] (pc' := 32) rfl rfl rfl ?_
  rcases m_ifd h with ⟨c1, h⟩ | ⟨c1, h⟩
  · refine g_if (t := 210) rfl (m_geT c1) ?_
    refine g_in eF6_bestOrdersOf_210 mx1202 ?_
    refine g_ch [(0, .ref x0), (1, .ref x1), (2, .int x2), (3, .int s.1), (4, .int s.2.1), (5, .int s.2.2.1), (6, .int s.2.2.2)] [.int s.1] (pc' := 211) rfl rfl rfl ?_
    cases h
    rw [k0 _ hK]
    exact g_iret rfl rfl
  · refine g_ifn (t := 210) rfl (m_geF c1) ?_
    refine g_in eF6_bestOrdersOf_35 mx1202 ?_
    refine g_ch [(10, .int 0), (9, .int 0), (8, .int 0), (7, .int 0), (0, .ref x0), (1, .ref x1), (2, .int x2), (3, .int s.1), (4, .int s.2.1), (5, .int s.2.2.1), (6, .int s.2.2.2)] [] (pc' := 47) rfl rfl rfl ?_
    refine g_end ?_
    exact r_lv (SF6_bestOrdersOf_47 x0 x1 x2 s.1 s.2.1 s.2.2.1 s.2.2.2 0 0 0 0 hp (K := K) k0 k1 h hK) rfl ⟨rfl, rfl, rfl, rfl, rfl, rfl, rfl, rfl, rfl, rfl, rfl, trivial⟩
theorem SF6_bestOrdersOf_27 {xs : Nat → Int32} {L : Nat} (x0 : Nat) (x1 : Nat) (x2 : Int32) (x3 : Int32) (x4 : Int32) (x5 : Int32) (x6 : Int32) (hp : m_H) {r : m_O × m_H} {K : Int32 × m_H → Prop} (k0 : ∀ x, K x → r = (.inl (some (.int x.1)), x.2)) {t : Int32 × m_H} (h : F6_bestOrdersOf_27 x0 x1 x2 x3 x4 x5 x6 hp = some t) (hK : K t) : m_Rn xs L 7 1202 27 [(0, .ref x0), (1, .ref x1), (2, .int x2), (3, .int x3), (4, .int x4), (5, .int x5), (6, .int x6)] [] hp r :=
  m_wh_ok (P := fun s => m_Rn xs L 7 1202 27 [(0, .ref x0), (1, .ref x1), (2, .int x2), (3, .int s.1), (4, .int s.2.1), (5, .int s.2.2.1), (6, .int s.2.2.2)] [] hp r) (Q := K) (fun s t hb hK => SF6_bestOrdersOf_27b x0 x1 x2 hp s (K := m_KK (fun s => m_Rn xs L 7 1202 27 [(0, .ref x0), (1, .ref x1), (2, .int x2), (3, .int s.1), (4, .int s.2.1), (5, .int s.2.2.1), (6, .int s.2.2.2)] [] hp r) K) k0 (fun _ q => q) hb hK) m_N _ _ h hK
theorem SF6_bestOrdersOf_0 {xs : Nat → Int32} {L : Nat} (x0 : Nat) (hp : m_H) {r : m_O × m_H} {K : (Int32 × m_H) → Prop} (k0 : ∀ x, K x → r = (.inl (some (.int x.1)), x.2)) {t : Int32 × m_H} (h : F6_bestOrdersOf_0 x0 hp = some t) (hK : K t) : m_Rn xs L 7 1202 0 [(0, .ref x0)] [] hp r := by
  unfold F6_bestOrdersOf_0 at h
  refine g_in eF6_bestOrdersOf_0 mx1202 ?_
  refine g_ch [(0, .ref x0)] [.int 8] (pc' := 2) rfl rfl rfl ?_
  obtain ⟨h1, e2, h⟩ := m_bd h
  refine g_na rfl e2 ?_
  refine g_ch [(1, .ref (m_id hp)), (0, .ref x0)] [.ref (m_id hp), .ref x0] (pc' := 7) rfl rfl rfl ?_
  obtain ⟨z4, e3, h⟩ := m_bd h
  refine g_call (v := some (.int z4.1)) (h := z4.2) (st' := [.int z4.1]) (D1 := 4) (as := [.ref x0, .ref (m_id hp)]) (Or.inl rfl) q6_m27 (m_cs (as := [.ref (m_id hp), .ref x0]) (rest := []) q6_m27 jv1201 rfl rfl rfl rfl rfl) (by decide) (SF6_ordersNotBegun e3) rfl ?_
  refine g_ch [(1, .ref (m_id hp)), (0, .ref x0)] [.ref (m_id hp), .int z4.1] (pc' := 11) rfl rfl rfl ?_
  obtain ⟨v5, e6, h⟩ := m_bd h
  refine g_len e6 ?_
  refine g_nat (Or.inl rfl) q6_m31 rfl (z := ([.int (m_min z4.1 v5)], z4.2)) rfl (by decide) ?_
  refine g_ch [(5, .int 0), (4, .int 0), (3, .int 0), (2, .int (m_min z4.1 v5)), (1, .ref (m_id hp)), (0, .ref x0)] [.int 1] (pc' := 25) rfl rfl rfl ?_
  refine g_ch [(6, .int 1), (5, .int 0), (4, .int 0), (3, .int 0), (2, .int (m_min z4.1 v5)), (1, .ref (m_id hp)), (0, .ref x0)] [] (pc' := 27) rfl rfl rfl ?_
  refine g_end ?_
  exact r_lv (SF6_bestOrdersOf_27 x0 (m_id hp) (m_min z4.1 v5) 0 0 0 1 z4.2 (K := K) k0 h hK) rfl ⟨rfl, rfl, rfl, rfl, rfl, rfl, rfl, trivial⟩
theorem SF6_bestOrdersOf {xs : Nat → Int32} {L : Nat} {x0 : Nat} {hp : m_H} {x : Int32 × m_H} (h : F6_bestOrdersOf x0 hp = some x) : m_Rn xs L 7 1202 0 (lv_args 0 [.ref x0]) [] hp (.inl (some (.int x.1)), x.2) :=
  r_lv (SF6_bestOrdersOf_0 x0 hp (K := fun y => y = x) (fun y e => by rw [e]) h rfl) rfl ⟨rfl, trivial⟩
-- F6_sumIn: LendHouse$Plans.sumIn(LLendHouse$Table;II)I
theorem eF6_sumIn_0 : m_Fe mi6_3 0 (m_ap [(.iconst 0, 1), (.istore_n 3, 1), (.iconst 0, 1), (.istore 4, 2)] ([])) := m_Fe_of nd1203 0 4 rfl
theorem eF6_sumIn_5 : m_Fe mi6_3 5 (m_ap [(.iload 4, 2), (.aload_n 0, 1)] ((.getfield 15, 3) :: ([(.if_icmp .ge 28, 3)]))) := m_Fe_of nd1203 4 4 rfl
theorem eF6_sumIn_39 : m_Fe mi6_3 39 (m_ap [(.iload_n 3, 1)] ([(.ireturn, 1)])) := m_Fe_of nd1203 21 2 rfl
theorem eF6_sumIn_14 : m_Fe mi6_3 14 (m_ap [(.iload_n 2, 1), (.iload 4, 2)] ((.invokestatic 37, 3) :: ([(.ifCond .eq 13, 3)]))) := m_Fe_of nd1203 8 4 rfl
theorem eF6_sumIn_33 : m_Fe mi6_3 33 (m_ap [(.iinc 4 1, 3)] ([(.goto (-31), 3)])) := m_Fe_of nd1203 19 2 rfl
theorem eF6_sumIn_23 : m_Fe mi6_3 23 (m_ap [(.iload_n 3, 1), (.aload_n 0, 1), (.iload 4, 2), (.iload_n 1, 1)] ((.invokevirtual 44, 3) :: (m_ap [(.iadd, 1), (.istore_n 3, 1)] ([])))) := m_Fe_of nd1203 12 7 rfl
theorem SF6_sumIn_5b {xs : Nat → Int32} {L : Nat} (x0 : Nat) (x1 : Int32) (x2 : Int32) (hp : m_H) (s : Int32 × Int32) {r : m_O × m_H} {K : ((Int32 × Int32) ⊕ Int32) → Prop} (k0 : ∀ x, K (.inr x) → r = (.inl (some (.int x)), hp)) (k1 : ∀ s, K (.inl s) → m_Rn xs L 2 1203 5 [(0, .ref x0), (1, .int x1), (2, .int x2), (3, .int s.1), (4, .int s.2)] [] hp r) {t : (Int32 × Int32) ⊕ Int32} (h : F6_sumIn_5b x0 x1 x2 hp s = some t) (hK : K t) : m_Rn xs L 2 1203 5 [(0, .ref x0), (1, .int x1), (2, .int x2), (3, .int s.1), (4, .int s.2)] [] hp r := by
  unfold F6_sumIn_5b at h
  refine g_in eF6_sumIn_5 mx1203 ?_
  refine g_ch [(0, .ref x0), (1, .int x1), (2, .int x2), (3, .int s.1), (4, .int s.2)] [.ref x0, .int s.2] (pc' := 8) rfl rfl rfl ?_
  obtain ⟨v1, e2, h⟩ := m_bd h
  refine g_gi q6_f15 e2 ?_
  rcases m_ifd h with ⟨c3, h⟩ | ⟨c3, h⟩
  · refine g_if (t := 39) rfl (m_geT c3) ?_
    refine g_in eF6_sumIn_39 mx1203 ?_
    refine g_ch [(0, .ref x0), (1, .int x1), (2, .int x2), (3, .int s.1), (4, .int s.2)] [.int s.1] (pc' := 40) rfl rfl rfl ?_
    cases h
    rw [k0 _ hK]
    exact g_iret rfl rfl
  · refine g_ifn (t := 39) rfl (m_geF c3) ?_
    refine g_in eF6_sumIn_14 mx1203 ?_
    refine g_ch [(0, .ref x0), (1, .int x1), (2, .int x2), (3, .int s.1), (4, .int s.2)] [.int s.2, .int x2] (pc' := 17) rfl rfl rfl ?_
    obtain ⟨v5, e4, h⟩ := m_bd h
    refine g_call (v := some (.int v5)) (h := hp) (st' := [.int v5]) (D1 := 0) (as := [.int x2, .int s.2]) (Or.inl rfl) q6_m37 (m_cs (as := [.int s.2, .int x2]) (rest := []) q6_m37 jv1200 rfl rfl rfl rfl rfl) (by decide) (SF6_isIn e4) rfl ?_
    rcases m_ifd h with ⟨c6, h⟩ | ⟨c6, h⟩
    · refine g_ifc (t := 33) rfl (m_eqT c6) ?_
      refine g_in eF6_sumIn_33 mx1203 ?_
      refine g_ch [(4, .int (s.2 + 1)), (0, .ref x0), (1, .int x1), (2, .int x2), (3, .int s.1)] [] (pc' := 36) rfl rfl rfl ?_
      refine g_goto (t := 5) rfl ?_
      cases h
      exact r_lv (k1 (s.1, (s.2 + 1)) hK) rfl ⟨rfl, rfl, rfl, rfl, rfl, trivial⟩
    · refine g_ifcn (t := 33) rfl (m_eqF c6) ?_
      refine g_in eF6_sumIn_23 mx1203 ?_
      refine g_ch [(0, .ref x0), (1, .int x1), (2, .int x2), (3, .int s.1), (4, .int s.2)] [.int x1, .int s.2, .ref x0, .int s.1] (pc' := 28) rfl rfl rfl ?_
      obtain ⟨v8, e7, h⟩ := m_bd h
      refine g_call (v := some (.int v8)) (h := hp) (st' := [.int v8, .int s.1]) (D1 := 1) (as := [.ref x0, .int s.2, .int x1]) (Or.inr (Or.inl rfl)) q6_m44 (m_cv (as := [.int x1, .int s.2]) (rest := [.int s.1]) (Or.inl rfl) q6_m44 jv1604 (OF8_get e7) rfl rfl rfl rfl) (by decide) (SF8_get e7) rfl ?_
      refine g_ch [(3, .int (s.1 + v8)), (0, .ref x0), (1, .int x1), (2, .int x2), (4, .int s.2)] [] (pc' := 33) rfl rfl rfl ?_
      refine g_end ?_
      refine g_in eF6_sumIn_33 mx1203 ?_
      refine g_ch [(4, .int (s.2 + 1)), (3, .int (s.1 + v8)), (0, .ref x0), (1, .int x1), (2, .int x2)] [] (pc' := 36) rfl rfl rfl ?_
      refine g_goto (t := 5) rfl ?_
      cases h
      exact r_lv (k1 ((s.1 + v8), (s.2 + 1)) hK) rfl ⟨rfl, rfl, rfl, rfl, rfl, trivial⟩
theorem SF6_sumIn_5 {xs : Nat → Int32} {L : Nat} (x0 : Nat) (x1 : Int32) (x2 : Int32) (x3 : Int32) (x4 : Int32) (hp : m_H) {r : m_O × m_H} {K : Int32 → Prop} (k0 : ∀ x, K x → r = (.inl (some (.int x)), hp)) {t : Int32} (h : F6_sumIn_5 x0 x1 x2 x3 x4 hp = some t) (hK : K t) : m_Rn xs L 2 1203 5 [(0, .ref x0), (1, .int x1), (2, .int x2), (3, .int x3), (4, .int x4)] [] hp r :=
  m_wh_ok (P := fun s => m_Rn xs L 2 1203 5 [(0, .ref x0), (1, .int x1), (2, .int x2), (3, .int s.1), (4, .int s.2)] [] hp r) (Q := K) (fun s t hb hK => SF6_sumIn_5b x0 x1 x2 hp s (K := m_KK (fun s => m_Rn xs L 2 1203 5 [(0, .ref x0), (1, .int x1), (2, .int x2), (3, .int s.1), (4, .int s.2)] [] hp r) K) k0 (fun _ q => q) hb hK) m_N _ _ h hK
theorem SF6_sumIn_0 {xs : Nat → Int32} {L : Nat} (x0 : Nat) (x1 : Int32) (x2 : Int32) (hp : m_H) {r : m_O × m_H} {K : Int32 → Prop} (k0 : ∀ x, K x → r = (.inl (some (.int x)), hp)) {t : Int32} (h : F6_sumIn_0 x0 x1 x2 hp = some t) (hK : K t) : m_Rn xs L 2 1203 0 [(0, .ref x0), (1, .int x1), (2, .int x2)] [] hp r := by
  unfold F6_sumIn_0 at h
  refine g_in eF6_sumIn_0 mx1203 ?_
  refine g_ch [(4, .int 0), (3, .int 0), (0, .ref x0), (1, .int x1), (2, .int x2)] [] (pc' := 5) rfl rfl rfl ?_
  refine g_end ?_
  exact r_lv (SF6_sumIn_5 x0 x1 x2 0 0 hp (K := K) k0 h hK) rfl ⟨rfl, rfl, rfl, rfl, rfl, trivial⟩
theorem SF6_sumIn {xs : Nat → Int32} {L : Nat} {x0 : Nat} {x1 : Int32} {x2 : Int32} {hp : m_H} {x : Int32} (h : F6_sumIn x0 x1 x2 hp = some x) : m_Rn xs L 2 1203 0 (lv_args 0 [.ref x0, .int x1, .int x2]) [] hp (.inl (some (.int x)), hp) :=
  r_lv (SF6_sumIn_0 x0 x1 x2 hp (K := fun y => y = x) (fun y e => by rw [e]) h rfl) rfl ⟨rfl, rfl, rfl, trivial⟩
-- F6_pagesSigned: LendHouse$Plans.pagesSigned(LLendHouse$Table;II)I
theorem eF6_pagesSigned_0 : m_Fe mi6_4 0 (m_ap [(.iconst (-1), 1), (.istore_n 3, 1), (.iconst 0, 1), (.istore 4, 2), (.iconst 0, 1), (.istore 5, 2), (.iconst 0, 1), (.istore 6, 2)] ([])) := m_Fe_of nd1204 0 8 rfl
theorem eF6_pagesSigned_11 : m_Fe mi6_4 11 (m_ap [(.iload 6, 2), (.iconst 1, 1), (.aload_n 0, 1)] ((.getfield 15, 3) :: (m_ap [(.ishl, 1)] ([(.if_icmp .ge 88, 3)])))) := m_Fe_of nd1204 8 6 rfl
theorem eF6_pagesSigned_107 : m_Fe mi6_4 107 (m_ap [(.iload_n 3, 1)] ([(.ireturn, 1)])) := m_Fe_of nd1204 56 2 rfl
theorem eF6_pagesSigned_22 : m_Fe mi6_4 22 (m_ap [(.aload_n 0, 1), (.iconst 0, 1), (.iload 6, 2)] ((.invokestatic 59, 3) :: (m_ap [(.istore 7, 2), (.aload_n 0, 1), (.iconst 1, 1), (.iload 6, 2)] ((.invokestatic 59, 3) :: (m_ap [(.istore 8, 2), (.iload_n 3, 1), (.iconst (-1), 1)] ([(.if_icmp .eq 24, 3)])))))) := m_Fe_of nd1204 14 13 rfl
theorem eF6_pagesSigned_45 : m_Fe mi6_4 45 (m_ap [(.iload 7, 2), (.iload 4, 2)] ([(.if_icmp .gt 17, 3)])) := m_Fe_of nd1204 27 3 rfl
theorem eF6_pagesSigned_52 : m_Fe mi6_4 52 (m_ap [(.iload 7, 2), (.iload 4, 2)] ([(.if_icmp .ne 14, 3)])) := m_Fe_of nd1204 30 3 rfl
theorem eF6_pagesSigned_59 : m_Fe mi6_4 59 (m_ap [(.iload 8, 2), (.iload 5, 2)] ([(.if_icmp .le 7, 3)])) := m_Fe_of nd1204 33 3 rfl
theorem eF6_pagesSigned_66 : m_Fe mi6_4 66 (m_ap [(.iconst 1, 1)] ([(.goto 4, 3)])) := m_Fe_of nd1204 36 2 rfl
theorem eF6_pagesSigned_70 : m_Fe mi6_4 70 (m_ap [(.iconst 0, 1)] ([])) := m_Fe_of nd1204 38 1 rfl
theorem eF6_pagesSigned_71 : m_Fe mi6_4 71 (m_ap [(.istore 9, 2), (.iload 7, 2), (.iload_n 1, 1)] ([(.if_icmp .lt 25, 3)])) := m_Fe_of nd1204 39 4 rfl
theorem eF6_pagesSigned_101 : m_Fe mi6_4 101 (m_ap [(.iinc 6 1, 3)] ([(.goto (-93), 3)])) := m_Fe_of nd1204 54 2 rfl
theorem eF6_pagesSigned_79 : m_Fe mi6_4 79 (m_ap [(.iload 8, 2), (.iload_n 2, 1)] ([(.if_icmp .lt 19, 3)])) := m_Fe_of nd1204 43 3 rfl
theorem eF6_pagesSigned_85 : m_Fe mi6_4 85 (m_ap [(.iload 9, 2)] ([(.ifCond .eq 14, 3)])) := m_Fe_of nd1204 46 2 rfl
theorem eF6_pagesSigned_90 : m_Fe mi6_4 90 (m_ap [(.iload 6, 2), (.istore_n 3, 1), (.iload 7, 2), (.istore 4, 2), (.iload 8, 2), (.istore 5, 2)] ([])) := m_Fe_of nd1204 48 6 rfl
theorem SF6_pagesSigned_71 {xs : Nat → Int32} {L : Nat} (x0 : Nat) (x1 : Int32) (x2 : Int32) (x3 : Int32) (x4 : Int32) (x5 : Int32) (x6 : Int32) (x7 : Int32) (x8 : Int32) (s0 : Int32) (hp : m_H) {r : m_O × m_H} {K : ((Int32 × Int32 × Int32 × Int32) ⊕ Int32) → Prop} (k0 : ∀ x, K (.inr x) → r = (.inl (some (.int x)), hp)) (k1 : ∀ s, K (.inl s) → m_Rn xs L 3 1204 11 [(0, .ref x0), (1, .int x1), (2, .int x2), (3, .int s.1), (4, .int s.2.1), (5, .int s.2.2.1), (6, .int s.2.2.2)] [] hp r) {t : (Int32 × Int32 × Int32 × Int32) ⊕ Int32} (h : F6_pagesSigned_71 x0 x1 x2 x3 x4 x5 x6 x7 x8 s0 hp = some t) (hK : K t) : m_Rn xs L 3 1204 71 [(0, .ref x0), (1, .int x1), (2, .int x2), (3, .int x3), (4, .int x4), (5, .int x5), (6, .int x6), (7, .int x7), (8, .int x8)] [.int s0] hp r := by
  unfold F6_pagesSigned_71 at h
  refine g_in eF6_pagesSigned_71 mx1204 ?_
  refine g_ch [(9, .int s0), (0, .ref x0), (1, .int x1), (2, .int x2), (3, .int x3), (4, .int x4), (5, .int x5), (6, .int x6), (7, .int x7), (8, .int x8)] [.int x1, .int x7] (pc' := 76) rfl rfl rfl ?_
  rcases m_ifd h with ⟨c1, h⟩ | ⟨c1, h⟩
  · refine g_if (t := 101) rfl (m_ltT c1) ?_
    refine g_in eF6_pagesSigned_101 mx1204 ?_
    refine g_ch [(6, .int (x6 + 1)), (9, .int s0), (0, .ref x0), (1, .int x1), (2, .int x2), (3, .int x3), (4, .int x4), (5, .int x5), (7, .int x7), (8, .int x8)] [] (pc' := 104) rfl rfl rfl ?_
    refine g_goto (t := 11) rfl ?_
    cases h
    exact r_lv (k1 (x3, x4, x5, (x6 + 1)) hK) rfl ⟨rfl, rfl, rfl, rfl, rfl, rfl, rfl, trivial⟩
  · refine g_ifn (t := 101) rfl (m_ltF c1) ?_
    refine g_in eF6_pagesSigned_79 mx1204 ?_
    refine g_ch [(9, .int s0), (0, .ref x0), (1, .int x1), (2, .int x2), (3, .int x3), (4, .int x4), (5, .int x5), (6, .int x6), (7, .int x7), (8, .int x8)] [.int x2, .int x8] (pc' := 82) rfl rfl rfl ?_
    rcases m_ifd h with ⟨c2, h⟩ | ⟨c2, h⟩
    · refine g_if (t := 101) rfl (m_ltT c2) ?_
      refine g_in eF6_pagesSigned_101 mx1204 ?_
      refine g_ch [(6, .int (x6 + 1)), (9, .int s0), (0, .ref x0), (1, .int x1), (2, .int x2), (3, .int x3), (4, .int x4), (5, .int x5), (7, .int x7), (8, .int x8)] [] (pc' := 104) rfl rfl rfl ?_
      refine g_goto (t := 11) rfl ?_
      cases h
      exact r_lv (k1 (x3, x4, x5, (x6 + 1)) hK) rfl ⟨rfl, rfl, rfl, rfl, rfl, rfl, rfl, trivial⟩
    · refine g_ifn (t := 101) rfl (m_ltF c2) ?_
      refine g_in eF6_pagesSigned_85 mx1204 ?_
      refine g_ch [(9, .int s0), (0, .ref x0), (1, .int x1), (2, .int x2), (3, .int x3), (4, .int x4), (5, .int x5), (6, .int x6), (7, .int x7), (8, .int x8)] [.int s0] (pc' := 87) rfl rfl rfl ?_
      rcases m_ifd h with ⟨c3, h⟩ | ⟨c3, h⟩
      · refine g_ifc (t := 101) rfl (m_eqT c3) ?_
        refine g_in eF6_pagesSigned_101 mx1204 ?_
        refine g_ch [(6, .int (x6 + 1)), (9, .int s0), (0, .ref x0), (1, .int x1), (2, .int x2), (3, .int x3), (4, .int x4), (5, .int x5), (7, .int x7), (8, .int x8)] [] (pc' := 104) rfl rfl rfl ?_
        refine g_goto (t := 11) rfl ?_
        cases h
        exact r_lv (k1 (x3, x4, x5, (x6 + 1)) hK) rfl ⟨rfl, rfl, rfl, rfl, rfl, rfl, rfl, trivial⟩
      · refine g_ifcn (t := 101) rfl (m_eqF c3) ?_
        refine g_in eF6_pagesSigned_90 mx1204 ?_
        refine g_ch [(5, .int x8), (4, .int x7), (3, .int x6), (9, .int s0), (0, .ref x0), (1, .int x1), (2, .int x2), (6, .int x6), (7, .int x7), (8, .int x8)] [] (pc' := 101) rfl rfl rfl ?_
        refine g_end ?_
        refine g_in eF6_pagesSigned_101 mx1204 ?_
        refine g_ch [(6, .int (x6 + 1)), (5, .int x8), (4, .int x7), (3, .int x6), (9, .int s0), (0, .ref x0), (1, .int x1), (2, .int x2), (7, .int x7), (8, .int x8)] [] (pc' := 104) rfl rfl rfl ?_
        refine g_goto (t := 11) rfl ?_
        cases h
        exact r_lv (k1 (x6, x7, x8, (x6 + 1)) hK) rfl ⟨rfl, rfl, rfl, rfl, rfl, rfl, rfl, trivial⟩
theorem SF6_pagesSigned_66 {xs : Nat → Int32} {L : Nat} (x0 : Nat) (x1 : Int32) (x2 : Int32) (x3 : Int32) (x4 : Int32) (x5 : Int32) (x6 : Int32) (x7 : Int32) (x8 : Int32) (hp : m_H) {r : m_O × m_H} {K : ((Int32 × Int32 × Int32 × Int32) ⊕ Int32) → Prop} (k0 : ∀ x, K (.inr x) → r = (.inl (some (.int x)), hp)) (k1 : ∀ s, K (.inl s) → m_Rn xs L 3 1204 11 [(0, .ref x0), (1, .int x1), (2, .int x2), (3, .int s.1), (4, .int s.2.1), (5, .int s.2.2.1), (6, .int s.2.2.2)] [] hp r) {t : (Int32 × Int32 × Int32 × Int32) ⊕ Int32} (h : F6_pagesSigned_66 x0 x1 x2 x3 x4 x5 x6 x7 x8 hp = some t) (hK : K t) : m_Rn xs L 3 1204 66 [(0, .ref x0), (1, .int x1), (2, .int x2), (3, .int x3), (4, .int x4), (5, .int x5), (6, .int x6), (7, .int x7), (8, .int x8)] [] hp r := by
  unfold F6_pagesSigned_66 at h
  refine g_in eF6_pagesSigned_66 mx1204 ?_
  refine g_ch [(0, .ref x0), (1, .int x1), (2, .int x2), (3, .int x3), (4, .int x4), (5, .int x5), (6, .int x6), (7, .int x7), (8, .int x8)] [.int 1] (pc' := 67) rfl rfl rfl ?_
  refine g_goto (t := 71) rfl ?_
  exact r_lv (SF6_pagesSigned_71 x0 x1 x2 x3 x4 x5 x6 x7 x8 1 hp (K := K) k0 k1 h hK) rfl ⟨rfl, rfl, rfl, rfl, rfl, rfl, rfl, rfl, rfl, trivial⟩
theorem SF6_pagesSigned_70 {xs : Nat → Int32} {L : Nat} (x0 : Nat) (x1 : Int32) (x2 : Int32) (x3 : Int32) (x4 : Int32) (x5 : Int32) (x6 : Int32) (x7 : Int32) (x8 : Int32) (hp : m_H) {r : m_O × m_H} {K : ((Int32 × Int32 × Int32 × Int32) ⊕ Int32) → Prop} (k0 : ∀ x, K (.inr x) → r = (.inl (some (.int x)), hp)) (k1 : ∀ s, K (.inl s) → m_Rn xs L 3 1204 11 [(0, .ref x0), (1, .int x1), (2, .int x2), (3, .int s.1), (4, .int s.2.1), (5, .int s.2.2.1), (6, .int s.2.2.2)] [] hp r) {t : (Int32 × Int32 × Int32 × Int32) ⊕ Int32} (h : F6_pagesSigned_70 x0 x1 x2 x3 x4 x5 x6 x7 x8 hp = some t) (hK : K t) : m_Rn xs L 3 1204 70 [(0, .ref x0), (1, .int x1), (2, .int x2), (3, .int x3), (4, .int x4), (5, .int x5), (6, .int x6), (7, .int x7), (8, .int x8)] [] hp r := by
  unfold F6_pagesSigned_70 at h
  refine g_in eF6_pagesSigned_70 mx1204 ?_
  refine g_ch [(0, .ref x0), (1, .int x1), (2, .int x2), (3, .int x3), (4, .int x4), (5, .int x5), (6, .int x6), (7, .int x7), (8, .int x8)] [.int 0] (pc' := 71) rfl rfl rfl ?_
  refine g_end ?_
  exact r_lv (SF6_pagesSigned_71 x0 x1 x2 x3 x4 x5 x6 x7 x8 0 hp (K := K) k0 k1 h hK) rfl ⟨rfl, rfl, rfl, rfl, rfl, rfl, rfl, rfl, rfl, trivial⟩
theorem SF6_pagesSigned_11b {xs : Nat → Int32} {L : Nat} (x0 : Nat) (x1 : Int32) (x2 : Int32) (hp : m_H) (s : Int32 × Int32 × Int32 × Int32) {r : m_O × m_H} {K : ((Int32 × Int32 × Int32 × Int32) ⊕ Int32) → Prop} (k0 : ∀ x, K (.inr x) → r = (.inl (some (.int x)), hp)) (k1 : ∀ s, K (.inl s) → m_Rn xs L 3 1204 11 [(0, .ref x0), (1, .int x1), (2, .int x2), (3, .int s.1), (4, .int s.2.1), (5, .int s.2.2.1), (6, .int s.2.2.2)] [] hp r) {t : (Int32 × Int32 × Int32 × Int32) ⊕ Int32} (h : F6_pagesSigned_11b x0 x1 x2 hp s = some t) (hK : K t) : m_Rn xs L 3 1204 11 [(0, .ref x0), (1, .int x1), (2, .int x2), (3, .int s.1), (4, .int s.2.1), (5, .int s.2.2.1), (6, .int s.2.2.2)] [] hp r := by
  unfold F6_pagesSigned_11b at h
  refine g_in eF6_pagesSigned_11 mx1204 ?_
  refine g_ch [(0, .ref x0), (1, .int x1), (2, .int x2), (3, .int s.1), (4, .int s.2.1), (5, .int s.2.2.1), (6, .int s.2.2.2)] [.ref x0, .int 1, .int s.2.2.2] (pc' := 15) rfl rfl rfl ?_
  obtain ⟨v1, e2, h⟩ := m_bd h
  refine g_gi q6_f15 e2 ?_
  refine g_ch [(0, .ref x0), (1, .int x1), (2, .int x2), (3, .int s.1), (4, .int s.2.1), (5, .int s.2.2.1), (6, .int s.2.2.2)] [.int (1 <<< (v1 &&& 31)), .int s.2.2.2] (pc' := 19) rfl rfl rfl ?_
  rcases m_ifd h with ⟨c3, h⟩ | ⟨c3, h⟩
  · refine g_if (t := 107) rfl (m_geT c3) ?_
    refine g_in eF6_pagesSigned_107 mx1204 ?_
    refine g_ch [(0, .ref x0), (1, .int x1), (2, .int x2), (3, .int s.1), (4, .int s.2.1), (5, .int s.2.2.1), (6, .int s.2.2.2)] [.int s.1] (pc' := 108) rfl rfl rfl ?_
    cases h
    rw [k0 _ hK]
    exact g_iret rfl rfl
  · refine g_ifn (t := 107) rfl (m_geF c3) ?_
    refine g_in eF6_pagesSigned_22 mx1204 ?_
    refine g_ch [(0, .ref x0), (1, .int x1), (2, .int x2), (3, .int s.1), (4, .int s.2.1), (5, .int s.2.2.1), (6, .int s.2.2.2)] [.int s.2.2.2, .int 0, .ref x0] (pc' := 26) rfl rfl rfl ?_
    obtain ⟨v5, e4, h⟩ := m_bd h
    refine g_call (v := some (.int v5)) (h := hp) (st' := [.int v5]) (D1 := 2) (as := [.ref x0, .int 0, .int s.2.2.2]) (Or.inl rfl) q6_m59 (m_cs (as := [.int s.2.2.2, .int 0, .ref x0]) (rest := []) q6_m59 jv1203 rfl rfl rfl rfl rfl) (by decide) (SF6_sumIn e4) rfl ?_
    refine g_ch [(7, .int v5), (0, .ref x0), (1, .int x1), (2, .int x2), (3, .int s.1), (4, .int s.2.1), (5, .int s.2.2.1), (6, .int s.2.2.2)] [.int s.2.2.2, .int 1, .ref x0] (pc' := 35) rfl rfl rfl ?_
    obtain ⟨v7, e6, h⟩ := m_bd h
    refine g_call (v := some (.int v7)) (h := hp) (st' := [.int v7]) (D1 := 2) (as := [.ref x0, .int 1, .int s.2.2.2]) (Or.inl rfl) q6_m59 (m_cs (as := [.int s.2.2.2, .int 1, .ref x0]) (rest := []) q6_m59 jv1203 rfl rfl rfl rfl rfl) (by decide) (SF6_sumIn e6) rfl ?_
    refine g_ch [(8, .int v7), (7, .int v5), (0, .ref x0), (1, .int x1), (2, .int x2), (3, .int s.1), (4, .int s.2.1), (5, .int s.2.2.1), (6, .int s.2.2.2)] [.int (-1), .int s.1] (pc' := 42) rfl rfl rfl ?_
    rcases m_ifd h with ⟨c8, h⟩ | ⟨c8, h⟩
    · refine g_if (t := 66) rfl (m_eqT c8) ?_
      exact r_lv (SF6_pagesSigned_66 x0 x1 x2 s.1 s.2.1 s.2.2.1 s.2.2.2 v5 v7 hp (K := K) k0 k1 h hK) rfl ⟨rfl, rfl, rfl, rfl, rfl, rfl, rfl, rfl, rfl, trivial⟩
    · refine g_ifn (t := 66) rfl (m_eqF c8) ?_
      refine g_in eF6_pagesSigned_45 mx1204 ?_
      refine g_ch [(8, .int v7), (7, .int v5), (0, .ref x0), (1, .int x1), (2, .int x2), (3, .int s.1), (4, .int s.2.1), (5, .int s.2.2.1), (6, .int s.2.2.2)] [.int s.2.1, .int v5] (pc' := 49) rfl rfl rfl ?_
      rcases m_ifd h with ⟨c9, h⟩ | ⟨c9, h⟩
      · refine g_if (t := 66) rfl (m_gtT c9) ?_
        exact r_lv (SF6_pagesSigned_66 x0 x1 x2 s.1 s.2.1 s.2.2.1 s.2.2.2 v5 v7 hp (K := K) k0 k1 h hK) rfl ⟨rfl, rfl, rfl, rfl, rfl, rfl, rfl, rfl, rfl, trivial⟩
      · refine g_ifn (t := 66) rfl (m_gtF c9) ?_
        refine g_in eF6_pagesSigned_52 mx1204 ?_
        refine g_ch [(8, .int v7), (7, .int v5), (0, .ref x0), (1, .int x1), (2, .int x2), (3, .int s.1), (4, .int s.2.1), (5, .int s.2.2.1), (6, .int s.2.2.2)] [.int s.2.1, .int v5] (pc' := 56) rfl rfl rfl ?_
        rcases m_ifd h with ⟨c10, h⟩ | ⟨c10, h⟩
        · refine g_ifn (t := 70) rfl (m_neF c10) ?_
          refine g_in eF6_pagesSigned_59 mx1204 ?_
          refine g_ch [(8, .int v7), (7, .int v5), (0, .ref x0), (1, .int x1), (2, .int x2), (3, .int s.1), (4, .int s.2.1), (5, .int s.2.2.1), (6, .int s.2.2.2)] [.int s.2.2.1, .int v7] (pc' := 63) rfl rfl rfl ?_
          rcases m_ifd h with ⟨c11, h⟩ | ⟨c11, h⟩
          · refine g_if (t := 70) rfl (m_leT c11) ?_
            exact r_lv (SF6_pagesSigned_70 x0 x1 x2 s.1 s.2.1 s.2.2.1 s.2.2.2 v5 v7 hp (K := K) k0 k1 h hK) rfl ⟨rfl, rfl, rfl, rfl, rfl, rfl, rfl, rfl, rfl, trivial⟩
          · refine g_ifn (t := 70) rfl (m_leF c11) ?_
            exact r_lv (SF6_pagesSigned_66 x0 x1 x2 s.1 s.2.1 s.2.2.1 s.2.2.2 v5 v7 hp (K := K) k0 k1 h hK) rfl ⟨rfl, rfl, rfl, rfl, rfl, rfl, rfl, rfl, rfl, trivial⟩
        · refine g_if (t := 70) rfl (m_neT c10) ?_
          exact r_lv (SF6_pagesSigned_70 x0 x1 x2 s.1 s.2.1 s.2.2.1 s.2.2.2 v5 v7 hp (K := K) k0 k1 h hK) rfl ⟨rfl, rfl, rfl, rfl, rfl, rfl, rfl, rfl, rfl, trivial⟩
theorem SF6_pagesSigned_11 {xs : Nat → Int32} {L : Nat} (x0 : Nat) (x1 : Int32) (x2 : Int32) (x3 : Int32) (x4 : Int32) (x5 : Int32) (x6 : Int32) (hp : m_H) {r : m_O × m_H} {K : Int32 → Prop} (k0 : ∀ x, K x → r = (.inl (some (.int x)), hp)) {t : Int32} (h : F6_pagesSigned_11 x0 x1 x2 x3 x4 x5 x6 hp = some t) (hK : K t) : m_Rn xs L 3 1204 11 [(0, .ref x0), (1, .int x1), (2, .int x2), (3, .int x3), (4, .int x4), (5, .int x5), (6, .int x6)] [] hp r :=
  m_wh_ok (P := fun s => m_Rn xs L 3 1204 11 [(0, .ref x0), (1, .int x1), (2, .int x2), (3, .int s.1), (4, .int s.2.1), (5, .int s.2.2.1), (6, .int s.2.2.2)] [] hp r) (Q := K) (fun s t hb hK => SF6_pagesSigned_11b x0 x1 x2 hp s (K := m_KK (fun s => m_Rn xs L 3 1204 11 [(0, .ref x0), (1, .int x1), (2, .int x2), (3, .int s.1), (4, .int s.2.1), (5, .int s.2.2.1), (6, .int s.2.2.2)] [] hp r) K) k0 (fun _ q => q) hb hK) m_N _ _ h hK
theorem SF6_pagesSigned_0 {xs : Nat → Int32} {L : Nat} (x0 : Nat) (x1 : Int32) (x2 : Int32) (hp : m_H) {r : m_O × m_H} {K : Int32 → Prop} (k0 : ∀ x, K x → r = (.inl (some (.int x)), hp)) {t : Int32} (h : F6_pagesSigned_0 x0 x1 x2 hp = some t) (hK : K t) : m_Rn xs L 3 1204 0 [(0, .ref x0), (1, .int x1), (2, .int x2)] [] hp r := by
  unfold F6_pagesSigned_0 at h
  refine g_in eF6_pagesSigned_0 mx1204 ?_
  refine g_ch [(6, .int 0), (5, .int 0), (4, .int 0), (3, .int (-1)), (0, .ref x0), (1, .int x1), (2, .int x2)] [] (pc' := 11) rfl rfl rfl ?_
  refine g_end ?_
  exact r_lv (SF6_pagesSigned_11 x0 x1 x2 (-1) 0 0 0 hp (K := K) k0 h hK) rfl ⟨rfl, rfl, rfl, rfl, rfl, rfl, rfl, trivial⟩
theorem SF6_pagesSigned {xs : Nat → Int32} {L : Nat} {x0 : Nat} {x1 : Int32} {x2 : Int32} {hp : m_H} {x : Int32} (h : F6_pagesSigned x0 x1 x2 hp = some x) : m_Rn xs L 3 1204 0 (lv_args 0 [.ref x0, .int x1, .int x2]) [] hp (.inl (some (.int x)), hp) :=
  r_lv (SF6_pagesSigned_0 x0 x1 x2 hp (K := fun y => y = x) (fun y e => by rw [e]) h rfl) rfl ⟨rfl, rfl, rfl, trivial⟩
-- F14_bitCount: java/lang/Integer.bitCount(I)I
theorem eF14_bitCount_0 : m_Fe mi14_0 0 (m_ap [(.iload_n 0, 1), (.iload_n 0, 1), (.iconst 1, 1), (.iushr, 1), (.ldc_w 265, 3), (.iand, 1), (.isub, 1), (.istore_n 0, 1)] (m_ap [(.iload_n 0, 1), (.ldc_w 266, 3), (.iand, 1), (.iload_n 0, 1), (.iconst 2, 1), (.iushr, 1), (.ldc_w 266, 3), (.iand, 1)] (m_ap [(.iadd, 1), (.istore_n 0, 1), (.iload_n 0, 1), (.iload_n 0, 1), (.iconst 4, 1), (.iushr, 1), (.iadd, 1), (.ldc_w 267, 3)] (m_ap [(.iand, 1), (.istore_n 0, 1), (.iload_n 0, 1), (.iload_n 0, 1), (.bipush 8, 2), (.iushr, 1), (.iadd, 1), (.istore_n 0, 1)] (m_ap [(.iload_n 0, 1), (.iload_n 0, 1), (.bipush 16, 2), (.iushr, 1), (.iadd, 1), (.istore_n 0, 1), (.iload_n 0, 1), (.bipush 63, 2)] (m_ap [(.iand, 1)] ([(.ireturn, 1)]))))))) := m_Fe_of nd2800 0 42 rfl
theorem SF14_bitCount_0 {xs : Nat → Int32} {L : Nat} (x0 : Int32) (hp : m_H) {r : m_O × m_H} {K : Int32 → Prop} (k0 : ∀ x, K x → r = (.inl (some (.int x)), hp)) {t : Int32} (h : F14_bitCount_0 x0 hp = some t) (hK : K t) : m_Rn xs L 0 2800 0 [(0, .int x0)] [] hp r := by
  unfold F14_bitCount_0 at h
  refine g_in eF14_bitCount_0 mx2800 ?_
  refine g_ch [(0, .int (x0 - ((m_ushr x0 1) &&& 1431655765)))] [] (pc' := 10) rfl rfl rfl ?_
  refine g_ch [(0, .int (x0 - ((m_ushr x0 1) &&& 1431655765)))] [.int ((m_ushr (x0 - ((m_ushr x0 1) &&& 1431655765)) 2) &&& 858993459), .int ((x0 - ((m_ushr x0 1) &&& 1431655765)) &&& 858993459)] (pc' := 22) rfl rfl rfl ?_
  refine g_ch [(0, .int (((x0 - ((m_ushr x0 1) &&& 1431655765)) &&& 858993459) + ((m_ushr (x0 - ((m_ushr x0 1) &&& 1431655765)) 2) &&& 858993459)))] [.int 252645135, .int ((((x0 - ((m_ushr x0 1) &&& 1431655765)) &&& 858993459) + ((m_ushr (x0 - ((m_ushr x0 1) &&& 1431655765)) 2) &&& 858993459)) + (m_ushr (((x0 - ((m_ushr x0 1) &&& 1431655765)) &&& 858993459) + ((m_ushr (x0 - ((m_ushr x0 1) &&& 1431655765)) 2) &&& 858993459)) 4))] (pc' := 32) rfl rfl rfl ?_
  refine g_ch [(0, .int ((((((x0 - ((m_ushr x0 1) &&& 1431655765)) &&& 858993459) + ((m_ushr (x0 - ((m_ushr x0 1) &&& 1431655765)) 2) &&& 858993459)) + (m_ushr (((x0 - ((m_ushr x0 1) &&& 1431655765)) &&& 858993459) + ((m_ushr (x0 - ((m_ushr x0 1) &&& 1431655765)) 2) &&& 858993459)) 4)) &&& 252645135) + (m_ushr (((((x0 - ((m_ushr x0 1) &&& 1431655765)) &&& 858993459) + ((m_ushr (x0 - ((m_ushr x0 1) &&& 1431655765)) 2) &&& 858993459)) + (m_ushr (((x0 - ((m_ushr x0 1) &&& 1431655765)) &&& 858993459) + ((m_ushr (x0 - ((m_ushr x0 1) &&& 1431655765)) 2) &&& 858993459)) 4)) &&& 252645135) 8)))] [] (pc' := 41) rfl rfl rfl ?_
  refine g_ch [(0, .int (((((((x0 - ((m_ushr x0 1) &&& 1431655765)) &&& 858993459) + ((m_ushr (x0 - ((m_ushr x0 1) &&& 1431655765)) 2) &&& 858993459)) + (m_ushr (((x0 - ((m_ushr x0 1) &&& 1431655765)) &&& 858993459) + ((m_ushr (x0 - ((m_ushr x0 1) &&& 1431655765)) 2) &&& 858993459)) 4)) &&& 252645135) + (m_ushr (((((x0 - ((m_ushr x0 1) &&& 1431655765)) &&& 858993459) + ((m_ushr (x0 - ((m_ushr x0 1) &&& 1431655765)) 2) &&& 858993459)) + (m_ushr (((x0 - ((m_ushr x0 1) &&& 1431655765)) &&& 858993459) + ((m_ushr (x0 - ((m_ushr x0 1) &&& 1431655765)) 2) &&& 858993459)) 4)) &&& 252645135) 8)) + (m_ushr ((((((x0 - ((m_ushr x0 1) &&& 1431655765)) &&& 858993459) + ((m_ushr (x0 - ((m_ushr x0 1) &&& 1431655765)) 2) &&& 858993459)) + (m_ushr (((x0 - ((m_ushr x0 1) &&& 1431655765)) &&& 858993459) + ((m_ushr (x0 - ((m_ushr x0 1) &&& 1431655765)) 2) &&& 858993459)) 4)) &&& 252645135) + (m_ushr (((((x0 - ((m_ushr x0 1) &&& 1431655765)) &&& 858993459) + ((m_ushr (x0 - ((m_ushr x0 1) &&& 1431655765)) 2) &&& 858993459)) + (m_ushr (((x0 - ((m_ushr x0 1) &&& 1431655765)) &&& 858993459) + ((m_ushr (x0 - ((m_ushr x0 1) &&& 1431655765)) 2) &&& 858993459)) 4)) &&& 252645135) 8)) 16)))] [.int 63, .int (((((((x0 - ((m_ushr x0 1) &&& 1431655765)) &&& 858993459) + ((m_ushr (x0 - ((m_ushr x0 1) &&& 1431655765)) 2) &&& 858993459)) + (m_ushr (((x0 - ((m_ushr x0 1) &&& 1431655765)) &&& 858993459) + ((m_ushr (x0 - ((m_ushr x0 1) &&& 1431655765)) 2) &&& 858993459)) 4)) &&& 252645135) + (m_ushr (((((x0 - ((m_ushr x0 1) &&& 1431655765)) &&& 858993459) + ((m_ushr (x0 - ((m_ushr x0 1) &&& 1431655765)) 2) &&& 858993459)) + (m_ushr (((x0 - ((m_ushr x0 1) &&& 1431655765)) &&& 858993459) + ((m_ushr (x0 - ((m_ushr x0 1) &&& 1431655765)) 2) &&& 858993459)) 4)) &&& 252645135) 8)) + (m_ushr ((((((x0 - ((m_ushr x0 1) &&& 1431655765)) &&& 858993459) + ((m_ushr (x0 - ((m_ushr x0 1) &&& 1431655765)) 2) &&& 858993459)) + (m_ushr (((x0 - ((m_ushr x0 1) &&& 1431655765)) &&& 858993459) + ((m_ushr (x0 - ((m_ushr x0 1) &&& 1431655765)) 2) &&& 858993459)) 4)) &&& 252645135) + (m_ushr (((((x0 - ((m_ushr x0 1) &&& 1431655765)) &&& 858993459) + ((m_ushr (x0 - ((m_ushr x0 1) &&& 1431655765)) 2) &&& 858993459)) + (m_ushr (((x0 - ((m_ushr x0 1) &&& 1431655765)) &&& 858993459) + ((m_ushr (x0 - ((m_ushr x0 1) &&& 1431655765)) 2) &&& 858993459)) 4)) &&& 252645135) 8)) 16))] (pc' := 51) rfl rfl rfl ?_
  refine g_ch [(0, .int (((((((x0 - ((m_ushr x0 1) &&& 1431655765)) &&& 858993459) + ((m_ushr (x0 - ((m_ushr x0 1) &&& 1431655765)) 2) &&& 858993459)) + (m_ushr (((x0 - ((m_ushr x0 1) &&& 1431655765)) &&& 858993459) + ((m_ushr (x0 - ((m_ushr x0 1) &&& 1431655765)) 2) &&& 858993459)) 4)) &&& 252645135) + (m_ushr (((((x0 - ((m_ushr x0 1) &&& 1431655765)) &&& 858993459) + ((m_ushr (x0 - ((m_ushr x0 1) &&& 1431655765)) 2) &&& 858993459)) + (m_ushr (((x0 - ((m_ushr x0 1) &&& 1431655765)) &&& 858993459) + ((m_ushr (x0 - ((m_ushr x0 1) &&& 1431655765)) 2) &&& 858993459)) 4)) &&& 252645135) 8)) + (m_ushr ((((((x0 - ((m_ushr x0 1) &&& 1431655765)) &&& 858993459) + ((m_ushr (x0 - ((m_ushr x0 1) &&& 1431655765)) 2) &&& 858993459)) + (m_ushr (((x0 - ((m_ushr x0 1) &&& 1431655765)) &&& 858993459) + ((m_ushr (x0 - ((m_ushr x0 1) &&& 1431655765)) 2) &&& 858993459)) 4)) &&& 252645135) + (m_ushr (((((x0 - ((m_ushr x0 1) &&& 1431655765)) &&& 858993459) + ((m_ushr (x0 - ((m_ushr x0 1) &&& 1431655765)) 2) &&& 858993459)) + (m_ushr (((x0 - ((m_ushr x0 1) &&& 1431655765)) &&& 858993459) + ((m_ushr (x0 - ((m_ushr x0 1) &&& 1431655765)) 2) &&& 858993459)) 4)) &&& 252645135) 8)) 16)))] [.int ((((((((x0 - ((m_ushr x0 1) &&& 1431655765)) &&& 858993459) + ((m_ushr (x0 - ((m_ushr x0 1) &&& 1431655765)) 2) &&& 858993459)) + (m_ushr (((x0 - ((m_ushr x0 1) &&& 1431655765)) &&& 858993459) + ((m_ushr (x0 - ((m_ushr x0 1) &&& 1431655765)) 2) &&& 858993459)) 4)) &&& 252645135) + (m_ushr (((((x0 - ((m_ushr x0 1) &&& 1431655765)) &&& 858993459) + ((m_ushr (x0 - ((m_ushr x0 1) &&& 1431655765)) 2) &&& 858993459)) + (m_ushr (((x0 - ((m_ushr x0 1) &&& 1431655765)) &&& 858993459) + ((m_ushr (x0 - ((m_ushr x0 1) &&& 1431655765)) 2) &&& 858993459)) 4)) &&& 252645135) 8)) + (m_ushr ((((((x0 - ((m_ushr x0 1) &&& 1431655765)) &&& 858993459) + ((m_ushr (x0 - ((m_ushr x0 1) &&& 1431655765)) 2) &&& 858993459)) + (m_ushr (((x0 - ((m_ushr x0 1) &&& 1431655765)) &&& 858993459) + ((m_ushr (x0 - ((m_ushr x0 1) &&& 1431655765)) 2) &&& 858993459)) 4)) &&& 252645135) + (m_ushr (((((x0 - ((m_ushr x0 1) &&& 1431655765)) &&& 858993459) + ((m_ushr (x0 - ((m_ushr x0 1) &&& 1431655765)) 2) &&& 858993459)) + (m_ushr (((x0 - ((m_ushr x0 1) &&& 1431655765)) &&& 858993459) + ((m_ushr (x0 - ((m_ushr x0 1) &&& 1431655765)) 2) &&& 858993459)) 4)) &&& 252645135) 8)) 16)) &&& 63)] (pc' := 52) rfl rfl rfl ?_
  cases h
  rw [k0 _ hK]
  exact g_iret rfl rfl
theorem SF14_bitCount {xs : Nat → Int32} {L : Nat} {x0 : Int32} {hp : m_H} {x : Int32} (h : F14_bitCount x0 hp = some x) : m_Rn xs L 0 2800 0 (lv_args 0 [.int x0]) [] hp (.inl (some (.int x)), hp) :=
  r_lv (SF14_bitCount_0 x0 hp (K := fun y => y = x) (fun y e => by rw [e]) h rfl) rfl ⟨rfl, trivial⟩
-- F6_yearly: LendHouse$Plans.yearly(LLendHouse$House;III)I
theorem eF6_yearly_0 : m_Fe mi6_7 0 (m_ap [(.iconst 0, 1), (.istore 4, 2), (.iconst 0, 1), (.istore 5, 2)] ([])) := m_Fe_of nd1207 0 4 rfl
theorem eF6_yearly_6 : m_Fe mi6_7 6 (m_ap [(.iload 5, 2), (.aload_n 0, 1)] ((.getfield 63, 3) :: ((.getfield 15, 3) :: ([(.if_icmp .ge 47, 3)])))) := m_Fe_of nd1207 4 5 rfl
theorem eF6_yearly_62 : m_Fe mi6_7 62 (m_ap [(.iload 4, 2)] ([(.ireturn, 1)])) := m_Fe_of nd1207 30 2 rfl
theorem eF6_yearly_18 : m_Fe mi6_7 18 (m_ap [(.iload_n 1, 1), (.iload 5, 2)] ((.invokestatic 37, 3) :: ([(.ifCond .eq 32, 3)]))) := m_Fe_of nd1207 9 4 rfl
theorem eF6_yearly_56 : m_Fe mi6_7 56 (m_ap [(.iinc 5 1, 3)] ([(.goto (-53), 3)])) := m_Fe_of nd1207 28 2 rfl
theorem eF6_yearly_27 : m_Fe mi6_7 27 (m_ap [(.aload_n 0, 1)] ((.getfield 63, 3) :: (m_ap [(.iload 5, 2), (.iconst 3, 1)] ((.invokevirtual 44, 3) :: (m_ap [(.iload_n 2, 1)] ([(.if_icmp .gt 18, 3)])))))) := m_Fe_of nd1207 13 7 rfl
theorem eF6_yearly_41 : m_Fe mi6_7 41 (m_ap [(.iload 4, 2), (.aload_n 0, 1)] ((.getfield 63, 3) :: (m_ap [(.iload 5, 2), (.iload_n 3, 1)] ((.invokevirtual 44, 3) :: (m_ap [(.iadd, 1), (.istore 4, 2)] ([])))))) := m_Fe_of nd1207 20 8 rfl
theorem SF6_yearly_6b {xs : Nat → Int32} {L : Nat} (x0 : Nat) (x1 : Int32) (x2 : Int32) (x3 : Int32) (hp : m_H) (s : Int32 × Int32) {r : m_O × m_H} {K : ((Int32 × Int32) ⊕ Int32) → Prop} (k0 : ∀ x, K (.inr x) → r = (.inl (some (.int x)), hp)) (k1 : ∀ s, K (.inl s) → m_Rn xs L 2 1207 6 [(0, .ref x0), (1, .int x1), (2, .int x2), (3, .int x3), (4, .int s.1), (5, .int s.2)] [] hp r) {t : (Int32 × Int32) ⊕ Int32} (h : F6_yearly_6b x0 x1 x2 x3 hp s = some t) (hK : K t) : m_Rn xs L 2 1207 6 [(0, .ref x0), (1, .int x1), (2, .int x2), (3, .int x3), (4, .int s.1), (5, .int s.2)] [] hp r := by
  unfold F6_yearly_6b at h
  refine g_in eF6_yearly_6 mx1207 ?_
  refine g_ch [(0, .ref x0), (1, .int x1), (2, .int x2), (3, .int x3), (4, .int s.1), (5, .int s.2)] [.ref x0, .int s.2] (pc' := 9) rfl rfl rfl ?_
  obtain ⟨v1, e2, h⟩ := m_bd h
  refine g_gr q6_f63 e2 ?_
  obtain ⟨v3, e4, h⟩ := m_bd h
  refine g_gi q6_f15 e4 ?_
  rcases m_ifd h with ⟨c5, h⟩ | ⟨c5, h⟩
  · refine g_if (t := 62) rfl (m_geT c5) ?_
    refine g_in eF6_yearly_62 mx1207 ?_
    refine g_ch [(0, .ref x0), (1, .int x1), (2, .int x2), (3, .int x3), (4, .int s.1), (5, .int s.2)] [.int s.1] (pc' := 64) rfl rfl rfl ?_
    cases h
    rw [k0 _ hK]
    exact g_iret rfl rfl
  · refine g_ifn (t := 62) rfl (m_geF c5) ?_
    refine g_in eF6_yearly_18 mx1207 ?_
    refine g_ch [(0, .ref x0), (1, .int x1), (2, .int x2), (3, .int x3), (4, .int s.1), (5, .int s.2)] [.int s.2, .int x1] (pc' := 21) rfl rfl rfl ?_
    obtain ⟨v7, e6, h⟩ := m_bd h
    refine g_call (v := some (.int v7)) (h := hp) (st' := [.int v7]) (D1 := 0) (as := [.int x1, .int s.2]) (Or.inl rfl) q6_m37 (m_cs (as := [.int s.2, .int x1]) (rest := []) q6_m37 jv1200 rfl rfl rfl rfl rfl) (by decide) (SF6_isIn e6) rfl ?_
    rcases m_ifd h with ⟨c8, h⟩ | ⟨c8, h⟩
    · refine g_ifc (t := 56) rfl (m_eqT c8) ?_
      refine g_in eF6_yearly_56 mx1207 ?_
      refine g_ch [(5, .int (s.2 + 1)), (0, .ref x0), (1, .int x1), (2, .int x2), (3, .int x3), (4, .int s.1)] [] (pc' := 59) rfl rfl rfl ?_
      refine g_goto (t := 6) rfl ?_
      cases h
      exact r_lv (k1 (s.1, (s.2 + 1)) hK) rfl ⟨rfl, rfl, rfl, rfl, rfl, rfl, trivial⟩
    · refine g_ifcn (t := 56) rfl (m_eqF c8) ?_
      refine g_in eF6_yearly_27 mx1207 ?_
      refine g_ch [(0, .ref x0), (1, .int x1), (2, .int x2), (3, .int x3), (4, .int s.1), (5, .int s.2)] [.ref x0] (pc' := 28) rfl rfl rfl ?_
      obtain ⟨v9, e10, h⟩ := m_bd h
      refine g_gr q6_f63 e10 ?_
      refine g_ch [(0, .ref x0), (1, .int x1), (2, .int x2), (3, .int x3), (4, .int s.1), (5, .int s.2)] [.int 3, .int s.2, .ref v9] (pc' := 34) rfl rfl rfl ?_
      obtain ⟨v12, e11, h⟩ := m_bd h
      refine g_call (v := some (.int v12)) (h := hp) (st' := [.int v12]) (D1 := 1) (as := [.ref v9, .int s.2, .int 3]) (Or.inr (Or.inl rfl)) q6_m44 (m_cv (as := [.int 3, .int s.2]) (rest := []) (Or.inl rfl) q6_m44 jv1604 (OF8_get e11) rfl rfl rfl rfl) (by decide) (SF8_get e11) rfl ?_
      refine g_ch [(0, .ref x0), (1, .int x1), (2, .int x2), (3, .int x3), (4, .int s.1), (5, .int s.2)] [.int x2, .int v12] (pc' := 38) rfl rfl rfl ?_
      rcases m_ifd h with ⟨c13, h⟩ | ⟨c13, h⟩
      · refine g_if (t := 56) rfl (m_gtT c13) ?_
        refine g_in eF6_yearly_56 mx1207 ?_
        refine g_ch [(5, .int (s.2 + 1)), (0, .ref x0), (1, .int x1), (2, .int x2), (3, .int x3), (4, .int s.1)] [] (pc' := 59) rfl rfl rfl ?_
        refine g_goto (t := 6) rfl ?_
        cases h
        exact r_lv (k1 (s.1, (s.2 + 1)) hK) rfl ⟨rfl, rfl, rfl, rfl, rfl, rfl, trivial⟩
      · refine g_ifn (t := 56) rfl (m_gtF c13) ?_
        refine g_in eF6_yearly_41 mx1207 ?_
        refine g_ch [(0, .ref x0), (1, .int x1), (2, .int x2), (3, .int x3), (4, .int s.1), (5, .int s.2)] [.ref x0, .int s.1] (pc' := 44) rfl rfl rfl ?_
        obtain ⟨v14, e15, h⟩ := m_bd h
        refine g_gr q6_f63 e15 ?_
        refine g_ch [(0, .ref x0), (1, .int x1), (2, .int x2), (3, .int x3), (4, .int s.1), (5, .int s.2)] [.int x3, .int s.2, .ref v14, .int s.1] (pc' := 50) rfl rfl rfl ?_
        obtain ⟨v17, e16, h⟩ := m_bd h
        refine g_call (v := some (.int v17)) (h := hp) (st' := [.int v17, .int s.1]) (D1 := 1) (as := [.ref v14, .int s.2, .int x3]) (Or.inr (Or.inl rfl)) q6_m44 (m_cv (as := [.int x3, .int s.2]) (rest := [.int s.1]) (Or.inl rfl) q6_m44 jv1604 (OF8_get e16) rfl rfl rfl rfl) (by decide) (SF8_get e16) rfl ?_
        refine g_ch [(4, .int (s.1 + v17)), (0, .ref x0), (1, .int x1), (2, .int x2), (3, .int x3), (5, .int s.2)] [] (pc' := 56) rfl rfl rfl ?_
        refine g_end ?_
        refine g_in eF6_yearly_56 mx1207 ?_
        refine g_ch [(5, .int (s.2 + 1)), (4, .int (s.1 + v17)), (0, .ref x0), (1, .int x1), (2, .int x2), (3, .int x3)] [] (pc' := 59) rfl rfl rfl ?_
        refine g_goto (t := 6) rfl ?_
        cases h
        exact r_lv (k1 ((s.1 + v17), (s.2 + 1)) hK) rfl ⟨rfl, rfl, rfl, rfl, rfl, rfl, trivial⟩
theorem SF6_yearly_6 {xs : Nat → Int32} {L : Nat} (x0 : Nat) (x1 : Int32) (x2 : Int32) (x3 : Int32) (x4 : Int32) (x5 : Int32) (hp : m_H) {r : m_O × m_H} {K : Int32 → Prop} (k0 : ∀ x, K x → r = (.inl (some (.int x)), hp)) {t : Int32} (h : F6_yearly_6 x0 x1 x2 x3 x4 x5 hp = some t) (hK : K t) : m_Rn xs L 2 1207 6 [(0, .ref x0), (1, .int x1), (2, .int x2), (3, .int x3), (4, .int x4), (5, .int x5)] [] hp r :=
  m_wh_ok (P := fun s => m_Rn xs L 2 1207 6 [(0, .ref x0), (1, .int x1), (2, .int x2), (3, .int x3), (4, .int s.1), (5, .int s.2)] [] hp r) (Q := K) (fun s t hb hK => SF6_yearly_6b x0 x1 x2 x3 hp s (K := m_KK (fun s => m_Rn xs L 2 1207 6 [(0, .ref x0), (1, .int x1), (2, .int x2), (3, .int x3), (4, .int s.1), (5, .int s.2)] [] hp r) K) k0 (fun _ q => q) hb hK) m_N _ _ h hK
theorem SF6_yearly_0 {xs : Nat → Int32} {L : Nat} (x0 : Nat) (x1 : Int32) (x2 : Int32) (x3 : Int32) (hp : m_H) {r : m_O × m_H} {K : Int32 → Prop} (k0 : ∀ x, K x → r = (.inl (some (.int x)), hp)) {t : Int32} (h : F6_yearly_0 x0 x1 x2 x3 hp = some t) (hK : K t) : m_Rn xs L 2 1207 0 [(0, .ref x0), (1, .int x1), (2, .int x2), (3, .int x3)] [] hp r := by
  unfold F6_yearly_0 at h
  refine g_in eF6_yearly_0 mx1207 ?_
  refine g_ch [(5, .int 0), (4, .int 0), (0, .ref x0), (1, .int x1), (2, .int x2), (3, .int x3)] [] (pc' := 6) rfl rfl rfl ?_
  refine g_end ?_
  exact r_lv (SF6_yearly_6 x0 x1 x2 x3 0 0 hp (K := K) k0 h hK) rfl ⟨rfl, rfl, rfl, rfl, rfl, rfl, trivial⟩
theorem SF6_yearly {xs : Nat → Int32} {L : Nat} {x0 : Nat} {x1 : Int32} {x2 : Int32} {x3 : Int32} {hp : m_H} {x : Int32} (h : F6_yearly x0 x1 x2 x3 hp = some x) : m_Rn xs L 2 1207 0 (lv_args 0 [.ref x0, .int x1, .int x2, .int x3]) [] hp (.inl (some (.int x)), hp) :=
  r_lv (SF6_yearly_0 x0 x1 x2 x3 hp (K := fun y => y = x) (fun y e => by rw [e]) h rfl) rfl ⟨rfl, rfl, rfl, rfl, trivial⟩
-- F6_doesLast: LendHouse$Plans.doesLast(LLendHouse$House;I)Z
theorem eF6_doesLast_0 : m_Fe mi6_6 0 (m_ap [(.iconst 0, 1), (.istore_n 2, 1)] ([])) := m_Fe_of nd1206 0 2 rfl
theorem eF6_doesLast_2 : m_Fe mi6_6 2 (m_ap [(.iload_n 2, 1), (.iconst 5, 1)] ([(.if_icmp .ge 104, 3)])) := m_Fe_of nd1206 2 3 rfl
theorem eF6_doesLast_108 : m_Fe mi6_6 108 (m_ap [(.iconst 1, 1)] ([(.ireturn, 1)])) := m_Fe_of nd1206 61 2 rfl
theorem eF6_doesLast_7 : m_Fe mi6_6 7 (m_ap [(.aload_n 0, 1), (.iload_n 1, 1), (.iload_n 2, 1), (.iconst 0, 1)] ((.invokestatic 66, 3) :: (m_ap [(.istore_n 3, 1), (.aload_n 0, 1), (.iload_n 1, 1), (.iload_n 2, 1), (.iconst 1, 1)] ((.invokestatic 66, 3) :: (m_ap [(.istore 4, 2), (.aload_n 0, 1), (.iload_n 1, 1), (.iload_n 2, 1), (.iconst 2, 1)] ((.invokestatic 66, 3) :: (m_ap [(.istore 5, 2), (.iconst 0, 1), (.istore 6, 2)] ([])))))))) := m_Fe_of nd1206 5 20 rfl
theorem eF6_doesLast_36 : m_Fe mi6_6 36 (m_ap [(.iload 6, 2), (.iconst 3, 1)] ([(.if_icmp .ge 63, 3)])) := m_Fe_of nd1206 25 3 rfl
theorem eF6_doesLast_102 : m_Fe mi6_6 102 (m_ap [(.iinc 2 1, 3)] ([(.goto (-103), 3)])) := m_Fe_of nd1206 59 2 rfl
theorem eF6_doesLast_42 : m_Fe mi6_6 42 (m_ap [(.iload 6, 2), (.iconst 5, 1), (.imul, 1), (.iload_n 2, 1), (.iadd, 1), (.istore 7, 2), (.iload_n 3, 1), (.aload_n 0, 1)] ((.getfield 80, 3) :: (m_ap [(.iload 7, 2), (.iconst 0, 1)] ((.invokevirtual 44, 3) :: ([(.if_icmp .gt 33, 3)]))))) := m_Fe_of nd1206 28 13 rfl
theorem eF6_doesLast_94 : m_Fe mi6_6 94 (m_ap [(.iconst 0, 1)] ([(.ireturn, 1)])) := m_Fe_of nd1206 55 2 rfl
theorem eF6_doesLast_64 : m_Fe mi6_6 64 (m_ap [(.iload 4, 2), (.aload_n 0, 1)] ((.getfield 80, 3) :: (m_ap [(.iload 7, 2), (.iconst 1, 1)] ((.invokevirtual 44, 3) :: ([(.if_icmp .lt 18, 3)]))))) := m_Fe_of nd1206 41 7 rfl
theorem eF6_doesLast_79 : m_Fe mi6_6 79 (m_ap [(.iload 5, 2), (.aload_n 0, 1)] ((.getfield 80, 3) :: (m_ap [(.iload 7, 2), (.iconst 2, 1)] ((.invokevirtual 44, 3) :: ([(.if_icmp .ge 5, 3)]))))) := m_Fe_of nd1206 48 7 rfl
theorem eF6_doesLast_96 : m_Fe mi6_6 96 (m_ap [(.iinc 6 1, 3)] ([(.goto (-63), 3)])) := m_Fe_of nd1206 57 2 rfl
theorem SF6_doesLast_36b {xs : Nat → Int32} {L : Nat} (x0 : Nat) (x1 : Int32) (x2 : Int32) (x3 : Int32) (x4 : Int32) (x5 : Int32) (hp : m_H) (s : Int32) {r : m_O × m_H} {K : (Int32 ⊕ (Int32 ⊕ Int32)) → Prop} (k0 : ∀ x, K (.inr (.inr x)) → r = (.inl (some (.int x)), hp)) (k1 : ∀ s, K (.inr (.inl s)) → m_Rn xs L 3 1206 2 [(0, .ref x0), (1, .int x1), (2, .int s)] [] hp r) (k2 : ∀ s, K (.inl s) → m_Rn xs L 3 1206 36 [(0, .ref x0), (1, .int x1), (2, .int x2), (3, .int x3), (4, .int x4), (5, .int x5), (6, .int s)] [] hp r) {t : Int32 ⊕ (Int32 ⊕ Int32)} (h : F6_doesLast_36b x0 x1 x2 x3 x4 x5 hp s = some t) (hK : K t) : m_Rn xs L 3 1206 36 [(0, .ref x0), (1, .int x1), (2, .int x2), (3, .int x3), (4, .int x4), (5, .int x5), (6, .int s)] [] hp r := by
  unfold F6_doesLast_36b at h
  refine g_in eF6_doesLast_36 mx1206 ?_
  refine g_ch [(0, .ref x0), (1, .int x1), (2, .int x2), (3, .int x3), (4, .int x4), (5, .int x5), (6, .int s)] [.int 3, .int s] (pc' := 39) rfl rfl rfl ?_
  rcases m_ifd h with ⟨c1, h⟩ | ⟨c1, h⟩
  · refine g_if (t := 102) rfl (m_geT c1) ?_
    refine g_in eF6_doesLast_102 mx1206 ?_
    refine g_ch [(2, .int (x2 + 1)), (0, .ref x0), (1, .int x1), (3, .int x3), (4, .int x4), (5, .int x5), (6, .int s)] [] (pc' := 105) rfl rfl rfl ?_
    refine g_goto (t := 2) rfl ?_
    cases h
    exact r_lv (k1 (x2 + 1) hK) rfl ⟨rfl, rfl, rfl, trivial⟩
  · refine g_ifn (t := 102) rfl (m_geF c1) ?_
    refine g_in eF6_doesLast_42 mx1206 ?_
    refine g_ch [(7, .int ((s * 5) + x2)), (0, .ref x0), (1, .int x1), (2, .int x2), (3, .int x3), (4, .int x4), (5, .int x5), (6, .int s)] [.ref x0, .int x3] (pc' := 52) rfl rfl rfl ?_
    obtain ⟨v2, e3, h⟩ := m_bd h
    refine g_gr q6_f80 e3 ?_
    refine g_ch [(7, .int ((s * 5) + x2)), (0, .ref x0), (1, .int x1), (2, .int x2), (3, .int x3), (4, .int x4), (5, .int x5), (6, .int s)] [.int 0, .int ((s * 5) + x2), .ref v2, .int x3] (pc' := 58) rfl rfl rfl ?_
    obtain ⟨v5, e4, h⟩ := m_bd h
    refine g_call (v := some (.int v5)) (h := hp) (st' := [.int v5, .int x3]) (D1 := 1) (as := [.ref v2, .int ((s * 5) + x2), .int 0]) (Or.inr (Or.inl rfl)) q6_m44 (m_cv (as := [.int 0, .int ((s * 5) + x2)]) (rest := [.int x3]) (Or.inl rfl) q6_m44 jv1604 (OF8_get e4) rfl rfl rfl rfl) (by decide) (SF8_get e4) rfl ?_
    rcases m_ifd h with ⟨c6, h⟩ | ⟨c6, h⟩
    · refine g_if (t := 94) rfl (m_gtT c6) ?_
      refine g_in eF6_doesLast_94 mx1206 ?_
      refine g_ch [(7, .int ((s * 5) + x2)), (0, .ref x0), (1, .int x1), (2, .int x2), (3, .int x3), (4, .int x4), (5, .int x5), (6, .int s)] [.int 0] (pc' := 95) rfl rfl rfl ?_
      cases h
      rw [k0 _ hK]
      exact g_iret rfl (by decide +kernel)
    · refine g_ifn (t := 94) rfl (m_gtF c6) ?_
      refine g_in eF6_doesLast_64 mx1206 ?_
      refine g_ch [(7, .int ((s * 5) + x2)), (0, .ref x0), (1, .int x1), (2, .int x2), (3, .int x3), (4, .int x4), (5, .int x5), (6, .int s)] [.ref x0, .int x4] (pc' := 67) rfl rfl rfl ?_
      obtain ⟨v7, e8, h⟩ := m_bd h
      refine g_gr q6_f80 e8 ?_
      refine g_ch [(7, .int ((s * 5) + x2)), (0, .ref x0), (1, .int x1), (2, .int x2), (3, .int x3), (4, .int x4), (5, .int x5), (6, .int s)] [.int 1, .int ((s * 5) + x2), .ref v7, .int x4] (pc' := 73) rfl rfl rfl ?_
      obtain ⟨v10, e9, h⟩ := m_bd h
      refine g_call (v := some (.int v10)) (h := hp) (st' := [.int v10, .int x4]) (D1 := 1) (as := [.ref v7, .int ((s * 5) + x2), .int 1]) (Or.inr (Or.inl rfl)) q6_m44 (m_cv (as := [.int 1, .int ((s * 5) + x2)]) (rest := [.int x4]) (Or.inl rfl) q6_m44 jv1604 (OF8_get e9) rfl rfl rfl rfl) (by decide) (SF8_get e9) rfl ?_
      rcases m_ifd h with ⟨c11, h⟩ | ⟨c11, h⟩
      · refine g_if (t := 94) rfl (m_ltT c11) ?_
        refine g_in eF6_doesLast_94 mx1206 ?_
        refine g_ch [(7, .int ((s * 5) + x2)), (0, .ref x0), (1, .int x1), (2, .int x2), (3, .int x3), (4, .int x4), (5, .int x5), (6, .int s)] [.int 0] (pc' := 95) rfl rfl rfl ?_
        cases h
        rw [k0 _ hK]
        exact g_iret rfl (by decide +kernel)
      · refine g_ifn (t := 94) rfl (m_ltF c11) ?_
        refine g_in eF6_doesLast_79 mx1206 ?_
        refine g_ch [(7, .int ((s * 5) + x2)), (0, .ref x0), (1, .int x1), (2, .int x2), (3, .int x3), (4, .int x4), (5, .int x5), (6, .int s)] [.ref x0, .int x5] (pc' := 82) rfl rfl rfl ?_
        obtain ⟨v12, e13, h⟩ := m_bd h
        refine g_gr q6_f80 e13 ?_
        refine g_ch [(7, .int ((s * 5) + x2)), (0, .ref x0), (1, .int x1), (2, .int x2), (3, .int x3), (4, .int x4), (5, .int x5), (6, .int s)] [.int 2, .int ((s * 5) + x2), .ref v12, .int x5] (pc' := 88) rfl rfl rfl ?_
        obtain ⟨v15, e14, h⟩ := m_bd h
        refine g_call (v := some (.int v15)) (h := hp) (st' := [.int v15, .int x5]) (D1 := 1) (as := [.ref v12, .int ((s * 5) + x2), .int 2]) (Or.inr (Or.inl rfl)) q6_m44 (m_cv (as := [.int 2, .int ((s * 5) + x2)]) (rest := [.int x5]) (Or.inl rfl) q6_m44 jv1604 (OF8_get e14) rfl rfl rfl rfl) (by decide) (SF8_get e14) rfl ?_
        rcases m_ifd h with ⟨c16, h⟩ | ⟨c16, h⟩
        · refine g_if (t := 96) rfl (m_geT c16) ?_
          refine g_in eF6_doesLast_96 mx1206 ?_
          refine g_ch [(6, .int (s + 1)), (7, .int ((s * 5) + x2)), (0, .ref x0), (1, .int x1), (2, .int x2), (3, .int x3), (4, .int x4), (5, .int x5)] [] (pc' := 99) rfl rfl rfl ?_
          refine g_goto (t := 36) rfl ?_
          cases h
          exact r_lv (k2 (s + 1) hK) rfl ⟨rfl, rfl, rfl, rfl, rfl, rfl, rfl, trivial⟩
        · refine g_ifn (t := 96) rfl (m_geF c16) ?_
          refine g_in eF6_doesLast_94 mx1206 ?_
          refine g_ch [(7, .int ((s * 5) + x2)), (0, .ref x0), (1, .int x1), (2, .int x2), (3, .int x3), (4, .int x4), (5, .int x5), (6, .int s)] [.int 0] (pc' := 95) rfl rfl rfl ?_
          cases h
          rw [k0 _ hK]
          exact g_iret rfl (by decide +kernel)
theorem SF6_doesLast_36 {xs : Nat → Int32} {L : Nat} (x0 : Nat) (x1 : Int32) (x2 : Int32) (x3 : Int32) (x4 : Int32) (x5 : Int32) (x6 : Int32) (hp : m_H) {r : m_O × m_H} {K : Int32 ⊕ Int32 → Prop} (k0 : ∀ x, K (.inr x) → r = (.inl (some (.int x)), hp)) (k1 : ∀ s, K (.inl s) → m_Rn xs L 3 1206 2 [(0, .ref x0), (1, .int x1), (2, .int s)] [] hp r) {t : Int32 ⊕ Int32} (h : F6_doesLast_36 x0 x1 x2 x3 x4 x5 x6 hp = some t) (hK : K t) : m_Rn xs L 3 1206 36 [(0, .ref x0), (1, .int x1), (2, .int x2), (3, .int x3), (4, .int x4), (5, .int x5), (6, .int x6)] [] hp r :=
  m_wh_ok (P := fun s => m_Rn xs L 3 1206 36 [(0, .ref x0), (1, .int x1), (2, .int x2), (3, .int x3), (4, .int x4), (5, .int x5), (6, .int s)] [] hp r) (Q := K) (fun s t hb hK => SF6_doesLast_36b x0 x1 x2 x3 x4 x5 hp s (K := m_KK (fun s => m_Rn xs L 3 1206 36 [(0, .ref x0), (1, .int x1), (2, .int x2), (3, .int x3), (4, .int x4), (5, .int x5), (6, .int s)] [] hp r) K) k0 k1 (fun _ q => q) hb hK) m_N _ _ h hK
theorem SF6_doesLast_2b {xs : Nat → Int32} {L : Nat} (x0 : Nat) (x1 : Int32) (hp : m_H) (s : Int32) {r : m_O × m_H} {K : (Int32 ⊕ Int32) → Prop} (k0 : ∀ x, K (.inr x) → r = (.inl (some (.int x)), hp)) (k1 : ∀ s, K (.inl s) → m_Rn xs L 3 1206 2 [(0, .ref x0), (1, .int x1), (2, .int s)] [] hp r) {t : Int32 ⊕ Int32} (h : F6_doesLast_2b x0 x1 hp s = some t) (hK : K t) : m_Rn xs L 3 1206 2 [(0, .ref x0), (1, .int x1), (2, .int s)] [] hp r := by
  unfold F6_doesLast_2b at h
  refine g_in eF6_doesLast_2 mx1206 ?_
  refine g_ch [(0, .ref x0), (1, .int x1), (2, .int s)] [.int 5, .int s] (pc' := 4) rfl rfl rfl ?_
  rcases m_ifd h with ⟨c1, h⟩ | ⟨c1, h⟩
  · refine g_if (t := 108) rfl (m_geT c1) ?_
    refine g_in eF6_doesLast_108 mx1206 ?_
    refine g_ch [(0, .ref x0), (1, .int x1), (2, .int s)] [.int 1] (pc' := 109) rfl rfl rfl ?_
    cases h
    rw [k0 _ hK]
    exact g_iret rfl (by decide +kernel)
  · refine g_ifn (t := 108) rfl (m_geF c1) ?_
    refine g_in eF6_doesLast_7 mx1206 ?_
    refine g_ch [(0, .ref x0), (1, .int x1), (2, .int s)] [.int 0, .int s, .int x1, .ref x0] (pc' := 11) rfl rfl rfl ?_
    obtain ⟨v3, e2, h⟩ := m_bd h
    refine g_call (v := some (.int v3)) (h := hp) (st' := [.int v3]) (D1 := 2) (as := [.ref x0, .int x1, .int s, .int 0]) (Or.inl rfl) q6_m66 (m_cs (as := [.int 0, .int s, .int x1, .ref x0]) (rest := []) q6_m66 jv1207 rfl rfl rfl rfl rfl) (by decide) (SF6_yearly e2) rfl ?_
    refine g_ch [(3, .int v3), (0, .ref x0), (1, .int x1), (2, .int s)] [.int 1, .int s, .int x1, .ref x0] (pc' := 19) rfl rfl rfl ?_
    obtain ⟨v5, e4, h⟩ := m_bd h
    refine g_call (v := some (.int v5)) (h := hp) (st' := [.int v5]) (D1 := 2) (as := [.ref x0, .int x1, .int s, .int 1]) (Or.inl rfl) q6_m66 (m_cs (as := [.int 1, .int s, .int x1, .ref x0]) (rest := []) q6_m66 jv1207 rfl rfl rfl rfl rfl) (by decide) (SF6_yearly e4) rfl ?_
    refine g_ch [(4, .int v5), (3, .int v3), (0, .ref x0), (1, .int x1), (2, .int s)] [.int 2, .int s, .int x1, .ref x0] (pc' := 28) rfl rfl rfl ?_
    obtain ⟨v7, e6, h⟩ := m_bd h
    refine g_call (v := some (.int v7)) (h := hp) (st' := [.int v7]) (D1 := 2) (as := [.ref x0, .int x1, .int s, .int 2]) (Or.inl rfl) q6_m66 (m_cs (as := [.int 2, .int s, .int x1, .ref x0]) (rest := []) q6_m66 jv1207 rfl rfl rfl rfl rfl) (by decide) (SF6_yearly e6) rfl ?_
    refine g_ch [(6, .int 0), (5, .int v7), (4, .int v5), (3, .int v3), (0, .ref x0), (1, .int x1), (2, .int s)] [] (pc' := 36) rfl rfl rfl ?_
    refine g_end ?_
    exact r_lv (SF6_doesLast_36 x0 x1 s v3 v5 v7 0 hp (K := K) k0 k1 h hK) rfl ⟨rfl, rfl, rfl, rfl, rfl, rfl, rfl, trivial⟩
theorem SF6_doesLast_2 {xs : Nat → Int32} {L : Nat} (x0 : Nat) (x1 : Int32) (x2 : Int32) (hp : m_H) {r : m_O × m_H} {K : Int32 → Prop} (k0 : ∀ x, K x → r = (.inl (some (.int x)), hp)) {t : Int32} (h : F6_doesLast_2 x0 x1 x2 hp = some t) (hK : K t) : m_Rn xs L 3 1206 2 [(0, .ref x0), (1, .int x1), (2, .int x2)] [] hp r :=
  m_wh_ok (P := fun s => m_Rn xs L 3 1206 2 [(0, .ref x0), (1, .int x1), (2, .int s)] [] hp r) (Q := K) (fun s t hb hK => SF6_doesLast_2b x0 x1 hp s (K := m_KK (fun s => m_Rn xs L 3 1206 2 [(0, .ref x0), (1, .int x1), (2, .int s)] [] hp r) K) k0 (fun _ q => q) hb hK) m_N _ _ h hK
theorem SF6_doesLast_0 {xs : Nat → Int32} {L : Nat} (x0 : Nat) (x1 : Int32) (hp : m_H) {r : m_O × m_H} {K : Int32 → Prop} (k0 : ∀ x, K x → r = (.inl (some (.int x)), hp)) {t : Int32} (h : F6_doesLast_0 x0 x1 hp = some t) (hK : K t) : m_Rn xs L 3 1206 0 [(0, .ref x0), (1, .int x1)] [] hp r := by
  unfold F6_doesLast_0 at h
  refine g_in eF6_doesLast_0 mx1206 ?_
  refine g_ch [(2, .int 0), (0, .ref x0), (1, .int x1)] [] (pc' := 2) rfl rfl rfl ?_
  refine g_end ?_
  exact r_lv (SF6_doesLast_2 x0 x1 0 hp (K := K) k0 h hK) rfl ⟨rfl, rfl, rfl, trivial⟩
theorem SF6_doesLast {xs : Nat → Int32} {L : Nat} {x0 : Nat} {x1 : Int32} {hp : m_H} {x : Int32} (h : F6_doesLast x0 x1 hp = some x) : m_Rn xs L 3 1206 0 (lv_args 0 [.ref x0, .int x1]) [] hp (.inl (some (.int x)), hp) :=
  r_lv (SF6_doesLast_0 x0 x1 hp (K := fun y => y = x) (fun y e => by rw [e]) h rfl) rfl ⟨rfl, rfl, trivial⟩
-- F6_choicesThatLast: LendHouse$Plans.choicesThatLast(LLendHouse$House;)I
theorem eF6_choicesThatLast_0 : m_Fe mi6_5 0 (m_ap [(.iconst (-1), 1), (.istore_n 1, 1), (.iconst 0, 1), (.istore_n 2, 1), (.iconst 0, 1), (.istore_n 3, 1)] ([])) := m_Fe_of nd1205 0 6 rfl
theorem eF6_choicesThatLast_6 : m_Fe mi6_5 6 (m_ap [(.iload_n 3, 1), (.iconst 1, 1), (.aload_n 0, 1)] ((.getfield 63, 3) :: ((.getfield 15, 3) :: (m_ap [(.ishl, 1)] ([(.if_icmp .ge 93, 3)]))))) := m_Fe_of nd1205 6 7 rfl
theorem eF6_choicesThatLast_109 : m_Fe mi6_5 109 (m_ap [(.iload_n 1, 1)] ([(.ireturn, 1)])) := m_Fe_of nd1205 60 2 rfl
theorem eF6_choicesThatLast_19 : m_Fe mi6_5 19 (m_ap [(.iconst 0, 1), (.istore 4, 2), (.iconst 0, 1), (.istore 5, 2)] ([])) := m_Fe_of nd1205 13 4 rfl
theorem eF6_choicesThatLast_25 : m_Fe mi6_5 25 (m_ap [(.iload 5, 2), (.iconst 5, 1)] ([(.if_icmp .ge 22, 3)])) := m_Fe_of nd1205 17 3 rfl
theorem eF6_choicesThatLast_50 : m_Fe mi6_5 50 (m_ap [(.iload_n 1, 1), (.iconst (-1), 1)] ([(.if_icmp .eq 26, 3)])) := m_Fe_of nd1205 30 3 rfl
theorem eF6_choicesThatLast_55 : m_Fe mi6_5 55 (m_ap [(.iload 4, 2), (.iload_n 2, 1)] ([(.if_icmp .lt 20, 3)])) := m_Fe_of nd1205 33 3 rfl
theorem eF6_choicesThatLast_61 : m_Fe mi6_5 61 (m_ap [(.iload 4, 2), (.iload_n 2, 1)] ([(.if_icmp .ne 18, 3)])) := m_Fe_of nd1205 36 3 rfl
theorem eF6_choicesThatLast_67 : m_Fe mi6_5 67 (m_ap [(.iload_n 3, 1)] ((.invokestatic 70, 3) :: (m_ap [(.iload_n 1, 1)] ((.invokestatic 70, 3) :: ([(.if_icmp .ge 7, 3)]))))) := m_Fe_of nd1205 39 5 rfl
theorem eF6_choicesThatLast_31 : m_Fe mi6_5 31 (m_ap [(.iload 4, 2), (.aload_n 0, 1), (.iload_n 3, 1), (.iload 5, 2), (.iconst 0, 1)] ((.invokestatic 66, 3) :: (m_ap [(.iadd, 1), (.istore 4, 2), (.iinc 5 1, 3)] ([(.goto (-22), 3)])))) := m_Fe_of nd1205 20 10 rfl
theorem eF6_choicesThatLast_78 : m_Fe mi6_5 78 (m_ap [(.iconst 1, 1)] ([(.goto 4, 3)])) := m_Fe_of nd1205 44 2 rfl
theorem eF6_choicesThatLast_82 : m_Fe mi6_5 82 (m_ap [(.iconst 0, 1)] ([])) := m_Fe_of nd1205 46 1 rfl
theorem eF6_choicesThatLast_83 : m_Fe mi6_5 83 (m_ap [(.istore 5, 2), (.iload 5, 2)] ([(.ifCond .eq 16, 3)])) := m_Fe_of nd1205 47 3 rfl
theorem eF6_choicesThatLast_103 : m_Fe mi6_5 103 (m_ap [(.iinc 3 1, 3)] ([(.goto (-100), 3)])) := m_Fe_of nd1205 58 2 rfl
theorem eF6_choicesThatLast_90 : m_Fe mi6_5 90 (m_ap [(.aload_n 0, 1), (.iload_n 3, 1)] ((.invokestatic 76, 3) :: ([(.ifCond .eq 8, 3)]))) := m_Fe_of nd1205 50 4 rfl
theorem eF6_choicesThatLast_98 : m_Fe mi6_5 98 (m_ap [(.iload_n 3, 1), (.istore_n 1, 1), (.iload 4, 2), (.istore_n 2, 1)] ([])) := m_Fe_of nd1205 54 4 rfl
theorem SF6_choicesThatLast_83 {xs : Nat → Int32} {L : Nat} (x0 : Nat) (x1 : Int32) (x2 : Int32) (x3 : Int32) (x4 : Int32) (s0 : Int32) (hp : m_H) {r : m_O × m_H} {K : ((Int32 × Int32 × Int32) ⊕ Int32) → Prop} (k0 : ∀ x, K (.inr x) → r = (.inl (some (.int x)), hp)) (k1 : ∀ s, K (.inl s) → m_Rn xs L 4 1205 6 [(0, .ref x0), (1, .int s.1), (2, .int s.2.1), (3, .int s.2.2)] [] hp r) {t : (Int32 × Int32 × Int32) ⊕ Int32} (h : F6_choicesThatLast_83 x0 x1 x2 x3 x4 s0 hp = some t) (hK : K t) : m_Rn xs L 4 1205 83 [(0, .ref x0), (1, .int x1), (2, .int x2), (3, .int x3), (4, .int x4)] [.int s0] hp r := by
  unfold F6_choicesThatLast_83 at h
  refine g_in eF6_choicesThatLast_83 mx1205 ?_
  refine g_ch [(5, .int s0), (0, .ref x0), (1, .int x1), (2, .int x2), (3, .int x3), (4, .int x4)] [.int s0] (pc' := 87) rfl rfl rfl ?_
  rcases m_ifd h with ⟨c1, h⟩ | ⟨c1, h⟩
  · refine g_ifc (t := 103) rfl (m_eqT c1) ?_
    refine g_in eF6_choicesThatLast_103 mx1205 ?_
    refine g_ch [(3, .int (x3 + 1)), (5, .int s0), (0, .ref x0), (1, .int x1), (2, .int x2), (4, .int x4)] [] (pc' := 106) rfl rfl rfl ?_
    refine g_goto (t := 6) rfl ?_
    cases h
    exact r_lv (k1 (x1, x2, (x3 + 1)) hK) rfl ⟨rfl, rfl, rfl, rfl, trivial⟩
  · refine g_ifcn (t := 103) rfl (m_eqF c1) ?_
    refine g_in eF6_choicesThatLast_90 mx1205 ?_
    refine g_ch [(5, .int s0), (0, .ref x0), (1, .int x1), (2, .int x2), (3, .int x3), (4, .int x4)] [.int x3, .ref x0] (pc' := 92) rfl rfl rfl ?_
    obtain ⟨v3, e2, h⟩ := m_bd h
    refine g_call (v := some (.int v3)) (h := hp) (st' := [.int v3]) (D1 := 3) (as := [.ref x0, .int x3]) (Or.inl rfl) q6_m76 (m_cs (as := [.int x3, .ref x0]) (rest := []) q6_m76 jv1206 rfl rfl rfl rfl rfl) (by decide) (SF6_doesLast e2) rfl ?_
    rcases m_ifd h with ⟨c4, h⟩ | ⟨c4, h⟩
    · refine g_ifc (t := 103) rfl (m_eqT c4) ?_
      refine g_in eF6_choicesThatLast_103 mx1205 ?_
      refine g_ch [(3, .int (x3 + 1)), (5, .int s0), (0, .ref x0), (1, .int x1), (2, .int x2), (4, .int x4)] [] (pc' := 106) rfl rfl rfl ?_
      refine g_goto (t := 6) rfl ?_
      cases h
      exact r_lv (k1 (x1, x2, (x3 + 1)) hK) rfl ⟨rfl, rfl, rfl, rfl, trivial⟩
    · refine g_ifcn (t := 103) rfl (m_eqF c4) ?_
      refine g_in eF6_choicesThatLast_98 mx1205 ?_
      refine g_ch [(2, .int x4), (1, .int x3), (5, .int s0), (0, .ref x0), (3, .int x3), (4, .int x4)] [] (pc' := 103) rfl rfl rfl ?_
      refine g_end ?_
      refine g_in eF6_choicesThatLast_103 mx1205 ?_
      refine g_ch [(3, .int (x3 + 1)), (2, .int x4), (1, .int x3), (5, .int s0), (0, .ref x0), (4, .int x4)] [] (pc' := 106) rfl rfl rfl ?_
      refine g_goto (t := 6) rfl ?_
      cases h
      exact r_lv (k1 (x3, x4, (x3 + 1)) hK) rfl ⟨rfl, rfl, rfl, rfl, trivial⟩
theorem SF6_choicesThatLast_78 {xs : Nat → Int32} {L : Nat} (x0 : Nat) (x1 : Int32) (x2 : Int32) (x3 : Int32) (x4 : Int32) (hp : m_H) {r : m_O × m_H} {K : ((Int32 × Int32 × Int32) ⊕ Int32) → Prop} (k0 : ∀ x, K (.inr x) → r = (.inl (some (.int x)), hp)) (k1 : ∀ s, K (.inl s) → m_Rn xs L 4 1205 6 [(0, .ref x0), (1, .int s.1), (2, .int s.2.1), (3, .int s.2.2)] [] hp r) {t : (Int32 × Int32 × Int32) ⊕ Int32} (h : F6_choicesThatLast_78 x0 x1 x2 x3 x4 hp = some t) (hK : K t) : m_Rn xs L 4 1205 78 [(0, .ref x0), (1, .int x1), (2, .int x2), (3, .int x3), (4, .int x4)] [] hp r := by
  unfold F6_choicesThatLast_78 at h
  refine g_in eF6_choicesThatLast_78 mx1205 ?_
  refine g_ch [(0, .ref x0), (1, .int x1), (2, .int x2), (3, .int x3), (4, .int x4)] [.int 1] (pc' := 79) rfl rfl rfl ?_
  refine g_goto (t := 83) rfl ?_
  exact r_lv (SF6_choicesThatLast_83 x0 x1 x2 x3 x4 1 hp (K := K) k0 k1 h hK) rfl ⟨rfl, rfl, rfl, rfl, rfl, trivial⟩
theorem SF6_choicesThatLast_82 {xs : Nat → Int32} {L : Nat} (x0 : Nat) (x1 : Int32) (x2 : Int32) (x3 : Int32) (x4 : Int32) (hp : m_H) {r : m_O × m_H} {K : ((Int32 × Int32 × Int32) ⊕ Int32) → Prop} (k0 : ∀ x, K (.inr x) → r = (.inl (some (.int x)), hp)) (k1 : ∀ s, K (.inl s) → m_Rn xs L 4 1205 6 [(0, .ref x0), (1, .int s.1), (2, .int s.2.1), (3, .int s.2.2)] [] hp r) {t : (Int32 × Int32 × Int32) ⊕ Int32} (h : F6_choicesThatLast_82 x0 x1 x2 x3 x4 hp = some t) (hK : K t) : m_Rn xs L 4 1205 82 [(0, .ref x0), (1, .int x1), (2, .int x2), (3, .int x3), (4, .int x4)] [] hp r := by
  unfold F6_choicesThatLast_82 at h
  refine g_in eF6_choicesThatLast_82 mx1205 ?_
  refine g_ch [(0, .ref x0), (1, .int x1), (2, .int x2), (3, .int x3), (4, .int x4)] [.int 0] (pc' := 83) rfl rfl rfl ?_
  refine g_end ?_
  exact r_lv (SF6_choicesThatLast_83 x0 x1 x2 x3 x4 0 hp (K := K) k0 k1 h hK) rfl ⟨rfl, rfl, rfl, rfl, rfl, trivial⟩
theorem SF6_choicesThatLast_25b {xs : Nat → Int32} {L : Nat} (x0 : Nat) (x1 : Int32) (x2 : Int32) (x3 : Int32) (hp : m_H) (s : Int32 × Int32) {r : m_O × m_H} {K : ((Int32 × Int32) ⊕ ((Int32 × Int32 × Int32) ⊕ Int32)) → Prop} (k0 : ∀ x, K (.inr (.inr x)) → r = (.inl (some (.int x)), hp)) (k1 : ∀ s, K (.inr (.inl s)) → m_Rn xs L 4 1205 6 [(0, .ref x0), (1, .int s.1), (2, .int s.2.1), (3, .int s.2.2)] [] hp r) (k2 : ∀ s, K (.inl s) → m_Rn xs L 4 1205 25 [(0, .ref x0), (1, .int x1), (2, .int x2), (3, .int x3), (4, .int s.1), (5, .int s.2)] [] hp r) {t : (Int32 × Int32) ⊕ ((Int32 × Int32 × Int32) ⊕ Int32)} (h : F6_choicesThatLast_25b x0 x1 x2 x3 hp s = some t) (hK : K t) : m_Rn xs L 4 1205 25 [(0, .ref x0), (1, .int x1), (2, .int x2), (3, .int x3), (4, .int s.1), (5, .int s.2)] [] hp r := by
  unfold F6_choicesThatLast_25b at h
  refine g_in eF6_choicesThatLast_25 mx1205 ?_
  refine g_ch [(0, .ref x0), (1, .int x1), (2, .int x2), (3, .int x3), (4, .int s.1), (5, .int s.2)] [.int 5, .int s.2] (pc' := 28) rfl rfl rfl ?_
  rcases m_ifd h with ⟨c1, h⟩ | ⟨c1, h⟩
  · refine g_if (t := 50) rfl (m_geT c1) ?_
    refine g_in eF6_choicesThatLast_50 mx1205 ?_
    refine g_ch [(0, .ref x0), (1, .int x1), (2, .int x2), (3, .int x3), (4, .int s.1), (5, .int s.2)] [.int (-1), .int x1] (pc' := 52) rfl rfl rfl ?_
    rcases m_ifd h with ⟨c2, h⟩ | ⟨c2, h⟩
    · refine g_if (t := 78) rfl (m_eqT c2) ?_
      obtain ⟨t', h2, rfl⟩ := Option.map_eq_some_iff.mp h
      exact r_lv (SF6_choicesThatLast_78 x0 x1 x2 x3 s.1 hp (K := fun t => K (.inr t)) k0 k1 h2 hK) rfl ⟨rfl, rfl, rfl, rfl, rfl, trivial⟩
    · refine g_ifn (t := 78) rfl (m_eqF c2) ?_
      refine g_in eF6_choicesThatLast_55 mx1205 ?_
      refine g_ch [(0, .ref x0), (1, .int x1), (2, .int x2), (3, .int x3), (4, .int s.1), (5, .int s.2)] [.int x2, .int s.1] (pc' := 58) rfl rfl rfl ?_
      rcases m_ifd h with ⟨c3, h⟩ | ⟨c3, h⟩
      · refine g_if (t := 78) rfl (m_ltT c3) ?_
        obtain ⟨t', h2, rfl⟩ := Option.map_eq_some_iff.mp h
        exact r_lv (SF6_choicesThatLast_78 x0 x1 x2 x3 s.1 hp (K := fun t => K (.inr t)) k0 k1 h2 hK) rfl ⟨rfl, rfl, rfl, rfl, rfl, trivial⟩
      · refine g_ifn (t := 78) rfl (m_ltF c3) ?_
        refine g_in eF6_choicesThatLast_61 mx1205 ?_
        refine g_ch [(0, .ref x0), (1, .int x1), (2, .int x2), (3, .int x3), (4, .int s.1), (5, .int s.2)] [.int x2, .int s.1] (pc' := 64) rfl rfl rfl ?_
        rcases m_ifd h with ⟨c4, h⟩ | ⟨c4, h⟩
        · refine g_ifn (t := 82) rfl (m_neF c4) ?_
          refine g_in eF6_choicesThatLast_67 mx1205 ?_
          refine g_ch [(0, .ref x0), (1, .int x1), (2, .int x2), (3, .int x3), (4, .int s.1), (5, .int s.2)] [.int x3] (pc' := 68) rfl rfl rfl ?_
          obtain ⟨v6, e5, h⟩ := m_bd h
          refine g_call (v := some (.int v6)) (h := hp) (st' := [.int v6]) (D1 := 0) (as := [.int x3]) (Or.inl rfl) q6_m70 (m_cs (as := [.int x3]) (rest := []) q6_m70 jv2800 rfl rfl rfl rfl rfl) (by decide) (SF14_bitCount e5) rfl ?_
          refine g_ch [(0, .ref x0), (1, .int x1), (2, .int x2), (3, .int x3), (4, .int s.1), (5, .int s.2)] [.int x1, .int v6] (pc' := 72) rfl rfl rfl ?_
          obtain ⟨v8, e7, h⟩ := m_bd h
          refine g_call (v := some (.int v8)) (h := hp) (st' := [.int v8, .int v6]) (D1 := 0) (as := [.int x1]) (Or.inl rfl) q6_m70 (m_cs (as := [.int x1]) (rest := [.int v6]) q6_m70 jv2800 rfl rfl rfl rfl rfl) (by decide) (SF14_bitCount e7) rfl ?_
          rcases m_ifd h with ⟨c9, h⟩ | ⟨c9, h⟩
          · refine g_if (t := 82) rfl (m_geT c9) ?_
            obtain ⟨t', h2, rfl⟩ := Option.map_eq_some_iff.mp h
            exact r_lv (SF6_choicesThatLast_82 x0 x1 x2 x3 s.1 hp (K := fun t => K (.inr t)) k0 k1 h2 hK) rfl ⟨rfl, rfl, rfl, rfl, rfl, trivial⟩
          · refine g_ifn (t := 82) rfl (m_geF c9) ?_
            obtain ⟨t', h2, rfl⟩ := Option.map_eq_some_iff.mp h
            exact r_lv (SF6_choicesThatLast_78 x0 x1 x2 x3 s.1 hp (K := fun t => K (.inr t)) k0 k1 h2 hK) rfl ⟨rfl, rfl, rfl, rfl, rfl, trivial⟩
        · refine g_if (t := 82) rfl (m_neT c4) ?_
          obtain ⟨t', h2, rfl⟩ := Option.map_eq_some_iff.mp h
          exact r_lv (SF6_choicesThatLast_82 x0 x1 x2 x3 s.1 hp (K := fun t => K (.inr t)) k0 k1 h2 hK) rfl ⟨rfl, rfl, rfl, rfl, rfl, trivial⟩
  · refine g_ifn (t := 50) rfl (m_geF c1) ?_
    refine g_in eF6_choicesThatLast_31 mx1205 ?_
    refine g_ch [(0, .ref x0), (1, .int x1), (2, .int x2), (3, .int x3), (4, .int s.1), (5, .int s.2)] [.int 0, .int s.2, .int x3, .ref x0, .int s.1] (pc' := 38) rfl rfl rfl ?_
    obtain ⟨v11, e10, h⟩ := m_bd h
    refine g_call (v := some (.int v11)) (h := hp) (st' := [.int v11, .int s.1]) (D1 := 2) (as := [.ref x0, .int x3, .int s.2, .int 0]) (Or.inl rfl) q6_m66 (m_cs (as := [.int 0, .int s.2, .int x3, .ref x0]) (rest := [.int s.1]) q6_m66 jv1207 rfl rfl rfl rfl rfl) (by decide) (SF6_yearly e10) rfl ?_
    refine g_ch [(5, .int (s.2 + 1)), (4, .int (s.1 + v11)), (0, .ref x0), (1, .int x1), (2, .int x2), (3, .int x3)] [] (pc' := 47) rfl rfl rfl ?_
    refine g_goto (t := 25) rfl ?_
    cases h
    exact r_lv (k2 ((s.1 + v11), (s.2 + 1)) hK) rfl ⟨rfl, rfl, rfl, rfl, rfl, rfl, trivial⟩
theorem SF6_choicesThatLast_25 {xs : Nat → Int32} {L : Nat} (x0 : Nat) (x1 : Int32) (x2 : Int32) (x3 : Int32) (x4 : Int32) (x5 : Int32) (hp : m_H) {r : m_O × m_H} {K : (Int32 × Int32 × Int32) ⊕ Int32 → Prop} (k0 : ∀ x, K (.inr x) → r = (.inl (some (.int x)), hp)) (k1 : ∀ s, K (.inl s) → m_Rn xs L 4 1205 6 [(0, .ref x0), (1, .int s.1), (2, .int s.2.1), (3, .int s.2.2)] [] hp r) {t : (Int32 × Int32 × Int32) ⊕ Int32} (h : F6_choicesThatLast_25 x0 x1 x2 x3 x4 x5 hp = some t) (hK : K t) : m_Rn xs L 4 1205 25 [(0, .ref x0), (1, .int x1), (2, .int x2), (3, .int x3), (4, .int x4), (5, .int x5)] [] hp r :=
  m_wh_ok (P := fun s => m_Rn xs L 4 1205 25 [(0, .ref x0), (1, .int x1), (2, .int x2), (3, .int x3), (4, .int s.1), (5, .int s.2)] [] hp r) (Q := K) (fun s t hb hK => SF6_choicesThatLast_25b x0 x1 x2 x3 hp s (K := m_KK (fun s => m_Rn xs L 4 1205 25 [(0, .ref x0), (1, .int x1), (2, .int x2), (3, .int x3), (4, .int s.1), (5, .int s.2)] [] hp r) K) k0 k1 (fun _ q => q) hb hK) m_N _ _ h hK
theorem SF6_choicesThatLast_6b {xs : Nat → Int32} {L : Nat} (x0 : Nat) (hp : m_H) (s : Int32 × Int32 × Int32) {r : m_O × m_H} {K : ((Int32 × Int32 × Int32) ⊕ Int32) → Prop} (k0 : ∀ x, K (.inr x) → r = (.inl (some (.int x)), hp)) (k1 : ∀ s, K (.inl s) → m_Rn xs L 4 1205 6 [(0, .ref x0), (1, .int s.1), (2, .int s.2.1), (3, .int s.2.2)] [] hp r) {t : (Int32 × Int32 × Int32) ⊕ Int32} (h : F6_choicesThatLast_6b x0 hp s = some t) (hK : K t) : m_Rn xs L 4 1205 6 [(0, .ref x0), (1, .int s.1), (2, .int s.2.1), (3, .int s.2.2)] [] hp r := by
  unfold F6_choicesThatLast_6b at h
  refine g_in eF6_choicesThatLast_6 mx1205 ?_
  refine g_ch [(0, .ref x0), (1, .int s.1), (2, .int s.2.1), (3, .int s.2.2)] [.ref x0, .int 1, .int s.2.2] (pc' := 9) rfl rfl rfl ?_
  obtain ⟨v1, e2, h⟩ := m_bd h
  refine g_gr q6_f63 e2 ?_
  obtain ⟨v3, e4, h⟩ := m_bd h
  refine g_gi q6_f15 e4 ?_
  refine g_ch [(0, .ref x0), (1, .int s.1), (2, .int s.2.1), (3, .int s.2.2)] [.int (1 <<< (v3 &&& 31)), .int s.2.2] (pc' := 16) rfl rfl rfl ?_
  rcases m_ifd h with ⟨c5, h⟩ | ⟨c5, h⟩
  · refine g_if (t := 109) rfl (m_geT c5) ?_
    refine g_in eF6_choicesThatLast_109 mx1205 ?_
    refine g_ch [(0, .ref x0), (1, .int s.1), (2, .int s.2.1), (3, .int s.2.2)] [.int s.1] (pc' := 110) rfl rfl rfl ?_
    cases h
    rw [k0 _ hK]
    exact g_iret rfl rfl
  · refine g_ifn (t := 109) rfl (m_geF c5) ?_
    refine g_in eF6_choicesThatLast_19 mx1205 ?_
    refine g_ch [(5, .int 0), (4, .int 0), (0, .ref x0), (1, .int s.1), (2, .int s.2.1), (3, .int s.2.2)] [] (pc' := 25) rfl rfl rfl ?_
    refine g_end ?_
    exact r_lv (SF6_choicesThatLast_25 x0 s.1 s.2.1 s.2.2 0 0 hp (K := K) k0 k1 h hK) rfl ⟨rfl, rfl, rfl, rfl, rfl, rfl, trivial⟩
theorem SF6_choicesThatLast_6 {xs : Nat → Int32} {L : Nat} (x0 : Nat) (x1 : Int32) (x2 : Int32) (x3 : Int32) (hp : m_H) {r : m_O × m_H} {K : Int32 → Prop} (k0 : ∀ x, K x → r = (.inl (some (.int x)), hp)) {t : Int32} (h : F6_choicesThatLast_6 x0 x1 x2 x3 hp = some t) (hK : K t) : m_Rn xs L 4 1205 6 [(0, .ref x0), (1, .int x1), (2, .int x2), (3, .int x3)] [] hp r :=
  m_wh_ok (P := fun s => m_Rn xs L 4 1205 6 [(0, .ref x0), (1, .int s.1), (2, .int s.2.1), (3, .int s.2.2)] [] hp r) (Q := K) (fun s t hb hK => SF6_choicesThatLast_6b x0 hp s (K := m_KK (fun s => m_Rn xs L 4 1205 6 [(0, .ref x0), (1, .int s.1), (2, .int s.2.1), (3, .int s.2.2)] [] hp r) K) k0 (fun _ q => q) hb hK) m_N _ _ h hK
theorem SF6_choicesThatLast_0 {xs : Nat → Int32} {L : Nat} (x0 : Nat) (hp : m_H) {r : m_O × m_H} {K : Int32 → Prop} (k0 : ∀ x, K x → r = (.inl (some (.int x)), hp)) {t : Int32} (h : F6_choicesThatLast_0 x0 hp = some t) (hK : K t) : m_Rn xs L 4 1205 0 [(0, .ref x0)] [] hp r := by
  unfold F6_choicesThatLast_0 at h
  refine g_in eF6_choicesThatLast_0 mx1205 ?_
  refine g_ch [(3, .int 0), (2, .int 0), (1, .int (-1)), (0, .ref x0)] [] (pc' := 6) rfl rfl rfl ?_
  refine g_end ?_
  exact r_lv (SF6_choicesThatLast_6 x0 (-1) 0 0 hp (K := K) k0 h hK) rfl ⟨rfl, rfl, rfl, rfl, trivial⟩
theorem SF6_choicesThatLast {xs : Nat → Int32} {L : Nat} {x0 : Nat} {hp : m_H} {x : Int32} (h : F6_choicesThatLast x0 hp = some x) : m_Rn xs L 4 1205 0 (lv_args 0 [.ref x0]) [] hp (.inl (some (.int x)), hp) :=
  r_lv (SF6_choicesThatLast_0 x0 hp (K := fun y => y = x) (fun y e => by rw [e]) h rfl) rfl ⟨rfl, trivial⟩
-- F7_init: LendHouse$Reader.<init>(LLendHouse$Tape;)V
theorem eF7_init_0 : m_Fe mi7_0 0 (m_ap [(.aload_n 0, 1)] ((.invokespecial 3, 3) :: (m_ap [(.aload_n 0, 1), (.aload_n 1, 1)] ((.putfield 9, 3) :: (m_ap [(.aload_n 0, 1), (.sipush 400, 3)] ((.newarray .int, 2) :: ((.putfield 17, 3) :: (m_ap [(.aload_n 0, 1), (.bipush 12, 2)] ((.newarray .int, 2) :: ((.putfield 21, 3) :: (m_ap [(.aload_n 0, 1), (.bipush 12, 2)] ((.newarray .int, 2) :: ((.putfield 24, 3) :: (m_ap [(.aload_n 0, 1), (.bipush 12, 2)] ((.newarray .int, 2) :: ((.putfield 27, 3) :: (m_ap [(.aload_n 0, 1), (.iconst (-1), 1)] ((.putfield 30, 3) :: ([(.return_, 1)]))))))))))))))))))) := m_Fe_of nd1400 0 25 rfl
theorem SF7_init_0 {xs : Nat → Int32} {L : Nat} (x0 : Nat) (x1 : Nat) (hp : m_H) {r : m_O × m_H} {K : m_H → Prop} (k0 : ∀ x, K x → r = (.inl none, x)) {t : m_H} (h : F7_init_0 x0 x1 hp = some t) (hK : K t) : m_Rn xs L 7 1400 0 [(0, .ref x0), (1, .ref x1)] [] hp r := by
  unfold F7_init_0 at h
  refine g_in eF7_init_0 mx1400 ?_
  refine g_ch [(0, .ref x0), (1, .ref x1)] [.ref x0] (pc' := 1) rfl rfl rfl ?_
  refine g_nat (Or.inr (Or.inr rfl)) q7_m3 rfl (z := ([], hp)) rfl (by decide) ?_
  refine g_ch [(0, .ref x0), (1, .ref x1)] [.ref x1, .ref x0] (pc' := 6) rfl rfl rfl ?_
  obtain ⟨h1, e2, h⟩ := m_bd h
  refine g_pf q7_f9 e2 ?_
  refine g_ch [(0, .ref x0), (1, .ref x1)] [.int 400, .ref x0] (pc' := 13) rfl rfl rfl ?_
  obtain ⟨h3, e4, h⟩ := m_bd h
  refine g_na rfl e4 ?_
  obtain ⟨h5, e6, h⟩ := m_bd h
  refine g_pf q7_f17 e6 ?_
  refine g_ch [(0, .ref x0), (1, .ref x1)] [.int 12, .ref x0] (pc' := 21) rfl rfl rfl ?_
  obtain ⟨h7, e8, h⟩ := m_bd h
  refine g_na rfl e8 ?_
  obtain ⟨h9, e10, h⟩ := m_bd h
  refine g_pf q7_f21 e10 ?_
  refine g_ch [(0, .ref x0), (1, .ref x1)] [.int 12, .ref x0] (pc' := 29) rfl rfl rfl ?_
  obtain ⟨h11, e12, h⟩ := m_bd h
  refine g_na rfl e12 ?_
  obtain ⟨h13, e14, h⟩ := m_bd h
  refine g_pf q7_f24 e14 ?_
  refine g_ch [(0, .ref x0), (1, .ref x1)] [.int 12, .ref x0] (pc' := 37) rfl rfl rfl ?_
  obtain ⟨h15, e16, h⟩ := m_bd h
  refine g_na rfl e16 ?_
  obtain ⟨h17, e18, h⟩ := m_bd h
  refine g_pf q7_f27 e18 ?_
  refine g_ch [(0, .ref x0), (1, .ref x1)] [.int (-1), .ref x0] (pc' := 44) rfl rfl rfl ?_
  obtain ⟨h19, e20, h⟩ := m_bd h
  refine g_pf q7_f30 e20 ?_
  cases h
  rw [k0 _ hK]
  exact g_vret rfl
theorem OF7_init {x0 : Nat} {x1 : Nat} {hp : m_H} {x : m_H} (h : F7_init x0 x1 hp = some x) : m_isO hp 5 x0 = true := (m_gdd h).1
theorem SF7_init {xs : Nat → Int32} {L : Nat} {x0 : Nat} {x1 : Nat} {hp : m_H} {x : m_H} (h : F7_init x0 x1 hp = some x) : m_Rn xs L 7 1400 0 (lv_args 0 [.ref x0, .ref x1]) [] hp (.inl none, x) :=
  r_lv (SF7_init_0 x0 x1 hp (K := fun y => y = x) (fun y e => by rw [e]) (m_gdd h).2 rfl) rfl ⟨rfl, rfl, trivial⟩
-- F7_refuse: LendHouse$Reader.refuse()V
theorem eF7_refuse_0 : m_Fe mi7_8 0 (m_ap [(.aload_n 0, 1)] ((.getfield 30, 3) :: (m_ap [(.iconst (-1), 1)] ([(.if_icmp .ne 65, 3)])))) := m_Fe_of nd1408 0 4 rfl
theorem eF7_refuse_70 : m_Fe mi7_8 70 ([(.return_, 1)]) := m_Fe_of nd1408 32 1 rfl
theorem eF7_refuse_8 : m_Fe mi7_8 8 (m_ap [(.aload_n 0, 1), (.aload_n 0, 1)] ((.getfield 56, 3) :: ([(.ifCond .lt 47, 3)]))) := m_Fe_of nd1408 4 4 rfl
theorem eF7_refuse_60 : m_Fe mi7_8 60 (m_ap [(.aload_n 0, 1)] ((.getfield 9, 3) :: ([(.getfield 88, 3)]))) := m_Fe_of nd1408 28 3 rfl
theorem eF7_refuse_67 : m_Fe mi7_8 67 ([(.putfield 30, 3)]) := m_Fe_of nd1408 31 1 rfl
theorem eF7_refuse_16 : m_Fe mi7_8 16 (m_ap [(.aload_n 0, 1)] ((.getfield 56, 3) :: (m_ap [(.aload_n 0, 1)] ((.getfield 9, 3) :: ((.getfield 82, 3) :: ([(.if_icmp .ge 33, 3)])))))) := m_Fe_of nd1408 8 6 rfl
theorem eF7_refuse_30 : m_Fe mi7_8 30 (m_ap [(.aload_n 0, 1)] ((.getfield 56, 3) :: (m_ap [(.aload_n 0, 1)] ((.getfield 9, 3) :: ((.getfield 85, 3) :: ((.arraylength, 1) :: ([(.if_icmp .ge 18, 3)]))))))) := m_Fe_of nd1408 14 7 rfl
theorem eF7_refuse_45 : m_Fe mi7_8 45 (m_ap [(.aload_n 0, 1)] ((.getfield 9, 3) :: ((.getfield 85, 3) :: (m_ap [(.aload_n 0, 1)] ((.getfield 56, 3) :: ((.iaload, 1) :: ([(.goto 10, 3)]))))))) := m_Fe_of nd1408 21 7 rfl
theorem SF7_refuse_0 {xs : Nat → Int32} {L : Nat} (x0 : Nat) (hp : m_H) {r : m_O × m_H} {K : m_H → Prop} (k0 : ∀ x, K x → r = (.inl none, x)) {t : m_H} (h : F7_refuse_0 x0 hp = some t) (hK : K t) : m_Rn xs L 0 1408 0 [(0, .ref x0)] [] hp r := by
  unfold F7_refuse_0 at h
  refine g_in eF7_refuse_0 mx1408 ?_
  refine g_ch [(0, .ref x0)] [.ref x0] (pc' := 1) rfl rfl rfl ?_
  obtain ⟨v1, e2, h⟩ := m_bd h
  refine g_gi q7_f30 e2 ?_
  refine g_ch [(0, .ref x0)] [.int (-1), .int v1] (pc' := 5) rfl rfl rfl ?_
  rcases m_ifd h with ⟨c3, h⟩ | ⟨c3, h⟩
  · refine g_ifn (t := 70) rfl (m_neF c3) ?_
    refine g_in eF7_refuse_8 mx1408 ?_
    refine g_ch [(0, .ref x0)] [.ref x0, .ref x0] (pc' := 10) rfl rfl rfl ?_
    obtain ⟨v4, e5, h⟩ := m_bd h
    refine g_gi q7_f56 e5 ?_
    rcases m_ifd h with ⟨c6, h⟩ | ⟨c6, h⟩
    · refine g_ifc (t := 60) rfl (m_ltT c6) ?_
      refine g_in eF7_refuse_60 mx1408 ?_
      refine g_ch [(0, .ref x0)] [.ref x0, .ref x0] (pc' := 61) rfl rfl rfl ?_
      obtain ⟨v7, e8, h⟩ := m_bd h
      refine g_gr q7_f9 e8 ?_
      obtain ⟨v9, e10, h⟩ := m_bd h
      refine g_gi q7_f88 e10 ?_
      refine g_end ?_
      refine g_in eF7_refuse_67 mx1408 ?_
      obtain ⟨h11, e12, h⟩ := m_bd h
      refine g_pf q7_f30 e12 ?_
      refine g_end ?_
      refine g_in eF7_refuse_70 mx1408 ?_
      cases h
      rw [k0 _ hK]
      exact g_vret rfl
    · refine g_ifcn (t := 60) rfl (m_ltF c6) ?_
      refine g_in eF7_refuse_16 mx1408 ?_
      refine g_ch [(0, .ref x0)] [.ref x0, .ref x0] (pc' := 17) rfl rfl rfl ?_
      obtain ⟨v13, e14, h⟩ := m_bd h
      refine g_gi q7_f56 e14 ?_
      refine g_ch [(0, .ref x0)] [.ref x0, .int v13, .ref x0] (pc' := 21) rfl rfl rfl ?_
      obtain ⟨v15, e16, h⟩ := m_bd h
      refine g_gr q7_f9 e16 ?_
      obtain ⟨v17, e18, h⟩ := m_bd h
      refine g_gi q7_f82 e18 ?_
      rcases m_ifd h with ⟨c19, h⟩ | ⟨c19, h⟩
      · refine g_if (t := 60) rfl (m_geT c19) ?_
        refine g_in eF7_refuse_60 mx1408 ?_
        refine g_ch [(0, .ref x0)] [.ref x0, .ref x0] (pc' := 61) rfl rfl rfl ?_
        obtain ⟨v20, e21, h⟩ := m_bd h
        refine g_gr q7_f9 e21 ?_
        obtain ⟨v22, e23, h⟩ := m_bd h
        refine g_gi q7_f88 e23 ?_
        refine g_end ?_
        refine g_in eF7_refuse_67 mx1408 ?_
        obtain ⟨h24, e25, h⟩ := m_bd h
        refine g_pf q7_f30 e25 ?_
        refine g_end ?_
        refine g_in eF7_refuse_70 mx1408 ?_
        cases h
        rw [k0 _ hK]
        exact g_vret rfl
      · refine g_ifn (t := 60) rfl (m_geF c19) ?_
        refine g_in eF7_refuse_30 mx1408 ?_
        refine g_ch [(0, .ref x0)] [.ref x0, .ref x0] (pc' := 31) rfl rfl rfl ?_
        obtain ⟨v26, e27, h⟩ := m_bd h
        refine g_gi q7_f56 e27 ?_
        refine g_ch [(0, .ref x0)] [.ref x0, .int v26, .ref x0] (pc' := 35) rfl rfl rfl ?_
        obtain ⟨v28, e29, h⟩ := m_bd h
        refine g_gr q7_f9 e29 ?_
        obtain ⟨v30, e31, h⟩ := m_bd h
        refine g_gr q7_f85 e31 ?_
        obtain ⟨v32, e33, h⟩ := m_bd h
        refine g_len e33 ?_
        rcases m_ifd h with ⟨c34, h⟩ | ⟨c34, h⟩
        · refine g_if (t := 60) rfl (m_geT c34) ?_
          refine g_in eF7_refuse_60 mx1408 ?_
          refine g_ch [(0, .ref x0)] [.ref x0, .ref x0] (pc' := 61) rfl rfl rfl ?_
          obtain ⟨v35, e36, h⟩ := m_bd h
          refine g_gr q7_f9 e36 ?_
          obtain ⟨v37, e38, h⟩ := m_bd h
          refine g_gi q7_f88 e38 ?_
          refine g_end ?_
          refine g_in eF7_refuse_67 mx1408 ?_
          obtain ⟨h39, e40, h⟩ := m_bd h
          refine g_pf q7_f30 e40 ?_
          refine g_end ?_
          refine g_in eF7_refuse_70 mx1408 ?_
          cases h
          rw [k0 _ hK]
          exact g_vret rfl
        · refine g_ifn (t := 60) rfl (m_geF c34) ?_
          refine g_in eF7_refuse_45 mx1408 ?_
          refine g_ch [(0, .ref x0)] [.ref x0, .ref x0] (pc' := 46) rfl rfl rfl ?_
          obtain ⟨v41, e42, h⟩ := m_bd h
          refine g_gr q7_f9 e42 ?_
          obtain ⟨v43, e44, h⟩ := m_bd h
          refine g_gr q7_f85 e44 ?_
          refine g_ch [(0, .ref x0)] [.ref x0, .ref v43, .ref x0] (pc' := 53) rfl rfl rfl ?_
          obtain ⟨v45, e46, h⟩ := m_bd h
          refine g_gi q7_f56 e46 ?_
          obtain ⟨v47, e48, h⟩ := m_bd h
          refine g_ia e48 ?_
          refine g_goto (t := 67) rfl ?_
          refine g_in eF7_refuse_67 mx1408 ?_
          obtain ⟨h49, e50, h⟩ := m_bd h
          refine g_pf q7_f30 e50 ?_
          refine g_end ?_
          refine g_in eF7_refuse_70 mx1408 ?_
          cases h
          rw [k0 _ hK]
          exact g_vret rfl
  · refine g_if (t := 70) rfl (m_neT c3) ?_
    refine g_in eF7_refuse_70 mx1408 ?_
    cases h
    rw [k0 _ hK]
    exact g_vret rfl
theorem OF7_refuse {x0 : Nat} {hp : m_H} {x : m_H} (h : F7_refuse x0 hp = some x) : m_isO hp 5 x0 = true := (m_gdd h).1
theorem SF7_refuse {xs : Nat → Int32} {L : Nat} {x0 : Nat} {hp : m_H} {x : m_H} (h : F7_refuse x0 hp = some x) : m_Rn xs L 0 1408 0 (lv_args 0 [.ref x0]) [] hp (.inl none, x) :=
  r_lv (SF7_refuse_0 x0 hp (K := fun y => y = x) (fun y e => by rw [e]) (m_gdd h).2 rfl) rfl ⟨rfl, trivial⟩
-- F7_lookAt: LendHouse$Reader.lookAt(I)V
theorem eF7_lookAt_0 : m_Fe mi7_9 0 (m_ap [(.aload_n 0, 1), (.iload_n 1, 1)] ((.putfield 56, 3) :: (m_ap [(.aload_n 0, 1), (.iload_n 1, 1)] ([(.ifCond .lt 38, 3)])))) := m_Fe_of nd1409 0 6 rfl
theorem eF7_lookAt_45 : m_Fe mi7_9 45 (m_ap [(.iconst 0, 1)] ([])) := m_Fe_of nd1409 23 1 rfl
theorem eF7_lookAt_46 : m_Fe mi7_9 46 ((.putfield 47, 3) :: ([(.return_, 1)])) := m_Fe_of nd1409 24 2 rfl
theorem eF7_lookAt_10 : m_Fe mi7_9 10 (m_ap [(.iload_n 1, 1), (.aload_n 0, 1)] ((.getfield 9, 3) :: ((.getfield 82, 3) :: ([(.if_icmp .ge 27, 3)])))) := m_Fe_of nd1409 6 5 rfl
theorem eF7_lookAt_21 : m_Fe mi7_9 21 (m_ap [(.iload_n 1, 1), (.aload_n 0, 1)] ((.getfield 9, 3) :: ((.getfield 91, 3) :: ((.arraylength, 1) :: ([(.if_icmp .ge 15, 3)]))))) := m_Fe_of nd1409 11 6 rfl
theorem eF7_lookAt_33 : m_Fe mi7_9 33 (m_ap [(.aload_n 0, 1)] ((.getfield 9, 3) :: ((.getfield 91, 3) :: (m_ap [(.iload_n 1, 1)] ((.iaload, 1) :: ([(.goto 4, 3)])))))) := m_Fe_of nd1409 17 6 rfl
theorem SF7_lookAt_0 {xs : Nat → Int32} {L : Nat} (x0 : Nat) (x1 : Int32) (hp : m_H) {r : m_O × m_H} {K : m_H → Prop} (k0 : ∀ x, K x → r = (.inl none, x)) {t : m_H} (h : F7_lookAt_0 x0 x1 hp = some t) (hK : K t) : m_Rn xs L 0 1409 0 [(0, .ref x0), (1, .int x1)] [] hp r := by
  unfold F7_lookAt_0 at h
  refine g_in eF7_lookAt_0 mx1409 ?_
  refine g_ch [(0, .ref x0), (1, .int x1)] [.int x1, .ref x0] (pc' := 2) rfl rfl rfl ?_
  obtain ⟨h1, e2, h⟩ := m_bd h
  refine g_pf q7_f56 e2 ?_
  refine g_ch [(0, .ref x0), (1, .int x1)] [.int x1, .ref x0] (pc' := 7) rfl rfl rfl ?_
  rcases m_ifd h with ⟨c3, h⟩ | ⟨c3, h⟩
  · refine g_ifc (t := 45) rfl (m_ltT c3) ?_
    refine g_in eF7_lookAt_45 mx1409 ?_
    refine g_ch [(0, .ref x0), (1, .int x1)] [.int 0, .ref x0] (pc' := 46) rfl rfl rfl ?_
    refine g_end ?_
    refine g_in eF7_lookAt_46 mx1409 ?_
    obtain ⟨h4, e5, h⟩ := m_bd h
    refine g_pf q7_f47 e5 ?_
    cases h
    rw [k0 _ hK]
    exact g_vret rfl
  · refine g_ifcn (t := 45) rfl (m_ltF c3) ?_
    refine g_in eF7_lookAt_10 mx1409 ?_
    refine g_ch [(0, .ref x0), (1, .int x1)] [.ref x0, .int x1, .ref x0] (pc' := 12) rfl rfl rfl ?_
    obtain ⟨v6, e7, h⟩ := m_bd h
    refine g_gr q7_f9 e7 ?_
    obtain ⟨v8, e9, h⟩ := m_bd h
    refine g_gi q7_f82 e9 ?_
    rcases m_ifd h with ⟨c10, h⟩ | ⟨c10, h⟩
    · refine g_if (t := 45) rfl (m_geT c10) ?_
      refine g_in eF7_lookAt_45 mx1409 ?_
      refine g_ch [(0, .ref x0), (1, .int x1)] [.int 0, .ref x0] (pc' := 46) rfl rfl rfl ?_
      refine g_end ?_
      refine g_in eF7_lookAt_46 mx1409 ?_
      obtain ⟨h11, e12, h⟩ := m_bd h
      refine g_pf q7_f47 e12 ?_
      cases h
      rw [k0 _ hK]
      exact g_vret rfl
    · refine g_ifn (t := 45) rfl (m_geF c10) ?_
      refine g_in eF7_lookAt_21 mx1409 ?_
      refine g_ch [(0, .ref x0), (1, .int x1)] [.ref x0, .int x1, .ref x0] (pc' := 23) rfl rfl rfl ?_
      obtain ⟨v13, e14, h⟩ := m_bd h
      refine g_gr q7_f9 e14 ?_
      obtain ⟨v15, e16, h⟩ := m_bd h
      refine g_gr q7_f91 e16 ?_
      obtain ⟨v17, e18, h⟩ := m_bd h
      refine g_len e18 ?_
      rcases m_ifd h with ⟨c19, h⟩ | ⟨c19, h⟩
      · refine g_if (t := 45) rfl (m_geT c19) ?_
        refine g_in eF7_lookAt_45 mx1409 ?_
        refine g_ch [(0, .ref x0), (1, .int x1)] [.int 0, .ref x0] (pc' := 46) rfl rfl rfl ?_
        refine g_end ?_
        refine g_in eF7_lookAt_46 mx1409 ?_
        obtain ⟨h20, e21, h⟩ := m_bd h
        refine g_pf q7_f47 e21 ?_
        cases h
        rw [k0 _ hK]
        exact g_vret rfl
      · refine g_ifn (t := 45) rfl (m_geF c19) ?_
        refine g_in eF7_lookAt_33 mx1409 ?_
        refine g_ch [(0, .ref x0), (1, .int x1)] [.ref x0, .ref x0] (pc' := 34) rfl rfl rfl ?_
        obtain ⟨v22, e23, h⟩ := m_bd h
        refine g_gr q7_f9 e23 ?_
        obtain ⟨v24, e25, h⟩ := m_bd h
        refine g_gr q7_f91 e25 ?_
        refine g_ch [(0, .ref x0), (1, .int x1)] [.int x1, .ref v24, .ref x0] (pc' := 41) rfl rfl rfl ?_
        obtain ⟨v26, e27, h⟩ := m_bd h
        refine g_ia e27 ?_
        refine g_goto (t := 46) rfl ?_
        refine g_in eF7_lookAt_46 mx1409 ?_
        obtain ⟨h28, e29, h⟩ := m_bd h
        refine g_pf q7_f47 e29 ?_
        cases h
        rw [k0 _ hK]
        exact g_vret rfl
theorem OF7_lookAt {x0 : Nat} {x1 : Int32} {hp : m_H} {x : m_H} (h : F7_lookAt x0 x1 hp = some x) : m_isO hp 5 x0 = true := (m_gdd h).1
theorem SF7_lookAt {xs : Nat → Int32} {L : Nat} {x0 : Nat} {x1 : Int32} {hp : m_H} {x : m_H} (h : F7_lookAt x0 x1 hp = some x) : m_Rn xs L 0 1409 0 (lv_args 0 [.ref x0, .int x1]) [] hp (.inl none, x) :=
  r_lv (SF7_lookAt_0 x0 x1 hp (K := fun y => y = x) (fun y e => by rw [e]) (m_gdd h).2 rfl) rfl ⟨rfl, rfl, trivial⟩
-- F9_numberAt: LendHouse$Tape.numberAt(I)I
theorem eF9_numberAt_0 : m_Fe mi9_11 0 (m_ap [(.iload_n 1, 1)] ([(.ifCond .lt 29, 3)])) := m_Fe_of nd1811 0 2 rfl
theorem eF9_numberAt_30 : m_Fe mi9_11 30 (m_ap [(.iconst 0, 1)] ([])) := m_Fe_of nd1811 16 1 rfl
theorem eF9_numberAt_31 : m_Fe mi9_11 31 ([(.ireturn, 1)]) := m_Fe_of nd1811 17 1 rfl
theorem eF9_numberAt_4 : m_Fe mi9_11 4 (m_ap [(.iload_n 1, 1), (.aload_n 0, 1)] ((.getfield 35, 3) :: ([(.if_icmp .ge 21, 3)]))) := m_Fe_of nd1811 2 4 rfl
theorem eF9_numberAt_12 : m_Fe mi9_11 12 (m_ap [(.iload_n 1, 1), (.aload_n 0, 1)] ((.getfield 22, 3) :: ((.arraylength, 1) :: ([(.if_icmp .ge 12, 3)])))) := m_Fe_of nd1811 6 5 rfl
theorem eF9_numberAt_21 : m_Fe mi9_11 21 (m_ap [(.aload_n 0, 1)] ((.getfield 22, 3) :: (m_ap [(.iload_n 1, 1)] ((.iaload, 1) :: ([(.goto 4, 3)]))))) := m_Fe_of nd1811 11 5 rfl
theorem SF9_numberAt_0 {xs : Nat → Int32} {L : Nat} (x0 : Nat) (x1 : Int32) (hp : m_H) {r : m_O × m_H} {K : Int32 → Prop} (k0 : ∀ x, K x → r = (.inl (some (.int x)), hp)) {t : Int32} (h : F9_numberAt_0 x0 x1 hp = some t) (hK : K t) : m_Rn xs L 0 1811 0 [(0, .ref x0), (1, .int x1)] [] hp r := by
  unfold F9_numberAt_0 at h
  refine g_in eF9_numberAt_0 mx1811 ?_
  refine g_ch [(0, .ref x0), (1, .int x1)] [.int x1] (pc' := 1) rfl rfl rfl ?_
  rcases m_ifd h with ⟨c1, h⟩ | ⟨c1, h⟩
  · refine g_ifc (t := 30) rfl (m_ltT c1) ?_
    refine g_in eF9_numberAt_30 mx1811 ?_
    refine g_ch [(0, .ref x0), (1, .int x1)] [.int 0] (pc' := 31) rfl rfl rfl ?_
    refine g_end ?_
    refine g_in eF9_numberAt_31 mx1811 ?_
    cases h
    rw [k0 _ hK]
    exact g_iret rfl rfl
  · refine g_ifcn (t := 30) rfl (m_ltF c1) ?_
    refine g_in eF9_numberAt_4 mx1811 ?_
    refine g_ch [(0, .ref x0), (1, .int x1)] [.ref x0, .int x1] (pc' := 6) rfl rfl rfl ?_
    obtain ⟨v2, e3, h⟩ := m_bd h
    refine g_gi q9_f35 e3 ?_
    rcases m_ifd h with ⟨c4, h⟩ | ⟨c4, h⟩
    · refine g_if (t := 30) rfl (m_geT c4) ?_
      refine g_in eF9_numberAt_30 mx1811 ?_
      refine g_ch [(0, .ref x0), (1, .int x1)] [.int 0] (pc' := 31) rfl rfl rfl ?_
      refine g_end ?_
      refine g_in eF9_numberAt_31 mx1811 ?_
      cases h
      rw [k0 _ hK]
      exact g_iret rfl rfl
    · refine g_ifn (t := 30) rfl (m_geF c4) ?_
      refine g_in eF9_numberAt_12 mx1811 ?_
      refine g_ch [(0, .ref x0), (1, .int x1)] [.ref x0, .int x1] (pc' := 14) rfl rfl rfl ?_
      obtain ⟨v5, e6, h⟩ := m_bd h
      refine g_gr q9_f22 e6 ?_
      obtain ⟨v7, e8, h⟩ := m_bd h
      refine g_len e8 ?_
      rcases m_ifd h with ⟨c9, h⟩ | ⟨c9, h⟩
      · refine g_if (t := 30) rfl (m_geT c9) ?_
        refine g_in eF9_numberAt_30 mx1811 ?_
        refine g_ch [(0, .ref x0), (1, .int x1)] [.int 0] (pc' := 31) rfl rfl rfl ?_
        refine g_end ?_
        refine g_in eF9_numberAt_31 mx1811 ?_
        cases h
        rw [k0 _ hK]
        exact g_iret rfl rfl
      · refine g_ifn (t := 30) rfl (m_geF c9) ?_
        refine g_in eF9_numberAt_21 mx1811 ?_
        refine g_ch [(0, .ref x0), (1, .int x1)] [.ref x0] (pc' := 22) rfl rfl rfl ?_
        obtain ⟨v10, e11, h⟩ := m_bd h
        refine g_gr q9_f22 e11 ?_
        refine g_ch [(0, .ref x0), (1, .int x1)] [.int x1, .ref v10] (pc' := 26) rfl rfl rfl ?_
        obtain ⟨v12, e13, h⟩ := m_bd h
        refine g_ia e13 ?_
        refine g_goto (t := 31) rfl ?_
        refine g_in eF9_numberAt_31 mx1811 ?_
        cases h
        rw [k0 _ hK]
        exact g_iret rfl rfl
theorem OF9_numberAt {x0 : Nat} {x1 : Int32} {hp : m_H} {x : Int32} (h : F9_numberAt x0 x1 hp = some x) : m_isO hp 7 x0 = true := (m_gdd h).1
theorem SF9_numberAt {xs : Nat → Int32} {L : Nat} {x0 : Nat} {x1 : Int32} {hp : m_H} {x : Int32} (h : F9_numberAt x0 x1 hp = some x) : m_Rn xs L 0 1811 0 (lv_args 0 [.ref x0, .int x1]) [] hp (.inl (some (.int x)), hp) :=
  r_lv (SF9_numberAt_0 x0 x1 hp (K := fun y => y = x) (fun y e => by rw [e]) (m_gdd h).2 rfl) rfl ⟨rfl, rfl, trivial⟩
-- F7_addLine: LendHouse$Reader.addLine(II)V
theorem eF7_addLine_0 : m_Fe mi7_3 0 (m_ap [(.aload_n 0, 1)] ((.getfield 30, 3) :: (m_ap [(.iconst (-1), 1)] ([(.if_icmp .ne 89, 3)])))) := m_Fe_of nd1403 0 4 rfl
theorem eF7_addLine_94 : m_Fe mi7_3 94 ([(.return_, 1)]) := m_Fe_of nd1403 50 1 rfl
theorem eF7_addLine_8 : m_Fe mi7_3 8 (m_ap [(.aload_n 0, 1)] ((.getfield 34, 3) :: ([(.ifCond .lt 82, 3)]))) := m_Fe_of nd1403 4 3 rfl
theorem eF7_addLine_15 : m_Fe mi7_3 15 (m_ap [(.aload_n 0, 1)] ((.getfield 34, 3) :: (m_ap [(.aload_n 0, 1)] ((.getfield 21, 3) :: ((.arraylength, 1) :: ([(.if_icmp .ge 70, 3)])))))) := m_Fe_of nd1403 7 6 rfl
theorem eF7_addLine_27 : m_Fe mi7_3 27 (m_ap [(.aload_n 0, 1)] ((.getfield 34, 3) :: (m_ap [(.aload_n 0, 1)] ((.getfield 24, 3) :: ((.arraylength, 1) :: ([(.if_icmp .ge 58, 3)])))))) := m_Fe_of nd1403 13 6 rfl
theorem eF7_addLine_39 : m_Fe mi7_3 39 (m_ap [(.aload_n 0, 1)] ((.getfield 34, 3) :: (m_ap [(.aload_n 0, 1)] ((.getfield 27, 3) :: ((.arraylength, 1) :: ([(.if_icmp .ge 46, 3)])))))) := m_Fe_of nd1403 19 6 rfl
theorem eF7_addLine_51 : m_Fe mi7_3 51 (m_ap [(.aload_n 0, 1)] ((.getfield 21, 3) :: (m_ap [(.aload_n 0, 1)] ((.getfield 34, 3) :: (m_ap [(.iload_n 1, 1)] ((.iastore, 1) :: (m_ap [(.aload_n 0, 1)] ((.getfield 24, 3) :: (m_ap [(.aload_n 0, 1)] ((.getfield 34, 3) :: (m_ap [(.iload_n 2, 1)] ((.iastore, 1) :: (m_ap [(.aload_n 0, 1)] ((.getfield 27, 3) :: (m_ap [(.aload_n 0, 1)] ((.getfield 34, 3) :: (m_ap [(.aload_n 0, 1)] ((.getfield 37, 3) :: ((.iastore, 1) :: (m_ap [(.aload_n 0, 1), (.dup, 1)] ((.getfield 34, 3) :: (m_ap [(.iconst 1, 1), (.iadd, 1)] ([(.putfield 34, 3)]))))))))))))))))))))))) := m_Fe_of nd1403 25 25 rfl
theorem SF7_addLine_0 {xs : Nat → Int32} {L : Nat} (x0 : Nat) (x1 : Int32) (x2 : Int32) (hp : m_H) {r : m_O × m_H} {K : m_H → Prop} (k0 : ∀ x, K x → r = (.inl none, x)) {t : m_H} (h : F7_addLine_0 x0 x1 x2 hp = some t) (hK : K t) : m_Rn xs L 0 1403 0 [(0, .ref x0), (1, .int x1), (2, .int x2)] [] hp r := by
  unfold F7_addLine_0 at h
  refine g_in eF7_addLine_0 mx1403 ?_
  refine g_ch [(0, .ref x0), (1, .int x1), (2, .int x2)] [.ref x0] (pc' := 1) rfl rfl rfl ?_
  obtain ⟨v1, e2, h⟩ := m_bd h
  refine g_gi q7_f30 e2 ?_
  refine g_ch [(0, .ref x0), (1, .int x1), (2, .int x2)] [.int (-1), .int v1] (pc' := 5) rfl rfl rfl ?_
  rcases m_ifd h with ⟨c3, h⟩ | ⟨c3, h⟩
  · refine g_ifn (t := 94) rfl (m_neF c3) ?_
    refine g_in eF7_addLine_8 mx1403 ?_
    refine g_ch [(0, .ref x0), (1, .int x1), (2, .int x2)] [.ref x0] (pc' := 9) rfl rfl rfl ?_
    obtain ⟨v4, e5, h⟩ := m_bd h
    refine g_gi q7_f34 e5 ?_
    rcases m_ifd h with ⟨c6, h⟩ | ⟨c6, h⟩
    · refine g_ifc (t := 94) rfl (m_ltT c6) ?_
      refine g_in eF7_addLine_94 mx1403 ?_
      cases h
      rw [k0 _ hK]
      exact g_vret rfl
    · refine g_ifcn (t := 94) rfl (m_ltF c6) ?_
      refine g_in eF7_addLine_15 mx1403 ?_
      refine g_ch [(0, .ref x0), (1, .int x1), (2, .int x2)] [.ref x0] (pc' := 16) rfl rfl rfl ?_
      obtain ⟨v7, e8, h⟩ := m_bd h
      refine g_gi q7_f34 e8 ?_
      refine g_ch [(0, .ref x0), (1, .int x1), (2, .int x2)] [.ref x0, .int v7] (pc' := 20) rfl rfl rfl ?_
      obtain ⟨v9, e10, h⟩ := m_bd h
      refine g_gr q7_f21 e10 ?_
      obtain ⟨v11, e12, h⟩ := m_bd h
      refine g_len e12 ?_
      rcases m_ifd h with ⟨c13, h⟩ | ⟨c13, h⟩
      · refine g_if (t := 94) rfl (m_geT c13) ?_
        refine g_in eF7_addLine_94 mx1403 ?_
        cases h
        rw [k0 _ hK]
        exact g_vret rfl
      · refine g_ifn (t := 94) rfl (m_geF c13) ?_
        refine g_in eF7_addLine_27 mx1403 ?_
        refine g_ch [(0, .ref x0), (1, .int x1), (2, .int x2)] [.ref x0] (pc' := 28) rfl rfl rfl ?_
        obtain ⟨v14, e15, h⟩ := m_bd h
        refine g_gi q7_f34 e15 ?_
        refine g_ch [(0, .ref x0), (1, .int x1), (2, .int x2)] [.ref x0, .int v14] (pc' := 32) rfl rfl rfl ?_
        obtain ⟨v16, e17, h⟩ := m_bd h
        refine g_gr q7_f24 e17 ?_
        obtain ⟨v18, e19, h⟩ := m_bd h
        refine g_len e19 ?_
        rcases m_ifd h with ⟨c20, h⟩ | ⟨c20, h⟩
        · refine g_if (t := 94) rfl (m_geT c20) ?_
          refine g_in eF7_addLine_94 mx1403 ?_
          cases h
          rw [k0 _ hK]
          exact g_vret rfl
        · refine g_ifn (t := 94) rfl (m_geF c20) ?_
          refine g_in eF7_addLine_39 mx1403 ?_
          refine g_ch [(0, .ref x0), (1, .int x1), (2, .int x2)] [.ref x0] (pc' := 40) rfl rfl rfl ?_
          obtain ⟨v21, e22, h⟩ := m_bd h
          refine g_gi q7_f34 e22 ?_
          refine g_ch [(0, .ref x0), (1, .int x1), (2, .int x2)] [.ref x0, .int v21] (pc' := 44) rfl rfl rfl ?_
          obtain ⟨v23, e24, h⟩ := m_bd h
          refine g_gr q7_f27 e24 ?_
          obtain ⟨v25, e26, h⟩ := m_bd h
          refine g_len e26 ?_
          rcases m_ifd h with ⟨c27, h⟩ | ⟨c27, h⟩
          · refine g_if (t := 94) rfl (m_geT c27) ?_
            refine g_in eF7_addLine_94 mx1403 ?_
            cases h
            rw [k0 _ hK]
            exact g_vret rfl
          · refine g_ifn (t := 94) rfl (m_geF c27) ?_
            refine g_in eF7_addLine_51 mx1403 ?_
            refine g_ch [(0, .ref x0), (1, .int x1), (2, .int x2)] [.ref x0] (pc' := 52) rfl rfl rfl ?_
            obtain ⟨v28, e29, h⟩ := m_bd h
            refine g_gr q7_f21 e29 ?_
            refine g_ch [(0, .ref x0), (1, .int x1), (2, .int x2)] [.ref x0, .ref v28] (pc' := 56) rfl rfl rfl ?_
            obtain ⟨v30, e31, h⟩ := m_bd h
            refine g_gi q7_f34 e31 ?_
            refine g_ch [(0, .ref x0), (1, .int x1), (2, .int x2)] [.int x1, .int v30, .ref v28] (pc' := 60) rfl rfl rfl ?_
            obtain ⟨h32, e33, h⟩ := m_bd h
            refine g_is e33 ?_
            refine g_ch [(0, .ref x0), (1, .int x1), (2, .int x2)] [.ref x0] (pc' := 62) rfl rfl rfl ?_
            obtain ⟨v34, e35, h⟩ := m_bd h
            refine g_gr q7_f24 e35 ?_
            refine g_ch [(0, .ref x0), (1, .int x1), (2, .int x2)] [.ref x0, .ref v34] (pc' := 66) rfl rfl rfl ?_
            obtain ⟨v36, e37, h⟩ := m_bd h
            refine g_gi q7_f34 e37 ?_
            refine g_ch [(0, .ref x0), (1, .int x1), (2, .int x2)] [.int x2, .int v36, .ref v34] (pc' := 70) rfl rfl rfl ?_
            obtain ⟨h38, e39, h⟩ := m_bd h
            refine g_is e39 ?_
            refine g_ch [(0, .ref x0), (1, .int x1), (2, .int x2)] [.ref x0] (pc' := 72) rfl rfl rfl ?_
            obtain ⟨v40, e41, h⟩ := m_bd h
            refine g_gr q7_f27 e41 ?_
            refine g_ch [(0, .ref x0), (1, .int x1), (2, .int x2)] [.ref x0, .ref v40] (pc' := 76) rfl rfl rfl ?_
            obtain ⟨v42, e43, h⟩ := m_bd h
            refine g_gi q7_f34 e43 ?_
            refine g_ch [(0, .ref x0), (1, .int x1), (2, .int x2)] [.ref x0, .int v42, .ref v40] (pc' := 80) rfl rfl rfl ?_
            obtain ⟨v44, e45, h⟩ := m_bd h
            refine g_gi q7_f37 e45 ?_
            obtain ⟨h46, e47, h⟩ := m_bd h
            refine g_is e47 ?_
            refine g_ch [(0, .ref x0), (1, .int x1), (2, .int x2)] [.ref x0, .ref x0] (pc' := 86) rfl rfl rfl ?_
            obtain ⟨v48, e49, h⟩ := m_bd h
            refine g_gi q7_f34 e49 ?_
            refine g_ch [(0, .ref x0), (1, .int x1), (2, .int x2)] [.int (v48 + 1), .ref x0] (pc' := 91) rfl rfl rfl ?_
            obtain ⟨h50, e51, h⟩ := m_bd h
            refine g_pf q7_f34 e51 ?_
            refine g_end ?_
            refine g_in eF7_addLine_94 mx1403 ?_
            cases h
            rw [k0 _ hK]
            exact g_vret rfl
  · refine g_if (t := 94) rfl (m_neT c3) ?_
    refine g_in eF7_addLine_94 mx1403 ?_
    cases h
    rw [k0 _ hK]
    exact g_vret rfl
theorem OF7_addLine {x0 : Nat} {x1 : Int32} {x2 : Int32} {hp : m_H} {x : m_H} (h : F7_addLine x0 x1 x2 hp = some x) : m_isO hp 5 x0 = true := (m_gdd h).1
theorem SF7_addLine {xs : Nat → Int32} {L : Nat} {x0 : Nat} {x1 : Int32} {x2 : Int32} {hp : m_H} {x : m_H} (h : F7_addLine x0 x1 x2 hp = some x) : m_Rn xs L 0 1403 0 (lv_args 0 [.ref x0, .int x1, .int x2]) [] hp (.inl none, x) :=
  r_lv (SF7_addLine_0 x0 x1 x2 hp (K := fun y => y = x) (fun y e => by rw [e]) (m_gdd h).2 rfl) rfl ⟨rfl, rfl, rfl, trivial⟩
-- F7_write: LendHouse$Reader.write(I)V
theorem eF7_write_0 : m_Fe mi7_10 0 (m_ap [(.aload_n 0, 1)] ((.getfield 37, 3) :: ([(.ifCond .lt 35, 3)]))) := m_Fe_of nd1410 0 3 rfl
theorem eF7_write_39 : m_Fe mi7_10 39 ([(.return_, 1)]) := m_Fe_of nd1410 21 1 rfl
theorem eF7_write_7 : m_Fe mi7_10 7 (m_ap [(.aload_n 0, 1)] ((.getfield 37, 3) :: (m_ap [(.aload_n 0, 1)] ((.getfield 17, 3) :: ((.arraylength, 1) :: ([(.if_icmp .ge 23, 3)])))))) := m_Fe_of nd1410 3 6 rfl
theorem eF7_write_19 : m_Fe mi7_10 19 (m_ap [(.aload_n 0, 1)] ((.getfield 17, 3) :: (m_ap [(.aload_n 0, 1)] ((.getfield 37, 3) :: (m_ap [(.iload_n 1, 1)] ((.iastore, 1) :: (m_ap [(.aload_n 0, 1), (.dup, 1)] ((.getfield 37, 3) :: (m_ap [(.iconst 1, 1), (.iadd, 1)] ([(.putfield 37, 3)])))))))))) := m_Fe_of nd1410 9 12 rfl
theorem SF7_write_0 {xs : Nat → Int32} {L : Nat} (x0 : Nat) (x1 : Int32) (hp : m_H) {r : m_O × m_H} {K : m_H → Prop} (k0 : ∀ x, K x → r = (.inl none, x)) {t : m_H} (h : F7_write_0 x0 x1 hp = some t) (hK : K t) : m_Rn xs L 0 1410 0 [(0, .ref x0), (1, .int x1)] [] hp r := by
  unfold F7_write_0 at h
  refine g_in eF7_write_0 mx1410 ?_
  refine g_ch [(0, .ref x0), (1, .int x1)] [.ref x0] (pc' := 1) rfl rfl rfl ?_
  obtain ⟨v1, e2, h⟩ := m_bd h
  refine g_gi q7_f37 e2 ?_
  rcases m_ifd h with ⟨c3, h⟩ | ⟨c3, h⟩
  · refine g_ifc (t := 39) rfl (m_ltT c3) ?_
    refine g_in eF7_write_39 mx1410 ?_
    cases h
    rw [k0 _ hK]
    exact g_vret rfl
  · refine g_ifcn (t := 39) rfl (m_ltF c3) ?_
    refine g_in eF7_write_7 mx1410 ?_
    refine g_ch [(0, .ref x0), (1, .int x1)] [.ref x0] (pc' := 8) rfl rfl rfl ?_
    obtain ⟨v4, e5, h⟩ := m_bd h
    refine g_gi q7_f37 e5 ?_
    refine g_ch [(0, .ref x0), (1, .int x1)] [.ref x0, .int v4] (pc' := 12) rfl rfl rfl ?_
    obtain ⟨v6, e7, h⟩ := m_bd h
    refine g_gr q7_f17 e7 ?_
    obtain ⟨v8, e9, h⟩ := m_bd h
    refine g_len e9 ?_
    rcases m_ifd h with ⟨c10, h⟩ | ⟨c10, h⟩
    · refine g_if (t := 39) rfl (m_geT c10) ?_
      refine g_in eF7_write_39 mx1410 ?_
      cases h
      rw [k0 _ hK]
      exact g_vret rfl
    · refine g_ifn (t := 39) rfl (m_geF c10) ?_
      refine g_in eF7_write_19 mx1410 ?_
      refine g_ch [(0, .ref x0), (1, .int x1)] [.ref x0] (pc' := 20) rfl rfl rfl ?_
      obtain ⟨v11, e12, h⟩ := m_bd h
      refine g_gr q7_f17 e12 ?_
      refine g_ch [(0, .ref x0), (1, .int x1)] [.ref x0, .ref v11] (pc' := 24) rfl rfl rfl ?_
      obtain ⟨v13, e14, h⟩ := m_bd h
      refine g_gi q7_f37 e14 ?_
      refine g_ch [(0, .ref x0), (1, .int x1)] [.int x1, .int v13, .ref v11] (pc' := 28) rfl rfl rfl ?_
      obtain ⟨h15, e16, h⟩ := m_bd h
      refine g_is e16 ?_
      refine g_ch [(0, .ref x0), (1, .int x1)] [.ref x0, .ref x0] (pc' := 31) rfl rfl rfl ?_
      obtain ⟨v17, e18, h⟩ := m_bd h
      refine g_gi q7_f37 e18 ?_
      refine g_ch [(0, .ref x0), (1, .int x1)] [.int (v17 + 1), .ref x0] (pc' := 36) rfl rfl rfl ?_
      obtain ⟨h19, e20, h⟩ := m_bd h
      refine g_pf q7_f37 e20 ?_
      refine g_end ?_
      refine g_in eF7_write_39 mx1410 ?_
      cases h
      rw [k0 _ hK]
      exact g_vret rfl
theorem OF7_write {x0 : Nat} {x1 : Int32} {hp : m_H} {x : m_H} (h : F7_write x0 x1 hp = some x) : m_isO hp 5 x0 = true := (m_gdd h).1
theorem SF7_write {xs : Nat → Int32} {L : Nat} {x0 : Nat} {x1 : Int32} {hp : m_H} {x : m_H} (h : F7_write x0 x1 hp = some x) : m_Rn xs L 0 1410 0 (lv_args 0 [.ref x0, .int x1]) [] hp (.inl none, x) :=
  r_lv (SF7_write_0 x0 x1 hp (K := fun y => y = x) (fun y e => by rw [e]) (m_gdd h).2 rfl) rfl ⟨rfl, rfl, trivial⟩
-- F7_readSum: LendHouse$Reader.readSum()V
theorem eF7_readSum_0 : m_Fe mi7_7 0 (m_ap [(.iconst 1, 1), (.istore_n 1, 1), (.iconst 0, 1), (.istore_n 2, 1)] ([])) := m_Fe_of nd1407 0 4 rfl
theorem eF7_readSum_4 : m_Fe mi7_7 4 (m_ap [(.iload_n 2, 1), (.sipush 400, 3)] ([(.if_icmp .ge 130, 3)])) := m_Fe_of nd1407 4 3 rfl
theorem eF7_readSum_138 : m_Fe mi7_7 138 ([(.return_, 1)]) := m_Fe_of nd1407 71 1 rfl
theorem eF7_readSum_11 : m_Fe mi7_7 11 (m_ap [(.iload_n 1, 1)] ([(.ifCond .eq 126, 3)])) := m_Fe_of nd1407 7 2 rfl
theorem eF7_readSum_15 : m_Fe mi7_7 15 (m_ap [(.aload_n 0, 1)] ((.getfield 47, 3) :: (m_ap [(.iconst 1, 1)] ([(.if_icmp .ne 21, 3)])))) := m_Fe_of nd1407 9 4 rfl
theorem eF7_readSum_41 : m_Fe mi7_7 41 (m_ap [(.aload_n 0, 1)] ((.getfield 47, 3) :: (m_ap [(.sipush 264, 3)] ([(.if_icmp .lt 24, 3)])))) := m_Fe_of nd1407 21 4 rfl
theorem eF7_readSum_72 : m_Fe mi7_7 72 (m_ap [(.aload_n 0, 1)] ([(.invokevirtual 53, 3)])) := m_Fe_of nd1407 36 2 rfl
theorem eF7_readSum_51 : m_Fe mi7_7 51 (m_ap [(.aload_n 0, 1), (.bipush (-10), 2), (.aload_n 0, 1)] ((.getfield 47, 3) :: (m_ap [(.sipush 256, 3), (.isub, 1), (.bipush 8, 2), (.isub, 1), (.isub, 1)] ((.invokevirtual 73, 3) :: ([(.goto 7, 3)]))))) := m_Fe_of nd1407 25 11 rfl
theorem eF7_readSum_23 : m_Fe mi7_7 23 (m_ap [(.aload_n 0, 1), (.aload_n 0, 1)] ((.getfield 9, 3) :: (m_ap [(.aload_n 0, 1)] ((.getfield 56, 3) :: ((.invokevirtual 59, 3) :: ((.invokevirtual 73, 3) :: ([(.goto 38, 3)]))))))) := m_Fe_of nd1407 13 8 rfl
theorem eF7_readSum_76 : m_Fe mi7_7 76 (m_ap [(.iload_n 2, 1)] ([(.ifCond .le 8, 3)])) := m_Fe_of nd1407 38 2 rfl
theorem eF7_readSum_80 : m_Fe mi7_7 80 (m_ap [(.aload_n 0, 1), (.iconst (-1), 1)] ([(.invokevirtual 73, 3)])) := m_Fe_of nd1407 40 3 rfl
theorem eF7_readSum_85 : m_Fe mi7_7 85 (m_ap [(.aload_n 0, 1), (.aload_n 0, 1)] ((.getfield 56, 3) :: (m_ap [(.iconst 1, 1), (.iadd, 1)] ((.invokevirtual 43, 3) :: (m_ap [(.aload_n 0, 1)] ((.getfield 30, 3) :: (m_ap [(.iconst (-1), 1)] ([(.if_icmp .ne 16, 3)])))))))) := m_Fe_of nd1407 43 10 rfl
theorem eF7_readSum_103 : m_Fe mi7_7 103 (m_ap [(.aload_n 0, 1)] ((.getfield 47, 3) :: (m_ap [(.bipush 43, 2)] ([(.if_icmp .ne 7, 3)])))) := m_Fe_of nd1407 53 4 rfl
theorem eF7_readSum_112 : m_Fe mi7_7 112 (m_ap [(.iconst 1, 1)] ([(.goto 4, 3)])) := m_Fe_of nd1407 57 2 rfl
theorem eF7_readSum_116 : m_Fe mi7_7 116 (m_ap [(.iconst 0, 1)] ([])) := m_Fe_of nd1407 59 1 rfl
theorem eF7_readSum_117 : m_Fe mi7_7 117 (m_ap [(.istore_n 1, 1), (.iload_n 1, 1)] ([(.ifCond .eq 13, 3)])) := m_Fe_of nd1407 60 3 rfl
theorem eF7_readSum_132 : m_Fe mi7_7 132 (m_ap [(.iinc 2 1, 3)] ([(.goto (-131), 3)])) := m_Fe_of nd1407 69 2 rfl
theorem eF7_readSum_122 : m_Fe mi7_7 122 (m_ap [(.aload_n 0, 1), (.aload_n 0, 1)] ((.getfield 56, 3) :: (m_ap [(.iconst 1, 1), (.iadd, 1)] ([(.invokevirtual 43, 3)])))) := m_Fe_of nd1407 63 6 rfl
theorem SF7_readSum_117 {xs : Nat → Int32} {L : Nat} (x0 : Nat) (x2 : Int32) (s0 : Int32) (hp : m_H) {r : m_O × m_H} {K : ((Int32 × Int32 × m_H) ⊕ m_H) → Prop} (k0 : ∀ x, K (.inr x) → r = (.inl none, x)) (k1 : ∀ s, K (.inl s) → m_Rn xs L 1 1407 4 [(0, .ref x0), (1, .int s.1), (2, .int s.2.1)] [] s.2.2 r) {t : (Int32 × Int32 × m_H) ⊕ m_H} (h : F7_readSum_117 x0 x2 s0 hp = some t) (hK : K t) : m_Rn xs L 1 1407 117 [(0, .ref x0), (2, .int x2)] [.int s0] hp r := by
  unfold F7_readSum_117 at h
  refine g_in eF7_readSum_117 mx1407 ?_
  refine g_ch [(1, .int s0), (0, .ref x0), (2, .int x2)] [.int s0] (pc' := 119) rfl rfl rfl ?_
  rcases m_ifd h with ⟨c1, h⟩ | ⟨c1, h⟩
  · refine g_ifc (t := 132) rfl (m_eqT c1) ?_
    refine g_in eF7_readSum_132 mx1407 ?_
    refine g_ch [(2, .int (x2 + 1)), (1, .int s0), (0, .ref x0)] [] (pc' := 135) rfl rfl rfl ?_
    refine g_goto (t := 4) rfl ?_
    cases h
    exact r_lv (k1 (s0, (x2 + 1), hp) hK) rfl ⟨rfl, rfl, rfl, trivial⟩
  · refine g_ifcn (t := 132) rfl (m_eqF c1) ?_
    refine g_in eF7_readSum_122 mx1407 ?_
    refine g_ch [(1, .int s0), (0, .ref x0), (2, .int x2)] [.ref x0, .ref x0] (pc' := 124) rfl rfl rfl ?_
    obtain ⟨v2, e3, h⟩ := m_bd h
    refine g_gi q7_f56 e3 ?_
    refine g_ch [(1, .int s0), (0, .ref x0), (2, .int x2)] [.int (v2 + 1), .ref x0] (pc' := 129) rfl rfl rfl ?_
    obtain ⟨h5, e4, h⟩ := m_bd h
    refine g_call (v := none) (h := h5) (st' := []) (D1 := 0) (as := [.ref x0, .int (v2 + 1)]) (Or.inr (Or.inl rfl)) q7_m43 (m_cv (as := [.int (v2 + 1)]) (rest := []) (Or.inl rfl) q7_m43 jv1409 (OF7_lookAt e4) rfl rfl rfl rfl) (by decide) (SF7_lookAt e4) rfl ?_
    refine g_end ?_
    refine g_in eF7_readSum_132 mx1407 ?_
    refine g_ch [(2, .int (x2 + 1)), (1, .int s0), (0, .ref x0)] [] (pc' := 135) rfl rfl rfl ?_
    refine g_goto (t := 4) rfl ?_
    cases h
    exact r_lv (k1 (s0, (x2 + 1), h5) hK) rfl ⟨rfl, rfl, rfl, trivial⟩
theorem SF7_readSum_116 {xs : Nat → Int32} {L : Nat} (x0 : Nat) (x2 : Int32) (hp : m_H) {r : m_O × m_H} {K : ((Int32 × Int32 × m_H) ⊕ m_H) → Prop} (k0 : ∀ x, K (.inr x) → r = (.inl none, x)) (k1 : ∀ s, K (.inl s) → m_Rn xs L 1 1407 4 [(0, .ref x0), (1, .int s.1), (2, .int s.2.1)] [] s.2.2 r) {t : (Int32 × Int32 × m_H) ⊕ m_H} (h : F7_readSum_116 x0 x2 hp = some t) (hK : K t) : m_Rn xs L 1 1407 116 [(0, .ref x0), (2, .int x2)] [] hp r := by
  unfold F7_readSum_116 at h
  refine g_in eF7_readSum_116 mx1407 ?_
  refine g_ch [(0, .ref x0), (2, .int x2)] [.int 0] (pc' := 117) rfl rfl rfl ?_
  refine g_end ?_
  exact r_lv (SF7_readSum_117 x0 x2 0 hp (K := K) k0 k1 h hK) rfl ⟨rfl, rfl, trivial⟩
theorem SF7_readSum_85 {xs : Nat → Int32} {L : Nat} (x0 : Nat) (x2 : Int32) (hp : m_H) {r : m_O × m_H} {K : ((Int32 × Int32 × m_H) ⊕ m_H) → Prop} (k0 : ∀ x, K (.inr x) → r = (.inl none, x)) (k1 : ∀ s, K (.inl s) → m_Rn xs L 1 1407 4 [(0, .ref x0), (1, .int s.1), (2, .int s.2.1)] [] s.2.2 r) {t : (Int32 × Int32 × m_H) ⊕ m_H} (h : F7_readSum_85 x0 x2 hp = some t) (hK : K t) : m_Rn xs L 1 1407 85 [(0, .ref x0), (2, .int x2)] [] hp r := by
  unfold F7_readSum_85 at h
  refine g_in eF7_readSum_85 mx1407 ?_
  refine g_ch [(0, .ref x0), (2, .int x2)] [.ref x0, .ref x0] (pc' := 87) rfl rfl rfl ?_
  obtain ⟨v1, e2, h⟩ := m_bd h
  refine g_gi q7_f56 e2 ?_
  refine g_ch [(0, .ref x0), (2, .int x2)] [.int (v1 + 1), .ref x0] (pc' := 92) rfl rfl rfl ?_
  obtain ⟨h4, e3, h⟩ := m_bd h
  refine g_call (v := none) (h := h4) (st' := []) (D1 := 0) (as := [.ref x0, .int (v1 + 1)]) (Or.inr (Or.inl rfl)) q7_m43 (m_cv (as := [.int (v1 + 1)]) (rest := []) (Or.inl rfl) q7_m43 jv1409 (OF7_lookAt e3) rfl rfl rfl rfl) (by decide) (SF7_lookAt e3) rfl ?_
  refine g_ch [(0, .ref x0), (2, .int x2)] [.ref x0] (pc' := 96) rfl rfl rfl ?_
  obtain ⟨v5, e6, h⟩ := m_bd h
  refine g_gi q7_f30 e6 ?_
  refine g_ch [(0, .ref x0), (2, .int x2)] [.int (-1), .int v5] (pc' := 100) rfl rfl rfl ?_
  rcases m_ifd h with ⟨c7, h⟩ | ⟨c7, h⟩
  · refine g_ifn (t := 116) rfl (m_neF c7) ?_
    refine g_in eF7_readSum_103 mx1407 ?_
    refine g_ch [(0, .ref x0), (2, .int x2)] [.ref x0] (pc' := 104) rfl rfl rfl ?_
    obtain ⟨v8, e9, h⟩ := m_bd h
    refine g_gi q7_f47 e9 ?_
    refine g_ch [(0, .ref x0), (2, .int x2)] [.int 43, .int v8] (pc' := 109) rfl rfl rfl ?_
    rcases m_ifd h with ⟨c10, h⟩ | ⟨c10, h⟩
    · refine g_ifn (t := 116) rfl (m_neF c10) ?_
      refine g_in eF7_readSum_112 mx1407 ?_
      refine g_ch [(0, .ref x0), (2, .int x2)] [.int 1] (pc' := 113) rfl rfl rfl ?_
      refine g_goto (t := 117) rfl ?_
      exact r_lv (SF7_readSum_117 x0 x2 1 h4 (K := K) k0 k1 h hK) rfl ⟨rfl, rfl, trivial⟩
    · refine g_if (t := 116) rfl (m_neT c10) ?_
      exact r_lv (SF7_readSum_116 x0 x2 h4 (K := K) k0 k1 h hK) rfl ⟨rfl, rfl, trivial⟩
  · refine g_if (t := 116) rfl (m_neT c7) ?_
    exact r_lv (SF7_readSum_116 x0 x2 h4 (K := K) k0 k1 h hK) rfl ⟨rfl, rfl, trivial⟩
theorem SF7_readSum_76 {xs : Nat → Int32} {L : Nat} (x0 : Nat) (x2 : Int32) (hp : m_H) {r : m_O × m_H} {K : ((Int32 × Int32 × m_H) ⊕ m_H) → Prop} (k0 : ∀ x, K (.inr x) → r = (.inl none, x)) (k1 : ∀ s, K (.inl s) → m_Rn xs L 1 1407 4 [(0, .ref x0), (1, .int s.1), (2, .int s.2.1)] [] s.2.2 r) {t : (Int32 × Int32 × m_H) ⊕ m_H} (h : F7_readSum_76 x0 x2 hp = some t) (hK : K t) : m_Rn xs L 1 1407 76 [(0, .ref x0), (2, .int x2)] [] hp r := by
  unfold F7_readSum_76 at h
  refine g_in eF7_readSum_76 mx1407 ?_
  refine g_ch [(0, .ref x0), (2, .int x2)] [.int x2] (pc' := 77) rfl rfl rfl ?_
  rcases m_ifd h with ⟨c1, h⟩ | ⟨c1, h⟩
  · refine g_ifc (t := 85) rfl (m_leT c1) ?_
    exact r_lv (SF7_readSum_85 x0 x2 hp (K := K) k0 k1 h hK) rfl ⟨rfl, rfl, trivial⟩
  · refine g_ifcn (t := 85) rfl (m_leF c1) ?_
    refine g_in eF7_readSum_80 mx1407 ?_
    refine g_ch [(0, .ref x0), (2, .int x2)] [.int (-1), .ref x0] (pc' := 82) rfl rfl rfl ?_
    obtain ⟨h3, e2, h⟩ := m_bd h
    refine g_call (v := none) (h := h3) (st' := []) (D1 := 0) (as := [.ref x0, .int (-1)]) (Or.inr (Or.inl rfl)) q7_m73 (m_cv (as := [.int (-1)]) (rest := []) (Or.inl rfl) q7_m73 jv1410 (OF7_write e2) rfl rfl rfl rfl) (by decide) (SF7_write e2) rfl ?_
    refine g_end ?_
    exact r_lv (SF7_readSum_85 x0 x2 h3 (K := K) k0 k1 h hK) rfl ⟨rfl, rfl, trivial⟩
theorem SF7_readSum_4b {xs : Nat → Int32} {L : Nat} (x0 : Nat) (s : Int32 × Int32 × m_H) {r : m_O × m_H} {K : ((Int32 × Int32 × m_H) ⊕ m_H) → Prop} (k0 : ∀ x, K (.inr x) → r = (.inl none, x)) (k1 : ∀ s, K (.inl s) → m_Rn xs L 1 1407 4 [(0, .ref x0), (1, .int s.1), (2, .int s.2.1)] [] s.2.2 r) {t : (Int32 × Int32 × m_H) ⊕ m_H} (h : F7_readSum_4b x0 s = some t) (hK : K t) : m_Rn xs L 1 1407 4 [(0, .ref x0), (1, .int s.1), (2, .int s.2.1)] [] s.2.2 r := by
  unfold F7_readSum_4b at h
  refine g_in eF7_readSum_4 mx1407 ?_
  refine g_ch [(0, .ref x0), (1, .int s.1), (2, .int s.2.1)] [.int 400, .int s.2.1] (pc' := 8) rfl rfl rfl ?_
  rcases m_ifd h with ⟨c1, h⟩ | ⟨c1, h⟩
  · refine g_if (t := 138) rfl (m_geT c1) ?_
    refine g_in eF7_readSum_138 mx1407 ?_
    cases h
    rw [k0 _ hK]
    exact g_vret rfl
  · refine g_ifn (t := 138) rfl (m_geF c1) ?_
    refine g_in eF7_readSum_11 mx1407 ?_
    refine g_ch [(0, .ref x0), (1, .int s.1), (2, .int s.2.1)] [.int s.1] (pc' := 12) rfl rfl rfl ?_
    rcases m_ifd h with ⟨c2, h⟩ | ⟨c2, h⟩
    · refine g_ifc (t := 138) rfl (m_eqT c2) ?_
      refine g_in eF7_readSum_138 mx1407 ?_
      cases h
      rw [k0 _ hK]
      exact g_vret rfl
    · refine g_ifcn (t := 138) rfl (m_eqF c2) ?_
      refine g_in eF7_readSum_15 mx1407 ?_
      refine g_ch [(0, .ref x0), (1, .int s.1), (2, .int s.2.1)] [.ref x0] (pc' := 16) rfl rfl rfl ?_
      obtain ⟨v3, e4, h⟩ := m_bd h
      refine g_gi q7_f47 e4 ?_
      refine g_ch [(0, .ref x0), (1, .int s.1), (2, .int s.2.1)] [.int 1, .int v3] (pc' := 20) rfl rfl rfl ?_
      rcases m_ifd h with ⟨c5, h⟩ | ⟨c5, h⟩
      · refine g_ifn (t := 41) rfl (m_neF c5) ?_
        refine g_in eF7_readSum_23 mx1407 ?_
        refine g_ch [(0, .ref x0), (1, .int s.1), (2, .int s.2.1)] [.ref x0, .ref x0] (pc' := 25) rfl rfl rfl ?_
        obtain ⟨v15, e16, h⟩ := m_bd h
        refine g_gr q7_f9 e16 ?_
        refine g_ch [(0, .ref x0), (1, .int s.1), (2, .int s.2.1)] [.ref x0, .ref v15, .ref x0] (pc' := 29) rfl rfl rfl ?_
        obtain ⟨v17, e18, h⟩ := m_bd h
        refine g_gi q7_f56 e18 ?_
        obtain ⟨v20, e19, h⟩ := m_bd h
        refine g_call (v := some (.int v20)) (h := s.2.2) (st' := [.int v20, .ref x0]) (D1 := 0) (as := [.ref v15, .int v17]) (Or.inr (Or.inl rfl)) q7_m59 (m_cv (as := [.int v17]) (rest := [.ref x0]) (Or.inl rfl) q7_m59 jv1811 (OF9_numberAt e19) rfl rfl rfl rfl) (by decide) (SF9_numberAt e19) rfl ?_
        obtain ⟨h22, e21, h⟩ := m_bd h
        refine g_call (v := none) (h := h22) (st' := []) (D1 := 0) (as := [.ref x0, .int v20]) (Or.inr (Or.inl rfl)) q7_m73 (m_cv (as := [.int v20]) (rest := []) (Or.inl rfl) q7_m73 jv1410 (OF7_write e21) rfl rfl rfl rfl) (by decide) (SF7_write e21) rfl ?_
        refine g_goto (t := 76) rfl ?_
        exact r_lv (SF7_readSum_76 x0 s.2.1 h22 (K := K) k0 k1 h hK) rfl ⟨rfl, rfl, trivial⟩
      · refine g_if (t := 41) rfl (m_neT c5) ?_
        refine g_in eF7_readSum_41 mx1407 ?_
        refine g_ch [(0, .ref x0), (1, .int s.1), (2, .int s.2.1)] [.ref x0] (pc' := 42) rfl rfl rfl ?_
        obtain ⟨v6, e7, h⟩ := m_bd h
        refine g_gi q7_f47 e7 ?_
        refine g_ch [(0, .ref x0), (1, .int s.1), (2, .int s.2.1)] [.int 264, .int v6] (pc' := 48) rfl rfl rfl ?_
        rcases m_ifd h with ⟨c8, h⟩ | ⟨c8, h⟩
        · refine g_if (t := 72) rfl (m_ltT c8) ?_
          refine g_in eF7_readSum_72 mx1407 ?_
          refine g_ch [(0, .ref x0), (1, .int s.1), (2, .int s.2.1)] [.ref x0] (pc' := 73) rfl rfl rfl ?_
          obtain ⟨h10, e9, h⟩ := m_bd h
          refine g_call (v := none) (h := h10) (st' := []) (D1 := 0) (as := [.ref x0]) (Or.inr (Or.inl rfl)) q7_m53 (m_cv (as := []) (rest := []) (Or.inl rfl) q7_m53 jv1408 (OF7_refuse e9) rfl rfl rfl rfl) (by decide) (SF7_refuse e9) rfl ?_
          refine g_end ?_
          exact r_lv (SF7_readSum_76 x0 s.2.1 h10 (K := K) k0 k1 h hK) rfl ⟨rfl, rfl, trivial⟩
        · refine g_ifn (t := 72) rfl (m_ltF c8) ?_
          refine g_in eF7_readSum_51 mx1407 ?_
          refine g_ch [(0, .ref x0), (1, .int s.1), (2, .int s.2.1)] [.ref x0, .int (-10), .ref x0] (pc' := 55) rfl rfl rfl ?_
          obtain ⟨v11, e12, h⟩ := m_bd h
          refine g_gi q7_f47 e12 ?_
          refine g_ch [(0, .ref x0), (1, .int s.1), (2, .int s.2.1)] [.int ((-10) - ((v11 - 256) - 8)), .ref x0] (pc' := 66) rfl rfl rfl ?_
          obtain ⟨h14, e13, h⟩ := m_bd h
          refine g_call (v := none) (h := h14) (st' := []) (D1 := 0) (as := [.ref x0, .int ((-10) - ((v11 - 256) - 8))]) (Or.inr (Or.inl rfl)) q7_m73 (m_cv (as := [.int ((-10) - ((v11 - 256) - 8))]) (rest := []) (Or.inl rfl) q7_m73 jv1410 (OF7_write e13) rfl rfl rfl rfl) (by decide) (SF7_write e13) rfl ?_
          refine g_goto (t := 76) rfl ?_
          exact r_lv (SF7_readSum_76 x0 s.2.1 h14 (K := K) k0 k1 h hK) rfl ⟨rfl, rfl, trivial⟩
theorem SF7_readSum_4 {xs : Nat → Int32} {L : Nat} (x0 : Nat) (x1 : Int32) (x2 : Int32) (hp : m_H) {r : m_O × m_H} {K : m_H → Prop} (k0 : ∀ x, K x → r = (.inl none, x)) {t : m_H} (h : F7_readSum_4 x0 x1 x2 hp = some t) (hK : K t) : m_Rn xs L 1 1407 4 [(0, .ref x0), (1, .int x1), (2, .int x2)] [] hp r :=
  m_wh_ok (P := fun s => m_Rn xs L 1 1407 4 [(0, .ref x0), (1, .int s.1), (2, .int s.2.1)] [] s.2.2 r) (Q := K) (fun s t hb hK => SF7_readSum_4b x0 s (K := m_KK (fun s => m_Rn xs L 1 1407 4 [(0, .ref x0), (1, .int s.1), (2, .int s.2.1)] [] s.2.2 r) K) k0 (fun _ q => q) hb hK) m_N _ _ h hK
theorem SF7_readSum_0 {xs : Nat → Int32} {L : Nat} (x0 : Nat) (hp : m_H) {r : m_O × m_H} {K : m_H → Prop} (k0 : ∀ x, K x → r = (.inl none, x)) {t : m_H} (h : F7_readSum_0 x0 hp = some t) (hK : K t) : m_Rn xs L 1 1407 0 [(0, .ref x0)] [] hp r := by
  unfold F7_readSum_0 at h
  refine g_in eF7_readSum_0 mx1407 ?_
  refine g_ch [(2, .int 0), (1, .int 1), (0, .ref x0)] [] (pc' := 4) rfl rfl rfl ?_
  refine g_end ?_
  exact r_lv (SF7_readSum_4 x0 1 0 hp (K := K) k0 h hK) rfl ⟨rfl, rfl, rfl, trivial⟩
theorem OF7_readSum {x0 : Nat} {hp : m_H} {x : m_H} (h : F7_readSum x0 hp = some x) : m_isO hp 5 x0 = true := (m_gdd h).1
theorem SF7_readSum {xs : Nat → Int32} {L : Nat} {x0 : Nat} {hp : m_H} {x : m_H} (h : F7_readSum x0 hp = some x) : m_Rn xs L 1 1407 0 (lv_args 0 [.ref x0]) [] hp (.inl none, x) :=
  r_lv (SF7_readSum_0 x0 hp (K := fun y => y = x) (fun y e => by rw [e]) (m_gdd h).2 rfl) rfl ⟨rfl, trivial⟩
-- F7_readAll: LendHouse$Reader.readAll(I)V
theorem eF7_readAll_0 : m_Fe mi7_5 0 (m_ap [(.aload_n 0, 1), (.iload_n 1, 1)] ((.invokevirtual 76, 3) :: (m_ap [(.iconst 0, 1), (.istore_n 2, 1)] ([])))) := m_Fe_of nd1405 0 5 rfl
theorem eF7_readAll_7 : m_Fe mi7_5 7 (m_ap [(.iload_n 2, 1), (.sipush 400, 3)] ([(.if_icmp .ge 48, 3)])) := m_Fe_of nd1405 5 3 rfl
theorem eF7_readAll_59 : m_Fe mi7_5 59 ([(.return_, 1)]) := m_Fe_of nd1405 30 1 rfl
theorem eF7_readAll_14 : m_Fe mi7_5 14 (m_ap [(.aload_n 0, 1)] ((.getfield 30, 3) :: (m_ap [(.iconst (-1), 1)] ([(.if_icmp .ne 40, 3)])))) := m_Fe_of nd1405 8 4 rfl
theorem eF7_readAll_22 : m_Fe mi7_5 22 (m_ap [(.aload_n 0, 1)] ((.getfield 47, 3) :: (m_ap [(.sipush 262, 3)] ([(.if_icmp .ne 30, 3)])))) := m_Fe_of nd1405 12 4 rfl
theorem eF7_readAll_32 : m_Fe mi7_5 32 (m_ap [(.aload_n 0, 1), (.aload_n 0, 1)] ((.getfield 56, 3) :: (m_ap [(.iconst 1, 1), (.iadd, 1)] ((.invokevirtual 43, 3) :: (m_ap [(.aload_n 0, 1), (.iload_n 1, 1)] ((.invokevirtual 76, 3) :: (m_ap [(.aload_n 0, 1), (.bipush (-5), 2)] ((.invokevirtual 73, 3) :: (m_ap [(.iinc 2 1, 3)] ([(.goto (-49), 3)])))))))))) := m_Fe_of nd1405 16 14 rfl
theorem SF7_readAll_7b {xs : Nat → Int32} {L : Nat} {DA : Nat} {A : Nat → Int32 → m_H → Option m_H} (hDA : 400 ≤ DA + 400) (hD : 20 ≤ DA) (hA : ∀ x0 x1 hp x, A x0 x1 hp = some x → m_isO hp 5 x0 = true ∧ m_Rn xs L DA 1406 0 (lv_args 0 [.ref x0, .int x1]) [] hp (.inl none, x)) (x0 : Nat) (x1 : Int32) (s : Int32 × m_H) {r : m_O × m_H} {K : ((Int32 × m_H) ⊕ m_H) → Prop} (k0 : ∀ x, K (.inr x) → r = (.inl none, x)) (k1 : ∀ s, K (.inl s) → m_Rn xs L (DA + 1) 1405 7 [(0, .ref x0), (1, .int x1), (2, .int s.1)] [] s.2 r) {t : (Int32 × m_H) ⊕ m_H} (h : F7_readAll_7b A x0 x1 s = some t) (hK : K t) : m_Rn xs L (DA + 1) 1405 7 [(0, .ref x0), (1, .int x1), (2, .int s.1)] [] s.2 r := by
  unfold F7_readAll_7b at h
  refine g_in eF7_readAll_7 mx1405 ?_
  refine g_ch [(0, .ref x0), (1, .int x1), (2, .int s.1)] [.int 400, .int s.1] (pc' := 11) rfl rfl rfl ?_
  rcases m_ifd h with ⟨c1, h⟩ | ⟨c1, h⟩
  · refine g_if (t := 59) rfl (m_geT c1) ?_
    refine g_in eF7_readAll_59 mx1405 ?_
    cases h
    rw [k0 _ hK]
    exact g_vret rfl
  · refine g_ifn (t := 59) rfl (m_geF c1) ?_
    refine g_in eF7_readAll_14 mx1405 ?_
    refine g_ch [(0, .ref x0), (1, .int x1), (2, .int s.1)] [.ref x0] (pc' := 15) rfl rfl rfl ?_
    obtain ⟨v2, e3, h⟩ := m_bd h
    refine g_gi q7_f30 e3 ?_
    refine g_ch [(0, .ref x0), (1, .int x1), (2, .int s.1)] [.int (-1), .int v2] (pc' := 19) rfl rfl rfl ?_
    rcases m_ifd h with ⟨c4, h⟩ | ⟨c4, h⟩
    · refine g_ifn (t := 59) rfl (m_neF c4) ?_
      refine g_in eF7_readAll_22 mx1405 ?_
      refine g_ch [(0, .ref x0), (1, .int x1), (2, .int s.1)] [.ref x0] (pc' := 23) rfl rfl rfl ?_
      obtain ⟨v5, e6, h⟩ := m_bd h
      refine g_gi q7_f47 e6 ?_
      refine g_ch [(0, .ref x0), (1, .int x1), (2, .int s.1)] [.int 262, .int v5] (pc' := 29) rfl rfl rfl ?_
      rcases m_ifd h with ⟨c7, h⟩ | ⟨c7, h⟩
      · refine g_ifn (t := 59) rfl (m_neF c7) ?_
        refine g_in eF7_readAll_32 mx1405 ?_
        refine g_ch [(0, .ref x0), (1, .int x1), (2, .int s.1)] [.ref x0, .ref x0] (pc' := 34) rfl rfl rfl ?_
        obtain ⟨v8, e9, h⟩ := m_bd h
        refine g_gi q7_f56 e9 ?_
        refine g_ch [(0, .ref x0), (1, .int x1), (2, .int s.1)] [.int (v8 + 1), .ref x0] (pc' := 39) rfl rfl rfl ?_
        obtain ⟨h11, e10, h⟩ := m_bd h
        refine g_call (v := none) (h := h11) (st' := []) (D1 := 0) (as := [.ref x0, .int (v8 + 1)]) (Or.inr (Or.inl rfl)) q7_m43 (m_cv (as := [.int (v8 + 1)]) (rest := []) (Or.inl rfl) q7_m43 jv1409 (OF7_lookAt e10) rfl rfl rfl rfl) (by omega) (SF7_lookAt e10) rfl ?_
        refine g_ch [(0, .ref x0), (1, .int x1), (2, .int s.1)] [.int x1, .ref x0] (pc' := 44) rfl rfl rfl ?_
        obtain ⟨h13, e12, h⟩ := m_bd h
        refine g_call (v := none) (h := h13) (st' := []) (D1 := DA) (as := [.ref x0, .int x1]) (Or.inr (Or.inl rfl)) q7_m76 (m_cv (as := [.int x1]) (rest := []) (Or.inl rfl) q7_m76 jv1406 (hA _ _ _ _ e12).1 rfl rfl rfl rfl) (by omega) (hA _ _ _ _ e12).2 rfl ?_
        refine g_ch [(0, .ref x0), (1, .int x1), (2, .int s.1)] [.int (-5), .ref x0] (pc' := 50) rfl rfl rfl ?_
        obtain ⟨h15, e14, h⟩ := m_bd h
        refine g_call (v := none) (h := h15) (st' := []) (D1 := 0) (as := [.ref x0, .int (-5)]) (Or.inr (Or.inl rfl)) q7_m73 (m_cv (as := [.int (-5)]) (rest := []) (Or.inl rfl) q7_m73 jv1410 (OF7_write e14) rfl rfl rfl rfl) (by omega) (SF7_write e14) rfl ?_
        refine g_ch [(2, .int (s.1 + 1)), (0, .ref x0), (1, .int x1)] [] (pc' := 56) rfl rfl rfl ?_
        refine g_goto (t := 7) rfl ?_
        cases h
        exact r_lv (k1 ((s.1 + 1), h15) hK) rfl ⟨rfl, rfl, rfl, trivial⟩
      · refine g_if (t := 59) rfl (m_neT c7) ?_
        refine g_in eF7_readAll_59 mx1405 ?_
        cases h
        rw [k0 _ hK]
        exact g_vret rfl
    · refine g_if (t := 59) rfl (m_neT c4) ?_
      refine g_in eF7_readAll_59 mx1405 ?_
      cases h
      rw [k0 _ hK]
      exact g_vret rfl
theorem SF7_readAll_7 {xs : Nat → Int32} {L : Nat} {DA : Nat} {A : Nat → Int32 → m_H → Option m_H} (hDA : 400 ≤ DA + 400) (hD : 20 ≤ DA) (hA : ∀ x0 x1 hp x, A x0 x1 hp = some x → m_isO hp 5 x0 = true ∧ m_Rn xs L DA 1406 0 (lv_args 0 [.ref x0, .int x1]) [] hp (.inl none, x)) (x0 : Nat) (x1 : Int32) (x2 : Int32) (hp : m_H) {r : m_O × m_H} {K : m_H → Prop} (k0 : ∀ x, K x → r = (.inl none, x)) {t : m_H} (h : F7_readAll_7 A x0 x1 x2 hp = some t) (hK : K t) : m_Rn xs L (DA + 1) 1405 7 [(0, .ref x0), (1, .int x1), (2, .int x2)] [] hp r :=
  m_wh_ok (P := fun s => m_Rn xs L (DA + 1) 1405 7 [(0, .ref x0), (1, .int x1), (2, .int s.1)] [] s.2 r) (Q := K) (fun s t hb hK => SF7_readAll_7b hDA hD hA x0 x1 s (K := m_KK (fun s => m_Rn xs L (DA + 1) 1405 7 [(0, .ref x0), (1, .int x1), (2, .int s.1)] [] s.2 r) K) k0 (fun _ q => q) hb hK) m_N _ _ h hK
theorem SF7_readAll_0 {xs : Nat → Int32} {L : Nat} {DA : Nat} {A : Nat → Int32 → m_H → Option m_H} (hDA : 400 ≤ DA + 400) (hD : 20 ≤ DA) (hA : ∀ x0 x1 hp x, A x0 x1 hp = some x → m_isO hp 5 x0 = true ∧ m_Rn xs L DA 1406 0 (lv_args 0 [.ref x0, .int x1]) [] hp (.inl none, x)) (x0 : Nat) (x1 : Int32) (hp : m_H) {r : m_O × m_H} {K : m_H → Prop} (k0 : ∀ x, K x → r = (.inl none, x)) {t : m_H} (h : F7_readAll_0 A x0 x1 hp = some t) (hK : K t) : m_Rn xs L (DA + 1) 1405 0 [(0, .ref x0), (1, .int x1)] [] hp r := by
  unfold F7_readAll_0 at h
  refine g_in eF7_readAll_0 mx1405 ?_
  refine g_ch [(0, .ref x0), (1, .int x1)] [.int x1, .ref x0] (pc' := 2) rfl rfl rfl ?_
  obtain ⟨h2, e1, h⟩ := m_bd h
  refine g_call (v := none) (h := h2) (st' := []) (D1 := DA) (as := [.ref x0, .int x1]) (Or.inr (Or.inl rfl)) q7_m76 (m_cv (as := [.int x1]) (rest := []) (Or.inl rfl) q7_m76 jv1406 (hA _ _ _ _ e1).1 rfl rfl rfl rfl) (by omega) (hA _ _ _ _ e1).2 rfl ?_
  refine g_ch [(2, .int 0), (0, .ref x0), (1, .int x1)] [] (pc' := 7) rfl rfl rfl ?_
  refine g_end ?_
  exact r_lv (SF7_readAll_7 hDA hD hA x0 x1 0 h2 (K := K) k0 h hK) rfl ⟨rfl, rfl, rfl, trivial⟩
theorem OF7_readAll {A : Nat → Int32 → m_H → Option m_H} {x0 : Nat} {x1 : Int32} {hp : m_H} {x : m_H} (h : F7_readAll A x0 x1 hp = some x) : m_isO hp 5 x0 = true := (m_gdd h).1
theorem SF7_readAll {xs : Nat → Int32} {L : Nat} {DA : Nat} {A : Nat → Int32 → m_H → Option m_H} (hDA : 400 ≤ DA + 400) (hD : 20 ≤ DA) (hA : ∀ x0 x1 hp x, A x0 x1 hp = some x → m_isO hp 5 x0 = true ∧ m_Rn xs L DA 1406 0 (lv_args 0 [.ref x0, .int x1]) [] hp (.inl none, x)) {x0 : Nat} {x1 : Int32} {hp : m_H} {x : m_H} (h : F7_readAll A x0 x1 hp = some x) : m_Rn xs L (DA + 1) 1405 0 (lv_args 0 [.ref x0, .int x1]) [] hp (.inl none, x) :=
  r_lv (SF7_readAll_0 hDA hD hA x0 x1 hp (K := fun y => y = x) (fun y e => by rw [e]) (m_gdd h).2 rfl) rfl ⟨rfl, rfl, trivial⟩
-- F7_readAny: LendHouse$Reader.readAny(I)V
theorem eF7_readAny_0 : m_Fe mi7_4 0 (m_ap [(.aload_n 0, 1), (.iload_n 1, 1)] ((.invokevirtual 70, 3) :: (m_ap [(.iconst 0, 1), (.istore_n 2, 1)] ([])))) := m_Fe_of nd1404 0 5 rfl
theorem eF7_readAny_7 : m_Fe mi7_4 7 (m_ap [(.iload_n 2, 1), (.sipush 400, 3)] ([(.if_icmp .ge 48, 3)])) := m_Fe_of nd1404 5 3 rfl
theorem eF7_readAny_59 : m_Fe mi7_4 59 ([(.return_, 1)]) := m_Fe_of nd1404 30 1 rfl
theorem eF7_readAny_14 : m_Fe mi7_4 14 (m_ap [(.aload_n 0, 1)] ((.getfield 30, 3) :: (m_ap [(.iconst (-1), 1)] ([(.if_icmp .ne 40, 3)])))) := m_Fe_of nd1404 8 4 rfl
theorem eF7_readAny_22 : m_Fe mi7_4 22 (m_ap [(.aload_n 0, 1)] ((.getfield 47, 3) :: (m_ap [(.sipush 261, 3)] ([(.if_icmp .ne 30, 3)])))) := m_Fe_of nd1404 12 4 rfl
theorem eF7_readAny_32 : m_Fe mi7_4 32 (m_ap [(.aload_n 0, 1), (.aload_n 0, 1)] ((.getfield 56, 3) :: (m_ap [(.iconst 1, 1), (.iadd, 1)] ((.invokevirtual 43, 3) :: (m_ap [(.aload_n 0, 1), (.iload_n 1, 1)] ((.invokevirtual 70, 3) :: (m_ap [(.aload_n 0, 1), (.bipush (-6), 2)] ((.invokevirtual 73, 3) :: (m_ap [(.iinc 2 1, 3)] ([(.goto (-49), 3)])))))))))) := m_Fe_of nd1404 16 14 rfl
theorem SF7_readAny_7b {xs : Nat → Int32} {L : Nat} {DA : Nat} {A : Nat → Int32 → m_H → Option m_H} (hDA : 400 ≤ DA + 400) (hD : 20 ≤ DA) (hA : ∀ x0 x1 hp x, A x0 x1 hp = some x → m_isO hp 5 x0 = true ∧ m_Rn xs L DA 1406 0 (lv_args 0 [.ref x0, .int x1]) [] hp (.inl none, x)) (x0 : Nat) (x1 : Int32) (s : Int32 × m_H) {r : m_O × m_H} {K : ((Int32 × m_H) ⊕ m_H) → Prop} (k0 : ∀ x, K (.inr x) → r = (.inl none, x)) (k1 : ∀ s, K (.inl s) → m_Rn xs L (DA + 2) 1404 7 [(0, .ref x0), (1, .int x1), (2, .int s.1)] [] s.2 r) {t : (Int32 × m_H) ⊕ m_H} (h : F7_readAny_7b A x0 x1 s = some t) (hK : K t) : m_Rn xs L (DA + 2) 1404 7 [(0, .ref x0), (1, .int x1), (2, .int s.1)] [] s.2 r := by
  unfold F7_readAny_7b at h
  refine g_in eF7_readAny_7 mx1404 ?_
  refine g_ch [(0, .ref x0), (1, .int x1), (2, .int s.1)] [.int 400, .int s.1] (pc' := 11) rfl rfl rfl ?_
  rcases m_ifd h with ⟨c1, h⟩ | ⟨c1, h⟩
  · refine g_if (t := 59) rfl (m_geT c1) ?_
    refine g_in eF7_readAny_59 mx1404 ?_
    cases h
    rw [k0 _ hK]
    exact g_vret rfl
  · refine g_ifn (t := 59) rfl (m_geF c1) ?_
    refine g_in eF7_readAny_14 mx1404 ?_
    refine g_ch [(0, .ref x0), (1, .int x1), (2, .int s.1)] [.ref x0] (pc' := 15) rfl rfl rfl ?_
    obtain ⟨v2, e3, h⟩ := m_bd h
    refine g_gi q7_f30 e3 ?_
    refine g_ch [(0, .ref x0), (1, .int x1), (2, .int s.1)] [.int (-1), .int v2] (pc' := 19) rfl rfl rfl ?_
    rcases m_ifd h with ⟨c4, h⟩ | ⟨c4, h⟩
    · refine g_ifn (t := 59) rfl (m_neF c4) ?_
      refine g_in eF7_readAny_22 mx1404 ?_
      refine g_ch [(0, .ref x0), (1, .int x1), (2, .int s.1)] [.ref x0] (pc' := 23) rfl rfl rfl ?_
      obtain ⟨v5, e6, h⟩ := m_bd h
      refine g_gi q7_f47 e6 ?_
      refine g_ch [(0, .ref x0), (1, .int x1), (2, .int s.1)] [.int 261, .int v5] (pc' := 29) rfl rfl rfl ?_
      rcases m_ifd h with ⟨c7, h⟩ | ⟨c7, h⟩
      · refine g_ifn (t := 59) rfl (m_neF c7) ?_
        refine g_in eF7_readAny_32 mx1404 ?_
        refine g_ch [(0, .ref x0), (1, .int x1), (2, .int s.1)] [.ref x0, .ref x0] (pc' := 34) rfl rfl rfl ?_
        obtain ⟨v8, e9, h⟩ := m_bd h
        refine g_gi q7_f56 e9 ?_
        refine g_ch [(0, .ref x0), (1, .int x1), (2, .int s.1)] [.int (v8 + 1), .ref x0] (pc' := 39) rfl rfl rfl ?_
        obtain ⟨h11, e10, h⟩ := m_bd h
        refine g_call (v := none) (h := h11) (st' := []) (D1 := 0) (as := [.ref x0, .int (v8 + 1)]) (Or.inr (Or.inl rfl)) q7_m43 (m_cv (as := [.int (v8 + 1)]) (rest := []) (Or.inl rfl) q7_m43 jv1409 (OF7_lookAt e10) rfl rfl rfl rfl) (by omega) (SF7_lookAt e10) rfl ?_
        refine g_ch [(0, .ref x0), (1, .int x1), (2, .int s.1)] [.int x1, .ref x0] (pc' := 44) rfl rfl rfl ?_
        obtain ⟨h13, e12, h⟩ := m_bd h
        refine g_call (v := none) (h := h13) (st' := []) (D1 := (DA + 1)) (as := [.ref x0, .int x1]) (Or.inr (Or.inl rfl)) q7_m70 (m_cv (as := [.int x1]) (rest := []) (Or.inl rfl) q7_m70 jv1405 (OF7_readAll e12) rfl rfl rfl rfl) (by omega) (SF7_readAll hDA hD hA e12) rfl ?_
        refine g_ch [(0, .ref x0), (1, .int x1), (2, .int s.1)] [.int (-6), .ref x0] (pc' := 50) rfl rfl rfl ?_
        obtain ⟨h15, e14, h⟩ := m_bd h
        refine g_call (v := none) (h := h15) (st' := []) (D1 := 0) (as := [.ref x0, .int (-6)]) (Or.inr (Or.inl rfl)) q7_m73 (m_cv (as := [.int (-6)]) (rest := []) (Or.inl rfl) q7_m73 jv1410 (OF7_write e14) rfl rfl rfl rfl) (by omega) (SF7_write e14) rfl ?_
        refine g_ch [(2, .int (s.1 + 1)), (0, .ref x0), (1, .int x1)] [] (pc' := 56) rfl rfl rfl ?_
        refine g_goto (t := 7) rfl ?_
        cases h
        exact r_lv (k1 ((s.1 + 1), h15) hK) rfl ⟨rfl, rfl, rfl, trivial⟩
      · refine g_if (t := 59) rfl (m_neT c7) ?_
        refine g_in eF7_readAny_59 mx1404 ?_
        cases h
        rw [k0 _ hK]
        exact g_vret rfl
    · refine g_if (t := 59) rfl (m_neT c4) ?_
      refine g_in eF7_readAny_59 mx1404 ?_
      cases h
      rw [k0 _ hK]
      exact g_vret rfl
theorem SF7_readAny_7 {xs : Nat → Int32} {L : Nat} {DA : Nat} {A : Nat → Int32 → m_H → Option m_H} (hDA : 400 ≤ DA + 400) (hD : 20 ≤ DA) (hA : ∀ x0 x1 hp x, A x0 x1 hp = some x → m_isO hp 5 x0 = true ∧ m_Rn xs L DA 1406 0 (lv_args 0 [.ref x0, .int x1]) [] hp (.inl none, x)) (x0 : Nat) (x1 : Int32) (x2 : Int32) (hp : m_H) {r : m_O × m_H} {K : m_H → Prop} (k0 : ∀ x, K x → r = (.inl none, x)) {t : m_H} (h : F7_readAny_7 A x0 x1 x2 hp = some t) (hK : K t) : m_Rn xs L (DA + 2) 1404 7 [(0, .ref x0), (1, .int x1), (2, .int x2)] [] hp r :=
  m_wh_ok (P := fun s => m_Rn xs L (DA + 2) 1404 7 [(0, .ref x0), (1, .int x1), (2, .int s.1)] [] s.2 r) (Q := K) (fun s t hb hK => SF7_readAny_7b hDA hD hA x0 x1 s (K := m_KK (fun s => m_Rn xs L (DA + 2) 1404 7 [(0, .ref x0), (1, .int x1), (2, .int s.1)] [] s.2 r) K) k0 (fun _ q => q) hb hK) m_N _ _ h hK
theorem SF7_readAny_0 {xs : Nat → Int32} {L : Nat} {DA : Nat} {A : Nat → Int32 → m_H → Option m_H} (hDA : 400 ≤ DA + 400) (hD : 20 ≤ DA) (hA : ∀ x0 x1 hp x, A x0 x1 hp = some x → m_isO hp 5 x0 = true ∧ m_Rn xs L DA 1406 0 (lv_args 0 [.ref x0, .int x1]) [] hp (.inl none, x)) (x0 : Nat) (x1 : Int32) (hp : m_H) {r : m_O × m_H} {K : m_H → Prop} (k0 : ∀ x, K x → r = (.inl none, x)) {t : m_H} (h : F7_readAny_0 A x0 x1 hp = some t) (hK : K t) : m_Rn xs L (DA + 2) 1404 0 [(0, .ref x0), (1, .int x1)] [] hp r := by
  unfold F7_readAny_0 at h
  refine g_in eF7_readAny_0 mx1404 ?_
  refine g_ch [(0, .ref x0), (1, .int x1)] [.int x1, .ref x0] (pc' := 2) rfl rfl rfl ?_
  obtain ⟨h2, e1, h⟩ := m_bd h
  refine g_call (v := none) (h := h2) (st' := []) (D1 := (DA + 1)) (as := [.ref x0, .int x1]) (Or.inr (Or.inl rfl)) q7_m70 (m_cv (as := [.int x1]) (rest := []) (Or.inl rfl) q7_m70 jv1405 (OF7_readAll e1) rfl rfl rfl rfl) (by omega) (SF7_readAll hDA hD hA e1) rfl ?_
  refine g_ch [(2, .int 0), (0, .ref x0), (1, .int x1)] [] (pc' := 7) rfl rfl rfl ?_
  refine g_end ?_
  exact r_lv (SF7_readAny_7 hDA hD hA x0 x1 0 h2 (K := K) k0 h hK) rfl ⟨rfl, rfl, rfl, trivial⟩
theorem OF7_readAny {A : Nat → Int32 → m_H → Option m_H} {x0 : Nat} {x1 : Int32} {hp : m_H} {x : m_H} (h : F7_readAny A x0 x1 hp = some x) : m_isO hp 5 x0 = true := (m_gdd h).1
theorem SF7_readAny {xs : Nat → Int32} {L : Nat} {DA : Nat} {A : Nat → Int32 → m_H → Option m_H} (hDA : 400 ≤ DA + 400) (hD : 20 ≤ DA) (hA : ∀ x0 x1 hp x, A x0 x1 hp = some x → m_isO hp 5 x0 = true ∧ m_Rn xs L DA 1406 0 (lv_args 0 [.ref x0, .int x1]) [] hp (.inl none, x)) {x0 : Nat} {x1 : Int32} {hp : m_H} {x : m_H} (h : F7_readAny A x0 x1 hp = some x) : m_Rn xs L (DA + 2) 1404 0 (lv_args 0 [.ref x0, .int x1]) [] hp (.inl none, x) :=
  r_lv (SF7_readAny_0 hDA hD hA x0 x1 hp (K := fun y => y = x) (fun y e => by rw [e]) (m_gdd h).2 rfl) rfl ⟨rfl, rfl, trivial⟩
-- F7_readAtom: LendHouse$Reader.readAtom(I)V
theorem eF7_readAtom_0 : m_Fe mi7_6 0 (m_ap [(.aload_n 0, 1)] ((.getfield 47, 3) :: (m_ap [(.sipush 263, 3)] ([(.if_icmp .ne 7, 3)])))) := m_Fe_of nd1406 0 4 rfl
theorem eF7_readAtom_14 : m_Fe mi7_6 14 (m_ap [(.iconst 0, 1)] ([])) := m_Fe_of nd1406 6 1 rfl
theorem eF7_readAtom_10 : m_Fe mi7_6 10 (m_ap [(.iconst 1, 1)] ([(.goto 4, 3)])) := m_Fe_of nd1406 4 2 rfl
theorem eF7_readAtom_15 : m_Fe mi7_6 15 (m_ap [(.istore_n 2, 1), (.iload_n 2, 1)] ([(.ifCond .ne 70, 3)])) := m_Fe_of nd1406 7 3 rfl
theorem eF7_readAtom_20 : m_Fe mi7_6 20 (m_ap [(.aload_n 0, 1)] ((.getfield 47, 3) :: (m_ap [(.bipush 40, 2)] ([(.if_icmp .eq 61, 3)])))) := m_Fe_of nd1406 10 4 rfl
theorem eF7_readAtom_29 : m_Fe mi7_6 29 (m_ap [(.aload_n 0, 1)] ((.invokevirtual 79, 3) :: (m_ap [(.aload_n 0, 1)] ((.getfield 47, 3) :: (m_ap [(.istore_n 3, 1), (.iload_n 3, 1), (.bipush 60, 2)] ([(.if_icmp .eq 14, 3)])))))) := m_Fe_of nd1406 14 8 rfl
theorem eF7_readAtom_44 : m_Fe mi7_6 44 (m_ap [(.iload_n 3, 1), (.bipush 62, 2)] ([(.if_icmp .eq 8, 3)])) := m_Fe_of nd1406 22 3 rfl
theorem eF7_readAtom_50 : m_Fe mi7_6 50 (m_ap [(.aload_n 0, 1)] ((.invokevirtual 53, 3) :: ([(.return_, 1)]))) := m_Fe_of nd1406 25 3 rfl
theorem eF7_readAtom_87 : m_Fe mi7_6 87 (m_ap [(.iload_n 1, 1), (.bipush 6, 2)] ([(.if_icmp .lt 8, 3)])) := m_Fe_of nd1406 45 3 rfl
theorem eF7_readAtom_98 : m_Fe mi7_6 98 (m_ap [(.aload_n 0, 1), (.aload_n 0, 1)] ((.getfield 56, 3) :: (m_ap [(.iconst 1, 1), (.iadd, 1)] ((.invokevirtual 43, 3) :: (m_ap [(.iload_n 2, 1)] ([(.ifCond .eq 17, 3)])))))) := m_Fe_of nd1406 51 8 rfl
theorem eF7_readAtom_126 : m_Fe mi7_6 126 (m_ap [(.aload_n 0, 1), (.iload_n 1, 1), (.iconst 1, 1), (.iadd, 1)] ((.invokevirtual 63, 3) :: (m_ap [(.aload_n 0, 1)] ((.getfield 47, 3) :: (m_ap [(.bipush 41, 2)] ([(.if_icmp .eq 7, 3)])))))) := m_Fe_of nd1406 68 9 rfl
theorem eF7_readAtom_142 : m_Fe mi7_6 142 (m_ap [(.aload_n 0, 1)] ([(.invokevirtual 53, 3)])) := m_Fe_of nd1406 77 2 rfl
theorem eF7_readAtom_112 : m_Fe mi7_6 112 (m_ap [(.aload_n 0, 1), (.iload_n 1, 1), (.iconst 1, 1), (.iadd, 1)] ((.invokevirtual 76, 3) :: (m_ap [(.aload_n 0, 1), (.bipush (-4), 2)] ((.invokevirtual 73, 3) :: ([(.return_, 1)]))))) := m_Fe_of nd1406 59 9 rfl
theorem eF7_readAtom_93 : m_Fe mi7_6 93 (m_ap [(.aload_n 0, 1)] ((.invokevirtual 53, 3) :: ([(.return_, 1)]))) := m_Fe_of nd1406 48 3 rfl
theorem eF7_readAtom_55 : m_Fe mi7_6 55 (m_ap [(.aload_n 0, 1), (.aload_n 0, 1)] ((.getfield 56, 3) :: (m_ap [(.iconst 1, 1), (.iadd, 1)] ((.invokevirtual 43, 3) :: (m_ap [(.aload_n 0, 1)] ((.invokevirtual 79, 3) :: (m_ap [(.aload_n 0, 1), (.iload_n 3, 1), (.bipush 60, 2)] ([(.if_icmp .ne 8, 3)])))))))) := m_Fe_of nd1406 28 12 rfl
theorem eF7_readAtom_81 : m_Fe mi7_6 81 (m_ap [(.bipush (-3), 2)] ([])) := m_Fe_of nd1406 42 1 rfl
theorem eF7_readAtom_83 : m_Fe mi7_6 83 ((.invokevirtual 73, 3) :: ([(.return_, 1)])) := m_Fe_of nd1406 43 2 rfl
theorem eF7_readAtom_76 : m_Fe mi7_6 76 (m_ap [(.bipush (-2), 2)] ([(.goto 5, 3)])) := m_Fe_of nd1406 40 2 rfl
theorem eF7_readAtom_146 : m_Fe mi7_6 146 (m_ap [(.aload_n 0, 1), (.aload_n 0, 1)] ((.getfield 56, 3) :: (m_ap [(.iconst 1, 1), (.iadd, 1)] ((.invokevirtual 43, 3) :: ([(.return_, 1)]))))) := m_Fe_of nd1406 79 7 rfl
theorem SF7_readAtom_146 {xs : Nat → Int32} {L : Nat} {DA : Nat} {A : Nat → Int32 → m_H → Option m_H} (hDA : 400 ≤ DA + 400) (hD : 20 ≤ DA) (hA : ∀ x0 x1 hp x, A x0 x1 hp = some x → m_isO hp 5 x0 = true ∧ m_Rn xs L DA 1406 0 (lv_args 0 [.ref x0, .int x1]) [] hp (.inl none, x)) (x0 : Nat) (hp : m_H) {r : m_O × m_H} {K : m_H → Prop} (k0 : ∀ x, K x → r = (.inl none, x)) {t : m_H} (h : F7_readAtom_146 A x0 hp = some t) (hK : K t) : m_Rn xs L (DA + 3) 1406 146 [(0, .ref x0)] [] hp r := by
  unfold F7_readAtom_146 at h
  refine g_in eF7_readAtom_146 mx1406 ?_
  refine g_ch [(0, .ref x0)] [.ref x0, .ref x0] (pc' := 148) rfl rfl rfl ?_
  obtain ⟨v1, e2, h⟩ := m_bd h
  refine g_gi q7_f56 e2 ?_
  refine g_ch [(0, .ref x0)] [.int (v1 + 1), .ref x0] (pc' := 153) rfl rfl rfl ?_
  obtain ⟨h4, e3, h⟩ := m_bd h
  refine g_call (v := none) (h := h4) (st' := []) (D1 := 0) (as := [.ref x0, .int (v1 + 1)]) (Or.inr (Or.inl rfl)) q7_m43 (m_cv (as := [.int (v1 + 1)]) (rest := []) (Or.inl rfl) q7_m43 jv1409 (OF7_lookAt e3) rfl rfl rfl rfl) (by omega) (SF7_lookAt e3) rfl ?_
  cases h
  rw [k0 _ hK]
  exact g_vret rfl
theorem SF7_readAtom_87 {xs : Nat → Int32} {L : Nat} {DA : Nat} {A : Nat → Int32 → m_H → Option m_H} (hDA : 400 ≤ DA + 400) (hD : 20 ≤ DA) (hA : ∀ x0 x1 hp x, A x0 x1 hp = some x → m_isO hp 5 x0 = true ∧ m_Rn xs L DA 1406 0 (lv_args 0 [.ref x0, .int x1]) [] hp (.inl none, x)) (x0 : Nat) (x1 : Int32) (x2 : Int32) (hp : m_H) {r : m_O × m_H} {K : m_H → Prop} (k0 : ∀ x, K x → r = (.inl none, x)) {t : m_H} (h : F7_readAtom_87 A x0 x1 x2 hp = some t) (hK : K t) : m_Rn xs L (DA + 3) 1406 87 [(0, .ref x0), (1, .int x1), (2, .int x2)] [] hp r := by
  unfold F7_readAtom_87 at h
  refine g_in eF7_readAtom_87 mx1406 ?_
  refine g_ch [(0, .ref x0), (1, .int x1), (2, .int x2)] [.int 6, .int x1] (pc' := 90) rfl rfl rfl ?_
  rcases m_ifd h with ⟨c1, h⟩ | ⟨c1, h⟩
  · refine g_if (t := 98) rfl (m_ltT c1) ?_
    refine g_in eF7_readAtom_98 mx1406 ?_
    refine g_ch [(0, .ref x0), (1, .int x1), (2, .int x2)] [.ref x0, .ref x0] (pc' := 100) rfl rfl rfl ?_
    obtain ⟨v2, e3, h⟩ := m_bd h
    refine g_gi q7_f56 e3 ?_
    refine g_ch [(0, .ref x0), (1, .int x1), (2, .int x2)] [.int (v2 + 1), .ref x0] (pc' := 105) rfl rfl rfl ?_
    obtain ⟨h5, e4, h⟩ := m_bd h
    refine g_call (v := none) (h := h5) (st' := []) (D1 := 0) (as := [.ref x0, .int (v2 + 1)]) (Or.inr (Or.inl rfl)) q7_m43 (m_cv (as := [.int (v2 + 1)]) (rest := []) (Or.inl rfl) q7_m43 jv1409 (OF7_lookAt e4) rfl rfl rfl rfl) (by omega) (SF7_lookAt e4) rfl ?_
    refine g_ch [(0, .ref x0), (1, .int x1), (2, .int x2)] [.int x2] (pc' := 109) rfl rfl rfl ?_
    rcases m_ifd h with ⟨c6, h⟩ | ⟨c6, h⟩
    · refine g_ifc (t := 126) rfl (m_eqT c6) ?_
      refine g_in eF7_readAtom_126 mx1406 ?_
      refine g_ch [(0, .ref x0), (1, .int x1), (2, .int x2)] [.int (x1 + 1), .ref x0] (pc' := 130) rfl rfl rfl ?_
      obtain ⟨h8, e7, h⟩ := m_bd h
      refine g_call (v := none) (h := h8) (st' := []) (D1 := (DA + 2)) (as := [.ref x0, .int (x1 + 1)]) (Or.inr (Or.inl rfl)) q7_m63 (m_cv (as := [.int (x1 + 1)]) (rest := []) (Or.inl rfl) q7_m63 jv1404 (OF7_readAny e7) rfl rfl rfl rfl) (by omega) (SF7_readAny hDA hD hA e7) rfl ?_
      refine g_ch [(0, .ref x0), (1, .int x1), (2, .int x2)] [.ref x0] (pc' := 134) rfl rfl rfl ?_
      obtain ⟨v9, e10, h⟩ := m_bd h
      refine g_gi q7_f47 e10 ?_
      refine g_ch [(0, .ref x0), (1, .int x1), (2, .int x2)] [.int 41, .int v9] (pc' := 139) rfl rfl rfl ?_
      rcases m_ifd h with ⟨c11, h⟩ | ⟨c11, h⟩
      · refine g_if (t := 146) rfl (m_eqT c11) ?_
        exact r_lv (SF7_readAtom_146 hDA hD hA x0 h8 (K := K) k0 h hK) rfl ⟨rfl, trivial⟩
      · refine g_ifn (t := 146) rfl (m_eqF c11) ?_
        refine g_in eF7_readAtom_142 mx1406 ?_
        refine g_ch [(0, .ref x0), (1, .int x1), (2, .int x2)] [.ref x0] (pc' := 143) rfl rfl rfl ?_
        obtain ⟨h13, e12, h⟩ := m_bd h
        refine g_call (v := none) (h := h13) (st' := []) (D1 := 0) (as := [.ref x0]) (Or.inr (Or.inl rfl)) q7_m53 (m_cv (as := []) (rest := []) (Or.inl rfl) q7_m53 jv1408 (OF7_refuse e12) rfl rfl rfl rfl) (by omega) (SF7_refuse e12) rfl ?_
        refine g_end ?_
        exact r_lv (SF7_readAtom_146 hDA hD hA x0 h13 (K := K) k0 h hK) rfl ⟨rfl, trivial⟩
    · refine g_ifcn (t := 126) rfl (m_eqF c6) ?_
      refine g_in eF7_readAtom_112 mx1406 ?_
      refine g_ch [(0, .ref x0), (1, .int x1), (2, .int x2)] [.int (x1 + 1), .ref x0] (pc' := 116) rfl rfl rfl ?_
      obtain ⟨h15, e14, h⟩ := m_bd h
      refine g_call (v := none) (h := h15) (st' := []) (D1 := DA) (as := [.ref x0, .int (x1 + 1)]) (Or.inr (Or.inl rfl)) q7_m76 (m_cv (as := [.int (x1 + 1)]) (rest := []) (Or.inl rfl) q7_m76 jv1406 (hA _ _ _ _ e14).1 rfl rfl rfl rfl) (by omega) (hA _ _ _ _ e14).2 rfl ?_
      refine g_ch [(0, .ref x0), (1, .int x1), (2, .int x2)] [.int (-4), .ref x0] (pc' := 122) rfl rfl rfl ?_
      obtain ⟨h17, e16, h⟩ := m_bd h
      refine g_call (v := none) (h := h17) (st' := []) (D1 := 0) (as := [.ref x0, .int (-4)]) (Or.inr (Or.inl rfl)) q7_m73 (m_cv (as := [.int (-4)]) (rest := []) (Or.inl rfl) q7_m73 jv1410 (OF7_write e16) rfl rfl rfl rfl) (by omega) (SF7_write e16) rfl ?_
      cases h
      rw [k0 _ hK]
      exact g_vret rfl
  · refine g_ifn (t := 98) rfl (m_ltF c1) ?_
    refine g_in eF7_readAtom_93 mx1406 ?_
    refine g_ch [(0, .ref x0), (1, .int x1), (2, .int x2)] [.ref x0] (pc' := 94) rfl rfl rfl ?_
    obtain ⟨h19, e18, h⟩ := m_bd h
    refine g_call (v := none) (h := h19) (st' := []) (D1 := 0) (as := [.ref x0]) (Or.inr (Or.inl rfl)) q7_m53 (m_cv (as := []) (rest := []) (Or.inl rfl) q7_m53 jv1408 (OF7_refuse e18) rfl rfl rfl rfl) (by omega) (SF7_refuse e18) rfl ?_
    cases h
    rw [k0 _ hK]
    exact g_vret rfl
theorem SF7_readAtom_55 {xs : Nat → Int32} {L : Nat} {DA : Nat} {A : Nat → Int32 → m_H → Option m_H} (hDA : 400 ≤ DA + 400) (hD : 20 ≤ DA) (hA : ∀ x0 x1 hp x, A x0 x1 hp = some x → m_isO hp 5 x0 = true ∧ m_Rn xs L DA 1406 0 (lv_args 0 [.ref x0, .int x1]) [] hp (.inl none, x)) (x0 : Nat) (x3 : Int32) (hp : m_H) {r : m_O × m_H} {K : m_H → Prop} (k0 : ∀ x, K x → r = (.inl none, x)) {t : m_H} (h : F7_readAtom_55 A x0 x3 hp = some t) (hK : K t) : m_Rn xs L (DA + 3) 1406 55 [(0, .ref x0), (3, .int x3)] [] hp r := by
  unfold F7_readAtom_55 at h
  refine g_in eF7_readAtom_55 mx1406 ?_
  refine g_ch [(0, .ref x0), (3, .int x3)] [.ref x0, .ref x0] (pc' := 57) rfl rfl rfl ?_
  obtain ⟨v1, e2, h⟩ := m_bd h
  refine g_gi q7_f56 e2 ?_
  refine g_ch [(0, .ref x0), (3, .int x3)] [.int (v1 + 1), .ref x0] (pc' := 62) rfl rfl rfl ?_
  obtain ⟨h4, e3, h⟩ := m_bd h
  refine g_call (v := none) (h := h4) (st' := []) (D1 := 0) (as := [.ref x0, .int (v1 + 1)]) (Or.inr (Or.inl rfl)) q7_m43 (m_cv (as := [.int (v1 + 1)]) (rest := []) (Or.inl rfl) q7_m43 jv1409 (OF7_lookAt e3) rfl rfl rfl rfl) (by omega) (SF7_lookAt e3) rfl ?_
  refine g_ch [(0, .ref x0), (3, .int x3)] [.ref x0] (pc' := 66) rfl rfl rfl ?_
  obtain ⟨h6, e5, h⟩ := m_bd h
  refine g_call (v := none) (h := h6) (st' := []) (D1 := 1) (as := [.ref x0]) (Or.inr (Or.inl rfl)) q7_m79 (m_cv (as := []) (rest := []) (Or.inl rfl) q7_m79 jv1407 (OF7_readSum e5) rfl rfl rfl rfl) (by omega) (SF7_readSum e5) rfl ?_
  refine g_ch [(0, .ref x0), (3, .int x3)] [.int 60, .int x3, .ref x0] (pc' := 73) rfl rfl rfl ?_
  rcases m_ifd h with ⟨c7, h⟩ | ⟨c7, h⟩
  · refine g_ifn (t := 81) rfl (m_neF c7) ?_
    refine g_in eF7_readAtom_76 mx1406 ?_
    refine g_ch [(0, .ref x0), (3, .int x3)] [.int (-2), .ref x0] (pc' := 78) rfl rfl rfl ?_
    refine g_goto (t := 83) rfl ?_
    refine g_in eF7_readAtom_83 mx1406 ?_
    obtain ⟨h11, e10, h⟩ := m_bd h
    refine g_call (v := none) (h := h11) (st' := []) (D1 := 0) (as := [.ref x0, .int (-2)]) (Or.inr (Or.inl rfl)) q7_m73 (m_cv (as := [.int (-2)]) (rest := []) (Or.inl rfl) q7_m73 jv1410 (OF7_write e10) rfl rfl rfl rfl) (by omega) (SF7_write e10) rfl ?_
    cases h
    rw [k0 _ hK]
    exact g_vret rfl
  · refine g_if (t := 81) rfl (m_neT c7) ?_
    refine g_in eF7_readAtom_81 mx1406 ?_
    refine g_ch [(0, .ref x0), (3, .int x3)] [.int (-3), .ref x0] (pc' := 83) rfl rfl rfl ?_
    refine g_end ?_
    refine g_in eF7_readAtom_83 mx1406 ?_
    obtain ⟨h9, e8, h⟩ := m_bd h
    refine g_call (v := none) (h := h9) (st' := []) (D1 := 0) (as := [.ref x0, .int (-3)]) (Or.inr (Or.inl rfl)) q7_m73 (m_cv (as := [.int (-3)]) (rest := []) (Or.inl rfl) q7_m73 jv1410 (OF7_write e8) rfl rfl rfl rfl) (by omega) (SF7_write e8) rfl ?_
    cases h
    rw [k0 _ hK]
    exact g_vret rfl
theorem SF7_readAtom_15 {xs : Nat → Int32} {L : Nat} {DA : Nat} {A : Nat → Int32 → m_H → Option m_H} (hDA : 400 ≤ DA + 400) (hD : 20 ≤ DA) (hA : ∀ x0 x1 hp x, A x0 x1 hp = some x → m_isO hp 5 x0 = true ∧ m_Rn xs L DA 1406 0 (lv_args 0 [.ref x0, .int x1]) [] hp (.inl none, x)) (x0 : Nat) (x1 : Int32) (s0 : Int32) (hp : m_H) {r : m_O × m_H} {K : m_H → Prop} (k0 : ∀ x, K x → r = (.inl none, x)) {t : m_H} (h : F7_readAtom_15 A x0 x1 s0 hp = some t) (hK : K t) : m_Rn xs L (DA + 3) 1406 15 [(0, .ref x0), (1, .int x1)] [.int s0] hp r := by
  unfold F7_readAtom_15 at h
  refine g_in eF7_readAtom_15 mx1406 ?_
  refine g_ch [(2, .int s0), (0, .ref x0), (1, .int x1)] [.int s0] (pc' := 17) rfl rfl rfl ?_
  rcases m_ifd h with ⟨c1, h⟩ | ⟨c1, h⟩
  · refine g_ifcn (t := 87) rfl (m_neF c1) ?_
    refine g_in eF7_readAtom_20 mx1406 ?_
    refine g_ch [(2, .int s0), (0, .ref x0), (1, .int x1)] [.ref x0] (pc' := 21) rfl rfl rfl ?_
    obtain ⟨v2, e3, h⟩ := m_bd h
    refine g_gi q7_f47 e3 ?_
    refine g_ch [(2, .int s0), (0, .ref x0), (1, .int x1)] [.int 40, .int v2] (pc' := 26) rfl rfl rfl ?_
    rcases m_ifd h with ⟨c4, h⟩ | ⟨c4, h⟩
    · refine g_if (t := 87) rfl (m_eqT c4) ?_
      exact r_lv (SF7_readAtom_87 hDA hD hA x0 x1 s0 hp (K := K) k0 h hK) rfl ⟨rfl, rfl, rfl, trivial⟩
    · refine g_ifn (t := 87) rfl (m_eqF c4) ?_
      refine g_in eF7_readAtom_29 mx1406 ?_
      refine g_ch [(2, .int s0), (0, .ref x0), (1, .int x1)] [.ref x0] (pc' := 30) rfl rfl rfl ?_
      obtain ⟨h6, e5, h⟩ := m_bd h
      refine g_call (v := none) (h := h6) (st' := []) (D1 := 1) (as := [.ref x0]) (Or.inr (Or.inl rfl)) q7_m79 (m_cv (as := []) (rest := []) (Or.inl rfl) q7_m79 jv1407 (OF7_readSum e5) rfl rfl rfl rfl) (by omega) (SF7_readSum e5) rfl ?_
      refine g_ch [(2, .int s0), (0, .ref x0), (1, .int x1)] [.ref x0] (pc' := 34) rfl rfl rfl ?_
      obtain ⟨v7, e8, h⟩ := m_bd h
      refine g_gi q7_f47 e8 ?_
      refine g_ch [(3, .int v7), (2, .int s0), (0, .ref x0), (1, .int x1)] [.int 60, .int v7] (pc' := 41) rfl rfl rfl ?_
      rcases m_ifd h with ⟨c9, h⟩ | ⟨c9, h⟩
      · refine g_if (t := 55) rfl (m_eqT c9) ?_
        exact r_lv (SF7_readAtom_55 hDA hD hA x0 v7 h6 (K := K) k0 h hK) rfl ⟨rfl, rfl, trivial⟩
      · refine g_ifn (t := 55) rfl (m_eqF c9) ?_
        refine g_in eF7_readAtom_44 mx1406 ?_
        refine g_ch [(3, .int v7), (2, .int s0), (0, .ref x0), (1, .int x1)] [.int 62, .int v7] (pc' := 47) rfl rfl rfl ?_
        rcases m_ifd h with ⟨c10, h⟩ | ⟨c10, h⟩
        · refine g_if (t := 55) rfl (m_eqT c10) ?_
          exact r_lv (SF7_readAtom_55 hDA hD hA x0 v7 h6 (K := K) k0 h hK) rfl ⟨rfl, rfl, trivial⟩
        · refine g_ifn (t := 55) rfl (m_eqF c10) ?_
          refine g_in eF7_readAtom_50 mx1406 ?_
          refine g_ch [(3, .int v7), (2, .int s0), (0, .ref x0), (1, .int x1)] [.ref x0] (pc' := 51) rfl rfl rfl ?_
          obtain ⟨h12, e11, h⟩ := m_bd h
          refine g_call (v := none) (h := h12) (st' := []) (D1 := 0) (as := [.ref x0]) (Or.inr (Or.inl rfl)) q7_m53 (m_cv (as := []) (rest := []) (Or.inl rfl) q7_m53 jv1408 (OF7_refuse e11) rfl rfl rfl rfl) (by omega) (SF7_refuse e11) rfl ?_
          cases h
          rw [k0 _ hK]
          exact g_vret rfl
  · refine g_ifc (t := 87) rfl (m_neT c1) ?_
    exact r_lv (SF7_readAtom_87 hDA hD hA x0 x1 s0 hp (K := K) k0 h hK) rfl ⟨rfl, rfl, rfl, trivial⟩
theorem SF7_readAtom_0 {xs : Nat → Int32} {L : Nat} {DA : Nat} {A : Nat → Int32 → m_H → Option m_H} (hDA : 400 ≤ DA + 400) (hD : 20 ≤ DA) (hA : ∀ x0 x1 hp x, A x0 x1 hp = some x → m_isO hp 5 x0 = true ∧ m_Rn xs L DA 1406 0 (lv_args 0 [.ref x0, .int x1]) [] hp (.inl none, x)) (x0 : Nat) (x1 : Int32) (hp : m_H) {r : m_O × m_H} {K : m_H → Prop} (k0 : ∀ x, K x → r = (.inl none, x)) {t : m_H} (h : F7_readAtom_0 A x0 x1 hp = some t) (hK : K t) : m_Rn xs L (DA + 3) 1406 0 [(0, .ref x0), (1, .int x1)] [] hp r := by
  unfold F7_readAtom_0 at h
  refine g_in eF7_readAtom_0 mx1406 ?_
  refine g_ch [(0, .ref x0), (1, .int x1)] [.ref x0] (pc' := 1) rfl rfl rfl ?_
  obtain ⟨v1, e2, h⟩ := m_bd h
  refine g_gi q7_f47 e2 ?_
  refine g_ch [(0, .ref x0), (1, .int x1)] [.int 263, .int v1] (pc' := 7) rfl rfl rfl ?_
  rcases m_ifd h with ⟨c3, h⟩ | ⟨c3, h⟩
  · refine g_ifn (t := 14) rfl (m_neF c3) ?_
    refine g_in eF7_readAtom_10 mx1406 ?_
    refine g_ch [(0, .ref x0), (1, .int x1)] [.int 1] (pc' := 11) rfl rfl rfl ?_
    refine g_goto (t := 15) rfl ?_
    exact r_lv (SF7_readAtom_15 hDA hD hA x0 x1 1 hp (K := K) k0 h hK) rfl ⟨rfl, rfl, trivial⟩
  · refine g_if (t := 14) rfl (m_neT c3) ?_
    refine g_in eF7_readAtom_14 mx1406 ?_
    refine g_ch [(0, .ref x0), (1, .int x1)] [.int 0] (pc' := 15) rfl rfl rfl ?_
    refine g_end ?_
    exact r_lv (SF7_readAtom_15 hDA hD hA x0 x1 0 hp (K := K) k0 h hK) rfl ⟨rfl, rfl, trivial⟩
theorem OF7_readAtoms {A : Nat → Int32 → m_H → Option m_H} {x0 : Nat} {x1 : Int32} {hp : m_H} {x : m_H} (h : F7_readAtoms A x0 x1 hp = some x) : m_isO hp 5 x0 = true := (m_gdd h).1
theorem SF7_readAtoms {xs : Nat → Int32} {L : Nat} {DA : Nat} {A : Nat → Int32 → m_H → Option m_H} (hDA : 400 ≤ DA + 400) (hD : 20 ≤ DA) (hA : ∀ x0 x1 hp x, A x0 x1 hp = some x → m_isO hp 5 x0 = true ∧ m_Rn xs L DA 1406 0 (lv_args 0 [.ref x0, .int x1]) [] hp (.inl none, x)) {x0 : Nat} {x1 : Int32} {hp : m_H} {x : m_H} (h : F7_readAtoms A x0 x1 hp = some x) : m_Rn xs L (DA + 3) 1406 0 (lv_args 0 [.ref x0, .int x1]) [] hp (.inl none, x) :=
  r_lv (SF7_readAtom_0 hDA hD hA x0 x1 hp (K := fun y => y = x) (fun y e => by rw [e]) (m_gdd h).2 rfl) rfl ⟨rfl, rfl, trivial⟩
theorem OF7_readAtom {n : Nat} {x0 : Nat} {x1 : Int32} {hp : m_H} {x : m_H} (h : F7_readAtom n x0 x1 hp = some x) : m_isO hp 5 x0 = true := by
  cases n with
  | zero => cases h
  | succ n => exact OF7_readAtoms h
theorem SF7_readAtom {xs : Nat → Int32} {L : Nat} : ∀ (n : Nat) (x0 : Nat) (x1 : Int32) (hp : m_H) (x : m_H), F7_readAtom n x0 x1 hp = some x → m_Rn xs L (20 + 3 * n) 1406 0 (lv_args 0 [.ref x0, .int x1]) [] hp (.inl none, x)
  | 0, _, _, _, _, h => by cases h
  | n + 1, x0, x1, hp, x, h => SF7_readAtoms (DA := 20 + 3 * n) (by omega) (by omega) (fun x0 x1 hp x h => ⟨OF7_readAtom h, SF7_readAtom n x0 x1 hp x h⟩) h
theorem TF7_readAtom {xs : Nat → Int32} {L : Nat} {x0 : Nat} {x1 : Int32} {hp : m_H} {x : m_H} (h : F7_readAtom m_FD x0 x1 hp = some x) : m_Rn xs L 400 1406 0 (lv_args 0 [.ref x0, .int x1]) [] hp (.inl none, x) := r_dp (SF7_readAtom m_FD x0 x1 hp x h) (by decide)
theorem TF7_readAll {xs : Nat → Int32} {L : Nat} {x0 : Nat} {x1 : Int32} {hp : m_H} {x : m_H} (h : F7_readAll (F7_readAtom m_FD) x0 x1 hp = some x) : m_Rn xs L 400 1405 0 (lv_args 0 [.ref x0, .int x1]) [] hp (.inl none, x) := r_dp (SF7_readAll (DA := 20 + 3 * m_FD) (by decide) (by decide) (fun x0 x1 hp x h => ⟨OF7_readAtom h, SF7_readAtom m_FD x0 x1 hp x h⟩) h) (by decide)
theorem TF7_readAny {xs : Nat → Int32} {L : Nat} {x0 : Nat} {x1 : Int32} {hp : m_H} {x : m_H} (h : F7_readAny (F7_readAtom m_FD) x0 x1 hp = some x) : m_Rn xs L 400 1404 0 (lv_args 0 [.ref x0, .int x1]) [] hp (.inl none, x) := r_dp (SF7_readAny (DA := 20 + 3 * m_FD) (by decide) (by decide) (fun x0 x1 hp x h => ⟨OF7_readAtom h, SF7_readAtom m_FD x0 x1 hp x h⟩) h) (by decide)
-- F7_readLine: LendHouse$Reader.readLine()V
theorem eF7_readLine_0 : m_Fe mi7_2 0 (m_ap [(.aload_n 0, 1)] ((.getfield 47, 3) :: (m_ap [(.sipush 256, 3), (.isub, 1), (.istore_n 1, 1), (.iload_n 1, 1)] ([(.ifCond .lt 8, 3)])))) := m_Fe_of nd1402 0 7 rfl
theorem eF7_readLine_18 : m_Fe mi7_2 18 (m_ap [(.aload_n 0, 1)] ((.invokevirtual 53, 3) :: ([(.return_, 1)]))) := m_Fe_of nd1402 10 3 rfl
theorem eF7_readLine_13 : m_Fe mi7_2 13 (m_ap [(.iload_n 1, 1), (.iconst 3, 1)] ([(.if_icmp .le 8, 3)])) := m_Fe_of nd1402 7 3 rfl
theorem eF7_readLine_23 : m_Fe mi7_2 23 (m_ap [(.aload_n 0, 1), (.aload_n 0, 1)] ((.getfield 56, 3) :: (m_ap [(.iconst 1, 1), (.iadd, 1)] ((.invokevirtual 43, 3) :: (m_ap [(.iconst 0, 1), (.istore_n 2, 1), (.iload_n 1, 1), (.iconst 1, 1)] ([(.if_icmp .eq 8, 3)])))))) := m_Fe_of nd1402 13 11 rfl
theorem eF7_readLine_40 : m_Fe mi7_2 40 (m_ap [(.iload_n 1, 1), (.iconst 2, 1)] ([(.if_icmp .ne 49, 3)])) := m_Fe_of nd1402 24 3 rfl
theorem eF7_readLine_45 : m_Fe mi7_2 45 (m_ap [(.aload_n 0, 1)] ((.getfield 9, 3) :: (m_ap [(.aload_n 0, 1)] ((.getfield 56, 3) :: ((.invokevirtual 59, 3) :: (m_ap [(.istore_n 2, 1), (.aload_n 0, 1)] ((.getfield 47, 3) :: (m_ap [(.iconst 1, 1)] ([(.if_icmp .ne 14, 3)]))))))))) := m_Fe_of nd1402 27 10 rfl
theorem eF7_readLine_76 : m_Fe mi7_2 76 (m_ap [(.aload_n 0, 1)] ((.invokevirtual 53, 3) :: ([(.return_, 1)]))) := m_Fe_of nd1402 43 3 rfl
theorem eF7_readLine_65 : m_Fe mi7_2 65 (m_ap [(.iload_n 1, 1), (.iconst 2, 1)] ([(.if_icmp .ne 14, 3)])) := m_Fe_of nd1402 37 3 rfl
theorem eF7_readLine_70 : m_Fe mi7_2 70 (m_ap [(.iload_n 2, 1), (.bipush 100, 2)] ([(.if_icmp .le 8, 3)])) := m_Fe_of nd1402 40 3 rfl
theorem eF7_readLine_91 : m_Fe mi7_2 91 (m_ap [(.aload_n 0, 1)] ((.getfield 47, 3) :: (m_ap [(.sipush 260, 3)] ([(.if_icmp .ne 18, 3)])))) := m_Fe_of nd1402 52 4 rfl
theorem eF7_readLine_101 : m_Fe mi7_2 101 (m_ap [(.aload_n 0, 1), (.aload_n 0, 1)] ((.getfield 56, 3) :: (m_ap [(.iconst 1, 1), (.iadd, 1)] ((.invokevirtual 43, 3) :: (m_ap [(.aload_n 0, 1), (.iconst 0, 1)] ([(.invokevirtual 63, 3)])))))) := m_Fe_of nd1402 56 9 rfl
theorem eF7_readLine_81 : m_Fe mi7_2 81 (m_ap [(.aload_n 0, 1), (.aload_n 0, 1)] ((.getfield 56, 3) :: (m_ap [(.iconst 1, 1), (.iadd, 1)] ([(.invokevirtual 43, 3)])))) := m_Fe_of nd1402 46 6 rfl
theorem eF7_readLine_116 : m_Fe mi7_2 116 (m_ap [(.aload_n 0, 1), (.iload_n 1, 1), (.iload_n 2, 1)] ((.invokevirtual 66, 3) :: ([(.return_, 1)]))) := m_Fe_of nd1402 65 5 rfl
theorem SF7_readLine_116 {xs : Nat → Int32} {L : Nat} (x0 : Nat) (x1 : Int32) (x2 : Int32) (hp : m_H) {r : m_O × m_H} {K : m_H → Prop} (k0 : ∀ x, K x → r = (.inl none, x)) {t : m_H} (h : F7_readLine_116 x0 x1 x2 hp = some t) (hK : K t) : m_Rn xs L 401 1402 116 [(0, .ref x0), (1, .int x1), (2, .int x2)] [] hp r := by
  unfold F7_readLine_116 at h
  refine g_in eF7_readLine_116 mx1402 ?_
  refine g_ch [(0, .ref x0), (1, .int x1), (2, .int x2)] [.int x2, .int x1, .ref x0] (pc' := 119) rfl rfl rfl ?_
  obtain ⟨h2, e1, h⟩ := m_bd h
  refine g_call (v := none) (h := h2) (st' := []) (D1 := 0) (as := [.ref x0, .int x1, .int x2]) (Or.inr (Or.inl rfl)) q7_m66 (m_cv (as := [.int x2, .int x1]) (rest := []) (Or.inl rfl) q7_m66 jv1403 (OF7_addLine e1) rfl rfl rfl rfl) (by decide) (SF7_addLine e1) rfl ?_
  cases h
  rw [k0 _ hK]
  exact g_vret rfl
theorem SF7_readLine_91 {xs : Nat → Int32} {L : Nat} (x0 : Nat) (x1 : Int32) (x2 : Int32) (hp : m_H) {r : m_O × m_H} {K : m_H → Prop} (k0 : ∀ x, K x → r = (.inl none, x)) {t : m_H} (h : F7_readLine_91 x0 x1 x2 hp = some t) (hK : K t) : m_Rn xs L 401 1402 91 [(0, .ref x0), (1, .int x1), (2, .int x2)] [] hp r := by
  unfold F7_readLine_91 at h
  refine g_in eF7_readLine_91 mx1402 ?_
  refine g_ch [(0, .ref x0), (1, .int x1), (2, .int x2)] [.ref x0] (pc' := 92) rfl rfl rfl ?_
  obtain ⟨v1, e2, h⟩ := m_bd h
  refine g_gi q7_f47 e2 ?_
  refine g_ch [(0, .ref x0), (1, .int x1), (2, .int x2)] [.int 260, .int v1] (pc' := 98) rfl rfl rfl ?_
  rcases m_ifd h with ⟨c3, h⟩ | ⟨c3, h⟩
  · refine g_ifn (t := 116) rfl (m_neF c3) ?_
    refine g_in eF7_readLine_101 mx1402 ?_
    refine g_ch [(0, .ref x0), (1, .int x1), (2, .int x2)] [.ref x0, .ref x0] (pc' := 103) rfl rfl rfl ?_
    obtain ⟨v4, e5, h⟩ := m_bd h
    refine g_gi q7_f56 e5 ?_
    refine g_ch [(0, .ref x0), (1, .int x1), (2, .int x2)] [.int (v4 + 1), .ref x0] (pc' := 108) rfl rfl rfl ?_
    obtain ⟨h7, e6, h⟩ := m_bd h
    refine g_call (v := none) (h := h7) (st' := []) (D1 := 0) (as := [.ref x0, .int (v4 + 1)]) (Or.inr (Or.inl rfl)) q7_m43 (m_cv (as := [.int (v4 + 1)]) (rest := []) (Or.inl rfl) q7_m43 jv1409 (OF7_lookAt e6) rfl rfl rfl rfl) (by decide) (SF7_lookAt e6) rfl ?_
    refine g_ch [(0, .ref x0), (1, .int x1), (2, .int x2)] [.int 0, .ref x0] (pc' := 113) rfl rfl rfl ?_
    obtain ⟨h9, e8, h⟩ := m_bd h
    refine g_call (v := none) (h := h9) (st' := []) (D1 := 400) (as := [.ref x0, .int 0]) (Or.inr (Or.inl rfl)) q7_m63 (m_cv (as := [.int 0]) (rest := []) (Or.inl rfl) q7_m63 jv1404 (OF7_readAny e8) rfl rfl rfl rfl) (by decide) (TF7_readAny e8) rfl ?_
    refine g_end ?_
    exact r_lv (SF7_readLine_116 x0 x1 x2 h9 (K := K) k0 h hK) rfl ⟨rfl, rfl, rfl, trivial⟩
  · refine g_if (t := 116) rfl (m_neT c3) ?_
    exact r_lv (SF7_readLine_116 x0 x1 x2 hp (K := K) k0 h hK) rfl ⟨rfl, rfl, rfl, trivial⟩
theorem SF7_readLine_81 {xs : Nat → Int32} {L : Nat} (x0 : Nat) (x1 : Int32) (x2 : Int32) (hp : m_H) {r : m_O × m_H} {K : m_H → Prop} (k0 : ∀ x, K x → r = (.inl none, x)) {t : m_H} (h : F7_readLine_81 x0 x1 x2 hp = some t) (hK : K t) : m_Rn xs L 401 1402 81 [(0, .ref x0), (1, .int x1), (2, .int x2)] [] hp r := by
  unfold F7_readLine_81 at h
  refine g_in eF7_readLine_81 mx1402 ?_
  refine g_ch [(0, .ref x0), (1, .int x1), (2, .int x2)] [.ref x0, .ref x0] (pc' := 83) rfl rfl rfl ?_
  obtain ⟨v1, e2, h⟩ := m_bd h
  refine g_gi q7_f56 e2 ?_
  refine g_ch [(0, .ref x0), (1, .int x1), (2, .int x2)] [.int (v1 + 1), .ref x0] (pc' := 88) rfl rfl rfl ?_
  obtain ⟨h4, e3, h⟩ := m_bd h
  refine g_call (v := none) (h := h4) (st' := []) (D1 := 0) (as := [.ref x0, .int (v1 + 1)]) (Or.inr (Or.inl rfl)) q7_m43 (m_cv (as := [.int (v1 + 1)]) (rest := []) (Or.inl rfl) q7_m43 jv1409 (OF7_lookAt e3) rfl rfl rfl rfl) (by decide) (SF7_lookAt e3) rfl ?_
  refine g_end ?_
  exact r_lv (SF7_readLine_91 x0 x1 x2 h4 (K := K) k0 h hK) rfl ⟨rfl, rfl, rfl, trivial⟩
theorem SF7_readLine_45 {xs : Nat → Int32} {L : Nat} (x0 : Nat) (x1 : Int32) (hp : m_H) {r : m_O × m_H} {K : m_H → Prop} (k0 : ∀ x, K x → r = (.inl none, x)) {t : m_H} (h : F7_readLine_45 x0 x1 hp = some t) (hK : K t) : m_Rn xs L 401 1402 45 [(0, .ref x0), (1, .int x1)] [] hp r := by
  unfold F7_readLine_45 at h
  refine g_in eF7_readLine_45 mx1402 ?_
  refine g_ch [(0, .ref x0), (1, .int x1)] [.ref x0] (pc' := 46) rfl rfl rfl ?_
  obtain ⟨v1, e2, h⟩ := m_bd h
  refine g_gr q7_f9 e2 ?_
  refine g_ch [(0, .ref x0), (1, .int x1)] [.ref x0, .ref v1] (pc' := 50) rfl rfl rfl ?_
  obtain ⟨v3, e4, h⟩ := m_bd h
  refine g_gi q7_f56 e4 ?_
  obtain ⟨v6, e5, h⟩ := m_bd h
  refine g_call (v := some (.int v6)) (h := hp) (st' := [.int v6]) (D1 := 0) (as := [.ref v1, .int v3]) (Or.inr (Or.inl rfl)) q7_m59 (m_cv (as := [.int v3]) (rest := []) (Or.inl rfl) q7_m59 jv1811 (OF9_numberAt e5) rfl rfl rfl rfl) (by decide) (SF9_numberAt e5) rfl ?_
  refine g_ch [(2, .int v6), (0, .ref x0), (1, .int x1)] [.ref x0] (pc' := 58) rfl rfl rfl ?_
  obtain ⟨v7, e8, h⟩ := m_bd h
  refine g_gi q7_f47 e8 ?_
  refine g_ch [(2, .int v6), (0, .ref x0), (1, .int x1)] [.int 1, .int v7] (pc' := 62) rfl rfl rfl ?_
  rcases m_ifd h with ⟨c9, h⟩ | ⟨c9, h⟩
  · refine g_ifn (t := 76) rfl (m_neF c9) ?_
    refine g_in eF7_readLine_65 mx1402 ?_
    refine g_ch [(2, .int v6), (0, .ref x0), (1, .int x1)] [.int 2, .int x1] (pc' := 67) rfl rfl rfl ?_
    rcases m_ifd h with ⟨c12, h⟩ | ⟨c12, h⟩
    · refine g_ifn (t := 81) rfl (m_neF c12) ?_
      refine g_in eF7_readLine_70 mx1402 ?_
      refine g_ch [(2, .int v6), (0, .ref x0), (1, .int x1)] [.int 100, .int v6] (pc' := 73) rfl rfl rfl ?_
      rcases m_ifd h with ⟨c13, h⟩ | ⟨c13, h⟩
      · refine g_if (t := 81) rfl (m_leT c13) ?_
        exact r_lv (SF7_readLine_81 x0 x1 v6 hp (K := K) k0 h hK) rfl ⟨rfl, rfl, rfl, trivial⟩
      · refine g_ifn (t := 81) rfl (m_leF c13) ?_
        refine g_in eF7_readLine_76 mx1402 ?_
        refine g_ch [(2, .int v6), (0, .ref x0), (1, .int x1)] [.ref x0] (pc' := 77) rfl rfl rfl ?_
        obtain ⟨h15, e14, h⟩ := m_bd h
        refine g_call (v := none) (h := h15) (st' := []) (D1 := 0) (as := [.ref x0]) (Or.inr (Or.inl rfl)) q7_m53 (m_cv (as := []) (rest := []) (Or.inl rfl) q7_m53 jv1408 (OF7_refuse e14) rfl rfl rfl rfl) (by decide) (SF7_refuse e14) rfl ?_
        cases h
        rw [k0 _ hK]
        exact g_vret rfl
    · refine g_if (t := 81) rfl (m_neT c12) ?_
      exact r_lv (SF7_readLine_81 x0 x1 v6 hp (K := K) k0 h hK) rfl ⟨rfl, rfl, rfl, trivial⟩
  · refine g_if (t := 76) rfl (m_neT c9) ?_
    refine g_in eF7_readLine_76 mx1402 ?_
    refine g_ch [(2, .int v6), (0, .ref x0), (1, .int x1)] [.ref x0] (pc' := 77) rfl rfl rfl ?_
    obtain ⟨h11, e10, h⟩ := m_bd h
    refine g_call (v := none) (h := h11) (st' := []) (D1 := 0) (as := [.ref x0]) (Or.inr (Or.inl rfl)) q7_m53 (m_cv (as := []) (rest := []) (Or.inl rfl) q7_m53 jv1408 (OF7_refuse e10) rfl rfl rfl rfl) (by decide) (SF7_refuse e10) rfl ?_
    cases h
    rw [k0 _ hK]
    exact g_vret rfl
theorem SF7_readLine_0 {xs : Nat → Int32} {L : Nat} (x0 : Nat) (hp : m_H) {r : m_O × m_H} {K : m_H → Prop} (k0 : ∀ x, K x → r = (.inl none, x)) {t : m_H} (h : F7_readLine_0 x0 hp = some t) (hK : K t) : m_Rn xs L 401 1402 0 [(0, .ref x0)] [] hp r := by
  unfold F7_readLine_0 at h
  refine g_in eF7_readLine_0 mx1402 ?_
  refine g_ch [(0, .ref x0)] [.ref x0] (pc' := 1) rfl rfl rfl ?_
  obtain ⟨v1, e2, h⟩ := m_bd h
  refine g_gi q7_f47 e2 ?_
  refine g_ch [(1, .int (v1 - 256)), (0, .ref x0)] [.int (v1 - 256)] (pc' := 10) rfl rfl rfl ?_
  rcases m_ifd h with ⟨c3, h⟩ | ⟨c3, h⟩
  · refine g_ifc (t := 18) rfl (m_ltT c3) ?_
    refine g_in eF7_readLine_18 mx1402 ?_
    refine g_ch [(1, .int (v1 - 256)), (0, .ref x0)] [.ref x0] (pc' := 19) rfl rfl rfl ?_
    obtain ⟨h5, e4, h⟩ := m_bd h
    refine g_call (v := none) (h := h5) (st' := []) (D1 := 0) (as := [.ref x0]) (Or.inr (Or.inl rfl)) q7_m53 (m_cv (as := []) (rest := []) (Or.inl rfl) q7_m53 jv1408 (OF7_refuse e4) rfl rfl rfl rfl) (by decide) (SF7_refuse e4) rfl ?_
    cases h
    rw [k0 _ hK]
    exact g_vret rfl
  · refine g_ifcn (t := 18) rfl (m_ltF c3) ?_
    refine g_in eF7_readLine_13 mx1402 ?_
    refine g_ch [(1, .int (v1 - 256)), (0, .ref x0)] [.int 3, .int (v1 - 256)] (pc' := 15) rfl rfl rfl ?_
    rcases m_ifd h with ⟨c6, h⟩ | ⟨c6, h⟩
    · refine g_if (t := 23) rfl (m_leT c6) ?_
      refine g_in eF7_readLine_23 mx1402 ?_
      refine g_ch [(1, .int (v1 - 256)), (0, .ref x0)] [.ref x0, .ref x0] (pc' := 25) rfl rfl rfl ?_
      obtain ⟨v7, e8, h⟩ := m_bd h
      refine g_gi q7_f56 e8 ?_
      refine g_ch [(1, .int (v1 - 256)), (0, .ref x0)] [.int (v7 + 1), .ref x0] (pc' := 30) rfl rfl rfl ?_
      obtain ⟨h10, e9, h⟩ := m_bd h
      refine g_call (v := none) (h := h10) (st' := []) (D1 := 0) (as := [.ref x0, .int (v7 + 1)]) (Or.inr (Or.inl rfl)) q7_m43 (m_cv (as := [.int (v7 + 1)]) (rest := []) (Or.inl rfl) q7_m43 jv1409 (OF7_lookAt e9) rfl rfl rfl rfl) (by decide) (SF7_lookAt e9) rfl ?_
      refine g_ch [(2, .int 0), (1, .int (v1 - 256)), (0, .ref x0)] [.int 1, .int (v1 - 256)] (pc' := 37) rfl rfl rfl ?_
      rcases m_ifd h with ⟨c11, h⟩ | ⟨c11, h⟩
      · refine g_if (t := 45) rfl (m_eqT c11) ?_
        exact r_lv (SF7_readLine_45 x0 (v1 - 256) h10 (K := K) k0 h hK) rfl ⟨rfl, rfl, trivial⟩
      · refine g_ifn (t := 45) rfl (m_eqF c11) ?_
        refine g_in eF7_readLine_40 mx1402 ?_
        refine g_ch [(2, .int 0), (1, .int (v1 - 256)), (0, .ref x0)] [.int 2, .int (v1 - 256)] (pc' := 42) rfl rfl rfl ?_
        rcases m_ifd h with ⟨c12, h⟩ | ⟨c12, h⟩
        · refine g_ifn (t := 91) rfl (m_neF c12) ?_
          exact r_lv (SF7_readLine_45 x0 (v1 - 256) h10 (K := K) k0 h hK) rfl ⟨rfl, rfl, trivial⟩
        · refine g_if (t := 91) rfl (m_neT c12) ?_
          exact r_lv (SF7_readLine_91 x0 (v1 - 256) 0 h10 (K := K) k0 h hK) rfl ⟨rfl, rfl, rfl, trivial⟩
    · refine g_ifn (t := 23) rfl (m_leF c6) ?_
      refine g_in eF7_readLine_18 mx1402 ?_
      refine g_ch [(1, .int (v1 - 256)), (0, .ref x0)] [.ref x0] (pc' := 19) rfl rfl rfl ?_
      obtain ⟨h14, e13, h⟩ := m_bd h
      refine g_call (v := none) (h := h14) (st' := []) (D1 := 0) (as := [.ref x0]) (Or.inr (Or.inl rfl)) q7_m53 (m_cv (as := []) (rest := []) (Or.inl rfl) q7_m53 jv1408 (OF7_refuse e13) rfl rfl rfl rfl) (by decide) (SF7_refuse e13) rfl ?_
      cases h
      rw [k0 _ hK]
      exact g_vret rfl
theorem OF7_readLine {x0 : Nat} {hp : m_H} {x : m_H} (h : F7_readLine x0 hp = some x) : m_isO hp 5 x0 = true := (m_gdd h).1
theorem SF7_readLine {xs : Nat → Int32} {L : Nat} {x0 : Nat} {hp : m_H} {x : m_H} (h : F7_readLine x0 hp = some x) : m_Rn xs L 401 1402 0 (lv_args 0 [.ref x0]) [] hp (.inl none, x) :=
  r_lv (SF7_readLine_0 x0 hp (K := fun y => y = x) (fun y e => by rw [e]) (m_gdd h).2 rfl) rfl ⟨rfl, trivial⟩
-- F9_addThing: LendHouse$Tape.addThing(III)V
theorem eF9_addThing_0 : m_Fe mi9_10 0 (m_ap [(.aload_n 0, 1)] ((.getfield 35, 3) :: ([(.ifCond .lt 79, 3)]))) := m_Fe_of nd1810 0 3 rfl
theorem eF9_addThing_83 : m_Fe mi9_10 83 ([(.return_, 1)]) := m_Fe_of nd1810 45 1 rfl
theorem eF9_addThing_7 : m_Fe mi9_10 7 (m_ap [(.aload_n 0, 1)] ((.getfield 35, 3) :: (m_ap [(.aload_n 0, 1)] ((.getfield 15, 3) :: ((.arraylength, 1) :: ([(.if_icmp .ge 67, 3)])))))) := m_Fe_of nd1810 3 6 rfl
theorem eF9_addThing_19 : m_Fe mi9_10 19 (m_ap [(.aload_n 0, 1)] ((.getfield 35, 3) :: (m_ap [(.aload_n 0, 1)] ((.getfield 19, 3) :: ((.arraylength, 1) :: ([(.if_icmp .ge 55, 3)])))))) := m_Fe_of nd1810 9 6 rfl
theorem eF9_addThing_31 : m_Fe mi9_10 31 (m_ap [(.aload_n 0, 1)] ((.getfield 35, 3) :: (m_ap [(.aload_n 0, 1)] ((.getfield 22, 3) :: ((.arraylength, 1) :: ([(.if_icmp .ge 43, 3)])))))) := m_Fe_of nd1810 15 6 rfl
theorem eF9_addThing_43 : m_Fe mi9_10 43 (m_ap [(.aload_n 0, 1)] ((.getfield 15, 3) :: (m_ap [(.aload_n 0, 1)] ((.getfield 35, 3) :: (m_ap [(.iload_n 1, 1)] ((.iastore, 1) :: (m_ap [(.aload_n 0, 1)] ((.getfield 19, 3) :: (m_ap [(.aload_n 0, 1)] ((.getfield 35, 3) :: (m_ap [(.iload_n 2, 1)] ((.iastore, 1) :: (m_ap [(.aload_n 0, 1)] ((.getfield 22, 3) :: (m_ap [(.aload_n 0, 1)] ((.getfield 35, 3) :: (m_ap [(.iload_n 3, 1)] ((.iastore, 1) :: (m_ap [(.aload_n 0, 1), (.dup, 1)] ((.getfield 35, 3) :: (m_ap [(.iconst 1, 1), (.iadd, 1)] ([(.putfield 35, 3)])))))))))))))))))))))) := m_Fe_of nd1810 21 24 rfl
theorem SF9_addThing_0 {xs : Nat → Int32} {L : Nat} (x0 : Nat) (x1 : Int32) (x2 : Int32) (x3 : Int32) (hp : m_H) {r : m_O × m_H} {K : m_H → Prop} (k0 : ∀ x, K x → r = (.inl none, x)) {t : m_H} (h : F9_addThing_0 x0 x1 x2 x3 hp = some t) (hK : K t) : m_Rn xs L 0 1810 0 [(0, .ref x0), (1, .int x1), (2, .int x2), (3, .int x3)] [] hp r := by
  unfold F9_addThing_0 at h
  refine g_in eF9_addThing_0 mx1810 ?_
  refine g_ch [(0, .ref x0), (1, .int x1), (2, .int x2), (3, .int x3)] [.ref x0] (pc' := 1) rfl rfl rfl ?_
  obtain ⟨v1, e2, h⟩ := m_bd h
  refine g_gi q9_f35 e2 ?_
  rcases m_ifd h with ⟨c3, h⟩ | ⟨c3, h⟩
  · refine g_ifc (t := 83) rfl (m_ltT c3) ?_
    refine g_in eF9_addThing_83 mx1810 ?_
    cases h
    rw [k0 _ hK]
    exact g_vret rfl
  · refine g_ifcn (t := 83) rfl (m_ltF c3) ?_
    refine g_in eF9_addThing_7 mx1810 ?_
    refine g_ch [(0, .ref x0), (1, .int x1), (2, .int x2), (3, .int x3)] [.ref x0] (pc' := 8) rfl rfl rfl ?_
    obtain ⟨v4, e5, h⟩ := m_bd h
    refine g_gi q9_f35 e5 ?_
    refine g_ch [(0, .ref x0), (1, .int x1), (2, .int x2), (3, .int x3)] [.ref x0, .int v4] (pc' := 12) rfl rfl rfl ?_
    obtain ⟨v6, e7, h⟩ := m_bd h
    refine g_gr q9_f15 e7 ?_
    obtain ⟨v8, e9, h⟩ := m_bd h
    refine g_len e9 ?_
    rcases m_ifd h with ⟨c10, h⟩ | ⟨c10, h⟩
    · refine g_if (t := 83) rfl (m_geT c10) ?_
      refine g_in eF9_addThing_83 mx1810 ?_
      cases h
      rw [k0 _ hK]
      exact g_vret rfl
    · refine g_ifn (t := 83) rfl (m_geF c10) ?_
      refine g_in eF9_addThing_19 mx1810 ?_
      refine g_ch [(0, .ref x0), (1, .int x1), (2, .int x2), (3, .int x3)] [.ref x0] (pc' := 20) rfl rfl rfl ?_
      obtain ⟨v11, e12, h⟩ := m_bd h
      refine g_gi q9_f35 e12 ?_
      refine g_ch [(0, .ref x0), (1, .int x1), (2, .int x2), (3, .int x3)] [.ref x0, .int v11] (pc' := 24) rfl rfl rfl ?_
      obtain ⟨v13, e14, h⟩ := m_bd h
      refine g_gr q9_f19 e14 ?_
      obtain ⟨v15, e16, h⟩ := m_bd h
      refine g_len e16 ?_
      rcases m_ifd h with ⟨c17, h⟩ | ⟨c17, h⟩
      · refine g_if (t := 83) rfl (m_geT c17) ?_
        refine g_in eF9_addThing_83 mx1810 ?_
        cases h
        rw [k0 _ hK]
        exact g_vret rfl
      · refine g_ifn (t := 83) rfl (m_geF c17) ?_
        refine g_in eF9_addThing_31 mx1810 ?_
        refine g_ch [(0, .ref x0), (1, .int x1), (2, .int x2), (3, .int x3)] [.ref x0] (pc' := 32) rfl rfl rfl ?_
        obtain ⟨v18, e19, h⟩ := m_bd h
        refine g_gi q9_f35 e19 ?_
        refine g_ch [(0, .ref x0), (1, .int x1), (2, .int x2), (3, .int x3)] [.ref x0, .int v18] (pc' := 36) rfl rfl rfl ?_
        obtain ⟨v20, e21, h⟩ := m_bd h
        refine g_gr q9_f22 e21 ?_
        obtain ⟨v22, e23, h⟩ := m_bd h
        refine g_len e23 ?_
        rcases m_ifd h with ⟨c24, h⟩ | ⟨c24, h⟩
        · refine g_if (t := 83) rfl (m_geT c24) ?_
          refine g_in eF9_addThing_83 mx1810 ?_
          cases h
          rw [k0 _ hK]
          exact g_vret rfl
        · refine g_ifn (t := 83) rfl (m_geF c24) ?_
          refine g_in eF9_addThing_43 mx1810 ?_
          refine g_ch [(0, .ref x0), (1, .int x1), (2, .int x2), (3, .int x3)] [.ref x0] (pc' := 44) rfl rfl rfl ?_
          obtain ⟨v25, e26, h⟩ := m_bd h
          refine g_gr q9_f15 e26 ?_
          refine g_ch [(0, .ref x0), (1, .int x1), (2, .int x2), (3, .int x3)] [.ref x0, .ref v25] (pc' := 48) rfl rfl rfl ?_
          obtain ⟨v27, e28, h⟩ := m_bd h
          refine g_gi q9_f35 e28 ?_
          refine g_ch [(0, .ref x0), (1, .int x1), (2, .int x2), (3, .int x3)] [.int x1, .int v27, .ref v25] (pc' := 52) rfl rfl rfl ?_
          obtain ⟨h29, e30, h⟩ := m_bd h
          refine g_is e30 ?_
          refine g_ch [(0, .ref x0), (1, .int x1), (2, .int x2), (3, .int x3)] [.ref x0] (pc' := 54) rfl rfl rfl ?_
          obtain ⟨v31, e32, h⟩ := m_bd h
          refine g_gr q9_f19 e32 ?_
          refine g_ch [(0, .ref x0), (1, .int x1), (2, .int x2), (3, .int x3)] [.ref x0, .ref v31] (pc' := 58) rfl rfl rfl ?_
          obtain ⟨v33, e34, h⟩ := m_bd h
          refine g_gi q9_f35 e34 ?_
          refine g_ch [(0, .ref x0), (1, .int x1), (2, .int x2), (3, .int x3)] [.int x2, .int v33, .ref v31] (pc' := 62) rfl rfl rfl ?_
          obtain ⟨h35, e36, h⟩ := m_bd h
          refine g_is e36 ?_
          refine g_ch [(0, .ref x0), (1, .int x1), (2, .int x2), (3, .int x3)] [.ref x0] (pc' := 64) rfl rfl rfl ?_
          obtain ⟨v37, e38, h⟩ := m_bd h
          refine g_gr q9_f22 e38 ?_
          refine g_ch [(0, .ref x0), (1, .int x1), (2, .int x2), (3, .int x3)] [.ref x0, .ref v37] (pc' := 68) rfl rfl rfl ?_
          obtain ⟨v39, e40, h⟩ := m_bd h
          refine g_gi q9_f35 e40 ?_
          refine g_ch [(0, .ref x0), (1, .int x1), (2, .int x2), (3, .int x3)] [.int x3, .int v39, .ref v37] (pc' := 72) rfl rfl rfl ?_
          obtain ⟨h41, e42, h⟩ := m_bd h
          refine g_is e42 ?_
          refine g_ch [(0, .ref x0), (1, .int x1), (2, .int x2), (3, .int x3)] [.ref x0, .ref x0] (pc' := 75) rfl rfl rfl ?_
          obtain ⟨v43, e44, h⟩ := m_bd h
          refine g_gi q9_f35 e44 ?_
          refine g_ch [(0, .ref x0), (1, .int x1), (2, .int x2), (3, .int x3)] [.int (v43 + 1), .ref x0] (pc' := 80) rfl rfl rfl ?_
          obtain ⟨h45, e46, h⟩ := m_bd h
          refine g_pf q9_f35 e46 ?_
          refine g_end ?_
          refine g_in eF9_addThing_83 mx1810 ?_
          cases h
          rw [k0 _ hK]
          exact g_vret rfl
theorem OF9_addThing {x0 : Nat} {x1 : Int32} {x2 : Int32} {x3 : Int32} {hp : m_H} {x : m_H} (h : F9_addThing x0 x1 x2 x3 hp = some x) : m_isO hp 7 x0 = true := (m_gdd h).1
theorem SF9_addThing {xs : Nat → Int32} {L : Nat} {x0 : Nat} {x1 : Int32} {x2 : Int32} {x3 : Int32} {hp : m_H} {x : m_H} (h : F9_addThing x0 x1 x2 x3 hp = some x) : m_Rn xs L 0 1810 0 (lv_args 0 [.ref x0, .int x1, .int x2, .int x3]) [] hp (.inl none, x) :=
  r_lv (SF9_addThing_0 x0 x1 x2 x3 hp (K := fun y => y = x) (fun y e => by rw [e]) (m_gdd h).2 rfl) rfl ⟨rfl, rfl, rfl, rfl, trivial⟩
-- F9_byteAt: LendHouse$Tape.byteAt(I)C
theorem eF9_byteAt_0 : m_Fe mi9_12 0 (m_ap [(.iload_n 1, 1)] ([(.ifCond .lt 29, 3)])) := m_Fe_of nd1812 0 2 rfl
theorem eF9_byteAt_30 : m_Fe mi9_12 30 (m_ap [(.iconst 0, 1)] ([])) := m_Fe_of nd1812 16 1 rfl
theorem eF9_byteAt_31 : m_Fe mi9_12 31 ([(.ireturn, 1)]) := m_Fe_of nd1812 17 1 rfl
theorem eF9_byteAt_4 : m_Fe mi9_12 4 (m_ap [(.iload_n 1, 1), (.aload_n 0, 1)] ((.getfield 29, 3) :: ([(.if_icmp .ge 21, 3)]))) := m_Fe_of nd1812 2 4 rfl
theorem eF9_byteAt_12 : m_Fe mi9_12 12 (m_ap [(.iload_n 1, 1), (.aload_n 0, 1)] ((.getfield 11, 3) :: ((.arraylength, 1) :: ([(.if_icmp .ge 12, 3)])))) := m_Fe_of nd1812 6 5 rfl
theorem eF9_byteAt_21 : m_Fe mi9_12 21 (m_ap [(.aload_n 0, 1)] ((.getfield 11, 3) :: (m_ap [(.iload_n 1, 1)] ((.caload, 1) :: ([(.goto 4, 3)]))))) := m_Fe_of nd1812 11 5 rfl
theorem SF9_byteAt_0 {xs : Nat → Int32} {L : Nat} (x0 : Nat) (x1 : Int32) (hp : m_H) {r : m_O × m_H} {K : Int32 → Prop} (k0 : ∀ x, K x → r = (.inl (some (.int x)), hp)) {t : Int32} (h : F9_byteAt_0 x0 x1 hp = some t) (hK : K t) : m_Rn xs L 0 1812 0 [(0, .ref x0), (1, .int x1)] [] hp r := by
  unfold F9_byteAt_0 at h
  refine g_in eF9_byteAt_0 mx1812 ?_
  refine g_ch [(0, .ref x0), (1, .int x1)] [.int x1] (pc' := 1) rfl rfl rfl ?_
  rcases m_ifd h with ⟨c1, h⟩ | ⟨c1, h⟩
  · refine g_ifc (t := 30) rfl (m_ltT c1) ?_
    refine g_in eF9_byteAt_30 mx1812 ?_
    refine g_ch [(0, .ref x0), (1, .int x1)] [.int 0] (pc' := 31) rfl rfl rfl ?_
    refine g_end ?_
    refine g_in eF9_byteAt_31 mx1812 ?_
    cases h
    rw [k0 _ hK]
    exact g_iret rfl (by decide +kernel)
  · refine g_ifcn (t := 30) rfl (m_ltF c1) ?_
    refine g_in eF9_byteAt_4 mx1812 ?_
    refine g_ch [(0, .ref x0), (1, .int x1)] [.ref x0, .int x1] (pc' := 6) rfl rfl rfl ?_
    obtain ⟨v2, e3, h⟩ := m_bd h
    refine g_gi q9_f29 e3 ?_
    rcases m_ifd h with ⟨c4, h⟩ | ⟨c4, h⟩
    · refine g_if (t := 30) rfl (m_geT c4) ?_
      refine g_in eF9_byteAt_30 mx1812 ?_
      refine g_ch [(0, .ref x0), (1, .int x1)] [.int 0] (pc' := 31) rfl rfl rfl ?_
      refine g_end ?_
      refine g_in eF9_byteAt_31 mx1812 ?_
      cases h
      rw [k0 _ hK]
      exact g_iret rfl (by decide +kernel)
    · refine g_ifn (t := 30) rfl (m_geF c4) ?_
      refine g_in eF9_byteAt_12 mx1812 ?_
      refine g_ch [(0, .ref x0), (1, .int x1)] [.ref x0, .int x1] (pc' := 14) rfl rfl rfl ?_
      obtain ⟨v5, e6, h⟩ := m_bd h
      refine g_gr q9_f11 e6 ?_
      obtain ⟨v7, e8, h⟩ := m_bd h
      refine g_len e8 ?_
      rcases m_ifd h with ⟨c9, h⟩ | ⟨c9, h⟩
      · refine g_if (t := 30) rfl (m_geT c9) ?_
        refine g_in eF9_byteAt_30 mx1812 ?_
        refine g_ch [(0, .ref x0), (1, .int x1)] [.int 0] (pc' := 31) rfl rfl rfl ?_
        refine g_end ?_
        refine g_in eF9_byteAt_31 mx1812 ?_
        cases h
        rw [k0 _ hK]
        exact g_iret rfl (by decide +kernel)
      · refine g_ifn (t := 30) rfl (m_geF c9) ?_
        refine g_in eF9_byteAt_21 mx1812 ?_
        refine g_ch [(0, .ref x0), (1, .int x1)] [.ref x0] (pc' := 22) rfl rfl rfl ?_
        obtain ⟨v10, e11, h⟩ := m_bd h
        refine g_gr q9_f11 e11 ?_
        refine g_ch [(0, .ref x0), (1, .int x1)] [.int x1, .ref v10] (pc' := 26) rfl rfl rfl ?_
        obtain ⟨v12, e13, h⟩ := m_bd h
        refine g_ca e13 ?_
        refine g_goto (t := 31) rfl ?_
        refine g_in eF9_byteAt_31 mx1812 ?_
        obtain ⟨e14, h⟩ := m_gdd h
        cases h
        rw [k0 _ hK]
        exact g_iret rfl e14
theorem OF9_byteAt {x0 : Nat} {x1 : Int32} {hp : m_H} {x : Int32} (h : F9_byteAt x0 x1 hp = some x) : m_isO hp 7 x0 = true := (m_gdd h).1
theorem SF9_byteAt {xs : Nat → Int32} {L : Nat} {x0 : Nat} {x1 : Int32} {hp : m_H} {x : Int32} (h : F9_byteAt x0 x1 hp = some x) : m_Rn xs L 0 1812 0 (lv_args 0 [.ref x0, .int x1]) [] hp (.inl (some (.int x)), hp) :=
  r_lv (SF9_byteAt_0 x0 x1 hp (K := fun y => y = x) (fun y e => by rw [e]) (m_gdd h).2 rfl) rfl ⟨rfl, rfl, trivial⟩
-- F9_isDigit: LendHouse$Tape.isDigit(C)Z
theorem eF9_isDigit_0 : m_Fe mi9_13 0 (m_ap [(.iload_n 0, 1), (.bipush 48, 2)] ([(.if_icmp .lt 13, 3)])) := m_Fe_of nd1813 0 3 rfl
theorem eF9_isDigit_16 : m_Fe mi9_13 16 (m_ap [(.iconst 0, 1)] ([])) := m_Fe_of nd1813 8 1 rfl
theorem eF9_isDigit_17 : m_Fe mi9_13 17 ([(.ireturn, 1)]) := m_Fe_of nd1813 9 1 rfl
theorem eF9_isDigit_6 : m_Fe mi9_13 6 (m_ap [(.iload_n 0, 1), (.bipush 57, 2)] ([(.if_icmp .gt 7, 3)])) := m_Fe_of nd1813 3 3 rfl
theorem eF9_isDigit_12 : m_Fe mi9_13 12 (m_ap [(.iconst 1, 1)] ([(.goto 4, 3)])) := m_Fe_of nd1813 6 2 rfl
theorem SF9_isDigit_0 {xs : Nat → Int32} {L : Nat} (x0 : Int32) (hp : m_H) {r : m_O × m_H} {K : Int32 → Prop} (k0 : ∀ x, K x → r = (.inl (some (.int x)), hp)) {t : Int32} (h : F9_isDigit_0 x0 hp = some t) (hK : K t) : m_Rn xs L 0 1813 0 [(0, .int x0)] [] hp r := by
  unfold F9_isDigit_0 at h
  refine g_in eF9_isDigit_0 mx1813 ?_
  refine g_ch [(0, .int x0)] [.int 48, .int x0] (pc' := 3) rfl rfl rfl ?_
  rcases m_ifd h with ⟨c1, h⟩ | ⟨c1, h⟩
  · refine g_if (t := 16) rfl (m_ltT c1) ?_
    refine g_in eF9_isDigit_16 mx1813 ?_
    refine g_ch [(0, .int x0)] [.int 0] (pc' := 17) rfl rfl rfl ?_
    refine g_end ?_
    refine g_in eF9_isDigit_17 mx1813 ?_
    cases h
    rw [k0 _ hK]
    exact g_iret rfl (by decide +kernel)
  · refine g_ifn (t := 16) rfl (m_ltF c1) ?_
    refine g_in eF9_isDigit_6 mx1813 ?_
    refine g_ch [(0, .int x0)] [.int 57, .int x0] (pc' := 9) rfl rfl rfl ?_
    rcases m_ifd h with ⟨c2, h⟩ | ⟨c2, h⟩
    · refine g_if (t := 16) rfl (m_gtT c2) ?_
      refine g_in eF9_isDigit_16 mx1813 ?_
      refine g_ch [(0, .int x0)] [.int 0] (pc' := 17) rfl rfl rfl ?_
      refine g_end ?_
      refine g_in eF9_isDigit_17 mx1813 ?_
      cases h
      rw [k0 _ hK]
      exact g_iret rfl (by decide +kernel)
    · refine g_ifn (t := 16) rfl (m_gtF c2) ?_
      refine g_in eF9_isDigit_12 mx1813 ?_
      refine g_ch [(0, .int x0)] [.int 1] (pc' := 13) rfl rfl rfl ?_
      refine g_goto (t := 17) rfl ?_
      refine g_in eF9_isDigit_17 mx1813 ?_
      cases h
      rw [k0 _ hK]
      exact g_iret rfl (by decide +kernel)
theorem SF9_isDigit {xs : Nat → Int32} {L : Nat} {x0 : Int32} {hp : m_H} {x : Int32} (h : F9_isDigit x0 hp = some x) : m_Rn xs L 0 1813 0 (lv_args 0 [.int x0]) [] hp (.inl (some (.int x)), hp) :=
  r_lv (SF9_isDigit_0 x0 hp (K := fun y => y = x) (fun y e => by rw [e]) h rfl) rfl ⟨rfl, trivial⟩
-- F9_passNumber: LendHouse$Tape.passNumber()I
theorem eF9_passNumber_0 : m_Fe mi9_6 0 (m_ap [(.iconst 0, 1), (.istore_n 1, 1), (.iconst 0, 1), (.istore_n 2, 1)] ([])) := m_Fe_of nd1806 0 4 rfl
theorem eF9_passNumber_4 : m_Fe mi9_6 4 (m_ap [(.iload_n 2, 1), (.aload_n 0, 1)] ((.getfield 29, 3) :: ([(.if_icmp .ge 55, 3)]))) := m_Fe_of nd1806 4 4 rfl
theorem eF9_passNumber_64 : m_Fe mi9_6 64 (m_ap [(.iload_n 1, 1)] ([(.ireturn, 1)])) := m_Fe_of nd1806 36 2 rfl
theorem eF9_passNumber_12 : m_Fe mi9_6 12 (m_ap [(.aload_n 0, 1), (.aload_n 0, 1)] ((.getfield 32, 3) :: ((.invokevirtual 45, 3) :: ((.invokestatic 53, 3) :: ([(.ifCond .eq 41, 3)]))))) := m_Fe_of nd1806 8 6 rfl
theorem eF9_passNumber_26 : m_Fe mi9_6 26 (m_ap [(.iload_n 2, 1), (.iconst 5, 1)] ([(.if_icmp .ge 20, 3)])) := m_Fe_of nd1806 14 3 rfl
theorem eF9_passNumber_31 : m_Fe mi9_6 31 (m_ap [(.iload_n 1, 1), (.bipush 10, 2), (.imul, 1), (.aload_n 0, 1), (.aload_n 0, 1)] ((.getfield 32, 3) :: ((.invokevirtual 45, 3) :: (m_ap [(.bipush 48, 2), (.isub, 1), (.iadd, 1), (.istore_n 1, 1)] ([]))))) := m_Fe_of nd1806 17 11 rfl
theorem eF9_passNumber_48 : m_Fe mi9_6 48 (m_ap [(.aload_n 0, 1), (.dup, 1)] ((.getfield 32, 3) :: (m_ap [(.iconst 1, 1), (.iadd, 1)] ((.putfield 32, 3) :: (m_ap [(.iinc 2 1, 3)] ([(.goto (-57), 3)])))))) := m_Fe_of nd1806 28 8 rfl
theorem SF9_passNumber_48 {xs : Nat → Int32} {L : Nat} (x0 : Nat) (x1 : Int32) (x2 : Int32) (hp : m_H) {r : m_O × m_H} {K : ((Int32 × Int32 × m_H) ⊕ (Int32 × m_H)) → Prop} (k0 : ∀ x, K (.inr x) → r = (.inl (some (.int x.1)), x.2)) (k1 : ∀ s, K (.inl s) → m_Rn xs L 1 1806 4 [(0, .ref x0), (1, .int s.1), (2, .int s.2.1)] [] s.2.2 r) {t : (Int32 × Int32 × m_H) ⊕ (Int32 × m_H)} (h : F9_passNumber_48 x0 x1 x2 hp = some t) (hK : K t) : m_Rn xs L 1 1806 48 [(0, .ref x0), (1, .int x1), (2, .int x2)] [] hp r := by
  unfold F9_passNumber_48 at h
  refine g_in eF9_passNumber_48 mx1806 ?_
  refine g_ch [(0, .ref x0), (1, .int x1), (2, .int x2)] [.ref x0, .ref x0] (pc' := 50) rfl rfl rfl ?_
  obtain ⟨v1, e2, h⟩ := m_bd h
  refine g_gi q9_f32 e2 ?_
  refine g_ch [(0, .ref x0), (1, .int x1), (2, .int x2)] [.int (v1 + 1), .ref x0] (pc' := 55) rfl rfl rfl ?_
  obtain ⟨h3, e4, h⟩ := m_bd h
  refine g_pf q9_f32 e4 ?_
  refine g_ch [(2, .int (x2 + 1)), (0, .ref x0), (1, .int x1)] [] (pc' := 61) rfl rfl rfl ?_
  refine g_goto (t := 4) rfl ?_
  cases h
  exact r_lv (k1 (x1, (x2 + 1), h3) hK) rfl ⟨rfl, rfl, rfl, trivial⟩
theorem SF9_passNumber_4b {xs : Nat → Int32} {L : Nat} (x0 : Nat) (s : Int32 × Int32 × m_H) {r : m_O × m_H} {K : ((Int32 × Int32 × m_H) ⊕ (Int32 × m_H)) → Prop} (k0 : ∀ x, K (.inr x) → r = (.inl (some (.int x.1)), x.2)) (k1 : ∀ s, K (.inl s) → m_Rn xs L 1 1806 4 [(0, .ref x0), (1, .int s.1), (2, .int s.2.1)] [] s.2.2 r) {t : (Int32 × Int32 × m_H) ⊕ (Int32 × m_H)} (h : F9_passNumber_4b x0 s = some t) (hK : K t) : m_Rn xs L 1 1806 4 [(0, .ref x0), (1, .int s.1), (2, .int s.2.1)] [] s.2.2 r := by
  unfold F9_passNumber_4b at h
  refine g_in eF9_passNumber_4 mx1806 ?_
  refine g_ch [(0, .ref x0), (1, .int s.1), (2, .int s.2.1)] [.ref x0, .int s.2.1] (pc' := 6) rfl rfl rfl ?_
  obtain ⟨v1, e2, h⟩ := m_bd h
  refine g_gi q9_f29 e2 ?_
  rcases m_ifd h with ⟨c3, h⟩ | ⟨c3, h⟩
  · refine g_if (t := 64) rfl (m_geT c3) ?_
    refine g_in eF9_passNumber_64 mx1806 ?_
    refine g_ch [(0, .ref x0), (1, .int s.1), (2, .int s.2.1)] [.int s.1] (pc' := 65) rfl rfl rfl ?_
    cases h
    rw [k0 _ hK]
    exact g_iret rfl rfl
  · refine g_ifn (t := 64) rfl (m_geF c3) ?_
    refine g_in eF9_passNumber_12 mx1806 ?_
    refine g_ch [(0, .ref x0), (1, .int s.1), (2, .int s.2.1)] [.ref x0, .ref x0] (pc' := 14) rfl rfl rfl ?_
    obtain ⟨v4, e5, h⟩ := m_bd h
    refine g_gi q9_f32 e5 ?_
    obtain ⟨v7, e6, h⟩ := m_bd h
    refine g_call (v := some (.int v7)) (h := s.2.2) (st' := [.int v7]) (D1 := 0) (as := [.ref x0, .int v4]) (Or.inr (Or.inl rfl)) q9_m45 (m_cv (as := [.int v4]) (rest := []) (Or.inl rfl) q9_m45 jv1812 (OF9_byteAt e6) rfl rfl rfl rfl) (by decide) (SF9_byteAt e6) rfl ?_
    obtain ⟨v9, e8, h⟩ := m_bd h
    refine g_call (v := some (.int v9)) (h := s.2.2) (st' := [.int v9]) (D1 := 0) (as := [.int v7]) (Or.inl rfl) q9_m53 (m_cs (as := [.int v7]) (rest := []) q9_m53 jv1813 rfl rfl rfl rfl rfl) (by decide) (SF9_isDigit e8) rfl ?_
    rcases m_ifd h with ⟨c10, h⟩ | ⟨c10, h⟩
    · refine g_ifc (t := 64) rfl (m_eqT c10) ?_
      refine g_in eF9_passNumber_64 mx1806 ?_
      refine g_ch [(0, .ref x0), (1, .int s.1), (2, .int s.2.1)] [.int s.1] (pc' := 65) rfl rfl rfl ?_
      cases h
      rw [k0 _ hK]
      exact g_iret rfl rfl
    · refine g_ifcn (t := 64) rfl (m_eqF c10) ?_
      refine g_in eF9_passNumber_26 mx1806 ?_
      refine g_ch [(0, .ref x0), (1, .int s.1), (2, .int s.2.1)] [.int 5, .int s.2.1] (pc' := 28) rfl rfl rfl ?_
      rcases m_ifd h with ⟨c11, h⟩ | ⟨c11, h⟩
      · refine g_if (t := 48) rfl (m_geT c11) ?_
        exact r_lv (SF9_passNumber_48 x0 s.1 s.2.1 s.2.2 (K := K) k0 k1 h hK) rfl ⟨rfl, rfl, rfl, trivial⟩
      · refine g_ifn (t := 48) rfl (m_geF c11) ?_
        refine g_in eF9_passNumber_31 mx1806 ?_
        refine g_ch [(0, .ref x0), (1, .int s.1), (2, .int s.2.1)] [.ref x0, .ref x0, .int (s.1 * 10)] (pc' := 37) rfl rfl rfl ?_
        obtain ⟨v12, e13, h⟩ := m_bd h
        refine g_gi q9_f32 e13 ?_
        obtain ⟨v15, e14, h⟩ := m_bd h
        refine g_call (v := some (.int v15)) (h := s.2.2) (st' := [.int v15, .int (s.1 * 10)]) (D1 := 0) (as := [.ref x0, .int v12]) (Or.inr (Or.inl rfl)) q9_m45 (m_cv (as := [.int v12]) (rest := [.int (s.1 * 10)]) (Or.inl rfl) q9_m45 jv1812 (OF9_byteAt e14) rfl rfl rfl rfl) (by decide) (SF9_byteAt e14) rfl ?_
        refine g_ch [(1, .int ((s.1 * 10) + (v15 - 48))), (0, .ref x0), (2, .int s.2.1)] [] (pc' := 48) rfl rfl rfl ?_
        refine g_end ?_
        exact r_lv (SF9_passNumber_48 x0 ((s.1 * 10) + (v15 - 48)) s.2.1 s.2.2 (K := K) k0 k1 h hK) rfl ⟨rfl, rfl, rfl, trivial⟩
theorem SF9_passNumber_4 {xs : Nat → Int32} {L : Nat} (x0 : Nat) (x1 : Int32) (x2 : Int32) (hp : m_H) {r : m_O × m_H} {K : Int32 × m_H → Prop} (k0 : ∀ x, K x → r = (.inl (some (.int x.1)), x.2)) {t : Int32 × m_H} (h : F9_passNumber_4 x0 x1 x2 hp = some t) (hK : K t) : m_Rn xs L 1 1806 4 [(0, .ref x0), (1, .int x1), (2, .int x2)] [] hp r :=
  m_wh_ok (P := fun s => m_Rn xs L 1 1806 4 [(0, .ref x0), (1, .int s.1), (2, .int s.2.1)] [] s.2.2 r) (Q := K) (fun s t hb hK => SF9_passNumber_4b x0 s (K := m_KK (fun s => m_Rn xs L 1 1806 4 [(0, .ref x0), (1, .int s.1), (2, .int s.2.1)] [] s.2.2 r) K) k0 (fun _ q => q) hb hK) m_N _ _ h hK
theorem SF9_passNumber_0 {xs : Nat → Int32} {L : Nat} (x0 : Nat) (hp : m_H) {r : m_O × m_H} {K : (Int32 × m_H) → Prop} (k0 : ∀ x, K x → r = (.inl (some (.int x.1)), x.2)) {t : Int32 × m_H} (h : F9_passNumber_0 x0 hp = some t) (hK : K t) : m_Rn xs L 1 1806 0 [(0, .ref x0)] [] hp r := by
  unfold F9_passNumber_0 at h
  refine g_in eF9_passNumber_0 mx1806 ?_
  refine g_ch [(2, .int 0), (1, .int 0), (0, .ref x0)] [] (pc' := 4) rfl rfl rfl ?_
  refine g_end ?_
  exact r_lv (SF9_passNumber_4 x0 0 0 hp (K := K) k0 h hK) rfl ⟨rfl, rfl, rfl, trivial⟩
theorem OF9_passNumber {x0 : Nat} {hp : m_H} {x : Int32 × m_H} (h : F9_passNumber x0 hp = some x) : m_isO hp 7 x0 = true := (m_gdd h).1
theorem SF9_passNumber {xs : Nat → Int32} {L : Nat} {x0 : Nat} {hp : m_H} {x : Int32 × m_H} (h : F9_passNumber x0 hp = some x) : m_Rn xs L 1 1806 0 (lv_args 0 [.ref x0]) [] hp (.inl (some (.int x.1)), x.2) :=
  r_lv (SF9_passNumber_0 x0 hp (K := fun y => y = x) (fun y e => by rw [e]) (m_gdd h).2 rfl) rfl ⟨rfl, trivial⟩
-- F9_isLetter: LendHouse$Tape.isLetter(C)Z
theorem eF9_isLetter_0 : m_Fe mi9_14 0 (m_ap [(.iload_n 0, 1), (.bipush 97, 2)] ([(.if_icmp .lt 13, 3)])) := m_Fe_of nd1814 0 3 rfl
theorem eF9_isLetter_16 : m_Fe mi9_14 16 (m_ap [(.iconst 0, 1)] ([])) := m_Fe_of nd1814 8 1 rfl
theorem eF9_isLetter_17 : m_Fe mi9_14 17 ([(.ireturn, 1)]) := m_Fe_of nd1814 9 1 rfl
theorem eF9_isLetter_6 : m_Fe mi9_14 6 (m_ap [(.iload_n 0, 1), (.bipush 122, 2)] ([(.if_icmp .gt 7, 3)])) := m_Fe_of nd1814 3 3 rfl
theorem eF9_isLetter_12 : m_Fe mi9_14 12 (m_ap [(.iconst 1, 1)] ([(.goto 4, 3)])) := m_Fe_of nd1814 6 2 rfl
theorem SF9_isLetter_0 {xs : Nat → Int32} {L : Nat} (x0 : Int32) (hp : m_H) {r : m_O × m_H} {K : Int32 → Prop} (k0 : ∀ x, K x → r = (.inl (some (.int x)), hp)) {t : Int32} (h : F9_isLetter_0 x0 hp = some t) (hK : K t) : m_Rn xs L 0 1814 0 [(0, .int x0)] [] hp r := by
  unfold F9_isLetter_0 at h
  refine g_in eF9_isLetter_0 mx1814 ?_
  refine g_ch [(0, .int x0)] [.int 97, .int x0] (pc' := 3) rfl rfl rfl ?_
  rcases m_ifd h with ⟨c1, h⟩ | ⟨c1, h⟩
  · refine g_if (t := 16) rfl (m_ltT c1) ?_
    refine g_in eF9_isLetter_16 mx1814 ?_
    refine g_ch [(0, .int x0)] [.int 0] (pc' := 17) rfl rfl rfl ?_
    refine g_end ?_
    refine g_in eF9_isLetter_17 mx1814 ?_
    cases h
    rw [k0 _ hK]
    exact g_iret rfl (by decide +kernel)
  · refine g_ifn (t := 16) rfl (m_ltF c1) ?_
    refine g_in eF9_isLetter_6 mx1814 ?_
    refine g_ch [(0, .int x0)] [.int 122, .int x0] (pc' := 9) rfl rfl rfl ?_
    rcases m_ifd h with ⟨c2, h⟩ | ⟨c2, h⟩
    · refine g_if (t := 16) rfl (m_gtT c2) ?_
      refine g_in eF9_isLetter_16 mx1814 ?_
      refine g_ch [(0, .int x0)] [.int 0] (pc' := 17) rfl rfl rfl ?_
      refine g_end ?_
      refine g_in eF9_isLetter_17 mx1814 ?_
      cases h
      rw [k0 _ hK]
      exact g_iret rfl (by decide +kernel)
    · refine g_ifn (t := 16) rfl (m_gtF c2) ?_
      refine g_in eF9_isLetter_12 mx1814 ?_
      refine g_ch [(0, .int x0)] [.int 1] (pc' := 13) rfl rfl rfl ?_
      refine g_goto (t := 17) rfl ?_
      refine g_in eF9_isLetter_17 mx1814 ?_
      cases h
      rw [k0 _ hK]
      exact g_iret rfl (by decide +kernel)
theorem SF9_isLetter {xs : Nat → Int32} {L : Nat} {x0 : Int32} {hp : m_H} {x : Int32} (h : F9_isLetter x0 hp = some x) : m_Rn xs L 0 1814 0 (lv_args 0 [.int x0]) [] hp (.inl (some (.int x)), hp) :=
  r_lv (SF9_isLetter_0 x0 hp (K := fun y => y = x) (fun y e => by rw [e]) h rfl) rfl ⟨rfl, trivial⟩
-- F9_passWord: LendHouse$Tape.passWord()V
theorem eF9_passWord_0 : m_Fe mi9_7 0 (m_ap [(.iconst 0, 1), (.istore_n 1, 1)] ([])) := m_Fe_of nd1807 0 2 rfl
theorem eF9_passWord_2 : m_Fe mi9_7 2 (m_ap [(.iload_n 1, 1), (.aload_n 0, 1)] ((.getfield 29, 3) :: ([(.if_icmp .ge 33, 3)]))) := m_Fe_of nd1807 2 4 rfl
theorem eF9_passWord_40 : m_Fe mi9_7 40 ([(.return_, 1)]) := m_Fe_of nd1807 20 1 rfl
theorem eF9_passWord_10 : m_Fe mi9_7 10 (m_ap [(.aload_n 0, 1), (.aload_n 0, 1)] ((.getfield 32, 3) :: ((.invokevirtual 45, 3) :: ((.invokestatic 61, 3) :: ([(.ifCond .eq 19, 3)]))))) := m_Fe_of nd1807 6 6 rfl
theorem eF9_passWord_24 : m_Fe mi9_7 24 (m_ap [(.aload_n 0, 1), (.dup, 1)] ((.getfield 32, 3) :: (m_ap [(.iconst 1, 1), (.iadd, 1)] ((.putfield 32, 3) :: (m_ap [(.iinc 1 1, 3)] ([(.goto (-35), 3)])))))) := m_Fe_of nd1807 12 8 rfl
theorem SF9_passWord_2b {xs : Nat → Int32} {L : Nat} (x0 : Nat) (s : Int32 × m_H) {r : m_O × m_H} {K : ((Int32 × m_H) ⊕ m_H) → Prop} (k0 : ∀ x, K (.inr x) → r = (.inl none, x)) (k1 : ∀ s, K (.inl s) → m_Rn xs L 1 1807 2 [(0, .ref x0), (1, .int s.1)] [] s.2 r) {t : (Int32 × m_H) ⊕ m_H} (h : F9_passWord_2b x0 s = some t) (hK : K t) : m_Rn xs L 1 1807 2 [(0, .ref x0), (1, .int s.1)] [] s.2 r := by
  unfold F9_passWord_2b at h
  refine g_in eF9_passWord_2 mx1807 ?_
  refine g_ch [(0, .ref x0), (1, .int s.1)] [.ref x0, .int s.1] (pc' := 4) rfl rfl rfl ?_
  obtain ⟨v1, e2, h⟩ := m_bd h
  refine g_gi q9_f29 e2 ?_
  rcases m_ifd h with ⟨c3, h⟩ | ⟨c3, h⟩
  · refine g_if (t := 40) rfl (m_geT c3) ?_
    refine g_in eF9_passWord_40 mx1807 ?_
    cases h
    rw [k0 _ hK]
    exact g_vret rfl
  · refine g_ifn (t := 40) rfl (m_geF c3) ?_
    refine g_in eF9_passWord_10 mx1807 ?_
    refine g_ch [(0, .ref x0), (1, .int s.1)] [.ref x0, .ref x0] (pc' := 12) rfl rfl rfl ?_
    obtain ⟨v4, e5, h⟩ := m_bd h
    refine g_gi q9_f32 e5 ?_
    obtain ⟨v7, e6, h⟩ := m_bd h
    refine g_call (v := some (.int v7)) (h := s.2) (st' := [.int v7]) (D1 := 0) (as := [.ref x0, .int v4]) (Or.inr (Or.inl rfl)) q9_m45 (m_cv (as := [.int v4]) (rest := []) (Or.inl rfl) q9_m45 jv1812 (OF9_byteAt e6) rfl rfl rfl rfl) (by decide) (SF9_byteAt e6) rfl ?_
    obtain ⟨v9, e8, h⟩ := m_bd h
    refine g_call (v := some (.int v9)) (h := s.2) (st' := [.int v9]) (D1 := 0) (as := [.int v7]) (Or.inl rfl) q9_m61 (m_cs (as := [.int v7]) (rest := []) q9_m61 jv1814 rfl rfl rfl rfl rfl) (by decide) (SF9_isLetter e8) rfl ?_
    rcases m_ifd h with ⟨c10, h⟩ | ⟨c10, h⟩
    · refine g_ifc (t := 40) rfl (m_eqT c10) ?_
      refine g_in eF9_passWord_40 mx1807 ?_
      cases h
      rw [k0 _ hK]
      exact g_vret rfl
    · refine g_ifcn (t := 40) rfl (m_eqF c10) ?_
      refine g_in eF9_passWord_24 mx1807 ?_
      refine g_ch [(0, .ref x0), (1, .int s.1)] [.ref x0, .ref x0] (pc' := 26) rfl rfl rfl ?_
      obtain ⟨v11, e12, h⟩ := m_bd h
      refine g_gi q9_f32 e12 ?_
      refine g_ch [(0, .ref x0), (1, .int s.1)] [.int (v11 + 1), .ref x0] (pc' := 31) rfl rfl rfl ?_
      obtain ⟨h13, e14, h⟩ := m_bd h
      refine g_pf q9_f32 e14 ?_
      refine g_ch [(1, .int (s.1 + 1)), (0, .ref x0)] [] (pc' := 37) rfl rfl rfl ?_
      refine g_goto (t := 2) rfl ?_
      cases h
      exact r_lv (k1 ((s.1 + 1), h13) hK) rfl ⟨rfl, rfl, trivial⟩
theorem SF9_passWord_2 {xs : Nat → Int32} {L : Nat} (x0 : Nat) (x1 : Int32) (hp : m_H) {r : m_O × m_H} {K : m_H → Prop} (k0 : ∀ x, K x → r = (.inl none, x)) {t : m_H} (h : F9_passWord_2 x0 x1 hp = some t) (hK : K t) : m_Rn xs L 1 1807 2 [(0, .ref x0), (1, .int x1)] [] hp r :=
  m_wh_ok (P := fun s => m_Rn xs L 1 1807 2 [(0, .ref x0), (1, .int s.1)] [] s.2 r) (Q := K) (fun s t hb hK => SF9_passWord_2b x0 s (K := m_KK (fun s => m_Rn xs L 1 1807 2 [(0, .ref x0), (1, .int s.1)] [] s.2 r) K) k0 (fun _ q => q) hb hK) m_N _ _ h hK
theorem SF9_passWord_0 {xs : Nat → Int32} {L : Nat} (x0 : Nat) (hp : m_H) {r : m_O × m_H} {K : m_H → Prop} (k0 : ∀ x, K x → r = (.inl none, x)) {t : m_H} (h : F9_passWord_0 x0 hp = some t) (hK : K t) : m_Rn xs L 1 1807 0 [(0, .ref x0)] [] hp r := by
  unfold F9_passWord_0 at h
  refine g_in eF9_passWord_0 mx1807 ?_
  refine g_ch [(1, .int 0), (0, .ref x0)] [] (pc' := 2) rfl rfl rfl ?_
  refine g_end ?_
  exact r_lv (SF9_passWord_2 x0 0 hp (K := K) k0 h hK) rfl ⟨rfl, rfl, trivial⟩
theorem OF9_passWord {x0 : Nat} {hp : m_H} {x : m_H} (h : F9_passWord x0 hp = some x) : m_isO hp 7 x0 = true := (m_gdd h).1
theorem SF9_passWord {xs : Nat → Int32} {L : Nat} {x0 : Nat} {hp : m_H} {x : m_H} (h : F9_passWord x0 hp = some x) : m_Rn xs L 1 1807 0 (lv_args 0 [.ref x0]) [] hp (.inl none, x) :=
  r_lv (SF9_passWord_0 x0 hp (K := fun y => y = x) (fun y e => by rw [e]) (m_gdd h).2 rfl) rfl ⟨rfl, trivial⟩
-- F9_stands: LendHouse$Tape.stands(Ljava/lang/String;I)Z
theorem eF9_stands_0 : m_Fe mi9_9 0 (m_ap [(.aload_n 1, 1)] ((.invokevirtual 79, 3) :: (m_ap [(.aload_n 0, 1)] ((.getfield 32, 3) :: (m_ap [(.iload_n 2, 1), (.isub, 1)] ([(.if_icmp .eq 5, 3)])))))) := m_Fe_of nd1809 0 7 rfl
theorem eF9_stands_15 : m_Fe mi9_9 15 (m_ap [(.iconst 0, 1), (.istore_n 3, 1)] ([])) := m_Fe_of nd1809 9 2 rfl
theorem eF9_stands_13 : m_Fe mi9_9 13 (m_ap [(.iconst 0, 1)] ([(.ireturn, 1)])) := m_Fe_of nd1809 7 2 rfl
theorem eF9_stands_17 : m_Fe mi9_9 17 (m_ap [(.iload_n 3, 1), (.aload_n 1, 1)] ((.invokevirtual 79, 3) :: ([(.if_icmp .ge 26, 3)]))) := m_Fe_of nd1809 11 4 rfl
theorem eF9_stands_48 : m_Fe mi9_9 48 (m_ap [(.iconst 1, 1)] ([(.ireturn, 1)])) := m_Fe_of nd1809 28 2 rfl
theorem eF9_stands_25 : m_Fe mi9_9 25 (m_ap [(.aload_n 1, 1), (.iload_n 3, 1)] ((.invokevirtual 83, 3) :: (m_ap [(.aload_n 0, 1), (.iload_n 2, 1), (.iload_n 3, 1), (.iadd, 1)] ((.invokevirtual 45, 3) :: ([(.if_icmp .eq 5, 3)]))))) := m_Fe_of nd1809 15 9 rfl
theorem eF9_stands_42 : m_Fe mi9_9 42 (m_ap [(.iinc 3 1, 3)] ([(.goto (-28), 3)])) := m_Fe_of nd1809 26 2 rfl
theorem eF9_stands_40 : m_Fe mi9_9 40 (m_ap [(.iconst 0, 1)] ([(.ireturn, 1)])) := m_Fe_of nd1809 24 2 rfl
theorem SF9_stands_17b {xs : Nat → Int32} {L : Nat} (x0 : Nat) (x1 : Nat) (x2 : Int32) (hp : m_H) (s : Int32) {r : m_O × m_H} {K : (Int32 ⊕ Int32) → Prop} (k0 : ∀ x, K (.inr x) → r = (.inl (some (.int x)), hp)) (k1 : ∀ s, K (.inl s) → m_Rn xs L 7 1809 17 [(0, .ref x0), (1, .ref x1), (2, .int x2), (3, .int s)] [] hp r) {t : Int32 ⊕ Int32} (h : F9_stands_17b x0 x1 x2 hp s = some t) (hK : K t) : m_Rn xs L 7 1809 17 [(0, .ref x0), (1, .ref x1), (2, .int x2), (3, .int s)] [] hp r := by
  unfold F9_stands_17b at h
  refine g_in eF9_stands_17 mx1809 ?_
  refine g_ch [(0, .ref x0), (1, .ref x1), (2, .int x2), (3, .int s)] [.ref x1, .int s] (pc' := 19) rfl rfl rfl ?_
  obtain ⟨v2, e1, h⟩ := m_bd h
  refine g_nat (Or.inr (Or.inl rfl)) q9_m79 rfl (z := ([.int v2, .int s], hp)) (m_z6 e1) (by decide) ?_
  rcases m_ifd h with ⟨c3, h⟩ | ⟨c3, h⟩
  · refine g_if (t := 48) rfl (m_geT c3) ?_
    refine g_in eF9_stands_48 mx1809 ?_
    refine g_ch [(0, .ref x0), (1, .ref x1), (2, .int x2), (3, .int s)] [.int 1] (pc' := 49) rfl rfl rfl ?_
    cases h
    rw [k0 _ hK]
    exact g_iret rfl (by decide +kernel)
  · refine g_ifn (t := 48) rfl (m_geF c3) ?_
    refine g_in eF9_stands_25 mx1809 ?_
    refine g_ch [(0, .ref x0), (1, .ref x1), (2, .int x2), (3, .int s)] [.int s, .ref x1] (pc' := 27) rfl rfl rfl ?_
    obtain ⟨v5, e4, h⟩ := m_bd h
    refine g_nat (Or.inr (Or.inl rfl)) q9_m83 rfl (z := ([.int v5], hp)) (m_z7 e4) (by decide) ?_
    refine g_ch [(0, .ref x0), (1, .ref x1), (2, .int x2), (3, .int s)] [.int (x2 + s), .ref x0, .int v5] (pc' := 34) rfl rfl rfl ?_
    obtain ⟨v7, e6, h⟩ := m_bd h
    refine g_call (v := some (.int v7)) (h := hp) (st' := [.int v7, .int v5]) (D1 := 0) (as := [.ref x0, .int (x2 + s)]) (Or.inr (Or.inl rfl)) q9_m45 (m_cv (as := [.int (x2 + s)]) (rest := [.int v5]) (Or.inl rfl) q9_m45 jv1812 (OF9_byteAt e6) rfl rfl rfl rfl) (by decide) (SF9_byteAt e6) rfl ?_
    rcases m_ifd h with ⟨c8, h⟩ | ⟨c8, h⟩
    · refine g_if (t := 42) rfl (m_eqT c8) ?_
      refine g_in eF9_stands_42 mx1809 ?_
      refine g_ch [(3, .int (s + 1)), (0, .ref x0), (1, .ref x1), (2, .int x2)] [] (pc' := 45) rfl rfl rfl ?_
      refine g_goto (t := 17) rfl ?_
      cases h
      exact r_lv (k1 (s + 1) hK) rfl ⟨rfl, rfl, rfl, rfl, trivial⟩
    · refine g_ifn (t := 42) rfl (m_eqF c8) ?_
      refine g_in eF9_stands_40 mx1809 ?_
      refine g_ch [(0, .ref x0), (1, .ref x1), (2, .int x2), (3, .int s)] [.int 0] (pc' := 41) rfl rfl rfl ?_
      cases h
      rw [k0 _ hK]
      exact g_iret rfl (by decide +kernel)
theorem SF9_stands_17 {xs : Nat → Int32} {L : Nat} (x0 : Nat) (x1 : Nat) (x2 : Int32) (x3 : Int32) (hp : m_H) {r : m_O × m_H} {K : Int32 → Prop} (k0 : ∀ x, K x → r = (.inl (some (.int x)), hp)) {t : Int32} (h : F9_stands_17 x0 x1 x2 x3 hp = some t) (hK : K t) : m_Rn xs L 7 1809 17 [(0, .ref x0), (1, .ref x1), (2, .int x2), (3, .int x3)] [] hp r :=
  m_wh_ok (P := fun s => m_Rn xs L 7 1809 17 [(0, .ref x0), (1, .ref x1), (2, .int x2), (3, .int s)] [] hp r) (Q := K) (fun s t hb hK => SF9_stands_17b x0 x1 x2 hp s (K := m_KK (fun s => m_Rn xs L 7 1809 17 [(0, .ref x0), (1, .ref x1), (2, .int x2), (3, .int s)] [] hp r) K) k0 (fun _ q => q) hb hK) m_N _ _ h hK
theorem SF9_stands_0 {xs : Nat → Int32} {L : Nat} (x0 : Nat) (x1 : Nat) (x2 : Int32) (hp : m_H) {r : m_O × m_H} {K : Int32 → Prop} (k0 : ∀ x, K x → r = (.inl (some (.int x)), hp)) {t : Int32} (h : F9_stands_0 x0 x1 x2 hp = some t) (hK : K t) : m_Rn xs L 7 1809 0 [(0, .ref x0), (1, .ref x1), (2, .int x2)] [] hp r := by
  unfold F9_stands_0 at h
  refine g_in eF9_stands_0 mx1809 ?_
  refine g_ch [(0, .ref x0), (1, .ref x1), (2, .int x2)] [.ref x1] (pc' := 1) rfl rfl rfl ?_
  obtain ⟨v2, e1, h⟩ := m_bd h
  refine g_nat (Or.inr (Or.inl rfl)) q9_m79 rfl (z := ([.int v2], hp)) (m_z6 e1) (by decide) ?_
  refine g_ch [(0, .ref x0), (1, .ref x1), (2, .int x2)] [.ref x0, .int v2] (pc' := 5) rfl rfl rfl ?_
  obtain ⟨v3, e4, h⟩ := m_bd h
  refine g_gi q9_f32 e4 ?_
  refine g_ch [(0, .ref x0), (1, .ref x1), (2, .int x2)] [.int (v3 - x2), .int v2] (pc' := 10) rfl rfl rfl ?_
  rcases m_ifd h with ⟨c5, h⟩ | ⟨c5, h⟩
  · refine g_if (t := 15) rfl (m_eqT c5) ?_
    refine g_in eF9_stands_15 mx1809 ?_
    refine g_ch [(3, .int 0), (0, .ref x0), (1, .ref x1), (2, .int x2)] [] (pc' := 17) rfl rfl rfl ?_
    refine g_end ?_
    exact r_lv (SF9_stands_17 x0 x1 x2 0 hp (K := K) k0 h hK) rfl ⟨rfl, rfl, rfl, rfl, trivial⟩
  · refine g_ifn (t := 15) rfl (m_eqF c5) ?_
    refine g_in eF9_stands_13 mx1809 ?_
    refine g_ch [(0, .ref x0), (1, .ref x1), (2, .int x2)] [.int 0] (pc' := 14) rfl rfl rfl ?_
    cases h
    rw [k0 _ hK]
    exact g_iret rfl (by decide +kernel)
theorem OF9_stands {x0 : Nat} {x1 : Nat} {x2 : Int32} {hp : m_H} {x : Int32} (h : F9_stands x0 x1 x2 hp = some x) : m_isO hp 7 x0 = true := (m_gdd h).1
theorem SF9_stands {xs : Nat → Int32} {L : Nat} {x0 : Nat} {x1 : Nat} {x2 : Int32} {hp : m_H} {x : Int32} (h : F9_stands x0 x1 x2 hp = some x) : m_Rn xs L 7 1809 0 (lv_args 0 [.ref x0, .ref x1, .int x2]) [] hp (.inl (some (.int x)), hp) :=
  r_lv (SF9_stands_0 x0 x1 x2 hp (K := fun y => y = x) (fun y e => by rw [e]) (m_gdd h).2 rfl) rfl ⟨rfl, rfl, rfl, trivial⟩
-- F9_factNumbered: LendHouse$Tape.factNumbered(I)Ljava/lang/String;
theorem eF9_factNumbered_0 : m_Fe mi9_16 0 (m_ap [(.iload_n 0, 1)] ([(.tableswitch 78 0 8 #[51, 54, 57, 60, 63, 66, 69, 72, 75], 51)])) := m_Fe_of nd1816 0 2 rfl
theorem eF9_factNumbered_79 : m_Fe mi9_16 79 (m_ap [(.ldc 123, 2)] ([(.areturn, 1)])) := m_Fe_of nd1816 20 2 rfl
theorem eF9_factNumbered_52 : m_Fe mi9_16 52 (m_ap [(.ldc 105, 2)] ([(.areturn, 1)])) := m_Fe_of nd1816 2 2 rfl
theorem eF9_factNumbered_55 : m_Fe mi9_16 55 (m_ap [(.ldc 107, 2)] ([(.areturn, 1)])) := m_Fe_of nd1816 4 2 rfl
theorem eF9_factNumbered_58 : m_Fe mi9_16 58 (m_ap [(.ldc 109, 2)] ([(.areturn, 1)])) := m_Fe_of nd1816 6 2 rfl
theorem eF9_factNumbered_61 : m_Fe mi9_16 61 (m_ap [(.ldc 111, 2)] ([(.areturn, 1)])) := m_Fe_of nd1816 8 2 rfl
theorem eF9_factNumbered_64 : m_Fe mi9_16 64 (m_ap [(.ldc 113, 2)] ([(.areturn, 1)])) := m_Fe_of nd1816 10 2 rfl
theorem eF9_factNumbered_67 : m_Fe mi9_16 67 (m_ap [(.ldc 115, 2)] ([(.areturn, 1)])) := m_Fe_of nd1816 12 2 rfl
theorem eF9_factNumbered_70 : m_Fe mi9_16 70 (m_ap [(.ldc 117, 2)] ([(.areturn, 1)])) := m_Fe_of nd1816 14 2 rfl
theorem eF9_factNumbered_73 : m_Fe mi9_16 73 (m_ap [(.ldc 119, 2)] ([(.areturn, 1)])) := m_Fe_of nd1816 16 2 rfl
theorem eF9_factNumbered_76 : m_Fe mi9_16 76 (m_ap [(.ldc 121, 2)] ([(.areturn, 1)])) := m_Fe_of nd1816 18 2 rfl
theorem SF9_factNumbered_0 {xs : Nat → Int32} {L : Nat} (x0 : Int32) (hp : m_H) {r : m_O × m_H} {K : Nat → Prop} (k0 : ∀ x, K x → r = (.inl (some (.ref x)), hp)) {t : Nat} (h : F9_factNumbered_0 x0 hp = some t) (hK : K t) : m_Rn xs L 0 1816 0 [(0, .int x0)] [] hp r := by
  unfold F9_factNumbered_0 at h
  refine g_in eF9_factNumbered_0 mx1816 ?_
  refine g_ch [(0, .int x0)] [.int x0] (pc' := 1) rfl rfl rfl ?_
  rcases m_swd h with ⟨e2, h⟩ | ⟨w1, e2, h⟩
  · refine g_swd e2 (t := 79) rfl ?_
    refine g_in eF9_factNumbered_79 mx1816 ?_
    refine g_ch [(0, .int x0)] [.ref 28] (pc' := 81) rfl rfl rfl ?_
    cases h
    rw [k0 _ hK]
    exact g_aret (v := some 28) rfl
  · rcases m_ifd h with ⟨c3, hc3⟩ | ⟨c3, h⟩
    · subst c3
      have h := hc3
      refine g_sw (o := 51) (t := 52) e2 rfl rfl ?_
      refine g_in eF9_factNumbered_52 mx1816 ?_
      refine g_ch [(0, .int x0)] [.ref 19] (pc' := 54) rfl rfl rfl ?_
      cases h
      rw [k0 _ hK]
      exact g_aret (v := some 19) rfl
    rcases m_ifd h with ⟨c4, hc4⟩ | ⟨c4, h⟩
    · subst c4
      have h := hc4
      refine g_sw (o := 54) (t := 55) e2 rfl rfl ?_
      refine g_in eF9_factNumbered_55 mx1816 ?_
      refine g_ch [(0, .int x0)] [.ref 20] (pc' := 57) rfl rfl rfl ?_
      cases h
      rw [k0 _ hK]
      exact g_aret (v := some 20) rfl
    rcases m_ifd h with ⟨c5, hc5⟩ | ⟨c5, h⟩
    · subst c5
      have h := hc5
      refine g_sw (o := 57) (t := 58) e2 rfl rfl ?_
      refine g_in eF9_factNumbered_58 mx1816 ?_
      refine g_ch [(0, .int x0)] [.ref 21] (pc' := 60) rfl rfl rfl ?_
      cases h
      rw [k0 _ hK]
      exact g_aret (v := some 21) rfl
    rcases m_ifd h with ⟨c6, hc6⟩ | ⟨c6, h⟩
    · subst c6
      have h := hc6
      refine g_sw (o := 60) (t := 61) e2 rfl rfl ?_
      refine g_in eF9_factNumbered_61 mx1816 ?_
      refine g_ch [(0, .int x0)] [.ref 22] (pc' := 63) rfl rfl rfl ?_
      cases h
      rw [k0 _ hK]
      exact g_aret (v := some 22) rfl
    rcases m_ifd h with ⟨c7, hc7⟩ | ⟨c7, h⟩
    · subst c7
      have h := hc7
      refine g_sw (o := 63) (t := 64) e2 rfl rfl ?_
      refine g_in eF9_factNumbered_64 mx1816 ?_
      refine g_ch [(0, .int x0)] [.ref 23] (pc' := 66) rfl rfl rfl ?_
      cases h
      rw [k0 _ hK]
      exact g_aret (v := some 23) rfl
    rcases m_ifd h with ⟨c8, hc8⟩ | ⟨c8, h⟩
    · subst c8
      have h := hc8
      refine g_sw (o := 66) (t := 67) e2 rfl rfl ?_
      refine g_in eF9_factNumbered_67 mx1816 ?_
      refine g_ch [(0, .int x0)] [.ref 24] (pc' := 69) rfl rfl rfl ?_
      cases h
      rw [k0 _ hK]
      exact g_aret (v := some 24) rfl
    rcases m_ifd h with ⟨c9, hc9⟩ | ⟨c9, h⟩
    · subst c9
      have h := hc9
      refine g_sw (o := 69) (t := 70) e2 rfl rfl ?_
      refine g_in eF9_factNumbered_70 mx1816 ?_
      refine g_ch [(0, .int x0)] [.ref 25] (pc' := 72) rfl rfl rfl ?_
      cases h
      rw [k0 _ hK]
      exact g_aret (v := some 25) rfl
    rcases m_ifd h with ⟨c10, hc10⟩ | ⟨c10, h⟩
    · subst c10
      have h := hc10
      refine g_sw (o := 72) (t := 73) e2 rfl rfl ?_
      refine g_in eF9_factNumbered_73 mx1816 ?_
      refine g_ch [(0, .int x0)] [.ref 26] (pc' := 75) rfl rfl rfl ?_
      cases h
      rw [k0 _ hK]
      exact g_aret (v := some 26) rfl
    rcases m_ifd h with ⟨c11, hc11⟩ | ⟨c11, h⟩
    · subst c11
      have h := hc11
      refine g_sw (o := 75) (t := 76) e2 rfl rfl ?_
      refine g_in eF9_factNumbered_76 mx1816 ?_
      refine g_ch [(0, .int x0)] [.ref 27] (pc' := 78) rfl rfl rfl ?_
      cases h
      rw [k0 _ hK]
      exact g_aret (v := some 27) rfl
    cases h
theorem SF9_factNumbered {xs : Nat → Int32} {L : Nat} {x0 : Int32} {hp : m_H} {x : Nat} (h : F9_factNumbered x0 hp = some x) : m_Rn xs L 0 1816 0 (lv_args 0 [.int x0]) [] hp (.inl (some (.ref x)), hp) :=
  r_lv (SF9_factNumbered_0 x0 hp (K := fun y => y = x) (fun y e => by rw [e]) h rfl) rfl ⟨rfl, trivial⟩
