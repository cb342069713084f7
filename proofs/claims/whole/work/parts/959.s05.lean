/-! ===== m_: the small machine does what the functions say, piece 5 (printed) ===== -/
-- F12_throwsIf: LendHouseModel.throwsIf(ZI)Z
theorem eF12_throwsIf_0 : m_Fe mi12_1 0 (m_ap [(.iload_n 1, 1)] ([(.ifCond .eq 8, 3)])) := m_Fe_of nd2401 0 2 rfl
theorem eF12_throwsIf_9 : m_Fe mi12_1 9 (m_ap [(.iload_n 1, 1)] ([(.ireturn, 1)])) := m_Fe_of nd2401 5 2 rfl
theorem eF12_throwsIf_4 : m_Fe mi12_1 4 (m_ap [(.aload_n 0, 1), (.iload_n 2, 1)] ([(.putfield 3, 3)])) := m_Fe_of nd2401 2 3 rfl
theorem SF12_throwsIf_0 {xs : Nat → Int32} {L : Nat} (x0 : Nat) (x1 : Int32) (x2 : Int32) (hp : m_H) {r : m_O × m_H} {K : (Int32 × m_H) → Prop} (k0 : ∀ x, K x → r = (.inl (some (.int x.1)), x.2)) {t : Int32 × m_H} (h : F12_throwsIf_0 x0 x1 x2 hp = some t) (hK : K t) : m_Rn xs L 0 2401 0 [(0, .ref x0), (1, .int x1), (2, .int x2)] [] hp r := by
  unfold F12_throwsIf_0 at h
  refine g_in eF12_throwsIf_0 mx2401 ?_
  refine g_ch [(0, .ref x0), (1, .int x1), (2, .int x2)] [.int x1] (pc' := 1) rfl rfl rfl ?_
  rcases m_ifd h with ⟨c1, h⟩ | ⟨c1, h⟩
  · refine g_ifc (t := 9) rfl (m_eqT c1) ?_
    refine g_in eF12_throwsIf_9 mx2401 ?_
    refine g_ch [(0, .ref x0), (1, .int x1), (2, .int x2)] [.int x1] (pc' := 10) rfl rfl rfl ?_
    obtain ⟨e2, h⟩ := m_gdd h
    cases h
    rw [k0 _ hK]
    exact g_iret rfl e2
  · refine g_ifcn (t := 9) rfl (m_eqF c1) ?_
    refine g_in eF12_throwsIf_4 mx2401 ?_
    refine g_ch [(0, .ref x0), (1, .int x1), (2, .int x2)] [.int x2, .ref x0] (pc' := 6) rfl rfl rfl ?_
    obtain ⟨h3, e4, h⟩ := m_bd h
    refine g_pf q12_f3 e4 ?_
    refine g_end ?_
    refine g_in eF12_throwsIf_9 mx2401 ?_
    refine g_ch [(0, .ref x0), (1, .int x1), (2, .int x2)] [.int x1] (pc' := 10) rfl rfl rfl ?_
    obtain ⟨e5, h⟩ := m_gdd h
    cases h
    rw [k0 _ hK]
    exact g_iret rfl e5
theorem OF12_throwsIf {x0 : Nat} {x1 : Int32} {x2 : Int32} {hp : m_H} {x : Int32 × m_H} (h : F12_throwsIf x0 x1 x2 hp = some x) : m_isO hp 9 x0 = true := (m_gdd h).1
theorem SF12_throwsIf {xs : Nat → Int32} {L : Nat} {x0 : Nat} {x1 : Int32} {x2 : Int32} {hp : m_H} {x : Int32 × m_H} (h : F12_throwsIf x0 x1 x2 hp = some x) : m_Rn xs L 0 2401 0 (lv_args 0 [.ref x0, .int x1, .int x2]) [] hp (.inl (some (.int x.1)), x.2) :=
  r_lv (SF12_throwsIf_0 x0 x1 x2 hp (K := fun y => y = x) (fun y e => by rw [e]) (m_gdd h).2 rfl) rfl ⟨rfl, rfl, rfl, trivial⟩
-- F12_in: LendHouseModel.in(III)Z
theorem eF12_in_0 : m_Fe mi12_2 0 (m_ap [(.iload_n 0, 1), (.iload_n 1, 1)] ([(.if_icmp .lt 12, 3)])) := m_Fe_of nd2402 0 3 rfl
theorem eF12_in_14 : m_Fe mi12_2 14 (m_ap [(.iconst 0, 1)] ([])) := m_Fe_of nd2402 8 1 rfl
theorem eF12_in_15 : m_Fe mi12_2 15 ([(.ireturn, 1)]) := m_Fe_of nd2402 9 1 rfl
theorem eF12_in_5 : m_Fe mi12_2 5 (m_ap [(.iload_n 0, 1), (.iload_n 2, 1)] ([(.if_icmp .gt 7, 3)])) := m_Fe_of nd2402 3 3 rfl
theorem eF12_in_10 : m_Fe mi12_2 10 (m_ap [(.iconst 1, 1)] ([(.goto 4, 3)])) := m_Fe_of nd2402 6 2 rfl
theorem SF12_in_0 {xs : Nat → Int32} {L : Nat} (x0 : Int32) (x1 : Int32) (x2 : Int32) (hp : m_H) {r : m_O × m_H} {K : Int32 → Prop} (k0 : ∀ x, K x → r = (.inl (some (.int x)), hp)) {t : Int32} (h : F12_in_0 x0 x1 x2 hp = some t) (hK : K t) : m_Rn xs L 0 2402 0 [(0, .int x0), (1, .int x1), (2, .int x2)] [] hp r := by
  unfold F12_in_0 at h
  refine g_in eF12_in_0 mx2402 ?_
  refine g_ch [(0, .int x0), (1, .int x1), (2, .int x2)] [.int x1, .int x0] (pc' := 2) rfl rfl rfl ?_
  rcases m_ifd h with ⟨c1, h⟩ | ⟨c1, h⟩
  · refine g_if (t := 14) rfl (m_ltT c1) ?_
    refine g_in eF12_in_14 mx2402 ?_
    refine g_ch [(0, .int x0), (1, .int x1), (2, .int x2)] [.int 0] (pc' := 15) rfl rfl rfl ?_
    refine g_end ?_
    refine g_in eF12_in_15 mx2402 ?_
    cases h
    rw [k0 _ hK]
    exact g_iret rfl (by decide +kernel)
  · refine g_ifn (t := 14) rfl (m_ltF c1) ?_
    refine g_in eF12_in_5 mx2402 ?_
    refine g_ch [(0, .int x0), (1, .int x1), (2, .int x2)] [.int x2, .int x0] (pc' := 7) rfl rfl rfl ?_
    rcases m_ifd h with ⟨c2, h⟩ | ⟨c2, h⟩
    · refine g_if (t := 14) rfl (m_gtT c2) ?_
      refine g_in eF12_in_14 mx2402 ?_
      refine g_ch [(0, .int x0), (1, .int x1), (2, .int x2)] [.int 0] (pc' := 15) rfl rfl rfl ?_
      refine g_end ?_
      refine g_in eF12_in_15 mx2402 ?_
      cases h
      rw [k0 _ hK]
      exact g_iret rfl (by decide +kernel)
    · refine g_ifn (t := 14) rfl (m_gtF c2) ?_
      refine g_in eF12_in_10 mx2402 ?_
      refine g_ch [(0, .int x0), (1, .int x1), (2, .int x2)] [.int 1] (pc' := 11) rfl rfl rfl ?_
      refine g_goto (t := 15) rfl ?_
      refine g_in eF12_in_15 mx2402 ?_
      cases h
      rw [k0 _ hK]
      exact g_iret rfl (by decide +kernel)
theorem SF12_in {xs : Nat → Int32} {L : Nat} {x0 : Int32} {x1 : Int32} {x2 : Int32} {hp : m_H} {x : Int32} (h : F12_in x0 x1 x2 hp = some x) : m_Rn xs L 0 2402 0 (lv_args 0 [.int x0, .int x1, .int x2]) [] hp (.inl (some (.int x)), hp) :=
  r_lv (SF12_in_0 x0 x1 x2 hp (K := fun y => y = x) (fun y e => by rw [e]) h rfl) rfl ⟨rfl, rfl, rfl, trivial⟩
-- F12_init: LendHouseModel.<init>()V
theorem eF12_init_0 : m_Fe mi12_3 0 (m_ap [(.aload_n 0, 1)] ((.invokespecial 7, 3) :: (m_ap [(.aload_n 0, 1), (.ldc 13, 2)] ((.newarray .int, 2) :: ((.putfield 14, 3) :: (m_ap [(.aload_n 0, 1), (.ldc 18, 2)] ((.newarray .int, 2) :: ((.putfield 19, 3) :: (m_ap [(.aload_n 0, 1), (.ldc 18, 2)] ((.newarray .int, 2) :: ((.putfield 22, 3) :: (m_ap [(.aload_n 0, 1), (.sipush 400, 3)] ((.newarray .byte, 2) :: ((.putfield 25, 3) :: (m_ap [(.aload_n 0, 1), (.iconst (-1), 1)] ((.putfield 29, 3) :: (m_ap [(.aload_n 0, 1), (.iconst 5, 1)] ((.newarray .int, 2) :: ((.putfield 32, 3) :: (m_ap [(.aload_n 0, 1), (.bipush 10, 2)] ((.newarray .long, 2) :: ((.putfield 35, 3) :: (m_ap [(.aload_n 0, 1), (.sipush 400, 3)] ((.newarray .long, 2) :: ((.putfield 39, 3) :: (m_ap [(.aload_n 0, 1), (.bipush 60, 2)] ((.newarray .int, 2) :: ((.putfield 42, 3) :: (m_ap [(.aload_n 0, 1), (.bipush 60, 2)] ((.newarray .boolean, 2) :: ((.putfield 45, 3) :: (m_ap [(.aload_n 0, 1), (.bipush 6, 2)] ((.newarray .int, 2) :: ((.putfield 49, 3) :: (m_ap [(.aload_n 0, 1), (.bipush 6, 2)] ((.newarray .int, 2) :: ((.putfield 52, 3) :: (m_ap [(.aload_n 0, 1), (.bipush 6, 2)] ((.newarray .int, 2) :: ((.putfield 55, 3) :: (m_ap [(.aload_n 0, 1), (.bipush 6, 2)] ((.newarray .int, 2) :: ((.putfield 58, 3) :: (m_ap [(.aload_n 0, 1), (.bipush 8, 2)] ((.newarray .int, 2) :: ((.putfield 61, 3) :: (m_ap [(.aload_n 0, 1), (.bipush 6, 2)] ((.newarray .long, 2) :: ((.putfield 64, 3) :: (m_ap [(.iconst 0, 1), (.istore_n 1, 1)] ([]))))))))))))))))))))))))))))))))))))))))))))))))))) := m_Fe_of nd2403 0 67 rfl
theorem eF12_init_132 : m_Fe mi12_3 132 (m_ap [(.iload_n 1, 1), (.bipush 8, 2)] ([(.if_icmp .ge 33, 3)])) := m_Fe_of nd2403 67 3 rfl
theorem eF12_init_168 : m_Fe mi12_3 168 (m_ap [(.iconst 0, 1), (.istore_n 1, 1)] ([])) := m_Fe_of nd2403 92 2 rfl
theorem eF12_init_138 : m_Fe mi12_3 138 (m_ap [(.aload_n 0, 1)] ((.getfield 14, 3) :: (m_ap [(.iconst 5, 1), (.iconst 4, 1), (.iload_n 1, 1), (.imul, 1), (.iadd, 1), (.iconst 1, 1)] ((.iastore, 1) :: (m_ap [(.aload_n 0, 1)] ((.getfield 14, 3) :: (m_ap [(.iconst 5, 1), (.iconst 4, 1), (.iload_n 1, 1), (.imul, 1), (.iadd, 1), (.iconst 3, 1), (.iadd, 1), (.iconst 1, 1)] ((.iastore, 1) :: (m_ap [(.iinc 1 1, 3)] ([(.goto (-33), 3)])))))))))) := m_Fe_of nd2403 70 22 rfl
theorem eF12_init_170 : m_Fe mi12_3 170 (m_ap [(.iload_n 1, 1), (.bipush 6, 2)] ([(.if_icmp .ge 23, 3)])) := m_Fe_of nd2403 94 3 rfl
theorem eF12_init_196 : m_Fe mi12_3 196 ([(.return_, 1)]) := m_Fe_of nd2403 110 1 rfl
theorem eF12_init_176 : m_Fe mi12_3 176 (m_ap [(.aload_n 0, 1)] ((.getfield 14, 3) :: (m_ap [(.bipush 37, 2), (.iconst 4, 1), (.iload_n 1, 1), (.imul, 1), (.iadd, 1), (.iconst 2, 1), (.iadd, 1), (.iconst 2, 1)] ((.iastore, 1) :: (m_ap [(.iinc 1 1, 3)] ([(.goto (-23), 3)])))))) := m_Fe_of nd2403 97 13 rfl
theorem SF12_init_170b {xs : Nat → Int32} {L : Nat} (x0 : Nat) (s : Int32 × m_H) {r : m_O × m_H} {K : ((Int32 × m_H) ⊕ m_H) → Prop} (k0 : ∀ x, K (.inr x) → r = (.inl none, x)) (k1 : ∀ s, K (.inl s) → m_Rn xs L 7 2403 170 [(0, .ref x0), (1, .int s.1)] [] s.2 r) {t : (Int32 × m_H) ⊕ m_H} (h : F12_init_170b x0 s = some t) (hK : K t) : m_Rn xs L 7 2403 170 [(0, .ref x0), (1, .int s.1)] [] s.2 r := by
  unfold F12_init_170b at h
  refine g_in eF12_init_170 mx2403 ?_
  refine g_ch [(0, .ref x0), (1, .int s.1)] [.int 6, .int s.1] (pc' := 173) rfl rfl rfl ?_
  rcases m_ifd h with ⟨c1, h⟩ | ⟨c1, h⟩
  · refine g_if (t := 196) rfl (m_geT c1) ?_
    refine g_in eF12_init_196 mx2403 ?_
    cases h
    rw [k0 _ hK]
    exact g_vret rfl
  · refine g_ifn (t := 196) rfl (m_geF c1) ?_
    refine g_in eF12_init_176 mx2403 ?_
    refine g_ch [(0, .ref x0), (1, .int s.1)] [.ref x0] (pc' := 177) rfl rfl rfl ?_
    obtain ⟨v2, e3, h⟩ := m_bd h
    refine g_gr q12_f14 e3 ?_
    refine g_ch [(0, .ref x0), (1, .int s.1)] [.int 2, .int ((37 + (4 * s.1)) + 2), .ref v2] (pc' := 189) rfl rfl rfl ?_
    obtain ⟨h4, e5, h⟩ := m_bd h
    refine g_is e5 ?_
    refine g_ch [(1, .int (s.1 + 1)), (0, .ref x0)] [] (pc' := 193) rfl rfl rfl ?_
    refine g_goto (t := 170) rfl ?_
    cases h
    exact r_lv (k1 ((s.1 + 1), h4) hK) rfl ⟨rfl, rfl, trivial⟩
theorem SF12_init_170 {xs : Nat → Int32} {L : Nat} (x0 : Nat) (x1 : Int32) (hp : m_H) {r : m_O × m_H} {K : m_H → Prop} (k0 : ∀ x, K x → r = (.inl none, x)) {t : m_H} (h : F12_init_170 x0 x1 hp = some t) (hK : K t) : m_Rn xs L 7 2403 170 [(0, .ref x0), (1, .int x1)] [] hp r :=
  m_wh_ok (P := fun s => m_Rn xs L 7 2403 170 [(0, .ref x0), (1, .int s.1)] [] s.2 r) (Q := K) (fun s t hb hK => SF12_init_170b x0 s (K := m_KK (fun s => m_Rn xs L 7 2403 170 [(0, .ref x0), (1, .int s.1)] [] s.2 r) K) k0 (fun _ q => q) hb hK) m_N _ _ h hK
theorem SF12_init_132b {xs : Nat → Int32} {L : Nat} (x0 : Nat) (s : Int32 × m_H) {r : m_O × m_H} {K : ((Int32 × m_H) ⊕ m_H) → Prop} (k0 : ∀ x, K (.inr x) → r = (.inl none, x)) (k1 : ∀ s, K (.inl s) → m_Rn xs L 7 2403 132 [(0, .ref x0), (1, .int s.1)] [] s.2 r) {t : (Int32 × m_H) ⊕ m_H} (h : F12_init_132b x0 s = some t) (hK : K t) : m_Rn xs L 7 2403 132 [(0, .ref x0), (1, .int s.1)] [] s.2 r := by
  unfold F12_init_132b at h
  refine g_in eF12_init_132 mx2403 ?_
  refine g_ch [(0, .ref x0), (1, .int s.1)] [.int 8, .int s.1] (pc' := 135) rfl rfl rfl ?_
  rcases m_ifd h with ⟨c1, h⟩ | ⟨c1, h⟩
  · refine g_if (t := 168) rfl (m_geT c1) ?_
    refine g_in eF12_init_168 mx2403 ?_
    refine g_ch [(1, .int 0), (0, .ref x0)] [] (pc' := 170) rfl rfl rfl ?_
    refine g_end ?_
    obtain ⟨t', h2, rfl⟩ := Option.map_eq_some_iff.mp h
    exact r_lv (SF12_init_170 x0 0 s.2 (K := fun t => K (.inr t)) k0 h2 hK) rfl ⟨rfl, rfl, trivial⟩
  · refine g_ifn (t := 168) rfl (m_geF c1) ?_
    refine g_in eF12_init_138 mx2403 ?_
    refine g_ch [(0, .ref x0), (1, .int s.1)] [.ref x0] (pc' := 139) rfl rfl rfl ?_
    obtain ⟨v2, e3, h⟩ := m_bd h
    refine g_gr q12_f14 e3 ?_
    refine g_ch [(0, .ref x0), (1, .int s.1)] [.int 1, .int (5 + (4 * s.1)), .ref v2] (pc' := 148) rfl rfl rfl ?_
    obtain ⟨h4, e5, h⟩ := m_bd h
    refine g_is e5 ?_
    refine g_ch [(0, .ref x0), (1, .int s.1)] [.ref x0] (pc' := 150) rfl rfl rfl ?_
    obtain ⟨v6, e7, h⟩ := m_bd h
    refine g_gr q12_f14 e7 ?_
    refine g_ch [(0, .ref x0), (1, .int s.1)] [.int 1, .int ((5 + (4 * s.1)) + 3), .ref v6] (pc' := 161) rfl rfl rfl ?_
    obtain ⟨h8, e9, h⟩ := m_bd h
    refine g_is e9 ?_
    refine g_ch [(1, .int (s.1 + 1)), (0, .ref x0)] [] (pc' := 165) rfl rfl rfl ?_
    refine g_goto (t := 132) rfl ?_
    cases h
    exact r_lv (k1 ((s.1 + 1), h8) hK) rfl ⟨rfl, rfl, trivial⟩
theorem SF12_init_132 {xs : Nat → Int32} {L : Nat} (x0 : Nat) (x1 : Int32) (hp : m_H) {r : m_O × m_H} {K : m_H → Prop} (k0 : ∀ x, K x → r = (.inl none, x)) {t : m_H} (h : F12_init_132 x0 x1 hp = some t) (hK : K t) : m_Rn xs L 7 2403 132 [(0, .ref x0), (1, .int x1)] [] hp r :=
  m_wh_ok (P := fun s => m_Rn xs L 7 2403 132 [(0, .ref x0), (1, .int s.1)] [] s.2 r) (Q := K) (fun s t hb hK => SF12_init_132b x0 s (K := m_KK (fun s => m_Rn xs L 7 2403 132 [(0, .ref x0), (1, .int s.1)] [] s.2 r) K) k0 (fun _ q => q) hb hK) m_N _ _ h hK
theorem SF12_init_0 {xs : Nat → Int32} {L : Nat} (x0 : Nat) (hp : m_H) {r : m_O × m_H} {K : m_H → Prop} (k0 : ∀ x, K x → r = (.inl none, x)) {t : m_H} (h : F12_init_0 x0 hp = some t) (hK : K t) : m_Rn xs L 7 2403 0 [(0, .ref x0)] [] hp r := by
  unfold F12_init_0 at h
  refine g_in eF12_init_0 mx2403 ?_
  refine g_ch [(0, .ref x0)] [.ref x0] (pc' := 1) rfl rfl rfl ?_
  refine g_nat (Or.inr (Or.inr rfl)) q12_m7 rfl (z := ([], hp)) rfl (by decide) ?_
  refine g_ch [(0, .ref x0)] [.int 37677, .ref x0] (pc' := 7) rfl rfl rfl ?_
  obtain ⟨h1, e2, h⟩ := m_bd h
  refine g_na rfl e2 ?_
  obtain ⟨h3, e4, h⟩ := m_bd h
  refine g_pf q12_f14 e4 ?_
  refine g_ch [(0, .ref x0)] [.int 36827, .ref x0] (pc' := 15) rfl rfl rfl ?_
  obtain ⟨h5, e6, h⟩ := m_bd h
  refine g_na rfl e6 ?_
  obtain ⟨h7, e8, h⟩ := m_bd h
  refine g_pf q12_f19 e8 ?_
  refine g_ch [(0, .ref x0)] [.int 36827, .ref x0] (pc' := 23) rfl rfl rfl ?_
  obtain ⟨h9, e10, h⟩ := m_bd h
  refine g_na rfl e10 ?_
  obtain ⟨h11, e12, h⟩ := m_bd h
  refine g_pf q12_f22 e12 ?_
  refine g_ch [(0, .ref x0)] [.int 400, .ref x0] (pc' := 32) rfl rfl rfl ?_
  obtain ⟨h13, e14, h⟩ := m_bd h
  refine g_na rfl e14 ?_
  obtain ⟨h15, e16, h⟩ := m_bd h
  refine g_pf q12_f25 e16 ?_
  refine g_ch [(0, .ref x0)] [.int (-1), .ref x0] (pc' := 39) rfl rfl rfl ?_
  obtain ⟨h17, e18, h⟩ := m_bd h
  refine g_pf q12_f29 e18 ?_
  refine g_ch [(0, .ref x0)] [.int 5, .ref x0] (pc' := 44) rfl rfl rfl ?_
  obtain ⟨h19, e20, h⟩ := m_bd h
  refine g_na rfl e20 ?_
  obtain ⟨h21, e22, h⟩ := m_bd h
  refine g_pf q12_f32 e22 ?_
  refine g_ch [(0, .ref x0)] [.int 10, .ref x0] (pc' := 52) rfl rfl rfl ?_
  obtain ⟨h23, e24, h⟩ := m_bd h
  refine g_na rfl e24 ?_
  obtain ⟨h25, e26, h⟩ := m_bd h
  refine g_pf q12_f35 e26 ?_
  refine g_ch [(0, .ref x0)] [.int 400, .ref x0] (pc' := 61) rfl rfl rfl ?_
  obtain ⟨h27, e28, h⟩ := m_bd h
  refine g_na rfl e28 ?_
  obtain ⟨h29, e30, h⟩ := m_bd h
  refine g_pf q12_f39 e30 ?_
  refine g_ch [(0, .ref x0)] [.int 60, .ref x0] (pc' := 69) rfl rfl rfl ?_
  obtain ⟨h31, e32, h⟩ := m_bd h
  refine g_na rfl e32 ?_
  obtain ⟨h33, e34, h⟩ := m_bd h
  refine g_pf q12_f42 e34 ?_
  refine g_ch [(0, .ref x0)] [.int 60, .ref x0] (pc' := 77) rfl rfl rfl ?_
  obtain ⟨h35, e36, h⟩ := m_bd h
  refine g_na rfl e36 ?_
  obtain ⟨h37, e38, h⟩ := m_bd h
  refine g_pf q12_f45 e38 ?_
  refine g_ch [(0, .ref x0)] [.int 6, .ref x0] (pc' := 85) rfl rfl rfl ?_
  obtain ⟨h39, e40, h⟩ := m_bd h
  refine g_na rfl e40 ?_
  obtain ⟨h41, e42, h⟩ := m_bd h
  refine g_pf q12_f49 e42 ?_
  refine g_ch [(0, .ref x0)] [.int 6, .ref x0] (pc' := 93) rfl rfl rfl ?_
  obtain ⟨h43, e44, h⟩ := m_bd h
  refine g_na rfl e44 ?_
  obtain ⟨h45, e46, h⟩ := m_bd h
  refine g_pf q12_f52 e46 ?_
  refine g_ch [(0, .ref x0)] [.int 6, .ref x0] (pc' := 101) rfl rfl rfl ?_
  obtain ⟨h47, e48, h⟩ := m_bd h
  refine g_na rfl e48 ?_
  obtain ⟨h49, e50, h⟩ := m_bd h
  refine g_pf q12_f55 e50 ?_
  refine g_ch [(0, .ref x0)] [.int 6, .ref x0] (pc' := 109) rfl rfl rfl ?_
  obtain ⟨h51, e52, h⟩ := m_bd h
  refine g_na rfl e52 ?_
  obtain ⟨h53, e54, h⟩ := m_bd h
  refine g_pf q12_f58 e54 ?_
  refine g_ch [(0, .ref x0)] [.int 8, .ref x0] (pc' := 117) rfl rfl rfl ?_
  obtain ⟨h55, e56, h⟩ := m_bd h
  refine g_na rfl e56 ?_
  obtain ⟨h57, e58, h⟩ := m_bd h
  refine g_pf q12_f61 e58 ?_
  refine g_ch [(0, .ref x0)] [.int 6, .ref x0] (pc' := 125) rfl rfl rfl ?_
  obtain ⟨h59, e60, h⟩ := m_bd h
  refine g_na rfl e60 ?_
  obtain ⟨h61, e62, h⟩ := m_bd h
  refine g_pf q12_f64 e62 ?_
  refine g_ch [(1, .int 0), (0, .ref x0)] [] (pc' := 132) rfl rfl rfl ?_
  refine g_end ?_
  exact r_lv (SF12_init_132 x0 0 h61 (K := K) k0 h hK) rfl ⟨rfl, rfl, trivial⟩
theorem OF12_init {x0 : Nat} {hp : m_H} {x : m_H} (h : F12_init x0 hp = some x) : m_isO hp 9 x0 = true := (m_gdd h).1
theorem SF12_init {xs : Nat → Int32} {L : Nat} {x0 : Nat} {hp : m_H} {x : m_H} (h : F12_init x0 hp = some x) : m_Rn xs L 7 2403 0 (lv_args 0 [.ref x0]) [] hp (.inl none, x) :=
  r_lv (SF12_init_0 x0 hp (K := fun y => y = x) (fun y e => by rw [e]) (m_gdd h).2 rfl) rfl ⟨rfl, trivial⟩
-- F12_week: LendHouseModel.week()I
theorem eF12_week_0 : m_Fe mi12_4 0 (m_ap [(.aload_n 0, 1)] ((.getfield 14, 3) :: (m_ap [(.iconst 0, 1)] ((.iaload, 1) :: ([(.ireturn, 1)]))))) := m_Fe_of nd2404 0 5 rfl
theorem SF12_week_0 {xs : Nat → Int32} {L : Nat} (x0 : Nat) (hp : m_H) {r : m_O × m_H} {K : Int32 → Prop} (k0 : ∀ x, K x → r = (.inl (some (.int x)), hp)) {t : Int32} (h : F12_week_0 x0 hp = some t) (hK : K t) : m_Rn xs L 0 2404 0 [(0, .ref x0)] [] hp r := by
  unfold F12_week_0 at h
  refine g_in eF12_week_0 mx2404 ?_
  refine g_ch [(0, .ref x0)] [.ref x0] (pc' := 1) rfl rfl rfl ?_
  obtain ⟨v1, e2, h⟩ := m_bd h
  refine g_gr q12_f14 e2 ?_
  refine g_ch [(0, .ref x0)] [.int 0, .ref v1] (pc' := 5) rfl rfl rfl ?_
  obtain ⟨v3, e4, h⟩ := m_bd h
  refine g_ia e4 ?_
  cases h
  rw [k0 _ hK]
  exact g_iret rfl rfl
theorem OF12_week {x0 : Nat} {hp : m_H} {x : Int32} (h : F12_week x0 hp = some x) : m_isO hp 9 x0 = true := (m_gdd h).1
theorem SF12_week {xs : Nat → Int32} {L : Nat} {x0 : Nat} {hp : m_H} {x : Int32} (h : F12_week x0 hp = some x) : m_Rn xs L 0 2404 0 (lv_args 0 [.ref x0]) [] hp (.inl (some (.int x)), hp) :=
  r_lv (SF12_week_0 x0 hp (K := fun y => y = x) (fun y e => by rw [e]) (m_gdd h).2 rfl) rfl ⟨rfl, trivial⟩
-- F12_isOver: LendHouseModel.isOver()Z
theorem eF12_isOver_0 : m_Fe mi12_5 0 (m_ap [(.aload_n 0, 1)] ((.getfield 14, 3) :: (m_ap [(.iconst 3, 1)] ((.iaload, 1) :: (m_ap [(.iconst 1, 1)] ([(.if_icmp .ne 7, 3)])))))) := m_Fe_of nd2405 0 6 rfl
theorem eF12_isOver_14 : m_Fe mi12_5 14 (m_ap [(.iconst 0, 1)] ([])) := m_Fe_of nd2405 8 1 rfl
theorem eF12_isOver_15 : m_Fe mi12_5 15 ([(.ireturn, 1)]) := m_Fe_of nd2405 9 1 rfl
theorem eF12_isOver_10 : m_Fe mi12_5 10 (m_ap [(.iconst 1, 1)] ([(.goto 4, 3)])) := m_Fe_of nd2405 6 2 rfl
theorem SF12_isOver_0 {xs : Nat → Int32} {L : Nat} (x0 : Nat) (hp : m_H) {r : m_O × m_H} {K : Int32 → Prop} (k0 : ∀ x, K x → r = (.inl (some (.int x)), hp)) {t : Int32} (h : F12_isOver_0 x0 hp = some t) (hK : K t) : m_Rn xs L 0 2405 0 [(0, .ref x0)] [] hp r := by
  unfold F12_isOver_0 at h
  refine g_in eF12_isOver_0 mx2405 ?_
  refine g_ch [(0, .ref x0)] [.ref x0] (pc' := 1) rfl rfl rfl ?_
  obtain ⟨v1, e2, h⟩ := m_bd h
  refine g_gr q12_f14 e2 ?_
  refine g_ch [(0, .ref x0)] [.int 3, .ref v1] (pc' := 5) rfl rfl rfl ?_
  obtain ⟨v3, e4, h⟩ := m_bd h
  refine g_ia e4 ?_
  refine g_ch [(0, .ref x0)] [.int 1, .int v3] (pc' := 7) rfl rfl rfl ?_
  rcases m_ifd h with ⟨c5, h⟩ | ⟨c5, h⟩
  · refine g_ifn (t := 14) rfl (m_neF c5) ?_
    refine g_in eF12_isOver_10 mx2405 ?_
    refine g_ch [(0, .ref x0)] [.int 1] (pc' := 11) rfl rfl rfl ?_
    refine g_goto (t := 15) rfl ?_
    refine g_in eF12_isOver_15 mx2405 ?_
    cases h
    rw [k0 _ hK]
    exact g_iret rfl (by decide +kernel)
  · refine g_if (t := 14) rfl (m_neT c5) ?_
    refine g_in eF12_isOver_14 mx2405 ?_
    refine g_ch [(0, .ref x0)] [.int 0] (pc' := 15) rfl rfl rfl ?_
    refine g_end ?_
    refine g_in eF12_isOver_15 mx2405 ?_
    cases h
    rw [k0 _ hK]
    exact g_iret rfl (by decide +kernel)
theorem OF12_isOver {x0 : Nat} {hp : m_H} {x : Int32} (h : F12_isOver x0 hp = some x) : m_isO hp 9 x0 = true := (m_gdd h).1
theorem SF12_isOver {xs : Nat → Int32} {L : Nat} {x0 : Nat} {hp : m_H} {x : Int32} (h : F12_isOver x0 hp = some x) : m_Rn xs L 0 2405 0 (lv_args 0 [.ref x0]) [] hp (.inl (some (.int x)), hp) :=
  r_lv (SF12_isOver_0 x0 hp (K := fun y => y = x) (fun y e => by rw [e]) (m_gdd h).2 rfl) rfl ⟨rfl, trivial⟩
-- F12_deed: LendHouseModel.deed()V
theorem eF12_deed_0 : m_Fe mi12_6 0 (m_ap [(.iconst 0, 1), (.istore_n 1, 1)] ([])) := m_Fe_of nd2406 0 2 rfl
theorem eF12_deed_2 : m_Fe mi12_6 2 (m_ap [(.iload_n 1, 1), (.ldc 18, 2)] ([(.if_icmp .ge 21, 3)])) := m_Fe_of nd2406 2 3 rfl
theorem eF12_deed_26 : m_Fe mi12_6 26 (m_ap [(.aload_n 0, 1), (.iconst 1, 1)] ((.putfield 67, 3) :: ([(.return_, 1)]))) := m_Fe_of nd2406 15 4 rfl
theorem eF12_deed_8 : m_Fe mi12_6 8 (m_ap [(.aload_n 0, 1)] ((.getfield 22, 3) :: (m_ap [(.iload_n 1, 1), (.aload_n 0, 1)] ((.getfield 14, 3) :: (m_ap [(.iload_n 1, 1)] ((.iaload, 1) :: ((.iastore, 1) :: (m_ap [(.iinc 1 1, 3)] ([(.goto (-21), 3)]))))))))) := m_Fe_of nd2406 5 10 rfl
theorem SF12_deed_2b {xs : Nat → Int32} {L : Nat} (x0 : Nat) (s : Int32 × m_H) {r : m_O × m_H} {K : ((Int32 × m_H) ⊕ m_H) → Prop} (k0 : ∀ x, K (.inr x) → r = (.inl none, x)) (k1 : ∀ s, K (.inl s) → m_Rn xs L 0 2406 2 [(0, .ref x0), (1, .int s.1)] [] s.2 r) {t : (Int32 × m_H) ⊕ m_H} (h : F12_deed_2b x0 s = some t) (hK : K t) : m_Rn xs L 0 2406 2 [(0, .ref x0), (1, .int s.1)] [] s.2 r := by
  unfold F12_deed_2b at h
  refine g_in eF12_deed_2 mx2406 ?_
  refine g_ch [(0, .ref x0), (1, .int s.1)] [.int 36827, .int s.1] (pc' := 5) rfl rfl rfl ?_
  rcases m_ifd h with ⟨c1, h⟩ | ⟨c1, h⟩
  · refine g_if (t := 26) rfl (m_geT c1) ?_
    refine g_in eF12_deed_26 mx2406 ?_
    refine g_ch [(0, .ref x0), (1, .int s.1)] [.int 1, .ref x0] (pc' := 28) rfl rfl rfl ?_
    obtain ⟨h2, e3, h⟩ := m_bd h
    refine g_pf q12_f67 e3 ?_
    cases h
    rw [k0 _ hK]
    exact g_vret rfl
  · refine g_ifn (t := 26) rfl (m_geF c1) ?_
    refine g_in eF12_deed_8 mx2406 ?_
    refine g_ch [(0, .ref x0), (1, .int s.1)] [.ref x0] (pc' := 9) rfl rfl rfl ?_
    obtain ⟨v4, e5, h⟩ := m_bd h
    refine g_gr q12_f22 e5 ?_
    refine g_ch [(0, .ref x0), (1, .int s.1)] [.ref x0, .int s.1, .ref v4] (pc' := 14) rfl rfl rfl ?_
    obtain ⟨v6, e7, h⟩ := m_bd h
    refine g_gr q12_f14 e7 ?_
    refine g_ch [(0, .ref x0), (1, .int s.1)] [.int s.1, .ref v6, .int s.1, .ref v4] (pc' := 18) rfl rfl rfl ?_
    obtain ⟨v8, e9, h⟩ := m_bd h
    refine g_ia e9 ?_
    obtain ⟨h10, e11, h⟩ := m_bd h
    refine g_is e11 ?_
    refine g_ch [(1, .int (s.1 + 1)), (0, .ref x0)] [] (pc' := 23) rfl rfl rfl ?_
    refine g_goto (t := 2) rfl ?_
    cases h
    exact r_lv (k1 ((s.1 + 1), h10) hK) rfl ⟨rfl, rfl, trivial⟩
theorem SF12_deed_2 {xs : Nat → Int32} {L : Nat} (x0 : Nat) (x1 : Int32) (hp : m_H) {r : m_O × m_H} {K : m_H → Prop} (k0 : ∀ x, K x → r = (.inl none, x)) {t : m_H} (h : F12_deed_2 x0 x1 hp = some t) (hK : K t) : m_Rn xs L 0 2406 2 [(0, .ref x0), (1, .int x1)] [] hp r :=
  m_wh_ok (P := fun s => m_Rn xs L 0 2406 2 [(0, .ref x0), (1, .int s.1)] [] s.2 r) (Q := K) (fun s t hb hK => SF12_deed_2b x0 s (K := m_KK (fun s => m_Rn xs L 0 2406 2 [(0, .ref x0), (1, .int s.1)] [] s.2 r) K) k0 (fun _ q => q) hb hK) m_N _ _ h hK
theorem SF12_deed_0 {xs : Nat → Int32} {L : Nat} (x0 : Nat) (hp : m_H) {r : m_O × m_H} {K : m_H → Prop} (k0 : ∀ x, K x → r = (.inl none, x)) {t : m_H} (h : F12_deed_0 x0 hp = some t) (hK : K t) : m_Rn xs L 0 2406 0 [(0, .ref x0)] [] hp r := by
  unfold F12_deed_0 at h
  refine g_in eF12_deed_0 mx2406 ?_
  refine g_ch [(1, .int 0), (0, .ref x0)] [] (pc' := 2) rfl rfl rfl ?_
  refine g_end ?_
  exact r_lv (SF12_deed_2 x0 0 hp (K := K) k0 h hK) rfl ⟨rfl, rfl, trivial⟩
theorem OF12_deed {x0 : Nat} {hp : m_H} {x : m_H} (h : F12_deed x0 hp = some x) : m_isO hp 9 x0 = true := (m_gdd h).1
theorem SF12_deed {xs : Nat → Int32} {L : Nat} {x0 : Nat} {hp : m_H} {x : m_H} (h : F12_deed x0 hp = some x) : m_Rn xs L 0 2406 0 (lv_args 0 [.ref x0]) [] hp (.inl none, x) :=
  r_lv (SF12_deed_0 x0 hp (K := fun y => y = x) (fun y e => by rw [e]) (m_gdd h).2 rfl) rfl ⟨rfl, trivial⟩
-- F12_undo: LendHouseModel.undo()Z
theorem eF12_undo_0 : m_Fe mi12_7 0 (m_ap [(.aload_n 0, 1), (.iconst 0, 1)] ((.putfield 3, 3) :: (m_ap [(.aload_n 0, 1)] ((.getfield 67, 3) :: ([(.ifCond .ne 5, 3)]))))) := m_Fe_of nd2407 0 6 rfl
theorem eF12_undo_14 : m_Fe mi12_7 14 (m_ap [(.iconst 0, 1), (.istore_n 1, 1)] ([])) := m_Fe_of nd2407 8 2 rfl
theorem eF12_undo_12 : m_Fe mi12_7 12 (m_ap [(.iconst 0, 1)] ([(.ireturn, 1)])) := m_Fe_of nd2407 6 2 rfl
theorem eF12_undo_16 : m_Fe mi12_7 16 (m_ap [(.iload_n 1, 1), (.ldc 18, 2)] ([(.if_icmp .ge 21, 3)])) := m_Fe_of nd2407 10 3 rfl
theorem eF12_undo_40 : m_Fe mi12_7 40 (m_ap [(.aload_n 0, 1), (.iconst 0, 1)] ((.putfield 67, 3) :: (m_ap [(.iconst 1, 1)] ([(.ireturn, 1)])))) := m_Fe_of nd2407 23 5 rfl
theorem eF12_undo_22 : m_Fe mi12_7 22 (m_ap [(.aload_n 0, 1)] ((.getfield 14, 3) :: (m_ap [(.iload_n 1, 1), (.aload_n 0, 1)] ((.getfield 22, 3) :: (m_ap [(.iload_n 1, 1)] ((.iaload, 1) :: ((.iastore, 1) :: (m_ap [(.iinc 1 1, 3)] ([(.goto (-21), 3)]))))))))) := m_Fe_of nd2407 13 10 rfl
theorem SF12_undo_16b {xs : Nat → Int32} {L : Nat} (x0 : Nat) (s : Int32 × m_H) {r : m_O × m_H} {K : ((Int32 × m_H) ⊕ (Int32 × m_H)) → Prop} (k0 : ∀ x, K (.inr x) → r = (.inl (some (.int x.1)), x.2)) (k1 : ∀ s, K (.inl s) → m_Rn xs L 0 2407 16 [(0, .ref x0), (1, .int s.1)] [] s.2 r) {t : (Int32 × m_H) ⊕ (Int32 × m_H)} (h : F12_undo_16b x0 s = some t) (hK : K t) : m_Rn xs L 0 2407 16 [(0, .ref x0), (1, .int s.1)] [] s.2 r := by
  unfold F12_undo_16b at h
  refine g_in eF12_undo_16 mx2407 ?_
  refine g_ch [(0, .ref x0), (1, .int s.1)] [.int 36827, .int s.1] (pc' := 19) rfl rfl rfl ?_
  rcases m_ifd h with ⟨c1, h⟩ | ⟨c1, h⟩
  · refine g_if (t := 40) rfl (m_geT c1) ?_
    refine g_in eF12_undo_40 mx2407 ?_
    refine g_ch [(0, .ref x0), (1, .int s.1)] [.int 0, .ref x0] (pc' := 42) rfl rfl rfl ?_
    obtain ⟨h2, e3, h⟩ := m_bd h
    refine g_pf q12_f67 e3 ?_
    refine g_ch [(0, .ref x0), (1, .int s.1)] [.int 1] (pc' := 46) rfl rfl rfl ?_
    cases h
    rw [k0 _ hK]
    exact g_iret rfl (by decide +kernel)
  · refine g_ifn (t := 40) rfl (m_geF c1) ?_
    refine g_in eF12_undo_22 mx2407 ?_
    refine g_ch [(0, .ref x0), (1, .int s.1)] [.ref x0] (pc' := 23) rfl rfl rfl ?_
    obtain ⟨v4, e5, h⟩ := m_bd h
    refine g_gr q12_f14 e5 ?_
    refine g_ch [(0, .ref x0), (1, .int s.1)] [.ref x0, .int s.1, .ref v4] (pc' := 28) rfl rfl rfl ?_
    obtain ⟨v6, e7, h⟩ := m_bd h
    refine g_gr q12_f22 e7 ?_
    refine g_ch [(0, .ref x0), (1, .int s.1)] [.int s.1, .ref v6, .int s.1, .ref v4] (pc' := 32) rfl rfl rfl ?_
    obtain ⟨v8, e9, h⟩ := m_bd h
    refine g_ia e9 ?_
    obtain ⟨h10, e11, h⟩ := m_bd h
    refine g_is e11 ?_
    refine g_ch [(1, .int (s.1 + 1)), (0, .ref x0)] [] (pc' := 37) rfl rfl rfl ?_
    refine g_goto (t := 16) rfl ?_
    cases h
    exact r_lv (k1 ((s.1 + 1), h10) hK) rfl ⟨rfl, rfl, trivial⟩
theorem SF12_undo_16 {xs : Nat → Int32} {L : Nat} (x0 : Nat) (x1 : Int32) (hp : m_H) {r : m_O × m_H} {K : Int32 × m_H → Prop} (k0 : ∀ x, K x → r = (.inl (some (.int x.1)), x.2)) {t : Int32 × m_H} (h : F12_undo_16 x0 x1 hp = some t) (hK : K t) : m_Rn xs L 0 2407 16 [(0, .ref x0), (1, .int x1)] [] hp r :=
  m_wh_ok (P := fun s => m_Rn xs L 0 2407 16 [(0, .ref x0), (1, .int s.1)] [] s.2 r) (Q := K) (fun s t hb hK => SF12_undo_16b x0 s (K := m_KK (fun s => m_Rn xs L 0 2407 16 [(0, .ref x0), (1, .int s.1)] [] s.2 r) K) k0 (fun _ q => q) hb hK) m_N _ _ h hK
theorem SF12_undo_0 {xs : Nat → Int32} {L : Nat} (x0 : Nat) (hp : m_H) {r : m_O × m_H} {K : (Int32 × m_H) → Prop} (k0 : ∀ x, K x → r = (.inl (some (.int x.1)), x.2)) {t : Int32 × m_H} (h : F12_undo_0 x0 hp = some t) (hK : K t) : m_Rn xs L 0 2407 0 [(0, .ref x0)] [] hp r := by
  unfold F12_undo_0 at h
  refine g_in eF12_undo_0 mx2407 ?_
  refine g_ch [(0, .ref x0)] [.int 0, .ref x0] (pc' := 2) rfl rfl rfl ?_
  obtain ⟨h1, e2, h⟩ := m_bd h
  refine g_pf q12_f3 e2 ?_
  refine g_ch [(0, .ref x0)] [.ref x0] (pc' := 6) rfl rfl rfl ?_
  obtain ⟨v3, e4, h⟩ := m_bd h
  refine g_gi q12_f67 e4 ?_
  rcases m_ifd h with ⟨c5, h⟩ | ⟨c5, h⟩
  · refine g_ifcn (t := 14) rfl (m_neF c5) ?_
    refine g_in eF12_undo_12 mx2407 ?_
    refine g_ch [(0, .ref x0)] [.int 0] (pc' := 13) rfl rfl rfl ?_
    cases h
    rw [k0 _ hK]
    exact g_iret rfl (by decide +kernel)
  · refine g_ifc (t := 14) rfl (m_neT c5) ?_
    refine g_in eF12_undo_14 mx2407 ?_
    refine g_ch [(1, .int 0), (0, .ref x0)] [] (pc' := 16) rfl rfl rfl ?_
    refine g_end ?_
    exact r_lv (SF12_undo_16 x0 0 h1 (K := K) k0 h hK) rfl ⟨rfl, rfl, trivial⟩
theorem OF12_undo {x0 : Nat} {hp : m_H} {x : Int32 × m_H} (h : F12_undo x0 hp = some x) : m_isO hp 9 x0 = true := (m_gdd h).1
theorem SF12_undo {xs : Nat → Int32} {L : Nat} {x0 : Nat} {hp : m_H} {x : Int32 × m_H} (h : F12_undo x0 hp = some x) : m_Rn xs L 0 2407 0 (lv_args 0 [.ref x0]) [] hp (.inl (some (.int x.1)), x.2) :=
  r_lv (SF12_undo_0 x0 hp (K := fun y => y = x) (fun y e => by rw [e]) (m_gdd h).2 rfl) rfl ⟨rfl, trivial⟩
-- F12_keep: LendHouseModel.keep()V
theorem eF12_keep_0 : m_Fe mi12_8 0 (m_ap [(.aload_n 0, 1), (.iconst 0, 1)] ((.putfield 3, 3) :: (m_ap [(.iconst 0, 1), (.istore_n 1, 1)] ([])))) := m_Fe_of nd2408 0 5 rfl
theorem eF12_keep_7 : m_Fe mi12_8 7 (m_ap [(.iload_n 1, 1), (.ldc 18, 2)] ([(.if_icmp .ge 21, 3)])) := m_Fe_of nd2408 5 3 rfl
theorem eF12_keep_31 : m_Fe mi12_8 31 (m_ap [(.aload_n 0, 1), (.iconst 1, 1)] ((.putfield 71, 3) :: ([(.return_, 1)]))) := m_Fe_of nd2408 18 4 rfl
theorem eF12_keep_13 : m_Fe mi12_8 13 (m_ap [(.aload_n 0, 1)] ((.getfield 19, 3) :: (m_ap [(.iload_n 1, 1), (.aload_n 0, 1)] ((.getfield 14, 3) :: (m_ap [(.iload_n 1, 1)] ((.iaload, 1) :: ((.iastore, 1) :: (m_ap [(.iinc 1 1, 3)] ([(.goto (-21), 3)]))))))))) := m_Fe_of nd2408 8 10 rfl
theorem SF12_keep_7b {xs : Nat → Int32} {L : Nat} (x0 : Nat) (s : Int32 × m_H) {r : m_O × m_H} {K : ((Int32 × m_H) ⊕ m_H) → Prop} (k0 : ∀ x, K (.inr x) → r = (.inl none, x)) (k1 : ∀ s, K (.inl s) → m_Rn xs L 0 2408 7 [(0, .ref x0), (1, .int s.1)] [] s.2 r) {t : (Int32 × m_H) ⊕ m_H} (h : F12_keep_7b x0 s = some t) (hK : K t) : m_Rn xs L 0 2408 7 [(0, .ref x0), (1, .int s.1)] [] s.2 r := by
  unfold F12_keep_7b at h
  refine g_in eF12_keep_7 mx2408 ?_
  refine g_ch [(0, .ref x0), (1, .int s.1)] [.int 36827, .int s.1] (pc' := 10) rfl rfl rfl ?_
  rcases m_ifd h with ⟨c1, h⟩ | ⟨c1, h⟩
  · refine g_if (t := 31) rfl (m_geT c1) ?_
    refine g_in eF12_keep_31 mx2408 ?_
    refine g_ch [(0, .ref x0), (1, .int s.1)] [.int 1, .ref x0] (pc' := 33) rfl rfl rfl ?_
    obtain ⟨h2, e3, h⟩ := m_bd h
    refine g_pf q12_f71 e3 ?_
    cases h
    rw [k0 _ hK]
    exact g_vret rfl
  · refine g_ifn (t := 31) rfl (m_geF c1) ?_
    refine g_in eF12_keep_13 mx2408 ?_
    refine g_ch [(0, .ref x0), (1, .int s.1)] [.ref x0] (pc' := 14) rfl rfl rfl ?_
    obtain ⟨v4, e5, h⟩ := m_bd h
    refine g_gr q12_f19 e5 ?_
    refine g_ch [(0, .ref x0), (1, .int s.1)] [.ref x0, .int s.1, .ref v4] (pc' := 19) rfl rfl rfl ?_
    obtain ⟨v6, e7, h⟩ := m_bd h
    refine g_gr q12_f14 e7 ?_
    refine g_ch [(0, .ref x0), (1, .int s.1)] [.int s.1, .ref v6, .int s.1, .ref v4] (pc' := 23) rfl rfl rfl ?_
    obtain ⟨v8, e9, h⟩ := m_bd h
    refine g_ia e9 ?_
    obtain ⟨h10, e11, h⟩ := m_bd h
    refine g_is e11 ?_
    refine g_ch [(1, .int (s.1 + 1)), (0, .ref x0)] [] (pc' := 28) rfl rfl rfl ?_
    refine g_goto (t := 7) rfl ?_
    cases h
    exact r_lv (k1 ((s.1 + 1), h10) hK) rfl ⟨rfl, rfl, trivial⟩
theorem SF12_keep_7 {xs : Nat → Int32} {L : Nat} (x0 : Nat) (x1 : Int32) (hp : m_H) {r : m_O × m_H} {K : m_H → Prop} (k0 : ∀ x, K x → r = (.inl none, x)) {t : m_H} (h : F12_keep_7 x0 x1 hp = some t) (hK : K t) : m_Rn xs L 0 2408 7 [(0, .ref x0), (1, .int x1)] [] hp r :=
  m_wh_ok (P := fun s => m_Rn xs L 0 2408 7 [(0, .ref x0), (1, .int s.1)] [] s.2 r) (Q := K) (fun s t hb hK => SF12_keep_7b x0 s (K := m_KK (fun s => m_Rn xs L 0 2408 7 [(0, .ref x0), (1, .int s.1)] [] s.2 r) K) k0 (fun _ q => q) hb hK) m_N _ _ h hK
theorem SF12_keep_0 {xs : Nat → Int32} {L : Nat} (x0 : Nat) (hp : m_H) {r : m_O × m_H} {K : m_H → Prop} (k0 : ∀ x, K x → r = (.inl none, x)) {t : m_H} (h : F12_keep_0 x0 hp = some t) (hK : K t) : m_Rn xs L 0 2408 0 [(0, .ref x0)] [] hp r := by
  unfold F12_keep_0 at h
  refine g_in eF12_keep_0 mx2408 ?_
  refine g_ch [(0, .ref x0)] [.int 0, .ref x0] (pc' := 2) rfl rfl rfl ?_
  obtain ⟨h1, e2, h⟩ := m_bd h
  refine g_pf q12_f3 e2 ?_
  refine g_ch [(1, .int 0), (0, .ref x0)] [] (pc' := 7) rfl rfl rfl ?_
  refine g_end ?_
  exact r_lv (SF12_keep_7 x0 0 h1 (K := K) k0 h hK) rfl ⟨rfl, rfl, trivial⟩
theorem OF12_keep {x0 : Nat} {hp : m_H} {x : m_H} (h : F12_keep x0 hp = some x) : m_isO hp 9 x0 = true := (m_gdd h).1
theorem SF12_keep {xs : Nat → Int32} {L : Nat} {x0 : Nat} {hp : m_H} {x : m_H} (h : F12_keep x0 hp = some x) : m_Rn xs L 0 2408 0 (lv_args 0 [.ref x0]) [] hp (.inl none, x) :=
  r_lv (SF12_keep_0 x0 hp (K := fun y => y = x) (fun y e => by rw [e]) (m_gdd h).2 rfl) rfl ⟨rfl, trivial⟩
-- F12_again: LendHouseModel.again()Z
theorem eF12_again_0 : m_Fe mi12_9 0 (m_ap [(.aload_n 0, 1), (.iconst 0, 1)] ((.putfield 3, 3) :: (m_ap [(.aload_n 0, 1)] ((.getfield 71, 3) :: ([(.ifCond .ne 5, 3)]))))) := m_Fe_of nd2409 0 6 rfl
theorem eF12_again_14 : m_Fe mi12_9 14 (m_ap [(.iconst 0, 1), (.istore_n 1, 1)] ([])) := m_Fe_of nd2409 8 2 rfl
theorem eF12_again_12 : m_Fe mi12_9 12 (m_ap [(.iconst 0, 1)] ([(.ireturn, 1)])) := m_Fe_of nd2409 6 2 rfl
theorem eF12_again_16 : m_Fe mi12_9 16 (m_ap [(.iload_n 1, 1), (.ldc 18, 2)] ([(.if_icmp .ge 21, 3)])) := m_Fe_of nd2409 10 3 rfl
theorem eF12_again_40 : m_Fe mi12_9 40 (m_ap [(.aload_n 0, 1), (.iconst 0, 1)] ((.putfield 67, 3) :: (m_ap [(.iconst 1, 1)] ([(.ireturn, 1)])))) := m_Fe_of nd2409 23 5 rfl
theorem eF12_again_22 : m_Fe mi12_9 22 (m_ap [(.aload_n 0, 1)] ((.getfield 14, 3) :: (m_ap [(.iload_n 1, 1), (.aload_n 0, 1)] ((.getfield 19, 3) :: (m_ap [(.iload_n 1, 1)] ((.iaload, 1) :: ((.iastore, 1) :: (m_ap [(.iinc 1 1, 3)] ([(.goto (-21), 3)]))))))))) := m_Fe_of nd2409 13 10 rfl
theorem SF12_again_16b {xs : Nat → Int32} {L : Nat} (x0 : Nat) (s : Int32 × m_H) {r : m_O × m_H} {K : ((Int32 × m_H) ⊕ (Int32 × m_H)) → Prop} (k0 : ∀ x, K (.inr x) → r = (.inl (some (.int x.1)), x.2)) (k1 : ∀ s, K (.inl s) → m_Rn xs L 0 2409 16 [(0, .ref x0), (1, .int s.1)] [] s.2 r) {t : (Int32 × m_H) ⊕ (Int32 × m_H)} (h : F12_again_16b x0 s = some t) (hK : K t) : m_Rn xs L 0 2409 16 [(0, .ref x0), (1, .int s.1)] [] s.2 r := by
  unfold F12_again_16b at h
  refine g_in eF12_again_16 mx2409 ?_
  refine g_ch [(0, .ref x0), (1, .int s.1)] [.int 36827, .int s.1] (pc' := 19) rfl rfl rfl ?_
  rcases m_ifd h with ⟨c1, h⟩ | ⟨c1, h⟩
  · refine g_if (t := 40) rfl (m_geT c1) ?_
    refine g_in eF12_again_40 mx2409 ?_
    refine g_ch [(0, .ref x0), (1, .int s.1)] [.int 0, .ref x0] (pc' := 42) rfl rfl rfl ?_
    obtain ⟨h2, e3, h⟩ := m_bd h
    refine g_pf q12_f67 e3 ?_
    refine g_ch [(0, .ref x0), (1, .int s.1)] [.int 1] (pc' := 46) rfl rfl rfl ?_
    cases h
    rw [k0 _ hK]
    exact g_iret rfl (by decide +kernel)
  · refine g_ifn (t := 40) rfl (m_geF c1) ?_
    refine g_in eF12_again_22 mx2409 ?_
    refine g_ch [(0, .ref x0), (1, .int s.1)] [.ref x0] (pc' := 23) rfl rfl rfl ?_
    obtain ⟨v4, e5, h⟩ := m_bd h
    refine g_gr q12_f14 e5 ?_
    refine g_ch [(0, .ref x0), (1, .int s.1)] [.ref x0, .int s.1, .ref v4] (pc' := 28) rfl rfl rfl ?_
    obtain ⟨v6, e7, h⟩ := m_bd h
    refine g_gr q12_f19 e7 ?_
    refine g_ch [(0, .ref x0), (1, .int s.1)] [.int s.1, .ref v6, .int s.1, .ref v4] (pc' := 32) rfl rfl rfl ?_
    obtain ⟨v8, e9, h⟩ := m_bd h
    refine g_ia e9 ?_
    obtain ⟨h10, e11, h⟩ := m_bd h
    refine g_is e11 ?_
    refine g_ch [(1, .int (s.1 + 1)), (0, .ref x0)] [] (pc' := 37) rfl rfl rfl ?_
    refine g_goto (t := 16) rfl ?_
    cases h
    exact r_lv (k1 ((s.1 + 1), h10) hK) rfl ⟨rfl, rfl, trivial⟩
theorem SF12_again_16 {xs : Nat → Int32} {L : Nat} (x0 : Nat) (x1 : Int32) (hp : m_H) {r : m_O × m_H} {K : Int32 × m_H → Prop} (k0 : ∀ x, K x → r = (.inl (some (.int x.1)), x.2)) {t : Int32 × m_H} (h : F12_again_16 x0 x1 hp = some t) (hK : K t) : m_Rn xs L 0 2409 16 [(0, .ref x0), (1, .int x1)] [] hp r :=
  m_wh_ok (P := fun s => m_Rn xs L 0 2409 16 [(0, .ref x0), (1, .int s.1)] [] s.2 r) (Q := K) (fun s t hb hK => SF12_again_16b x0 s (K := m_KK (fun s => m_Rn xs L 0 2409 16 [(0, .ref x0), (1, .int s.1)] [] s.2 r) K) k0 (fun _ q => q) hb hK) m_N _ _ h hK
theorem SF12_again_0 {xs : Nat → Int32} {L : Nat} (x0 : Nat) (hp : m_H) {r : m_O × m_H} {K : (Int32 × m_H) → Prop} (k0 : ∀ x, K x → r = (.inl (some (.int x.1)), x.2)) {t : Int32 × m_H} (h : F12_again_0 x0 hp = some t) (hK : K t) : m_Rn xs L 0 2409 0 [(0, .ref x0)] [] hp r := by
  unfold F12_again_0 at h
  refine g_in eF12_again_0 mx2409 ?_
  refine g_ch [(0, .ref x0)] [.int 0, .ref x0] (pc' := 2) rfl rfl rfl ?_
  obtain ⟨h1, e2, h⟩ := m_bd h
  refine g_pf q12_f3 e2 ?_
  refine g_ch [(0, .ref x0)] [.ref x0] (pc' := 6) rfl rfl rfl ?_
  obtain ⟨v3, e4, h⟩ := m_bd h
  refine g_gi q12_f71 e4 ?_
  rcases m_ifd h with ⟨c5, h⟩ | ⟨c5, h⟩
  · refine g_ifcn (t := 14) rfl (m_neF c5) ?_
    refine g_in eF12_again_12 mx2409 ?_
    refine g_ch [(0, .ref x0)] [.int 0] (pc' := 13) rfl rfl rfl ?_
    cases h
    rw [k0 _ hK]
    exact g_iret rfl (by decide +kernel)
  · refine g_ifc (t := 14) rfl (m_neT c5) ?_
    refine g_in eF12_again_14 mx2409 ?_
    refine g_ch [(1, .int 0), (0, .ref x0)] [] (pc' := 16) rfl rfl rfl ?_
    refine g_end ?_
    exact r_lv (SF12_again_16 x0 0 h1 (K := K) k0 h hK) rfl ⟨rfl, rfl, trivial⟩
theorem OF12_again {x0 : Nat} {hp : m_H} {x : Int32 × m_H} (h : F12_again x0 hp = some x) : m_isO hp 9 x0 = true := (m_gdd h).1
theorem SF12_again {xs : Nat → Int32} {L : Nat} {x0 : Nat} {hp : m_H} {x : Int32 × m_H} (h : F12_again x0 hp = some x) : m_Rn xs L 0 2409 0 (lv_args 0 [.ref x0]) [] hp (.inl (some (.int x.1)), x.2) :=
  r_lv (SF12_again_0 x0 hp (K := fun y => y = x) (fun y e => by rw [e]) (m_gdd h).2 rfl) rfl ⟨rfl, trivial⟩
-- F12_noSort: LendHouseModel.noSort(I)Z
theorem eF12_noSort_0 : m_Fe mi12_10 0 (m_ap [(.iload_n 0, 1), (.iconst 0, 1), (.bipush 7, 2)] ((.invokestatic 74, 3) :: ([(.ifCond .ne 7, 3)]))) := m_Fe_of nd2410 0 5 rfl
theorem eF12_noSort_14 : m_Fe mi12_10 14 (m_ap [(.iconst 0, 1)] ([])) := m_Fe_of nd2410 7 1 rfl
theorem eF12_noSort_15 : m_Fe mi12_10 15 ([(.ireturn, 1)]) := m_Fe_of nd2410 8 1 rfl
theorem eF12_noSort_10 : m_Fe mi12_10 10 (m_ap [(.iconst 1, 1)] ([(.goto 4, 3)])) := m_Fe_of nd2410 5 2 rfl
theorem SF12_noSort_0 {xs : Nat → Int32} {L : Nat} (x0 : Int32) (hp : m_H) {r : m_O × m_H} {K : Int32 → Prop} (k0 : ∀ x, K x → r = (.inl (some (.int x)), hp)) {t : Int32} (h : F12_noSort_0 x0 hp = some t) (hK : K t) : m_Rn xs L 1 2410 0 [(0, .int x0)] [] hp r := by
  unfold F12_noSort_0 at h
  refine g_in eF12_noSort_0 mx2410 ?_
  refine g_ch [(0, .int x0)] [.int 7, .int 0, .int x0] (pc' := 4) rfl rfl rfl ?_
  obtain ⟨v2, e1, h⟩ := m_bd h
  refine g_call (v := some (.int v2)) (h := hp) (st' := [.int v2]) (D1 := 0) (as := [.int x0, .int 0, .int 7]) (Or.inl rfl) q12_m74 (m_cs (as := [.int 7, .int 0, .int x0]) (rest := []) q12_m74 jv2402 rfl rfl rfl rfl rfl) (by decide) (SF12_in e1) rfl ?_
  rcases m_ifd h with ⟨c3, h⟩ | ⟨c3, h⟩
  · refine g_ifcn (t := 14) rfl (m_neF c3) ?_
    refine g_in eF12_noSort_10 mx2410 ?_
    refine g_ch [(0, .int x0)] [.int 1] (pc' := 11) rfl rfl rfl ?_
    refine g_goto (t := 15) rfl ?_
    refine g_in eF12_noSort_15 mx2410 ?_
    cases h
    rw [k0 _ hK]
    exact g_iret rfl (by decide +kernel)
  · refine g_ifc (t := 14) rfl (m_neT c3) ?_
    refine g_in eF12_noSort_14 mx2410 ?_
    refine g_ch [(0, .int x0)] [.int 0] (pc' := 15) rfl rfl rfl ?_
    refine g_end ?_
    refine g_in eF12_noSort_15 mx2410 ?_
    cases h
    rw [k0 _ hK]
    exact g_iret rfl (by decide +kernel)
theorem SF12_noSort {xs : Nat → Int32} {L : Nat} {x0 : Int32} {hp : m_H} {x : Int32} (h : F12_noSort x0 hp = some x) : m_Rn xs L 1 2410 0 (lv_args 0 [.int x0]) [] hp (.inl (some (.int x)), hp) :=
  r_lv (SF12_noSort_0 x0 hp (K := fun y => y = x) (fun y e => by rw [e]) h rfl) rfl ⟨rfl, trivial⟩
-- F12_noLand: LendHouseModel.noLand(I)Z
theorem eF12_noLand_0 : m_Fe mi12_11 0 (m_ap [(.iload_n 0, 1), (.iconst 0, 1), (.iconst 5, 1)] ((.invokestatic 74, 3) :: ([(.ifCond .ne 7, 3)]))) := m_Fe_of nd2411 0 5 rfl
theorem eF12_noLand_13 : m_Fe mi12_11 13 (m_ap [(.iconst 0, 1)] ([])) := m_Fe_of nd2411 7 1 rfl
theorem eF12_noLand_14 : m_Fe mi12_11 14 ([(.ireturn, 1)]) := m_Fe_of nd2411 8 1 rfl
theorem eF12_noLand_9 : m_Fe mi12_11 9 (m_ap [(.iconst 1, 1)] ([(.goto 4, 3)])) := m_Fe_of nd2411 5 2 rfl
theorem SF12_noLand_0 {xs : Nat → Int32} {L : Nat} (x0 : Int32) (hp : m_H) {r : m_O × m_H} {K : Int32 → Prop} (k0 : ∀ x, K x → r = (.inl (some (.int x)), hp)) {t : Int32} (h : F12_noLand_0 x0 hp = some t) (hK : K t) : m_Rn xs L 1 2411 0 [(0, .int x0)] [] hp r := by
  unfold F12_noLand_0 at h
  refine g_in eF12_noLand_0 mx2411 ?_
  refine g_ch [(0, .int x0)] [.int 5, .int 0, .int x0] (pc' := 3) rfl rfl rfl ?_
  obtain ⟨v2, e1, h⟩ := m_bd h
  refine g_call (v := some (.int v2)) (h := hp) (st' := [.int v2]) (D1 := 0) (as := [.int x0, .int 0, .int 5]) (Or.inl rfl) q12_m74 (m_cs (as := [.int 5, .int 0, .int x0]) (rest := []) q12_m74 jv2402 rfl rfl rfl rfl rfl) (by decide) (SF12_in e1) rfl ?_
  rcases m_ifd h with ⟨c3, h⟩ | ⟨c3, h⟩
  · refine g_ifcn (t := 13) rfl (m_neF c3) ?_
    refine g_in eF12_noLand_9 mx2411 ?_
    refine g_ch [(0, .int x0)] [.int 1] (pc' := 10) rfl rfl rfl ?_
    refine g_goto (t := 14) rfl ?_
    refine g_in eF12_noLand_14 mx2411 ?_
    cases h
    rw [k0 _ hK]
    exact g_iret rfl (by decide +kernel)
  · refine g_ifc (t := 13) rfl (m_neT c3) ?_
    refine g_in eF12_noLand_13 mx2411 ?_
    refine g_ch [(0, .int x0)] [.int 0] (pc' := 14) rfl rfl rfl ?_
    refine g_end ?_
    refine g_in eF12_noLand_14 mx2411 ?_
    cases h
    rw [k0 _ hK]
    exact g_iret rfl (by decide +kernel)
theorem SF12_noLand {xs : Nat → Int32} {L : Nat} {x0 : Int32} {hp : m_H} {x : Int32} (h : F12_noLand x0 hp = some x) : m_Rn xs L 1 2411 0 (lv_args 0 [.int x0]) [] hp (.inl (some (.int x)), hp) :=
  r_lv (SF12_noLand_0 x0 hp (K := fun y => y = x) (fun y e => by rw [e]) h rfl) rfl ⟨rfl, trivial⟩
-- F12_sortOf: LendHouseModel.sortOf(II)I
theorem eF12_sortOf_0 : m_Fe mi12_12 0 (m_ap [(.aload_n 0, 1)] ((.getfield 14, 3) :: (m_ap [(.iconst 5, 1), (.iconst 4, 1), (.iload_n 1, 1), (.imul, 1), (.iadd, 1), (.iload_n 2, 1), (.iadd, 1)] ((.iaload, 1) :: ([(.ireturn, 1)]))))) := m_Fe_of nd2412 0 11 rfl
theorem SF12_sortOf_0 {xs : Nat → Int32} {L : Nat} (x0 : Nat) (x1 : Int32) (x2 : Int32) (hp : m_H) {r : m_O × m_H} {K : Int32 → Prop} (k0 : ∀ x, K x → r = (.inl (some (.int x)), hp)) {t : Int32} (h : F12_sortOf_0 x0 x1 x2 hp = some t) (hK : K t) : m_Rn xs L 0 2412 0 [(0, .ref x0), (1, .int x1), (2, .int x2)] [] hp r := by
  unfold F12_sortOf_0 at h
  refine g_in eF12_sortOf_0 mx2412 ?_
  refine g_ch [(0, .ref x0), (1, .int x1), (2, .int x2)] [.ref x0] (pc' := 1) rfl rfl rfl ?_
  obtain ⟨v1, e2, h⟩ := m_bd h
  refine g_gr q12_f14 e2 ?_
  refine g_ch [(0, .ref x0), (1, .int x1), (2, .int x2)] [.int ((5 + (4 * x1)) + x2), .ref v1] (pc' := 11) rfl rfl rfl ?_
  obtain ⟨v3, e4, h⟩ := m_bd h
  refine g_ia e4 ?_
  cases h
  rw [k0 _ hK]
  exact g_iret rfl rfl
theorem OF12_sortOf {x0 : Nat} {x1 : Int32} {x2 : Int32} {hp : m_H} {x : Int32} (h : F12_sortOf x0 x1 x2 hp = some x) : m_isO hp 9 x0 = true := (m_gdd h).1
theorem SF12_sortOf {xs : Nat → Int32} {L : Nat} {x0 : Nat} {x1 : Int32} {x2 : Int32} {hp : m_H} {x : Int32} (h : F12_sortOf x0 x1 x2 hp = some x) : m_Rn xs L 0 2412 0 (lv_args 0 [.ref x0, .int x1, .int x2]) [] hp (.inl (some (.int x)), hp) :=
  r_lv (SF12_sortOf_0 x0 x1 x2 hp (K := fun y => y = x) (fun y e => by rw [e]) (m_gdd h).2 rfl) rfl ⟨rfl, rfl, rfl, trivial⟩
-- F12_landAt: LendHouseModel.landAt(II)I
theorem eF12_landAt_0 : m_Fe mi12_13 0 (m_ap [(.bipush 37, 2), (.iconst 4, 1), (.iload_n 0, 1), (.imul, 1), (.iadd, 1), (.iload_n 1, 1), (.iadd, 1)] ([(.ireturn, 1)])) := m_Fe_of nd2413 0 8 rfl
theorem SF12_landAt_0 {xs : Nat → Int32} {L : Nat} (x0 : Int32) (x1 : Int32) (hp : m_H) {r : m_O × m_H} {K : Int32 → Prop} (k0 : ∀ x, K x → r = (.inl (some (.int x)), hp)) {t : Int32} (h : F12_landAt_0 x0 x1 hp = some t) (hK : K t) : m_Rn xs L 0 2413 0 [(0, .int x0), (1, .int x1)] [] hp r := by
  unfold F12_landAt_0 at h
  refine g_in eF12_landAt_0 mx2413 ?_
  refine g_ch [(0, .int x0), (1, .int x1)] [.int ((37 + (4 * x0)) + x1)] (pc' := 8) rfl rfl rfl ?_
  cases h
  rw [k0 _ hK]
  exact g_iret rfl rfl
theorem SF12_landAt {xs : Nat → Int32} {L : Nat} {x0 : Int32} {x1 : Int32} {hp : m_H} {x : Int32} (h : F12_landAt x0 x1 hp = some x) : m_Rn xs L 0 2413 0 (lv_args 0 [.int x0, .int x1]) [] hp (.inl (some (.int x)), hp) :=
  r_lv (SF12_landAt_0 x0 x1 hp (K := fun y => y = x) (fun y e => by rw [e]) h rfl) rfl ⟨rfl, rfl, trivial⟩
-- F12_both: LendHouseModel.both(III)I
theorem eF12_both_0 : m_Fe mi12_14 0 (m_ap [(.iload_n 0, 1), (.bipush 8, 2), (.iload_n 1, 1), (.imul, 1), (.iadd, 1), (.iload_n 2, 1), (.iadd, 1)] ([(.ireturn, 1)])) := m_Fe_of nd2414 0 8 rfl
theorem SF12_both_0 {xs : Nat → Int32} {L : Nat} (x0 : Int32) (x1 : Int32) (x2 : Int32) (hp : m_H) {r : m_O × m_H} {K : Int32 → Prop} (k0 : ∀ x, K x → r = (.inl (some (.int x)), hp)) {t : Int32} (h : F12_both_0 x0 x1 x2 hp = some t) (hK : K t) : m_Rn xs L 0 2414 0 [(0, .int x0), (1, .int x1), (2, .int x2)] [] hp r := by
  unfold F12_both_0 at h
  refine g_in eF12_both_0 mx2414 ?_
  refine g_ch [(0, .int x0), (1, .int x1), (2, .int x2)] [.int ((x0 + (8 * x1)) + x2)] (pc' := 8) rfl rfl rfl ?_
  cases h
  rw [k0 _ hK]
  exact g_iret rfl rfl
theorem SF12_both {xs : Nat → Int32} {L : Nat} {x0 : Int32} {x1 : Int32} {x2 : Int32} {hp : m_H} {x : Int32} (h : F12_both x0 x1 x2 hp = some x) : m_Rn xs L 0 2414 0 (lv_args 0 [.int x0, .int x1, .int x2]) [] hp (.inl (some (.int x)), hp) :=
  r_lv (SF12_both_0 x0 x1 x2 hp (K := fun y => y = x) (fun y e => by rw [e]) h rfl) rfl ⟨rfl, rfl, rfl, trivial⟩
-- F12_sort: LendHouseModel.sort(IIIII)V
theorem eF12_sort_0 : m_Fe mi12_15 0 (m_ap [(.aload_n 0, 1), (.iconst 0, 1)] ((.putfield 3, 3) :: (m_ap [(.aload_n 0, 1), (.iload_n 1, 1)] ((.invokestatic 78, 3) :: (m_ap [(.iconst 1, 1)] ((.invokevirtual 82, 3) :: ([(.ifCond .ne 58, 3)]))))))) := m_Fe_of nd2415 0 9 rfl
theorem eF12_sort_72 : m_Fe mi12_15 72 ([(.return_, 1)]) := m_Fe_of nd2415 36 1 rfl
theorem eF12_sort_17 : m_Fe mi12_15 17 (m_ap [(.aload_n 0, 1), (.iload_n 2, 1), (.iconst 1, 1), (.bipush 20, 2)] ((.invokestatic 74, 3) :: ([(.ifCond .eq 35, 3)]))) := m_Fe_of nd2415 9 6 rfl
theorem eF12_sort_28 : m_Fe mi12_15 28 (m_ap [(.iload_n 3, 1), (.iconst 0, 1), (.bipush 50, 2)] ((.invokestatic 74, 3) :: ([(.ifCond .eq 25, 3)]))) := m_Fe_of nd2415 15 5 rfl
theorem eF12_sort_38 : m_Fe mi12_15 38 (m_ap [(.iload 4, 2), (.iconst 0, 1), (.bipush 50, 2)] ((.invokestatic 74, 3) :: ([(.ifCond .eq 14, 3)]))) := m_Fe_of nd2415 20 5 rfl
theorem eF12_sort_49 : m_Fe mi12_15 49 (m_ap [(.iload 5, 2), (.iconst 1, 1), (.bipush 9, 2)] ((.invokestatic 74, 3) :: ([(.ifCond .ne 7, 3)]))) := m_Fe_of nd2415 25 5 rfl
theorem eF12_sort_64 : m_Fe mi12_15 64 (m_ap [(.iconst 0, 1)] ([])) := m_Fe_of nd2415 32 1 rfl
theorem eF12_sort_60 : m_Fe mi12_15 60 (m_ap [(.iconst 1, 1)] ([(.goto 4, 3)])) := m_Fe_of nd2415 30 2 rfl
theorem eF12_sort_65 : m_Fe mi12_15 65 (m_ap [(.iconst 2, 1)] ((.invokevirtual 82, 3) :: ([(.ifCond .eq 4, 3)]))) := m_Fe_of nd2415 33 3 rfl
theorem eF12_sort_73 : m_Fe mi12_15 73 (m_ap [(.aload_n 0, 1)] ((.getfield 14, 3) :: (m_ap [(.iconst 5, 1), (.iconst 4, 1), (.iload_n 1, 1), (.imul, 1), (.iadd, 1), (.iload_n 2, 1)] ((.iastore, 1) :: (m_ap [(.aload_n 0, 1)] ((.getfield 14, 3) :: (m_ap [(.iconst 5, 1), (.iconst 4, 1), (.iload_n 1, 1), (.imul, 1), (.iadd, 1), (.iconst 1, 1), (.iadd, 1), (.iload_n 3, 1)] ((.iastore, 1) :: (m_ap [(.aload_n 0, 1)] ((.getfield 14, 3) :: (m_ap [(.iconst 5, 1), (.iconst 4, 1), (.iload_n 1, 1), (.imul, 1), (.iadd, 1), (.iconst 2, 1), (.iadd, 1), (.iload 4, 2)] ((.iastore, 1) :: (m_ap [(.aload_n 0, 1)] ((.getfield 14, 3) :: (m_ap [(.iconst 5, 1), (.iconst 4, 1), (.iload_n 1, 1), (.imul, 1), (.iadd, 1), (.iconst 3, 1), (.iadd, 1), (.iload 5, 2)] ((.iastore, 1) :: ([(.return_, 1)]))))))))))))))))) := m_Fe_of nd2415 37 43 rfl
theorem SF12_sort_65 {xs : Nat → Int32} {L : Nat} (x0 : Nat) (x1 : Int32) (x2 : Int32) (x3 : Int32) (x4 : Int32) (x5 : Int32) (s0 : Int32) (s1 : Nat) (hp : m_H) {r : m_O × m_H} {K : m_H → Prop} (k0 : ∀ x, K x → r = (.inl none, x)) {t : m_H} (h : F12_sort_65 x0 x1 x2 x3 x4 x5 s0 s1 hp = some t) (hK : K t) : m_Rn xs L 2 2415 65 [(0, .ref x0), (1, .int x1), (2, .int x2), (3, .int x3), (4, .int x4), (5, .int x5)] [.int s0, .ref s1] hp r := by
  unfold F12_sort_65 at h
  refine g_in eF12_sort_65 mx2415 ?_
  refine g_ch [(0, .ref x0), (1, .int x1), (2, .int x2), (3, .int x3), (4, .int x4), (5, .int x5)] [.int 2, .int s0, .ref s1] (pc' := 66) rfl rfl rfl ?_
  obtain ⟨z2, e1, h⟩ := m_bd h
  refine g_call (v := some (.int z2.1)) (h := z2.2) (st' := [.int z2.1]) (D1 := 0) (as := [.ref s1, .int s0, .int 2]) (Or.inr (Or.inl rfl)) q12_m82 (m_cv (as := [.int 2, .int s0]) (rest := []) (Or.inl rfl) q12_m82 jv2401 (OF12_throwsIf e1) rfl rfl rfl rfl) (by decide) (SF12_throwsIf e1) rfl ?_
  rcases m_ifd h with ⟨c3, h⟩ | ⟨c3, h⟩
  · refine g_ifc (t := 73) rfl (m_eqT c3) ?_
    refine g_in eF12_sort_73 mx2415 ?_
    refine g_ch [(0, .ref x0), (1, .int x1), (2, .int x2), (3, .int x3), (4, .int x4), (5, .int x5)] [.ref x0] (pc' := 74) rfl rfl rfl ?_
    obtain ⟨v4, e5, h⟩ := m_bd h
    refine g_gr q12_f14 e5 ?_
    refine g_ch [(0, .ref x0), (1, .int x1), (2, .int x2), (3, .int x3), (4, .int x4), (5, .int x5)] [.int x2, .int (5 + (4 * x1)), .ref v4] (pc' := 83) rfl rfl rfl ?_
    obtain ⟨h6, e7, h⟩ := m_bd h
    refine g_is e7 ?_
    refine g_ch [(0, .ref x0), (1, .int x1), (2, .int x2), (3, .int x3), (4, .int x4), (5, .int x5)] [.ref x0] (pc' := 85) rfl rfl rfl ?_
    obtain ⟨v8, e9, h⟩ := m_bd h
    refine g_gr q12_f14 e9 ?_
    refine g_ch [(0, .ref x0), (1, .int x1), (2, .int x2), (3, .int x3), (4, .int x4), (5, .int x5)] [.int x3, .int ((5 + (4 * x1)) + 1), .ref v8] (pc' := 96) rfl rfl rfl ?_
    obtain ⟨h10, e11, h⟩ := m_bd h
    refine g_is e11 ?_
    refine g_ch [(0, .ref x0), (1, .int x1), (2, .int x2), (3, .int x3), (4, .int x4), (5, .int x5)] [.ref x0] (pc' := 98) rfl rfl rfl ?_
    obtain ⟨v12, e13, h⟩ := m_bd h
    refine g_gr q12_f14 e13 ?_
    refine g_ch [(0, .ref x0), (1, .int x1), (2, .int x2), (3, .int x3), (4, .int x4), (5, .int x5)] [.int x4, .int ((5 + (4 * x1)) + 2), .ref v12] (pc' := 110) rfl rfl rfl ?_
    obtain ⟨h14, e15, h⟩ := m_bd h
    refine g_is e15 ?_
    refine g_ch [(0, .ref x0), (1, .int x1), (2, .int x2), (3, .int x3), (4, .int x4), (5, .int x5)] [.ref x0] (pc' := 112) rfl rfl rfl ?_
    obtain ⟨v16, e17, h⟩ := m_bd h
    refine g_gr q12_f14 e17 ?_
    refine g_ch [(0, .ref x0), (1, .int x1), (2, .int x2), (3, .int x3), (4, .int x4), (5, .int x5)] [.int x5, .int ((5 + (4 * x1)) + 3), .ref v16] (pc' := 124) rfl rfl rfl ?_
    obtain ⟨h18, e19, h⟩ := m_bd h
    refine g_is e19 ?_
    cases h
    rw [k0 _ hK]
    exact g_vret rfl
  · refine g_ifcn (t := 73) rfl (m_eqF c3) ?_
    refine g_in eF12_sort_72 mx2415 ?_
    cases h
    rw [k0 _ hK]
    exact g_vret rfl
theorem SF12_sort_60 {xs : Nat → Int32} {L : Nat} (x0 : Nat) (x1 : Int32) (x2 : Int32) (x3 : Int32) (x4 : Int32) (x5 : Int32) (s0 : Nat) (hp : m_H) {r : m_O × m_H} {K : m_H → Prop} (k0 : ∀ x, K x → r = (.inl none, x)) {t : m_H} (h : F12_sort_60 x0 x1 x2 x3 x4 x5 s0 hp = some t) (hK : K t) : m_Rn xs L 2 2415 60 [(0, .ref x0), (1, .int x1), (2, .int x2), (3, .int x3), (4, .int x4), (5, .int x5)] [.ref s0] hp r := by
  unfold F12_sort_60 at h
  refine g_in eF12_sort_60 mx2415 ?_
  refine g_ch [(0, .ref x0), (1, .int x1), (2, .int x2), (3, .int x3), (4, .int x4), (5, .int x5)] [.int 1, .ref s0] (pc' := 61) rfl rfl rfl ?_
  refine g_goto (t := 65) rfl ?_
  exact r_lv (SF12_sort_65 x0 x1 x2 x3 x4 x5 1 s0 hp (K := K) k0 h hK) rfl ⟨rfl, rfl, rfl, rfl, rfl, rfl, trivial⟩
theorem SF12_sort_0 {xs : Nat → Int32} {L : Nat} (x0 : Nat) (x1 : Int32) (x2 : Int32) (x3 : Int32) (x4 : Int32) (x5 : Int32) (hp : m_H) {r : m_O × m_H} {K : m_H → Prop} (k0 : ∀ x, K x → r = (.inl none, x)) {t : m_H} (h : F12_sort_0 x0 x1 x2 x3 x4 x5 hp = some t) (hK : K t) : m_Rn xs L 2 2415 0 [(0, .ref x0), (1, .int x1), (2, .int x2), (3, .int x3), (4, .int x4), (5, .int x5)] [] hp r := by
  unfold F12_sort_0 at h
  refine g_in eF12_sort_0 mx2415 ?_
  refine g_ch [(0, .ref x0), (1, .int x1), (2, .int x2), (3, .int x3), (4, .int x4), (5, .int x5)] [.int 0, .ref x0] (pc' := 2) rfl rfl rfl ?_
  obtain ⟨h1, e2, h⟩ := m_bd h
  refine g_pf q12_f3 e2 ?_
  refine g_ch [(0, .ref x0), (1, .int x1), (2, .int x2), (3, .int x3), (4, .int x4), (5, .int x5)] [.int x1, .ref x0] (pc' := 7) rfl rfl rfl ?_
  obtain ⟨v4, e3, h⟩ := m_bd h
  refine g_call (v := some (.int v4)) (h := h1) (st' := [.int v4, .ref x0]) (D1 := 1) (as := [.int x1]) (Or.inl rfl) q12_m78 (m_cs (as := [.int x1]) (rest := [.ref x0]) q12_m78 jv2410 rfl rfl rfl rfl rfl) (by decide) (SF12_noSort e3) rfl ?_
  refine g_ch [(0, .ref x0), (1, .int x1), (2, .int x2), (3, .int x3), (4, .int x4), (5, .int x5)] [.int 1, .int v4, .ref x0] (pc' := 11) rfl rfl rfl ?_
  obtain ⟨z6, e5, h⟩ := m_bd h
  refine g_call (v := some (.int z6.1)) (h := z6.2) (st' := [.int z6.1]) (D1 := 0) (as := [.ref x0, .int v4, .int 1]) (Or.inr (Or.inl rfl)) q12_m82 (m_cv (as := [.int 1, .int v4]) (rest := []) (Or.inl rfl) q12_m82 jv2401 (OF12_throwsIf e5) rfl rfl rfl rfl) (by decide) (SF12_throwsIf e5) rfl ?_
  rcases m_ifd h with ⟨c7, h⟩ | ⟨c7, h⟩
  · refine g_ifcn (t := 72) rfl (m_neF c7) ?_
    refine g_in eF12_sort_17 mx2415 ?_
    refine g_ch [(0, .ref x0), (1, .int x1), (2, .int x2), (3, .int x3), (4, .int x4), (5, .int x5)] [.int 20, .int 1, .int x2, .ref x0] (pc' := 22) rfl rfl rfl ?_
    obtain ⟨v9, e8, h⟩ := m_bd h
    refine g_call (v := some (.int v9)) (h := z6.2) (st' := [.int v9, .ref x0]) (D1 := 0) (as := [.int x2, .int 1, .int 20]) (Or.inl rfl) q12_m74 (m_cs (as := [.int 20, .int 1, .int x2]) (rest := [.ref x0]) q12_m74 jv2402 rfl rfl rfl rfl rfl) (by decide) (SF12_in e8) rfl ?_
    rcases m_ifd h with ⟨c10, h⟩ | ⟨c10, h⟩
    · refine g_ifc (t := 60) rfl (m_eqT c10) ?_
      exact r_lv (SF12_sort_60 x0 x1 x2 x3 x4 x5 x0 z6.2 (K := K) k0 h hK) rfl ⟨rfl, rfl, rfl, rfl, rfl, rfl, trivial⟩
    · refine g_ifcn (t := 60) rfl (m_eqF c10) ?_
      refine g_in eF12_sort_28 mx2415 ?_
      refine g_ch [(0, .ref x0), (1, .int x1), (2, .int x2), (3, .int x3), (4, .int x4), (5, .int x5)] [.int 50, .int 0, .int x3, .ref x0] (pc' := 32) rfl rfl rfl ?_
      obtain ⟨v12, e11, h⟩ := m_bd h
      refine g_call (v := some (.int v12)) (h := z6.2) (st' := [.int v12, .ref x0]) (D1 := 0) (as := [.int x3, .int 0, .int 50]) (Or.inl rfl) q12_m74 (m_cs (as := [.int 50, .int 0, .int x3]) (rest := [.ref x0]) q12_m74 jv2402 rfl rfl rfl rfl rfl) (by decide) (SF12_in e11) rfl ?_
      rcases m_ifd h with ⟨c13, h⟩ | ⟨c13, h⟩
      · refine g_ifc (t := 60) rfl (m_eqT c13) ?_
        exact r_lv (SF12_sort_60 x0 x1 x2 x3 x4 x5 x0 z6.2 (K := K) k0 h hK) rfl ⟨rfl, rfl, rfl, rfl, rfl, rfl, trivial⟩
      · refine g_ifcn (t := 60) rfl (m_eqF c13) ?_
        refine g_in eF12_sort_38 mx2415 ?_
        refine g_ch [(0, .ref x0), (1, .int x1), (2, .int x2), (3, .int x3), (4, .int x4), (5, .int x5)] [.int 50, .int 0, .int x4, .ref x0] (pc' := 43) rfl rfl rfl ?_
        obtain ⟨v15, e14, h⟩ := m_bd h
        refine g_call (v := some (.int v15)) (h := z6.2) (st' := [.int v15, .ref x0]) (D1 := 0) (as := [.int x4, .int 0, .int 50]) (Or.inl rfl) q12_m74 (m_cs (as := [.int 50, .int 0, .int x4]) (rest := [.ref x0]) q12_m74 jv2402 rfl rfl rfl rfl rfl) (by decide) (SF12_in e14) rfl ?_
        rcases m_ifd h with ⟨c16, h⟩ | ⟨c16, h⟩
        · refine g_ifc (t := 60) rfl (m_eqT c16) ?_
          exact r_lv (SF12_sort_60 x0 x1 x2 x3 x4 x5 x0 z6.2 (K := K) k0 h hK) rfl ⟨rfl, rfl, rfl, rfl, rfl, rfl, trivial⟩
        · refine g_ifcn (t := 60) rfl (m_eqF c16) ?_
          refine g_in eF12_sort_49 mx2415 ?_
          refine g_ch [(0, .ref x0), (1, .int x1), (2, .int x2), (3, .int x3), (4, .int x4), (5, .int x5)] [.int 9, .int 1, .int x5, .ref x0] (pc' := 54) rfl rfl rfl ?_
          obtain ⟨v18, e17, h⟩ := m_bd h
          refine g_call (v := some (.int v18)) (h := z6.2) (st' := [.int v18, .ref x0]) (D1 := 0) (as := [.int x5, .int 1, .int 9]) (Or.inl rfl) q12_m74 (m_cs (as := [.int 9, .int 1, .int x5]) (rest := [.ref x0]) q12_m74 jv2402 rfl rfl rfl rfl rfl) (by decide) (SF12_in e17) rfl ?_
          rcases m_ifd h with ⟨c19, h⟩ | ⟨c19, h⟩
          · refine g_ifcn (t := 64) rfl (m_neF c19) ?_
            exact r_lv (SF12_sort_60 x0 x1 x2 x3 x4 x5 x0 z6.2 (K := K) k0 h hK) rfl ⟨rfl, rfl, rfl, rfl, rfl, rfl, trivial⟩
          · refine g_ifc (t := 64) rfl (m_neT c19) ?_
            refine g_in eF12_sort_64 mx2415 ?_
            refine g_ch [(0, .ref x0), (1, .int x1), (2, .int x2), (3, .int x3), (4, .int x4), (5, .int x5)] [.int 0, .ref x0] (pc' := 65) rfl rfl rfl ?_
            refine g_end ?_
            exact r_lv (SF12_sort_65 x0 x1 x2 x3 x4 x5 0 x0 z6.2 (K := K) k0 h hK) rfl ⟨rfl, rfl, rfl, rfl, rfl, rfl, trivial⟩
  · refine g_ifc (t := 72) rfl (m_neT c7) ?_
    refine g_in eF12_sort_72 mx2415 ?_
    cases h
    rw [k0 _ hK]
    exact g_vret rfl
theorem OF12_sort {x0 : Nat} {x1 : Int32} {x2 : Int32} {x3 : Int32} {x4 : Int32} {x5 : Int32} {hp : m_H} {x : m_H} (h : F12_sort x0 x1 x2 x3 x4 x5 hp = some x) : m_isO hp 9 x0 = true := (m_gdd h).1
theorem SF12_sort {xs : Nat → Int32} {L : Nat} {x0 : Nat} {x1 : Int32} {x2 : Int32} {x3 : Int32} {x4 : Int32} {x5 : Int32} {hp : m_H} {x : m_H} (h : F12_sort x0 x1 x2 x3 x4 x5 hp = some x) : m_Rn xs L 2 2415 0 (lv_args 0 [.ref x0, .int x1, .int x2, .int x3, .int x4, .int x5]) [] hp (.inl none, x) :=
  r_lv (SF12_sort_0 x0 x1 x2 x3 x4 x5 hp (K := fun y => y = x) (fun y e => by rw [e]) (m_gdd h).2 rfl) rfl ⟨rfl, rfl, rfl, rfl, rfl, rfl, trivial⟩
-- F12_tells: LendHouseModel.tells(IIII)I
theorem eF12_tells_0 : m_Fe mi12_16 0 (m_ap [(.aload_n 0, 1)] ((.getfield 14, 3) :: (m_ap [(.iload_n 1, 1)] ((.iaload, 1) :: (m_ap [(.istore 5, 2), (.iload 5, 2), (.bipush 100, 2)] ([(.if_icmp .ne 5, 3)])))))) := m_Fe_of nd2416 0 8 rfl
theorem eF12_tells_17 : m_Fe mi12_16 17 (m_ap [(.aload_n 0, 1)] ((.getfield 14, 3) :: (m_ap [(.iload_n 1, 1), (.iconst 1, 1), (.iadd, 1), (.iconst 3, 1), (.iload 5, 2), (.imul, 1), (.iadd, 1), (.iload_n 2, 1)] ((.iastore, 1) :: (m_ap [(.aload_n 0, 1)] ((.getfield 14, 3) :: (m_ap [(.iload_n 1, 1), (.iconst 2, 1), (.iadd, 1), (.iconst 3, 1), (.iload 5, 2), (.imul, 1), (.iadd, 1), (.iload_n 3, 1)] ((.iastore, 1) :: (m_ap [(.aload_n 0, 1)] ((.getfield 14, 3) :: (m_ap [(.iload_n 1, 1), (.iconst 3, 1), (.iadd, 1), (.iconst 3, 1), (.iload 5, 2), (.imul, 1), (.iadd, 1), (.iload 4, 2)] ((.iastore, 1) :: (m_ap [(.aload_n 0, 1)] ((.getfield 14, 3) :: (m_ap [(.iload_n 1, 1), (.dup2, 1)] ((.iaload, 1) :: (m_ap [(.iconst 1, 1), (.iadd, 1)] ((.iastore, 1) :: (m_ap [(.iload 5, 2), (.iconst 1, 1), (.iadd, 1)] ([(.ireturn, 1)])))))))))))))))))))) := m_Fe_of nd2416 10 45 rfl
theorem eF12_tells_15 : m_Fe mi12_16 15 (m_ap [(.iconst (-1), 1)] ([(.ireturn, 1)])) := m_Fe_of nd2416 8 2 rfl
theorem SF12_tells_0 {xs : Nat → Int32} {L : Nat} (x0 : Nat) (x1 : Int32) (x2 : Int32) (x3 : Int32) (x4 : Int32) (hp : m_H) {r : m_O × m_H} {K : (Int32 × m_H) → Prop} (k0 : ∀ x, K x → r = (.inl (some (.int x.1)), x.2)) {t : Int32 × m_H} (h : F12_tells_0 x0 x1 x2 x3 x4 hp = some t) (hK : K t) : m_Rn xs L 0 2416 0 [(0, .ref x0), (1, .int x1), (2, .int x2), (3, .int x3), (4, .int x4)] [] hp r := by
  unfold F12_tells_0 at h
  refine g_in eF12_tells_0 mx2416 ?_
  refine g_ch [(0, .ref x0), (1, .int x1), (2, .int x2), (3, .int x3), (4, .int x4)] [.ref x0] (pc' := 1) rfl rfl rfl ?_
  obtain ⟨v1, e2, h⟩ := m_bd h
  refine g_gr q12_f14 e2 ?_
  refine g_ch [(0, .ref x0), (1, .int x1), (2, .int x2), (3, .int x3), (4, .int x4)] [.int x1, .ref v1] (pc' := 5) rfl rfl rfl ?_
  obtain ⟨v3, e4, h⟩ := m_bd h
  refine g_ia e4 ?_
  refine g_ch [(5, .int v3), (0, .ref x0), (1, .int x1), (2, .int x2), (3, .int x3), (4, .int x4)] [.int 100, .int v3] (pc' := 12) rfl rfl rfl ?_
  rcases m_ifd h with ⟨c5, h⟩ | ⟨c5, h⟩
  · refine g_ifn (t := 17) rfl (m_neF c5) ?_
    refine g_in eF12_tells_15 mx2416 ?_
    refine g_ch [(5, .int v3), (0, .ref x0), (1, .int x1), (2, .int x2), (3, .int x3), (4, .int x4)] [.int (-1)] (pc' := 16) rfl rfl rfl ?_
    cases h
    rw [k0 _ hK]
    exact g_iret rfl rfl
  · refine g_if (t := 17) rfl (m_neT c5) ?_
    refine g_in eF12_tells_17 mx2416 ?_
    refine g_ch [(5, .int v3), (0, .ref x0), (1, .int x1), (2, .int x2), (3, .int x3), (4, .int x4)] [.ref x0] (pc' := 18) rfl rfl rfl ?_
    obtain ⟨v6, e7, h⟩ := m_bd h
    refine g_gr q12_f14 e7 ?_
    refine g_ch [(5, .int v3), (0, .ref x0), (1, .int x1), (2, .int x2), (3, .int x3), (4, .int x4)] [.int x2, .int ((x1 + 1) + (3 * v3)), .ref v6] (pc' := 30) rfl rfl rfl ?_
    obtain ⟨h8, e9, h⟩ := m_bd h
    refine g_is e9 ?_
    refine g_ch [(5, .int v3), (0, .ref x0), (1, .int x1), (2, .int x2), (3, .int x3), (4, .int x4)] [.ref x0] (pc' := 32) rfl rfl rfl ?_
    obtain ⟨v10, e11, h⟩ := m_bd h
    refine g_gr q12_f14 e11 ?_
    refine g_ch [(5, .int v3), (0, .ref x0), (1, .int x1), (2, .int x2), (3, .int x3), (4, .int x4)] [.int x3, .int ((x1 + 2) + (3 * v3)), .ref v10] (pc' := 44) rfl rfl rfl ?_
    obtain ⟨h12, e13, h⟩ := m_bd h
    refine g_is e13 ?_
    refine g_ch [(5, .int v3), (0, .ref x0), (1, .int x1), (2, .int x2), (3, .int x3), (4, .int x4)] [.ref x0] (pc' := 46) rfl rfl rfl ?_
    obtain ⟨v14, e15, h⟩ := m_bd h
    refine g_gr q12_f14 e15 ?_
    refine g_ch [(5, .int v3), (0, .ref x0), (1, .int x1), (2, .int x2), (3, .int x3), (4, .int x4)] [.int x4, .int ((x1 + 3) + (3 * v3)), .ref v14] (pc' := 59) rfl rfl rfl ?_
    obtain ⟨h16, e17, h⟩ := m_bd h
    refine g_is e17 ?_
    refine g_ch [(5, .int v3), (0, .ref x0), (1, .int x1), (2, .int x2), (3, .int x3), (4, .int x4)] [.ref x0] (pc' := 61) rfl rfl rfl ?_
    obtain ⟨v18, e19, h⟩ := m_bd h
    refine g_gr q12_f14 e19 ?_
    refine g_ch [(5, .int v3), (0, .ref x0), (1, .int x1), (2, .int x2), (3, .int x3), (4, .int x4)] [.int x1, .ref v18, .int x1, .ref v18] (pc' := 66) rfl rfl rfl ?_
    obtain ⟨v20, e21, h⟩ := m_bd h
    refine g_ia e21 ?_
    refine g_ch [(5, .int v3), (0, .ref x0), (1, .int x1), (2, .int x2), (3, .int x3), (4, .int x4)] [.int (v20 + 1), .int x1, .ref v18] (pc' := 69) rfl rfl rfl ?_
    obtain ⟨h22, e23, h⟩ := m_bd h
    refine g_is e23 ?_
    refine g_ch [(5, .int v3), (0, .ref x0), (1, .int x1), (2, .int x2), (3, .int x3), (4, .int x4)] [.int (v3 + 1)] (pc' := 74) rfl rfl rfl ?_
    cases h
    rw [k0 _ hK]
    exact g_iret rfl rfl
theorem OF12_tells {x0 : Nat} {x1 : Int32} {x2 : Int32} {x3 : Int32} {x4 : Int32} {hp : m_H} {x : Int32 × m_H} (h : F12_tells x0 x1 x2 x3 x4 hp = some x) : m_isO hp 9 x0 = true := (m_gdd h).1
theorem SF12_tells {xs : Nat → Int32} {L : Nat} {x0 : Nat} {x1 : Int32} {x2 : Int32} {x3 : Int32} {x4 : Int32} {hp : m_H} {x : Int32 × m_H} (h : F12_tells x0 x1 x2 x3 x4 hp = some x) : m_Rn xs L 0 2416 0 (lv_args 0 [.ref x0, .int x1, .int x2, .int x3, .int x4]) [] hp (.inl (some (.int x.1)), x.2) :=
  r_lv (SF12_tells_0 x0 x1 x2 x3 x4 hp (K := fun y => y = x) (fun y e => by rw [e]) (m_gdd h).2 rfl) rfl ⟨rfl, rfl, rfl, rfl, rfl, trivial⟩
-- F12_toldOf: LendHouseModel.toldOf(III)I
theorem eF12_toldOf_0 : m_Fe mi12_17 0 (m_ap [(.iconst (-1), 1), (.istore 4, 2), (.iload_n 1, 1), (.iconst 1, 1), (.iadd, 1), (.istore 5, 2)] ([])) := m_Fe_of nd2417 0 6 rfl
theorem eF12_toldOf_8 : m_Fe mi12_17 8 (m_ap [(.iload 5, 2), (.iload_n 1, 1), (.iconst 1, 1), (.iadd, 1), (.iconst 3, 1), (.aload_n 0, 1)] ((.getfield 14, 3) :: (m_ap [(.iload_n 1, 1)] ((.iaload, 1) :: (m_ap [(.imul, 1), (.iadd, 1)] ([(.if_icmp .ge 63, 3)])))))) := m_Fe_of nd2417 6 12 rfl
theorem eF12_toldOf_85 : m_Fe mi12_17 85 (m_ap [(.iload 4, 2)] ([(.ifCond .ge 7, 3)])) := m_Fe_of nd2417 51 2 rfl
theorem eF12_toldOf_94 : m_Fe mi12_17 94 (m_ap [(.aload_n 0, 1)] ((.getfield 14, 3) :: (m_ap [(.iload 4, 2), (.iconst 2, 1), (.iadd, 1)] ([(.iaload, 1)])))) := m_Fe_of nd2417 55 6 rfl
theorem eF12_toldOf_103 : m_Fe mi12_17 103 ([(.ireturn, 1)]) := m_Fe_of nd2417 61 1 rfl
theorem eF12_toldOf_90 : m_Fe mi12_17 90 (m_ap [(.iconst 0, 1)] ([(.goto 12, 3)])) := m_Fe_of nd2417 53 2 rfl
theorem eF12_toldOf_25 : m_Fe mi12_17 25 (m_ap [(.aload_n 0, 1)] ((.getfield 14, 3) :: (m_ap [(.iload 5, 2)] ((.iaload, 1) :: (m_ap [(.iload_n 2, 1)] ([(.if_icmp .ne 46, 3)])))))) := m_Fe_of nd2417 18 6 rfl
theorem eF12_toldOf_79 : m_Fe mi12_17 79 (m_ap [(.iinc 5 3, 3)] ([(.goto (-74), 3)])) := m_Fe_of nd2417 49 2 rfl
theorem eF12_toldOf_36 : m_Fe mi12_17 36 (m_ap [(.aload_n 0, 1)] ((.getfield 14, 3) :: (m_ap [(.iload 5, 2), (.iconst 1, 1), (.iadd, 1)] ((.iaload, 1) :: (m_ap [(.iload_n 3, 1)] ([(.if_icmp .gt 33, 3)])))))) := m_Fe_of nd2417 24 8 rfl
theorem eF12_toldOf_49 : m_Fe mi12_17 49 (m_ap [(.iload 4, 2)] ([(.ifCond .lt 24, 3)])) := m_Fe_of nd2417 32 2 rfl
theorem eF12_toldOf_75 : m_Fe mi12_17 75 (m_ap [(.iload 5, 2), (.istore 4, 2)] ([])) := m_Fe_of nd2417 47 2 rfl
theorem eF12_toldOf_54 : m_Fe mi12_17 54 (m_ap [(.aload_n 0, 1)] ((.getfield 14, 3) :: (m_ap [(.iload 5, 2), (.iconst 1, 1), (.iadd, 1)] ((.iaload, 1) :: (m_ap [(.aload_n 0, 1)] ((.getfield 14, 3) :: (m_ap [(.iload 4, 2), (.iconst 1, 1), (.iadd, 1)] ((.iaload, 1) :: ([(.if_icmp .lt 7, 3)]))))))))) := m_Fe_of nd2417 34 13 rfl
theorem SF12_toldOf_8b {xs : Nat → Int32} {L : Nat} (x0 : Nat) (x1 : Int32) (x2 : Int32) (x3 : Int32) (hp : m_H) (s : Int32 × Int32) {r : m_O × m_H} {K : ((Int32 × Int32) ⊕ Int32) → Prop} (k0 : ∀ x, K (.inr x) → r = (.inl (some (.int x)), hp)) (k1 : ∀ s, K (.inl s) → m_Rn xs L 0 2417 8 [(0, .ref x0), (1, .int x1), (2, .int x2), (3, .int x3), (4, .int s.1), (5, .int s.2)] [] hp r) {t : (Int32 × Int32) ⊕ Int32} (h : F12_toldOf_8b x0 x1 x2 x3 hp s = some t) (hK : K t) : m_Rn xs L 0 2417 8 [(0, .ref x0), (1, .int x1), (2, .int x2), (3, .int x3), (4, .int s.1), (5, .int s.2)] [] hp r := by
  unfold F12_toldOf_8b at h
  refine g_in eF12_toldOf_8 mx2417 ?_
  refine g_ch [(0, .ref x0), (1, .int x1), (2, .int x2), (3, .int x3), (4, .int s.1), (5, .int s.2)] [.ref x0, .int 3, .int (x1 + 1), .int s.2] (pc' := 15) rfl rfl rfl ?_
  obtain ⟨v1, e2, h⟩ := m_bd h
  refine g_gr q12_f14 e2 ?_
  refine g_ch [(0, .ref x0), (1, .int x1), (2, .int x2), (3, .int x3), (4, .int s.1), (5, .int s.2)] [.int x1, .ref v1, .int 3, .int (x1 + 1), .int s.2] (pc' := 19) rfl rfl rfl ?_
  obtain ⟨v3, e4, h⟩ := m_bd h
  refine g_ia e4 ?_
  refine g_ch [(0, .ref x0), (1, .int x1), (2, .int x2), (3, .int x3), (4, .int s.1), (5, .int s.2)] [.int ((x1 + 1) + (3 * v3)), .int s.2] (pc' := 22) rfl rfl rfl ?_
  rcases m_ifd h with ⟨c5, h⟩ | ⟨c5, h⟩
  · refine g_if (t := 85) rfl (m_geT c5) ?_
    refine g_in eF12_toldOf_85 mx2417 ?_
    refine g_ch [(0, .ref x0), (1, .int x1), (2, .int x2), (3, .int x3), (4, .int s.1), (5, .int s.2)] [.int s.1] (pc' := 87) rfl rfl rfl ?_
    rcases m_ifd h with ⟨c6, h⟩ | ⟨c6, h⟩
    · refine g_ifc (t := 94) rfl (m_geT c6) ?_
      refine g_in eF12_toldOf_94 mx2417 ?_
      refine g_ch [(0, .ref x0), (1, .int x1), (2, .int x2), (3, .int x3), (4, .int s.1), (5, .int s.2)] [.ref x0] (pc' := 95) rfl rfl rfl ?_
      obtain ⟨v7, e8, h⟩ := m_bd h
      refine g_gr q12_f14 e8 ?_
      refine g_ch [(0, .ref x0), (1, .int x1), (2, .int x2), (3, .int x3), (4, .int s.1), (5, .int s.2)] [.int (s.1 + 2), .ref v7] (pc' := 102) rfl rfl rfl ?_
      obtain ⟨v9, e10, h⟩ := m_bd h
      refine g_ia e10 ?_
      refine g_end ?_
      refine g_in eF12_toldOf_103 mx2417 ?_
      cases h
      rw [k0 _ hK]
      exact g_iret rfl rfl
    · refine g_ifcn (t := 94) rfl (m_geF c6) ?_
      refine g_in eF12_toldOf_90 mx2417 ?_
      refine g_ch [(0, .ref x0), (1, .int x1), (2, .int x2), (3, .int x3), (4, .int s.1), (5, .int s.2)] [.int 0] (pc' := 91) rfl rfl rfl ?_
      refine g_goto (t := 103) rfl ?_
      refine g_in eF12_toldOf_103 mx2417 ?_
      cases h
      rw [k0 _ hK]
      exact g_iret rfl rfl
  · refine g_ifn (t := 85) rfl (m_geF c5) ?_
    refine g_in eF12_toldOf_25 mx2417 ?_
    refine g_ch [(0, .ref x0), (1, .int x1), (2, .int x2), (3, .int x3), (4, .int s.1), (5, .int s.2)] [.ref x0] (pc' := 26) rfl rfl rfl ?_
    obtain ⟨v11, e12, h⟩ := m_bd h
    refine g_gr q12_f14 e12 ?_
    refine g_ch [(0, .ref x0), (1, .int x1), (2, .int x2), (3, .int x3), (4, .int s.1), (5, .int s.2)] [.int s.2, .ref v11] (pc' := 31) rfl rfl rfl ?_
    obtain ⟨v13, e14, h⟩ := m_bd h
    refine g_ia e14 ?_
    refine g_ch [(0, .ref x0), (1, .int x1), (2, .int x2), (3, .int x3), (4, .int s.1), (5, .int s.2)] [.int x2, .int v13] (pc' := 33) rfl rfl rfl ?_
    rcases m_ifd h with ⟨c15, h⟩ | ⟨c15, h⟩
    · refine g_ifn (t := 79) rfl (m_neF c15) ?_
      refine g_in eF12_toldOf_36 mx2417 ?_
      refine g_ch [(0, .ref x0), (1, .int x1), (2, .int x2), (3, .int x3), (4, .int s.1), (5, .int s.2)] [.ref x0] (pc' := 37) rfl rfl rfl ?_
      obtain ⟨v16, e17, h⟩ := m_bd h
      refine g_gr q12_f14 e17 ?_
      refine g_ch [(0, .ref x0), (1, .int x1), (2, .int x2), (3, .int x3), (4, .int s.1), (5, .int s.2)] [.int (s.2 + 1), .ref v16] (pc' := 44) rfl rfl rfl ?_
      obtain ⟨v18, e19, h⟩ := m_bd h
      refine g_ia e19 ?_
      refine g_ch [(0, .ref x0), (1, .int x1), (2, .int x2), (3, .int x3), (4, .int s.1), (5, .int s.2)] [.int x3, .int v18] (pc' := 46) rfl rfl rfl ?_
      rcases m_ifd h with ⟨c20, h⟩ | ⟨c20, h⟩
      · refine g_if (t := 79) rfl (m_gtT c20) ?_
        refine g_in eF12_toldOf_79 mx2417 ?_
        refine g_ch [(5, .int (s.2 + 3)), (0, .ref x0), (1, .int x1), (2, .int x2), (3, .int x3), (4, .int s.1)] [] (pc' := 82) rfl rfl rfl ?_
        refine g_goto (t := 8) rfl ?_
        cases h
        exact r_lv (k1 (s.1, (s.2 + 3)) hK) rfl ⟨rfl, rfl, rfl, rfl, rfl, rfl, trivial⟩
      · refine g_ifn (t := 79) rfl (m_gtF c20) ?_
        refine g_in eF12_toldOf_49 mx2417 ?_
        refine g_ch [(0, .ref x0), (1, .int x1), (2, .int x2), (3, .int x3), (4, .int s.1), (5, .int s.2)] [.int s.1] (pc' := 51) rfl rfl rfl ?_
        rcases m_ifd h with ⟨c21, h⟩ | ⟨c21, h⟩
        · refine g_ifc (t := 75) rfl (m_ltT c21) ?_
          refine g_in eF12_toldOf_75 mx2417 ?_
          refine g_ch [(4, .int s.2), (0, .ref x0), (1, .int x1), (2, .int x2), (3, .int x3), (5, .int s.2)] [] (pc' := 79) rfl rfl rfl ?_
          refine g_end ?_
          refine g_in eF12_toldOf_79 mx2417 ?_
          refine g_ch [(5, .int (s.2 + 3)), (4, .int s.2), (0, .ref x0), (1, .int x1), (2, .int x2), (3, .int x3)] [] (pc' := 82) rfl rfl rfl ?_
          refine g_goto (t := 8) rfl ?_
          cases h
          exact r_lv (k1 (s.2, (s.2 + 3)) hK) rfl ⟨rfl, rfl, rfl, rfl, rfl, rfl, trivial⟩
        · refine g_ifcn (t := 75) rfl (m_ltF c21) ?_
          refine g_in eF12_toldOf_54 mx2417 ?_
          refine g_ch [(0, .ref x0), (1, .int x1), (2, .int x2), (3, .int x3), (4, .int s.1), (5, .int s.2)] [.ref x0] (pc' := 55) rfl rfl rfl ?_
          obtain ⟨v22, e23, h⟩ := m_bd h
          refine g_gr q12_f14 e23 ?_
          refine g_ch [(0, .ref x0), (1, .int x1), (2, .int x2), (3, .int x3), (4, .int s.1), (5, .int s.2)] [.int (s.2 + 1), .ref v22] (pc' := 62) rfl rfl rfl ?_
          obtain ⟨v24, e25, h⟩ := m_bd h
          refine g_ia e25 ?_
          refine g_ch [(0, .ref x0), (1, .int x1), (2, .int x2), (3, .int x3), (4, .int s.1), (5, .int s.2)] [.ref x0, .int v24] (pc' := 64) rfl rfl rfl ?_
          obtain ⟨v26, e27, h⟩ := m_bd h
          refine g_gr q12_f14 e27 ?_
          refine g_ch [(0, .ref x0), (1, .int x1), (2, .int x2), (3, .int x3), (4, .int s.1), (5, .int s.2)] [.int (s.1 + 1), .ref v26, .int v24] (pc' := 71) rfl rfl rfl ?_
          obtain ⟨v28, e29, h⟩ := m_bd h
          refine g_ia e29 ?_
          rcases m_ifd h with ⟨c30, h⟩ | ⟨c30, h⟩
          · refine g_if (t := 79) rfl (m_ltT c30) ?_
            refine g_in eF12_toldOf_79 mx2417 ?_
            refine g_ch [(5, .int (s.2 + 3)), (0, .ref x0), (1, .int x1), (2, .int x2), (3, .int x3), (4, .int s.1)] [] (pc' := 82) rfl rfl rfl ?_
            refine g_goto (t := 8) rfl ?_
            cases h
            exact r_lv (k1 (s.1, (s.2 + 3)) hK) rfl ⟨rfl, rfl, rfl, rfl, rfl, rfl, trivial⟩
          · refine g_ifn (t := 79) rfl (m_ltF c30) ?_
            refine g_in eF12_toldOf_75 mx2417 ?_
            refine g_ch [(4, .int s.2), (0, .ref x0), (1, .int x1), (2, .int x2), (3, .int x3), (5, .int s.2)] [] (pc' := 79) rfl rfl rfl ?_
            refine g_end ?_
            refine g_in eF12_toldOf_79 mx2417 ?_
            refine g_ch [(5, .int (s.2 + 3)), (4, .int s.2), (0, .ref x0), (1, .int x1), (2, .int x2), (3, .int x3)] [] (pc' := 82) rfl rfl rfl ?_
            refine g_goto (t := 8) rfl ?_
            cases h
            exact r_lv (k1 (s.2, (s.2 + 3)) hK) rfl ⟨rfl, rfl, rfl, rfl, rfl, rfl, trivial⟩
    · refine g_if (t := 79) rfl (m_neT c15) ?_
      refine g_in eF12_toldOf_79 mx2417 ?_
      refine g_ch [(5, .int (s.2 + 3)), (0, .ref x0), (1, .int x1), (2, .int x2), (3, .int x3), (4, .int s.1)] [] (pc' := 82) rfl rfl rfl ?_
      refine g_goto (t := 8) rfl ?_
      cases h
      exact r_lv (k1 (s.1, (s.2 + 3)) hK) rfl ⟨rfl, rfl, rfl, rfl, rfl, rfl, trivial⟩
theorem SF12_toldOf_8 {xs : Nat → Int32} {L : Nat} (x0 : Nat) (x1 : Int32) (x2 : Int32) (x3 : Int32) (x4 : Int32) (x5 : Int32) (hp : m_H) {r : m_O × m_H} {K : Int32 → Prop} (k0 : ∀ x, K x → r = (.inl (some (.int x)), hp)) {t : Int32} (h : F12_toldOf_8 x0 x1 x2 x3 x4 x5 hp = some t) (hK : K t) : m_Rn xs L 0 2417 8 [(0, .ref x0), (1, .int x1), (2, .int x2), (3, .int x3), (4, .int x4), (5, .int x5)] [] hp r :=
  m_wh_ok (P := fun s => m_Rn xs L 0 2417 8 [(0, .ref x0), (1, .int x1), (2, .int x2), (3, .int x3), (4, .int s.1), (5, .int s.2)] [] hp r) (Q := K) (fun s t hb hK => SF12_toldOf_8b x0 x1 x2 x3 hp s (K := m_KK (fun s => m_Rn xs L 0 2417 8 [(0, .ref x0), (1, .int x1), (2, .int x2), (3, .int x3), (4, .int s.1), (5, .int s.2)] [] hp r) K) k0 (fun _ q => q) hb hK) m_N _ _ h hK
theorem SF12_toldOf_0 {xs : Nat → Int32} {L : Nat} (x0 : Nat) (x1 : Int32) (x2 : Int32) (x3 : Int32) (hp : m_H) {r : m_O × m_H} {K : Int32 → Prop} (k0 : ∀ x, K x → r = (.inl (some (.int x)), hp)) {t : Int32} (h : F12_toldOf_0 x0 x1 x2 x3 hp = some t) (hK : K t) : m_Rn xs L 0 2417 0 [(0, .ref x0), (1, .int x1), (2, .int x2), (3, .int x3)] [] hp r := by
  unfold F12_toldOf_0 at h
  refine g_in eF12_toldOf_0 mx2417 ?_
  refine g_ch [(5, .int (x1 + 1)), (4, .int (-1)), (0, .ref x0), (1, .int x1), (2, .int x2), (3, .int x3)] [] (pc' := 8) rfl rfl rfl ?_
  refine g_end ?_
  exact r_lv (SF12_toldOf_8 x0 x1 x2 x3 (-1) (x1 + 1) hp (K := K) k0 h hK) rfl ⟨rfl, rfl, rfl, rfl, rfl, rfl, trivial⟩
theorem OF12_toldOf {x0 : Nat} {x1 : Int32} {x2 : Int32} {x3 : Int32} {hp : m_H} {x : Int32} (h : F12_toldOf x0 x1 x2 x3 hp = some x) : m_isO hp 9 x0 = true := (m_gdd h).1
theorem SF12_toldOf {xs : Nat → Int32} {L : Nat} {x0 : Nat} {x1 : Int32} {x2 : Int32} {x3 : Int32} {hp : m_H} {x : Int32} (h : F12_toldOf x0 x1 x2 x3 hp = some x) : m_Rn xs L 0 2417 0 (lv_args 0 [.ref x0, .int x1, .int x2, .int x3]) [] hp (.inl (some (.int x)), hp) :=
  r_lv (SF12_toldOf_0 x0 x1 x2 x3 hp (K := fun y => y = x) (fun y e => by rw [e]) (m_gdd h).2 rfl) rfl ⟨rfl, rfl, rfl, rfl, trivial⟩
-- F12_price: LendHouseModel.price(III)I
theorem eF12_price_0 : m_Fe mi12_18 0 (m_ap [(.aload_n 0, 1), (.iconst 0, 1)] ((.putfield 3, 3) :: (m_ap [(.aload_n 0, 1), (.iload_n 1, 1)] ((.invokestatic 78, 3) :: (m_ap [(.iconst 1, 1)] ((.invokevirtual 82, 3) :: ([(.ifCond .ne 41, 3)]))))))) := m_Fe_of nd2418 0 9 rfl
theorem eF12_price_55 : m_Fe mi12_18 55 (m_ap [(.iconst 0, 1)] ([(.goto 13, 3)])) := m_Fe_of nd2418 27 2 rfl
theorem eF12_price_69 : m_Fe mi12_18 69 ([(.ireturn, 1)]) := m_Fe_of nd2418 35 1 rfl
theorem eF12_price_17 : m_Fe mi12_18 17 (m_ap [(.aload_n 0, 1), (.iload_n 2, 1), (.aload_n 0, 1)] ((.invokevirtual 86, 3) :: (m_ap [(.sipush 500, 3)] ((.invokestatic 74, 3) :: ([(.ifCond .eq 14, 3)]))))) := m_Fe_of nd2418 9 7 rfl
theorem eF12_price_32 : m_Fe mi12_18 32 (m_ap [(.iload_n 3, 1), (.iconst 0, 1), (.sipush 1000, 3)] ((.invokestatic 74, 3) :: ([(.ifCond .ne 7, 3)]))) := m_Fe_of nd2418 16 5 rfl
theorem eF12_price_47 : m_Fe mi12_18 47 (m_ap [(.iconst 0, 1)] ([])) := m_Fe_of nd2418 23 1 rfl
theorem eF12_price_43 : m_Fe mi12_18 43 (m_ap [(.iconst 1, 1)] ([(.goto 4, 3)])) := m_Fe_of nd2418 21 2 rfl
theorem eF12_price_48 : m_Fe mi12_18 48 (m_ap [(.iconst 2, 1)] ((.invokevirtual 82, 3) :: ([(.ifCond .eq 7, 3)]))) := m_Fe_of nd2418 24 3 rfl
theorem eF12_price_59 : m_Fe mi12_18 59 (m_ap [(.aload_n 0, 1), (.sipush 205, 3), (.iload_n 1, 1), (.iload_n 2, 1), (.iload_n 3, 1)] ([(.invokevirtual 90, 3)])) := m_Fe_of nd2418 29 6 rfl
theorem SF12_price_48 {xs : Nat → Int32} {L : Nat} (x0 : Nat) (x1 : Int32) (x2 : Int32) (x3 : Int32) (s0 : Int32) (s1 : Nat) (hp : m_H) {r : m_O × m_H} {K : (Int32 × m_H) → Prop} (k0 : ∀ x, K x → r = (.inl (some (.int x.1)), x.2)) {t : Int32 × m_H} (h : F12_price_48 x0 x1 x2 x3 s0 s1 hp = some t) (hK : K t) : m_Rn xs L 2 2418 48 [(0, .ref x0), (1, .int x1), (2, .int x2), (3, .int x3)] [.int s0, .ref s1] hp r := by
  unfold F12_price_48 at h
  refine g_in eF12_price_48 mx2418 ?_
  refine g_ch [(0, .ref x0), (1, .int x1), (2, .int x2), (3, .int x3)] [.int 2, .int s0, .ref s1] (pc' := 49) rfl rfl rfl ?_
  obtain ⟨z2, e1, h⟩ := m_bd h
  refine g_call (v := some (.int z2.1)) (h := z2.2) (st' := [.int z2.1]) (D1 := 0) (as := [.ref s1, .int s0, .int 2]) (Or.inr (Or.inl rfl)) q12_m82 (m_cv (as := [.int 2, .int s0]) (rest := []) (Or.inl rfl) q12_m82 jv2401 (OF12_throwsIf e1) rfl rfl rfl rfl) (by decide) (SF12_throwsIf e1) rfl ?_
  rcases m_ifd h with ⟨c3, h⟩ | ⟨c3, h⟩
  · refine g_ifc (t := 59) rfl (m_eqT c3) ?_
    refine g_in eF12_price_59 mx2418 ?_
    refine g_ch [(0, .ref x0), (1, .int x1), (2, .int x2), (3, .int x3)] [.int x3, .int x2, .int x1, .int 205, .ref x0] (pc' := 66) rfl rfl rfl ?_
    obtain ⟨z5, e4, h⟩ := m_bd h
    refine g_call (v := some (.int z5.1)) (h := z5.2) (st' := [.int z5.1]) (D1 := 0) (as := [.ref x0, .int 205, .int x1, .int x2, .int x3]) (Or.inr (Or.inl rfl)) q12_m90 (m_cv (as := [.int x3, .int x2, .int x1, .int 205]) (rest := []) (Or.inl rfl) q12_m90 jv2416 (OF12_tells e4) rfl rfl rfl rfl) (by decide) (SF12_tells e4) rfl ?_
    refine g_end ?_
    refine g_in eF12_price_69 mx2418 ?_
    cases h
    rw [k0 _ hK]
    exact g_iret rfl rfl
  · refine g_ifcn (t := 59) rfl (m_eqF c3) ?_
    refine g_in eF12_price_55 mx2418 ?_
    refine g_ch [(0, .ref x0), (1, .int x1), (2, .int x2), (3, .int x3)] [.int 0] (pc' := 56) rfl rfl rfl ?_
    refine g_goto (t := 69) rfl ?_
    refine g_in eF12_price_69 mx2418 ?_
    cases h
    rw [k0 _ hK]
    exact g_iret rfl rfl
theorem SF12_price_43 {xs : Nat → Int32} {L : Nat} (x0 : Nat) (x1 : Int32) (x2 : Int32) (x3 : Int32) (s0 : Nat) (hp : m_H) {r : m_O × m_H} {K : (Int32 × m_H) → Prop} (k0 : ∀ x, K x → r = (.inl (some (.int x.1)), x.2)) {t : Int32 × m_H} (h : F12_price_43 x0 x1 x2 x3 s0 hp = some t) (hK : K t) : m_Rn xs L 2 2418 43 [(0, .ref x0), (1, .int x1), (2, .int x2), (3, .int x3)] [.ref s0] hp r := by
  unfold F12_price_43 at h
  refine g_in eF12_price_43 mx2418 ?_
  refine g_ch [(0, .ref x0), (1, .int x1), (2, .int x2), (3, .int x3)] [.int 1, .ref s0] (pc' := 44) rfl rfl rfl ?_
  refine g_goto (t := 48) rfl ?_
  exact r_lv (SF12_price_48 x0 x1 x2 x3 1 s0 hp (K := K) k0 h hK) rfl ⟨rfl, rfl, rfl, rfl, trivial⟩
theorem SF12_price_0 {xs : Nat → Int32} {L : Nat} (x0 : Nat) (x1 : Int32) (x2 : Int32) (x3 : Int32) (hp : m_H) {r : m_O × m_H} {K : (Int32 × m_H) → Prop} (k0 : ∀ x, K x → r = (.inl (some (.int x.1)), x.2)) {t : Int32 × m_H} (h : F12_price_0 x0 x1 x2 x3 hp = some t) (hK : K t) : m_Rn xs L 2 2418 0 [(0, .ref x0), (1, .int x1), (2, .int x2), (3, .int x3)] [] hp r := by
  unfold F12_price_0 at h
  refine g_in eF12_price_0 mx2418 ?_
  refine g_ch [(0, .ref x0), (1, .int x1), (2, .int x2), (3, .int x3)] [.int 0, .ref x0] (pc' := 2) rfl rfl rfl ?_
  obtain ⟨h1, e2, h⟩ := m_bd h
  refine g_pf q12_f3 e2 ?_
  refine g_ch [(0, .ref x0), (1, .int x1), (2, .int x2), (3, .int x3)] [.int x1, .ref x0] (pc' := 7) rfl rfl rfl ?_
  obtain ⟨v4, e3, h⟩ := m_bd h
  refine g_call (v := some (.int v4)) (h := h1) (st' := [.int v4, .ref x0]) (D1 := 1) (as := [.int x1]) (Or.inl rfl) q12_m78 (m_cs (as := [.int x1]) (rest := [.ref x0]) q12_m78 jv2410 rfl rfl rfl rfl rfl) (by decide) (SF12_noSort e3) rfl ?_
  refine g_ch [(0, .ref x0), (1, .int x1), (2, .int x2), (3, .int x3)] [.int 1, .int v4, .ref x0] (pc' := 11) rfl rfl rfl ?_
  obtain ⟨z6, e5, h⟩ := m_bd h
  refine g_call (v := some (.int z6.1)) (h := z6.2) (st' := [.int z6.1]) (D1 := 0) (as := [.ref x0, .int v4, .int 1]) (Or.inr (Or.inl rfl)) q12_m82 (m_cv (as := [.int 1, .int v4]) (rest := []) (Or.inl rfl) q12_m82 jv2401 (OF12_throwsIf e5) rfl rfl rfl rfl) (by decide) (SF12_throwsIf e5) rfl ?_
  rcases m_ifd h with ⟨c7, h⟩ | ⟨c7, h⟩
  · refine g_ifcn (t := 55) rfl (m_neF c7) ?_
    refine g_in eF12_price_17 mx2418 ?_
    refine g_ch [(0, .ref x0), (1, .int x1), (2, .int x2), (3, .int x3)] [.ref x0, .int x2, .ref x0] (pc' := 20) rfl rfl rfl ?_
    obtain ⟨v9, e8, h⟩ := m_bd h
    refine g_call (v := some (.int v9)) (h := z6.2) (st' := [.int v9, .int x2, .ref x0]) (D1 := 0) (as := [.ref x0]) (Or.inr (Or.inl rfl)) q12_m86 (m_cv (as := []) (rest := [.int x2, .ref x0]) (Or.inl rfl) q12_m86 jv2404 (OF12_week e8) rfl rfl rfl rfl) (by decide) (SF12_week e8) rfl ?_
    refine g_ch [(0, .ref x0), (1, .int x1), (2, .int x2), (3, .int x3)] [.int 500, .int v9, .int x2, .ref x0] (pc' := 26) rfl rfl rfl ?_
    obtain ⟨v11, e10, h⟩ := m_bd h
    refine g_call (v := some (.int v11)) (h := z6.2) (st' := [.int v11, .ref x0]) (D1 := 0) (as := [.int x2, .int v9, .int 500]) (Or.inl rfl) q12_m74 (m_cs (as := [.int 500, .int v9, .int x2]) (rest := [.ref x0]) q12_m74 jv2402 rfl rfl rfl rfl rfl) (by decide) (SF12_in e10) rfl ?_
    rcases m_ifd h with ⟨c12, h⟩ | ⟨c12, h⟩
    · refine g_ifc (t := 43) rfl (m_eqT c12) ?_
      exact r_lv (SF12_price_43 x0 x1 x2 x3 x0 z6.2 (K := K) k0 h hK) rfl ⟨rfl, rfl, rfl, rfl, trivial⟩
    · refine g_ifcn (t := 43) rfl (m_eqF c12) ?_
      refine g_in eF12_price_32 mx2418 ?_
      refine g_ch [(0, .ref x0), (1, .int x1), (2, .int x2), (3, .int x3)] [.int 1000, .int 0, .int x3, .ref x0] (pc' := 37) rfl rfl rfl ?_
      obtain ⟨v14, e13, h⟩ := m_bd h
      refine g_call (v := some (.int v14)) (h := z6.2) (st' := [.int v14, .ref x0]) (D1 := 0) (as := [.int x3, .int 0, .int 1000]) (Or.inl rfl) q12_m74 (m_cs (as := [.int 1000, .int 0, .int x3]) (rest := [.ref x0]) q12_m74 jv2402 rfl rfl rfl rfl rfl) (by decide) (SF12_in e13) rfl ?_
      rcases m_ifd h with ⟨c15, h⟩ | ⟨c15, h⟩
      · refine g_ifcn (t := 47) rfl (m_neF c15) ?_
        exact r_lv (SF12_price_43 x0 x1 x2 x3 x0 z6.2 (K := K) k0 h hK) rfl ⟨rfl, rfl, rfl, rfl, trivial⟩
      · refine g_ifc (t := 47) rfl (m_neT c15) ?_
        refine g_in eF12_price_47 mx2418 ?_
        refine g_ch [(0, .ref x0), (1, .int x1), (2, .int x2), (3, .int x3)] [.int 0, .ref x0] (pc' := 48) rfl rfl rfl ?_
        refine g_end ?_
        exact r_lv (SF12_price_48 x0 x1 x2 x3 0 x0 z6.2 (K := K) k0 h hK) rfl ⟨rfl, rfl, rfl, rfl, trivial⟩
  · refine g_ifc (t := 55) rfl (m_neT c7) ?_
    refine g_in eF12_price_55 mx2418 ?_
    refine g_ch [(0, .ref x0), (1, .int x1), (2, .int x2), (3, .int x3)] [.int 0] (pc' := 56) rfl rfl rfl ?_
    refine g_goto (t := 69) rfl ?_
    refine g_in eF12_price_69 mx2418 ?_
    cases h
    rw [k0 _ hK]
    exact g_iret rfl rfl
theorem OF12_price {x0 : Nat} {x1 : Int32} {x2 : Int32} {x3 : Int32} {hp : m_H} {x : Int32 × m_H} (h : F12_price x0 x1 x2 x3 hp = some x) : m_isO hp 9 x0 = true := (m_gdd h).1
theorem SF12_price {xs : Nat → Int32} {L : Nat} {x0 : Nat} {x1 : Int32} {x2 : Int32} {x3 : Int32} {hp : m_H} {x : Int32 × m_H} (h : F12_price x0 x1 x2 x3 hp = some x) : m_Rn xs L 2 2418 0 (lv_args 0 [.ref x0, .int x1, .int x2, .int x3]) [] hp (.inl (some (.int x.1)), x.2) :=
  r_lv (SF12_price_0 x0 x1 x2 x3 hp (K := fun y => y = x) (fun y e => by rw [e]) (m_gdd h).2 rfl) rfl ⟨rfl, rfl, rfl, rfl, trivial⟩
-- F12_priceOf: LendHouseModel.priceOf(II)I
theorem eF12_priceOf_0 : m_Fe mi12_19 0 (m_ap [(.aload_n 0, 1), (.sipush 205, 3), (.iload_n 1, 1), (.iload_n 2, 1)] ((.invokevirtual 94, 3) :: ([(.ireturn, 1)]))) := m_Fe_of nd2419 0 6 rfl
theorem SF12_priceOf_0 {xs : Nat → Int32} {L : Nat} (x0 : Nat) (x1 : Int32) (x2 : Int32) (hp : m_H) {r : m_O × m_H} {K : Int32 → Prop} (k0 : ∀ x, K x → r = (.inl (some (.int x)), hp)) {t : Int32} (h : F12_priceOf_0 x0 x1 x2 hp = some t) (hK : K t) : m_Rn xs L 1 2419 0 [(0, .ref x0), (1, .int x1), (2, .int x2)] [] hp r := by
  unfold F12_priceOf_0 at h
  refine g_in eF12_priceOf_0 mx2419 ?_
  refine g_ch [(0, .ref x0), (1, .int x1), (2, .int x2)] [.int x2, .int x1, .int 205, .ref x0] (pc' := 6) rfl rfl rfl ?_
  obtain ⟨v2, e1, h⟩ := m_bd h
  refine g_call (v := some (.int v2)) (h := hp) (st' := [.int v2]) (D1 := 0) (as := [.ref x0, .int 205, .int x1, .int x2]) (Or.inr (Or.inl rfl)) q12_m94 (m_cv (as := [.int x2, .int x1, .int 205]) (rest := []) (Or.inl rfl) q12_m94 jv2417 (OF12_toldOf e1) rfl rfl rfl rfl) (by decide) (SF12_toldOf e1) rfl ?_
  cases h
  rw [k0 _ hK]
  exact g_iret rfl rfl
theorem OF12_priceOf {x0 : Nat} {x1 : Int32} {x2 : Int32} {hp : m_H} {x : Int32} (h : F12_priceOf x0 x1 x2 hp = some x) : m_isO hp 9 x0 = true := (m_gdd h).1
theorem SF12_priceOf {xs : Nat → Int32} {L : Nat} {x0 : Nat} {x1 : Int32} {x2 : Int32} {hp : m_H} {x : Int32} (h : F12_priceOf x0 x1 x2 hp = some x) : m_Rn xs L 1 2419 0 (lv_args 0 [.ref x0, .int x1, .int x2]) [] hp (.inl (some (.int x)), hp) :=
  r_lv (SF12_priceOf_0 x0 x1 x2 hp (K := fun y => y = x) (fun y e => by rw [e]) (m_gdd h).2 rfl) rfl ⟨rfl, rfl, rfl, trivial⟩
-- F12_cost: LendHouseModel.cost(II)I
theorem eF12_cost_0 : m_Fe mi12_20 0 (m_ap [(.aload_n 0, 1), (.iconst 0, 1)] ((.putfield 3, 3) :: (m_ap [(.aload_n 0, 1), (.iload_n 1, 1)] ((.invokestatic 78, 3) :: (m_ap [(.iconst 1, 1)] ((.invokevirtual 82, 3) :: ([(.ifCond .eq 7, 3)]))))))) := m_Fe_of nd2420 0 9 rfl
theorem eF12_cost_21 : m_Fe mi12_20 21 (m_ap [(.aload_n 0, 1), (.iload_n 1, 1), (.iload_n 2, 1)] ([(.invokevirtual 98, 3)])) := m_Fe_of nd2420 11 4 rfl
theorem eF12_cost_27 : m_Fe mi12_20 27 ([(.ireturn, 1)]) := m_Fe_of nd2420 15 1 rfl
theorem eF12_cost_17 : m_Fe mi12_20 17 (m_ap [(.iconst 0, 1)] ([(.goto 9, 3)])) := m_Fe_of nd2420 9 2 rfl
theorem SF12_cost_0 {xs : Nat → Int32} {L : Nat} (x0 : Nat) (x1 : Int32) (x2 : Int32) (hp : m_H) {r : m_O × m_H} {K : (Int32 × m_H) → Prop} (k0 : ∀ x, K x → r = (.inl (some (.int x.1)), x.2)) {t : Int32 × m_H} (h : F12_cost_0 x0 x1 x2 hp = some t) (hK : K t) : m_Rn xs L 2 2420 0 [(0, .ref x0), (1, .int x1), (2, .int x2)] [] hp r := by
  unfold F12_cost_0 at h
  refine g_in eF12_cost_0 mx2420 ?_
  refine g_ch [(0, .ref x0), (1, .int x1), (2, .int x2)] [.int 0, .ref x0] (pc' := 2) rfl rfl rfl ?_
  obtain ⟨h1, e2, h⟩ := m_bd h
  refine g_pf q12_f3 e2 ?_
  refine g_ch [(0, .ref x0), (1, .int x1), (2, .int x2)] [.int x1, .ref x0] (pc' := 7) rfl rfl rfl ?_
  obtain ⟨v4, e3, h⟩ := m_bd h
  refine g_call (v := some (.int v4)) (h := h1) (st' := [.int v4, .ref x0]) (D1 := 1) (as := [.int x1]) (Or.inl rfl) q12_m78 (m_cs (as := [.int x1]) (rest := [.ref x0]) q12_m78 jv2410 rfl rfl rfl rfl rfl) (by decide) (SF12_noSort e3) rfl ?_
  refine g_ch [(0, .ref x0), (1, .int x1), (2, .int x2)] [.int 1, .int v4, .ref x0] (pc' := 11) rfl rfl rfl ?_
  obtain ⟨z6, e5, h⟩ := m_bd h
  refine g_call (v := some (.int z6.1)) (h := z6.2) (st' := [.int z6.1]) (D1 := 0) (as := [.ref x0, .int v4, .int 1]) (Or.inr (Or.inl rfl)) q12_m82 (m_cv (as := [.int 1, .int v4]) (rest := []) (Or.inl rfl) q12_m82 jv2401 (OF12_throwsIf e5) rfl rfl rfl rfl) (by decide) (SF12_throwsIf e5) rfl ?_
  rcases m_ifd h with ⟨c7, h⟩ | ⟨c7, h⟩
  · refine g_ifc (t := 21) rfl (m_eqT c7) ?_
    refine g_in eF12_cost_21 mx2420 ?_
    refine g_ch [(0, .ref x0), (1, .int x1), (2, .int x2)] [.int x2, .int x1, .ref x0] (pc' := 24) rfl rfl rfl ?_
    obtain ⟨v9, e8, h⟩ := m_bd h
    refine g_call (v := some (.int v9)) (h := z6.2) (st' := [.int v9]) (D1 := 1) (as := [.ref x0, .int x1, .int x2]) (Or.inr (Or.inl rfl)) q12_m98 (m_cv (as := [.int x2, .int x1]) (rest := []) (Or.inl rfl) q12_m98 jv2419 (OF12_priceOf e8) rfl rfl rfl rfl) (by decide) (SF12_priceOf e8) rfl ?_
    refine g_end ?_
    refine g_in eF12_cost_27 mx2420 ?_
    cases h
    rw [k0 _ hK]
    exact g_iret rfl rfl
  · refine g_ifcn (t := 21) rfl (m_eqF c7) ?_
    refine g_in eF12_cost_17 mx2420 ?_
    refine g_ch [(0, .ref x0), (1, .int x1), (2, .int x2)] [.int 0] (pc' := 18) rfl rfl rfl ?_
    refine g_goto (t := 27) rfl ?_
    refine g_in eF12_cost_27 mx2420 ?_
    cases h
    rw [k0 _ hK]
    exact g_iret rfl rfl
theorem OF12_cost {x0 : Nat} {x1 : Int32} {x2 : Int32} {hp : m_H} {x : Int32 × m_H} (h : F12_cost x0 x1 x2 hp = some x) : m_isO hp 9 x0 = true := (m_gdd h).1
theorem SF12_cost {xs : Nat → Int32} {L : Nat} {x0 : Nat} {x1 : Int32} {x2 : Int32} {hp : m_H} {x : Int32 × m_H} (h : F12_cost x0 x1 x2 hp = some x) : m_Rn xs L 2 2420 0 (lv_args 0 [.ref x0, .int x1, .int x2]) [] hp (.inl (some (.int x.1)), x.2) :=
  r_lv (SF12_cost_0 x0 x1 x2 hp (K := fun y => y = x) (fun y e => by rw [e]) (m_gdd h).2 rfl) rfl ⟨rfl, rfl, rfl, trivial⟩
-- F12_works: LendHouseModel.works(II)I
theorem eF12_works_0 : m_Fe mi12_21 0 (m_ap [(.aload_n 0, 1), (.iconst 0, 1)] ((.putfield 3, 3) :: (m_ap [(.aload_n 0, 1), (.iload_n 1, 1)] ([(.ifCond .lt 26, 3)])))) := m_Fe_of nd2421 0 6 rfl
theorem eF12_works_10 : m_Fe mi12_21 10 (m_ap [(.iload_n 1, 1), (.ldc 102, 2), (.aload_n 0, 1)] ((.getfield 14, 3) :: (m_ap [(.iconst 1, 1)] ((.iaload, 1) :: (m_ap [(.isub, 1)] ([(.if_icmp .gt 13, 3)])))))) := m_Fe_of nd2421 6 8 rfl
theorem eF12_works_23 : m_Fe mi12_21 23 (m_ap [(.iload_n 2, 1), (.iconst 0, 1), (.ldc 102, 2)] ((.invokestatic 74, 3) :: ([(.ifCond .ne 7, 3)]))) := m_Fe_of nd2421 14 5 rfl
theorem eF12_works_37 : m_Fe mi12_21 37 (m_ap [(.iconst 0, 1)] ([])) := m_Fe_of nd2421 21 1 rfl
theorem eF12_works_33 : m_Fe mi12_21 33 (m_ap [(.iconst 1, 1)] ([(.goto 4, 3)])) := m_Fe_of nd2421 19 2 rfl
theorem eF12_works_38 : m_Fe mi12_21 38 (m_ap [(.iconst 1, 1)] ((.invokevirtual 82, 3) :: ([(.ifCond .eq 5, 3)]))) := m_Fe_of nd2421 22 3 rfl
theorem eF12_works_47 : m_Fe mi12_21 47 (m_ap [(.aload_n 0, 1)] ((.getfield 14, 3) :: (m_ap [(.iconst 1, 1), (.dup2, 1)] ((.iaload, 1) :: (m_ap [(.iload_n 1, 1), (.iadd, 1)] ((.iastore, 1) :: (m_ap [(.aload_n 0, 1)] ((.getfield 14, 3) :: (m_ap [(.iconst 2, 1), (.iload_n 2, 1)] ((.iastore, 1) :: (m_ap [(.aload_n 0, 1)] ((.getfield 14, 3) :: (m_ap [(.iconst 1, 1)] ((.iaload, 1) :: ([(.ireturn, 1)]))))))))))))))) := m_Fe_of nd2421 27 18 rfl
theorem eF12_works_45 : m_Fe mi12_21 45 (m_ap [(.iconst 0, 1)] ([(.ireturn, 1)])) := m_Fe_of nd2421 25 2 rfl
theorem SF12_works_38 {xs : Nat → Int32} {L : Nat} (x0 : Nat) (x1 : Int32) (x2 : Int32) (s0 : Int32) (s1 : Nat) (hp : m_H) {r : m_O × m_H} {K : (Int32 × m_H) → Prop} (k0 : ∀ x, K x → r = (.inl (some (.int x.1)), x.2)) {t : Int32 × m_H} (h : F12_works_38 x0 x1 x2 s0 s1 hp = some t) (hK : K t) : m_Rn xs L 1 2421 38 [(0, .ref x0), (1, .int x1), (2, .int x2)] [.int s0, .ref s1] hp r := by
  unfold F12_works_38 at h
  refine g_in eF12_works_38 mx2421 ?_
  refine g_ch [(0, .ref x0), (1, .int x1), (2, .int x2)] [.int 1, .int s0, .ref s1] (pc' := 39) rfl rfl rfl ?_
  obtain ⟨z2, e1, h⟩ := m_bd h
  refine g_call (v := some (.int z2.1)) (h := z2.2) (st' := [.int z2.1]) (D1 := 0) (as := [.ref s1, .int s0, .int 1]) (Or.inr (Or.inl rfl)) q12_m82 (m_cv (as := [.int 1, .int s0]) (rest := []) (Or.inl rfl) q12_m82 jv2401 (OF12_throwsIf e1) rfl rfl rfl rfl) (by decide) (SF12_throwsIf e1) rfl ?_
  rcases m_ifd h with ⟨c3, h⟩ | ⟨c3, h⟩
  · refine g_ifc (t := 47) rfl (m_eqT c3) ?_
    refine g_in eF12_works_47 mx2421 ?_
    refine g_ch [(0, .ref x0), (1, .int x1), (2, .int x2)] [.ref x0] (pc' := 48) rfl rfl rfl ?_
    obtain ⟨v4, e5, h⟩ := m_bd h
    refine g_gr q12_f14 e5 ?_
    refine g_ch [(0, .ref x0), (1, .int x1), (2, .int x2)] [.int 1, .ref v4, .int 1, .ref v4] (pc' := 53) rfl rfl rfl ?_
    obtain ⟨v6, e7, h⟩ := m_bd h
    refine g_ia e7 ?_
    refine g_ch [(0, .ref x0), (1, .int x1), (2, .int x2)] [.int (v6 + x1), .int 1, .ref v4] (pc' := 56) rfl rfl rfl ?_
    obtain ⟨h8, e9, h⟩ := m_bd h
    refine g_is e9 ?_
    refine g_ch [(0, .ref x0), (1, .int x1), (2, .int x2)] [.ref x0] (pc' := 58) rfl rfl rfl ?_
    obtain ⟨v10, e11, h⟩ := m_bd h
    refine g_gr q12_f14 e11 ?_
    refine g_ch [(0, .ref x0), (1, .int x1), (2, .int x2)] [.int x2, .int 2, .ref v10] (pc' := 63) rfl rfl rfl ?_
    obtain ⟨h12, e13, h⟩ := m_bd h
    refine g_is e13 ?_
    refine g_ch [(0, .ref x0), (1, .int x1), (2, .int x2)] [.ref x0] (pc' := 65) rfl rfl rfl ?_
    obtain ⟨v14, e15, h⟩ := m_bd h
    refine g_gr q12_f14 e15 ?_
    refine g_ch [(0, .ref x0), (1, .int x1), (2, .int x2)] [.int 1, .ref v14] (pc' := 69) rfl rfl rfl ?_
    obtain ⟨v16, e17, h⟩ := m_bd h
    refine g_ia e17 ?_
    cases h
    rw [k0 _ hK]
    exact g_iret rfl rfl
  · refine g_ifcn (t := 47) rfl (m_eqF c3) ?_
    refine g_in eF12_works_45 mx2421 ?_
    refine g_ch [(0, .ref x0), (1, .int x1), (2, .int x2)] [.int 0] (pc' := 46) rfl rfl rfl ?_
    cases h
    rw [k0 _ hK]
    exact g_iret rfl rfl
theorem SF12_works_33 {xs : Nat → Int32} {L : Nat} (x0 : Nat) (x1 : Int32) (x2 : Int32) (s0 : Nat) (hp : m_H) {r : m_O × m_H} {K : (Int32 × m_H) → Prop} (k0 : ∀ x, K x → r = (.inl (some (.int x.1)), x.2)) {t : Int32 × m_H} (h : F12_works_33 x0 x1 x2 s0 hp = some t) (hK : K t) : m_Rn xs L 1 2421 33 [(0, .ref x0), (1, .int x1), (2, .int x2)] [.ref s0] hp r := by
  unfold F12_works_33 at h
  refine g_in eF12_works_33 mx2421 ?_
  refine g_ch [(0, .ref x0), (1, .int x1), (2, .int x2)] [.int 1, .ref s0] (pc' := 34) rfl rfl rfl ?_
  refine g_goto (t := 38) rfl ?_
  exact r_lv (SF12_works_38 x0 x1 x2 1 s0 hp (K := K) k0 h hK) rfl ⟨rfl, rfl, rfl, trivial⟩
theorem SF12_works_0 {xs : Nat → Int32} {L : Nat} (x0 : Nat) (x1 : Int32) (x2 : Int32) (hp : m_H) {r : m_O × m_H} {K : (Int32 × m_H) → Prop} (k0 : ∀ x, K x → r = (.inl (some (.int x.1)), x.2)) {t : Int32 × m_H} (h : F12_works_0 x0 x1 x2 hp = some t) (hK : K t) : m_Rn xs L 1 2421 0 [(0, .ref x0), (1, .int x1), (2, .int x2)] [] hp r := by
  unfold F12_works_0 at h
  refine g_in eF12_works_0 mx2421 ?_
  refine g_ch [(0, .ref x0), (1, .int x1), (2, .int x2)] [.int 0, .ref x0] (pc' := 2) rfl rfl rfl ?_
  obtain ⟨h1, e2, h⟩ := m_bd h
  refine g_pf q12_f3 e2 ?_
  refine g_ch [(0, .ref x0), (1, .int x1), (2, .int x2)] [.int x1, .ref x0] (pc' := 7) rfl rfl rfl ?_
  rcases m_ifd h with ⟨c3, h⟩ | ⟨c3, h⟩
  · refine g_ifc (t := 33) rfl (m_ltT c3) ?_
    exact r_lv (SF12_works_33 x0 x1 x2 x0 h1 (K := K) k0 h hK) rfl ⟨rfl, rfl, rfl, trivial⟩
  · refine g_ifcn (t := 33) rfl (m_ltF c3) ?_
    refine g_in eF12_works_10 mx2421 ?_
    refine g_ch [(0, .ref x0), (1, .int x1), (2, .int x2)] [.ref x0, .int 1000000, .int x1, .ref x0] (pc' := 14) rfl rfl rfl ?_
    obtain ⟨v4, e5, h⟩ := m_bd h
    refine g_gr q12_f14 e5 ?_
    refine g_ch [(0, .ref x0), (1, .int x1), (2, .int x2)] [.int 1, .ref v4, .int 1000000, .int x1, .ref x0] (pc' := 18) rfl rfl rfl ?_
    obtain ⟨v6, e7, h⟩ := m_bd h
    refine g_ia e7 ?_
    refine g_ch [(0, .ref x0), (1, .int x1), (2, .int x2)] [.int (1000000 - v6), .int x1, .ref x0] (pc' := 20) rfl rfl rfl ?_
    rcases m_ifd h with ⟨c8, h⟩ | ⟨c8, h⟩
    · refine g_if (t := 33) rfl (m_gtT c8) ?_
      exact r_lv (SF12_works_33 x0 x1 x2 x0 h1 (K := K) k0 h hK) rfl ⟨rfl, rfl, rfl, trivial⟩
    · refine g_ifn (t := 33) rfl (m_gtF c8) ?_
      refine g_in eF12_works_23 mx2421 ?_
      refine g_ch [(0, .ref x0), (1, .int x1), (2, .int x2)] [.int 1000000, .int 0, .int x2, .ref x0] (pc' := 27) rfl rfl rfl ?_
      obtain ⟨v10, e9, h⟩ := m_bd h
      refine g_call (v := some (.int v10)) (h := h1) (st' := [.int v10, .ref x0]) (D1 := 0) (as := [.int x2, .int 0, .int 1000000]) (Or.inl rfl) q12_m74 (m_cs (as := [.int 1000000, .int 0, .int x2]) (rest := [.ref x0]) q12_m74 jv2402 rfl rfl rfl rfl rfl) (by decide) (SF12_in e9) rfl ?_
      rcases m_ifd h with ⟨c11, h⟩ | ⟨c11, h⟩
      · refine g_ifcn (t := 37) rfl (m_neF c11) ?_
        exact r_lv (SF12_works_33 x0 x1 x2 x0 h1 (K := K) k0 h hK) rfl ⟨rfl, rfl, rfl, trivial⟩
      · refine g_ifc (t := 37) rfl (m_neT c11) ?_
        refine g_in eF12_works_37 mx2421 ?_
        refine g_ch [(0, .ref x0), (1, .int x1), (2, .int x2)] [.int 0, .ref x0] (pc' := 38) rfl rfl rfl ?_
        refine g_end ?_
        exact r_lv (SF12_works_38 x0 x1 x2 0 x0 h1 (K := K) k0 h hK) rfl ⟨rfl, rfl, rfl, trivial⟩
theorem OF12_works {x0 : Nat} {x1 : Int32} {x2 : Int32} {hp : m_H} {x : Int32 × m_H} (h : F12_works x0 x1 x2 hp = some x) : m_isO hp 9 x0 = true := (m_gdd h).1
theorem SF12_works {xs : Nat → Int32} {L : Nat} {x0 : Nat} {x1 : Int32} {x2 : Int32} {hp : m_H} {x : Int32 × m_H} (h : F12_works x0 x1 x2 hp = some x) : m_Rn xs L 1 2421 0 (lv_args 0 [.ref x0, .int x1, .int x2]) [] hp (.inl (some (.int x.1)), x.2) :=
  r_lv (SF12_works_0 x0 x1 x2 hp (K := fun y => y = x) (fun y e => by rw [e]) (m_gdd h).2 rfl) rfl ⟨rfl, rfl, rfl, trivial⟩
-- F12_way: LendHouseModel.way(II)V
theorem eF12_way_0 : m_Fe mi12_22 0 (m_ap [(.aload_n 0, 1), (.iconst 0, 1)] ((.putfield 3, 3) :: (m_ap [(.aload_n 0, 1), (.iload_n 1, 1)] ((.invokestatic 103, 3) :: (m_ap [(.iconst 1, 1)] ((.invokevirtual 82, 3) :: ([(.ifCond .ne 30, 3)]))))))) := m_Fe_of nd2422 0 9 rfl
theorem eF12_way_44 : m_Fe mi12_22 44 ([(.return_, 1)]) := m_Fe_of nd2422 23 1 rfl
theorem eF12_way_17 : m_Fe mi12_22 17 (m_ap [(.aload_n 0, 1), (.iload_n 1, 1)] ([(.ifCond .eq 13, 3)])) := m_Fe_of nd2422 9 3 rfl
theorem eF12_way_22 : m_Fe mi12_22 22 (m_ap [(.iload_n 2, 1), (.iconst 1, 1), (.bipush 6, 2)] ((.invokestatic 74, 3) :: ([(.ifCond .ne 7, 3)]))) := m_Fe_of nd2422 12 5 rfl
theorem eF12_way_36 : m_Fe mi12_22 36 (m_ap [(.iconst 0, 1)] ([])) := m_Fe_of nd2422 19 1 rfl
theorem eF12_way_32 : m_Fe mi12_22 32 (m_ap [(.iconst 1, 1)] ([(.goto 4, 3)])) := m_Fe_of nd2422 17 2 rfl
theorem eF12_way_37 : m_Fe mi12_22 37 (m_ap [(.iconst 2, 1)] ((.invokevirtual 82, 3) :: ([(.ifCond .eq 4, 3)]))) := m_Fe_of nd2422 20 3 rfl
theorem eF12_way_45 : m_Fe mi12_22 45 (m_ap [(.aload_n 0, 1)] ((.getfield 14, 3) :: (m_ap [(.iload_n 1, 1), (.iconst 2, 1)] ((.invokestatic 106, 3) :: (m_ap [(.iload_n 2, 1)] ((.iastore, 1) :: ([(.return_, 1)]))))))) := m_Fe_of nd2422 24 8 rfl
theorem SF12_way_37 {xs : Nat → Int32} {L : Nat} (x0 : Nat) (x1 : Int32) (x2 : Int32) (s0 : Int32) (s1 : Nat) (hp : m_H) {r : m_O × m_H} {K : m_H → Prop} (k0 : ∀ x, K x → r = (.inl none, x)) {t : m_H} (h : F12_way_37 x0 x1 x2 s0 s1 hp = some t) (hK : K t) : m_Rn xs L 2 2422 37 [(0, .ref x0), (1, .int x1), (2, .int x2)] [.int s0, .ref s1] hp r := by
  unfold F12_way_37 at h
  refine g_in eF12_way_37 mx2422 ?_
  refine g_ch [(0, .ref x0), (1, .int x1), (2, .int x2)] [.int 2, .int s0, .ref s1] (pc' := 38) rfl rfl rfl ?_
  obtain ⟨z2, e1, h⟩ := m_bd h
  refine g_call (v := some (.int z2.1)) (h := z2.2) (st' := [.int z2.1]) (D1 := 0) (as := [.ref s1, .int s0, .int 2]) (Or.inr (Or.inl rfl)) q12_m82 (m_cv (as := [.int 2, .int s0]) (rest := []) (Or.inl rfl) q12_m82 jv2401 (OF12_throwsIf e1) rfl rfl rfl rfl) (by decide) (SF12_throwsIf e1) rfl ?_
  rcases m_ifd h with ⟨c3, h⟩ | ⟨c3, h⟩
  · refine g_ifc (t := 45) rfl (m_eqT c3) ?_
    refine g_in eF12_way_45 mx2422 ?_
    refine g_ch [(0, .ref x0), (1, .int x1), (2, .int x2)] [.ref x0] (pc' := 46) rfl rfl rfl ?_
    obtain ⟨v4, e5, h⟩ := m_bd h
    refine g_gr q12_f14 e5 ?_
    refine g_ch [(0, .ref x0), (1, .int x1), (2, .int x2)] [.int 2, .int x1, .ref v4] (pc' := 51) rfl rfl rfl ?_
    obtain ⟨v7, e6, h⟩ := m_bd h
    refine g_call (v := some (.int v7)) (h := z2.2) (st' := [.int v7, .ref v4]) (D1 := 0) (as := [.int x1, .int 2]) (Or.inl rfl) q12_m106 (m_cs (as := [.int 2, .int x1]) (rest := [.ref v4]) q12_m106 jv2413 rfl rfl rfl rfl rfl) (by decide) (SF12_landAt e6) rfl ?_
    refine g_ch [(0, .ref x0), (1, .int x1), (2, .int x2)] [.int x2, .int v7, .ref v4] (pc' := 55) rfl rfl rfl ?_
    obtain ⟨h8, e9, h⟩ := m_bd h
    refine g_is e9 ?_
    cases h
    rw [k0 _ hK]
    exact g_vret rfl
  · refine g_ifcn (t := 45) rfl (m_eqF c3) ?_
    refine g_in eF12_way_44 mx2422 ?_
    cases h
    rw [k0 _ hK]
    exact g_vret rfl
theorem SF12_way_32 {xs : Nat → Int32} {L : Nat} (x0 : Nat) (x1 : Int32) (x2 : Int32) (s0 : Nat) (hp : m_H) {r : m_O × m_H} {K : m_H → Prop} (k0 : ∀ x, K x → r = (.inl none, x)) {t : m_H} (h : F12_way_32 x0 x1 x2 s0 hp = some t) (hK : K t) : m_Rn xs L 2 2422 32 [(0, .ref x0), (1, .int x1), (2, .int x2)] [.ref s0] hp r := by
  unfold F12_way_32 at h
  refine g_in eF12_way_32 mx2422 ?_
  refine g_ch [(0, .ref x0), (1, .int x1), (2, .int x2)] [.int 1, .ref s0] (pc' := 33) rfl rfl rfl ?_
  refine g_goto (t := 37) rfl ?_
  exact r_lv (SF12_way_37 x0 x1 x2 1 s0 hp (K := K) k0 h hK) rfl ⟨rfl, rfl, rfl, trivial⟩
theorem SF12_way_0 {xs : Nat → Int32} {L : Nat} (x0 : Nat) (x1 : Int32) (x2 : Int32) (hp : m_H) {r : m_O × m_H} {K : m_H → Prop} (k0 : ∀ x, K x → r = (.inl none, x)) {t : m_H} (h : F12_way_0 x0 x1 x2 hp = some t) (hK : K t) : m_Rn xs L 2 2422 0 [(0, .ref x0), (1, .int x1), (2, .int x2)] [] hp r := by
  unfold F12_way_0 at h
  refine g_in eF12_way_0 mx2422 ?_
  refine g_ch [(0, .ref x0), (1, .int x1), (2, .int x2)] [.int 0, .ref x0] (pc' := 2) rfl rfl rfl ?_
  obtain ⟨h1, e2, h⟩ := m_bd h
  refine g_pf q12_f3 e2 ?_
  refine g_ch [(0, .ref x0), (1, .int x1), (2, .int x2)] [.int x1, .ref x0] (pc' := 7) rfl rfl rfl ?_
  obtain ⟨v4, e3, h⟩ := m_bd h
  refine g_call (v := some (.int v4)) (h := h1) (st' := [.int v4, .ref x0]) (D1 := 1) (as := [.int x1]) (Or.inl rfl) q12_m103 (m_cs (as := [.int x1]) (rest := [.ref x0]) q12_m103 jv2411 rfl rfl rfl rfl rfl) (by decide) (SF12_noLand e3) rfl ?_
  refine g_ch [(0, .ref x0), (1, .int x1), (2, .int x2)] [.int 1, .int v4, .ref x0] (pc' := 11) rfl rfl rfl ?_
  obtain ⟨z6, e5, h⟩ := m_bd h
  refine g_call (v := some (.int z6.1)) (h := z6.2) (st' := [.int z6.1]) (D1 := 0) (as := [.ref x0, .int v4, .int 1]) (Or.inr (Or.inl rfl)) q12_m82 (m_cv (as := [.int 1, .int v4]) (rest := []) (Or.inl rfl) q12_m82 jv2401 (OF12_throwsIf e5) rfl rfl rfl rfl) (by decide) (SF12_throwsIf e5) rfl ?_
  rcases m_ifd h with ⟨c7, h⟩ | ⟨c7, h⟩
  · refine g_ifcn (t := 44) rfl (m_neF c7) ?_
    refine g_in eF12_way_17 mx2422 ?_
    refine g_ch [(0, .ref x0), (1, .int x1), (2, .int x2)] [.int x1, .ref x0] (pc' := 19) rfl rfl rfl ?_
    rcases m_ifd h with ⟨c8, h⟩ | ⟨c8, h⟩
    · refine g_ifc (t := 32) rfl (m_eqT c8) ?_
      exact r_lv (SF12_way_32 x0 x1 x2 x0 z6.2 (K := K) k0 h hK) rfl ⟨rfl, rfl, rfl, trivial⟩
    · refine g_ifcn (t := 32) rfl (m_eqF c8) ?_
      refine g_in eF12_way_22 mx2422 ?_
      refine g_ch [(0, .ref x0), (1, .int x1), (2, .int x2)] [.int 6, .int 1, .int x2, .ref x0] (pc' := 26) rfl rfl rfl ?_
      obtain ⟨v10, e9, h⟩ := m_bd h
      refine g_call (v := some (.int v10)) (h := z6.2) (st' := [.int v10, .ref x0]) (D1 := 0) (as := [.int x2, .int 1, .int 6]) (Or.inl rfl) q12_m74 (m_cs (as := [.int 6, .int 1, .int x2]) (rest := [.ref x0]) q12_m74 jv2402 rfl rfl rfl rfl rfl) (by decide) (SF12_in e9) rfl ?_
      rcases m_ifd h with ⟨c11, h⟩ | ⟨c11, h⟩
      · refine g_ifcn (t := 36) rfl (m_neF c11) ?_
        exact r_lv (SF12_way_32 x0 x1 x2 x0 z6.2 (K := K) k0 h hK) rfl ⟨rfl, rfl, rfl, trivial⟩
      · refine g_ifc (t := 36) rfl (m_neT c11) ?_
        refine g_in eF12_way_36 mx2422 ?_
        refine g_ch [(0, .ref x0), (1, .int x1), (2, .int x2)] [.int 0, .ref x0] (pc' := 37) rfl rfl rfl ?_
        refine g_end ?_
        exact r_lv (SF12_way_37 x0 x1 x2 0 x0 z6.2 (K := K) k0 h hK) rfl ⟨rfl, rfl, rfl, trivial⟩
  · refine g_ifc (t := 44) rfl (m_neT c7) ?_
    refine g_in eF12_way_44 mx2422 ?_
    cases h
    rw [k0 _ hK]
    exact g_vret rfl
theorem OF12_way {x0 : Nat} {x1 : Int32} {x2 : Int32} {hp : m_H} {x : m_H} (h : F12_way x0 x1 x2 hp = some x) : m_isO hp 9 x0 = true := (m_gdd h).1
theorem SF12_way {xs : Nat → Int32} {L : Nat} {x0 : Nat} {x1 : Int32} {x2 : Int32} {hp : m_H} {x : m_H} (h : F12_way x0 x1 x2 hp = some x) : m_Rn xs L 2 2422 0 (lv_args 0 [.ref x0, .int x1, .int x2]) [] hp (.inl none, x) :=
  r_lv (SF12_way_0 x0 x1 x2 hp (K := fun y => y = x) (fun y e => by rw [e]) (m_gdd h).2 rfl) rfl ⟨rfl, rfl, rfl, trivial⟩
-- F12_risk: LendHouseModel.risk(III)I
theorem eF12_risk_0 : m_Fe mi12_23 0 (m_ap [(.aload_n 0, 1), (.iconst 0, 1)] ((.putfield 3, 3) :: (m_ap [(.aload_n 0, 1), (.iload_n 1, 1)] ((.invokestatic 103, 3) :: (m_ap [(.iconst 1, 1)] ((.invokevirtual 82, 3) :: ([(.ifCond .ne 44, 3)]))))))) := m_Fe_of nd2423 0 9 rfl
theorem eF12_risk_58 : m_Fe mi12_23 58 (m_ap [(.iconst 0, 1)] ([(.goto 13, 3)])) := m_Fe_of nd2423 29 2 rfl
theorem eF12_risk_72 : m_Fe mi12_23 72 ([(.ireturn, 1)]) := m_Fe_of nd2423 37 1 rfl
theorem eF12_risk_17 : m_Fe mi12_23 17 (m_ap [(.aload_n 0, 1), (.iload_n 1, 1)] ([(.ifCond .eq 27, 3)])) := m_Fe_of nd2423 9 3 rfl
theorem eF12_risk_22 : m_Fe mi12_23 22 (m_ap [(.iload_n 2, 1), (.aload_n 0, 1)] ((.invokevirtual 86, 3) :: (m_ap [(.sipush 500, 3)] ((.invokestatic 74, 3) :: ([(.ifCond .eq 13, 3)]))))) := m_Fe_of nd2423 12 6 rfl
theorem eF12_risk_36 : m_Fe mi12_23 36 (m_ap [(.iload_n 3, 1), (.iconst 0, 1), (.bipush 100, 2)] ((.invokestatic 74, 3) :: ([(.ifCond .ne 7, 3)]))) := m_Fe_of nd2423 18 5 rfl
theorem eF12_risk_50 : m_Fe mi12_23 50 (m_ap [(.iconst 0, 1)] ([])) := m_Fe_of nd2423 25 1 rfl
theorem eF12_risk_46 : m_Fe mi12_23 46 (m_ap [(.iconst 1, 1)] ([(.goto 4, 3)])) := m_Fe_of nd2423 23 2 rfl
theorem eF12_risk_51 : m_Fe mi12_23 51 (m_ap [(.iconst 2, 1)] ((.invokevirtual 82, 3) :: ([(.ifCond .eq 7, 3)]))) := m_Fe_of nd2423 26 3 rfl
theorem eF12_risk_62 : m_Fe mi12_23 62 (m_ap [(.aload_n 0, 1), (.sipush 506, 3), (.iload_n 1, 1), (.iload_n 2, 1), (.iload_n 3, 1)] ([(.invokevirtual 90, 3)])) := m_Fe_of nd2423 31 6 rfl
theorem SF12_risk_51 {xs : Nat → Int32} {L : Nat} (x0 : Nat) (x1 : Int32) (x2 : Int32) (x3 : Int32) (s0 : Int32) (s1 : Nat) (hp : m_H) {r : m_O × m_H} {K : (Int32 × m_H) → Prop} (k0 : ∀ x, K x → r = (.inl (some (.int x.1)), x.2)) {t : Int32 × m_H} (h : F12_risk_51 x0 x1 x2 x3 s0 s1 hp = some t) (hK : K t) : m_Rn xs L 2 2423 51 [(0, .ref x0), (1, .int x1), (2, .int x2), (3, .int x3)] [.int s0, .ref s1] hp r := by
  unfold F12_risk_51 at h
  refine g_in eF12_risk_51 mx2423 ?_
  refine g_ch [(0, .ref x0), (1, .int x1), (2, .int x2), (3, .int x3)] [.int 2, .int s0, .ref s1] (pc' := 52) rfl rfl rfl ?_
  obtain ⟨z2, e1, h⟩ := m_bd h
  refine g_call (v := some (.int z2.1)) (h := z2.2) (st' := [.int z2.1]) (D1 := 0) (as := [.ref s1, .int s0, .int 2]) (Or.inr (Or.inl rfl)) q12_m82 (m_cv (as := [.int 2, .int s0]) (rest := []) (Or.inl rfl) q12_m82 jv2401 (OF12_throwsIf e1) rfl rfl rfl rfl) (by decide) (SF12_throwsIf e1) rfl ?_
  rcases m_ifd h with ⟨c3, h⟩ | ⟨c3, h⟩
  · refine g_ifc (t := 62) rfl (m_eqT c3) ?_
    refine g_in eF12_risk_62 mx2423 ?_
    refine g_ch [(0, .ref x0), (1, .int x1), (2, .int x2), (3, .int x3)] [.int x3, .int x2, .int x1, .int 506, .ref x0] (pc' := 69) rfl rfl rfl ?_
    obtain ⟨z5, e4, h⟩ := m_bd h
    refine g_call (v := some (.int z5.1)) (h := z5.2) (st' := [.int z5.1]) (D1 := 0) (as := [.ref x0, .int 506, .int x1, .int x2, .int x3]) (Or.inr (Or.inl rfl)) q12_m90 (m_cv (as := [.int x3, .int x2, .int x1, .int 506]) (rest := []) (Or.inl rfl) q12_m90 jv2416 (OF12_tells e4) rfl rfl rfl rfl) (by decide) (SF12_tells e4) rfl ?_
    refine g_end ?_
    refine g_in eF12_risk_72 mx2423 ?_
    cases h
    rw [k0 _ hK]
    exact g_iret rfl rfl
  · refine g_ifcn (t := 62) rfl (m_eqF c3) ?_
    refine g_in eF12_risk_58 mx2423 ?_
    refine g_ch [(0, .ref x0), (1, .int x1), (2, .int x2), (3, .int x3)] [.int 0] (pc' := 59) rfl rfl rfl ?_
    refine g_goto (t := 72) rfl ?_
    refine g_in eF12_risk_72 mx2423 ?_
    cases h
    rw [k0 _ hK]
    exact g_iret rfl rfl
theorem SF12_risk_46 {xs : Nat → Int32} {L : Nat} (x0 : Nat) (x1 : Int32) (x2 : Int32) (x3 : Int32) (s0 : Nat) (hp : m_H) {r : m_O × m_H} {K : (Int32 × m_H) → Prop} (k0 : ∀ x, K x → r = (.inl (some (.int x.1)), x.2)) {t : Int32 × m_H} (h : F12_risk_46 x0 x1 x2 x3 s0 hp = some t) (hK : K t) : m_Rn xs L 2 2423 46 [(0, .ref x0), (1, .int x1), (2, .int x2), (3, .int x3)] [.ref s0] hp r := by
  unfold F12_risk_46 at h
  refine g_in eF12_risk_46 mx2423 ?_
  refine g_ch [(0, .ref x0), (1, .int x1), (2, .int x2), (3, .int x3)] [.int 1, .ref s0] (pc' := 47) rfl rfl rfl ?_
  refine g_goto (t := 51) rfl ?_
  exact r_lv (SF12_risk_51 x0 x1 x2 x3 1 s0 hp (K := K) k0 h hK) rfl ⟨rfl, rfl, rfl, rfl, trivial⟩
theorem SF12_risk_0 {xs : Nat → Int32} {L : Nat} (x0 : Nat) (x1 : Int32) (x2 : Int32) (x3 : Int32) (hp : m_H) {r : m_O × m_H} {K : (Int32 × m_H) → Prop} (k0 : ∀ x, K x → r = (.inl (some (.int x.1)), x.2)) {t : Int32 × m_H} (h : F12_risk_0 x0 x1 x2 x3 hp = some t) (hK : K t) : m_Rn xs L 2 2423 0 [(0, .ref x0), (1, .int x1), (2, .int x2), (3, .int x3)] [] hp r := by
  unfold F12_risk_0 at h
  refine g_in eF12_risk_0 mx2423 ?_
  refine g_ch [(0, .ref x0), (1, .int x1), (2, .int x2), (3, .int x3)] [.int 0, .ref x0] (pc' := 2) rfl rfl rfl ?_
  obtain ⟨h1, e2, h⟩ := m_bd h
  refine g_pf q12_f3 e2 ?_
  refine g_ch [(0, .ref x0), (1, .int x1), (2, .int x2), (3, .int x3)] [.int x1, .ref x0] (pc' := 7) rfl rfl rfl ?_
  obtain ⟨v4, e3, h⟩ := m_bd h
  refine g_call (v := some (.int v4)) (h := h1) (st' := [.int v4, .ref x0]) (D1 := 1) (as := [.int x1]) (Or.inl rfl) q12_m103 (m_cs (as := [.int x1]) (rest := [.ref x0]) q12_m103 jv2411 rfl rfl rfl rfl rfl) (by decide) (SF12_noLand e3) rfl ?_
  refine g_ch [(0, .ref x0), (1, .int x1), (2, .int x2), (3, .int x3)] [.int 1, .int v4, .ref x0] (pc' := 11) rfl rfl rfl ?_
  obtain ⟨z6, e5, h⟩ := m_bd h
  refine g_call (v := some (.int z6.1)) (h := z6.2) (st' := [.int z6.1]) (D1 := 0) (as := [.ref x0, .int v4, .int 1]) (Or.inr (Or.inl rfl)) q12_m82 (m_cv (as := [.int 1, .int v4]) (rest := []) (Or.inl rfl) q12_m82 jv2401 (OF12_throwsIf e5) rfl rfl rfl rfl) (by decide) (SF12_throwsIf e5) rfl ?_
  rcases m_ifd h with ⟨c7, h⟩ | ⟨c7, h⟩
  · refine g_ifcn (t := 58) rfl (m_neF c7) ?_
    refine g_in eF12_risk_17 mx2423 ?_
    refine g_ch [(0, .ref x0), (1, .int x1), (2, .int x2), (3, .int x3)] [.int x1, .ref x0] (pc' := 19) rfl rfl rfl ?_
    rcases m_ifd h with ⟨c8, h⟩ | ⟨c8, h⟩
    · refine g_ifc (t := 46) rfl (m_eqT c8) ?_
      exact r_lv (SF12_risk_46 x0 x1 x2 x3 x0 z6.2 (K := K) k0 h hK) rfl ⟨rfl, rfl, rfl, rfl, trivial⟩
    · refine g_ifcn (t := 46) rfl (m_eqF c8) ?_
      refine g_in eF12_risk_22 mx2423 ?_
      refine g_ch [(0, .ref x0), (1, .int x1), (2, .int x2), (3, .int x3)] [.ref x0, .int x2, .ref x0] (pc' := 24) rfl rfl rfl ?_
      obtain ⟨v10, e9, h⟩ := m_bd h
      refine g_call (v := some (.int v10)) (h := z6.2) (st' := [.int v10, .int x2, .ref x0]) (D1 := 0) (as := [.ref x0]) (Or.inr (Or.inl rfl)) q12_m86 (m_cv (as := []) (rest := [.int x2, .ref x0]) (Or.inl rfl) q12_m86 jv2404 (OF12_week e9) rfl rfl rfl rfl) (by decide) (SF12_week e9) rfl ?_
      refine g_ch [(0, .ref x0), (1, .int x1), (2, .int x2), (3, .int x3)] [.int 500, .int v10, .int x2, .ref x0] (pc' := 30) rfl rfl rfl ?_
      obtain ⟨v12, e11, h⟩ := m_bd h
      refine g_call (v := some (.int v12)) (h := z6.2) (st' := [.int v12, .ref x0]) (D1 := 0) (as := [.int x2, .int v10, .int 500]) (Or.inl rfl) q12_m74 (m_cs (as := [.int 500, .int v10, .int x2]) (rest := [.ref x0]) q12_m74 jv2402 rfl rfl rfl rfl rfl) (by decide) (SF12_in e11) rfl ?_
      rcases m_ifd h with ⟨c13, h⟩ | ⟨c13, h⟩
      · refine g_ifc (t := 46) rfl (m_eqT c13) ?_
        exact r_lv (SF12_risk_46 x0 x1 x2 x3 x0 z6.2 (K := K) k0 h hK) rfl ⟨rfl, rfl, rfl, rfl, trivial⟩
      · refine g_ifcn (t := 46) rfl (m_eqF c13) ?_
        refine g_in eF12_risk_36 mx2423 ?_
        refine g_ch [(0, .ref x0), (1, .int x1), (2, .int x2), (3, .int x3)] [.int 100, .int 0, .int x3, .ref x0] (pc' := 40) rfl rfl rfl ?_
        obtain ⟨v15, e14, h⟩ := m_bd h
        refine g_call (v := some (.int v15)) (h := z6.2) (st' := [.int v15, .ref x0]) (D1 := 0) (as := [.int x3, .int 0, .int 100]) (Or.inl rfl) q12_m74 (m_cs (as := [.int 100, .int 0, .int x3]) (rest := [.ref x0]) q12_m74 jv2402 rfl rfl rfl rfl rfl) (by decide) (SF12_in e14) rfl ?_
        rcases m_ifd h with ⟨c16, h⟩ | ⟨c16, h⟩
        · refine g_ifcn (t := 50) rfl (m_neF c16) ?_
          exact r_lv (SF12_risk_46 x0 x1 x2 x3 x0 z6.2 (K := K) k0 h hK) rfl ⟨rfl, rfl, rfl, rfl, trivial⟩
        · refine g_ifc (t := 50) rfl (m_neT c16) ?_
          refine g_in eF12_risk_50 mx2423 ?_
          refine g_ch [(0, .ref x0), (1, .int x1), (2, .int x2), (3, .int x3)] [.int 0, .ref x0] (pc' := 51) rfl rfl rfl ?_
          refine g_end ?_
          exact r_lv (SF12_risk_51 x0 x1 x2 x3 0 x0 z6.2 (K := K) k0 h hK) rfl ⟨rfl, rfl, rfl, rfl, trivial⟩
  · refine g_ifc (t := 58) rfl (m_neT c7) ?_
    refine g_in eF12_risk_58 mx2423 ?_
    refine g_ch [(0, .ref x0), (1, .int x1), (2, .int x2), (3, .int x3)] [.int 0] (pc' := 59) rfl rfl rfl ?_
    refine g_goto (t := 72) rfl ?_
    refine g_in eF12_risk_72 mx2423 ?_
    cases h
    rw [k0 _ hK]
    exact g_iret rfl rfl
theorem OF12_risk {x0 : Nat} {x1 : Int32} {x2 : Int32} {x3 : Int32} {hp : m_H} {x : Int32 × m_H} (h : F12_risk x0 x1 x2 x3 hp = some x) : m_isO hp 9 x0 = true := (m_gdd h).1
theorem SF12_risk {xs : Nat → Int32} {L : Nat} {x0 : Nat} {x1 : Int32} {x2 : Int32} {x3 : Int32} {hp : m_H} {x : Int32 × m_H} (h : F12_risk x0 x1 x2 x3 hp = some x) : m_Rn xs L 2 2423 0 (lv_args 0 [.ref x0, .int x1, .int x2, .int x3]) [] hp (.inl (some (.int x.1)), x.2) :=
  r_lv (SF12_risk_0 x0 x1 x2 x3 hp (K := fun y => y = x) (fun y e => by rw [e]) (m_gdd h).2 rfl) rfl ⟨rfl, rfl, rfl, rfl, trivial⟩
-- F12_need: LendHouseModel.need(III)V
theorem eF12_need_0 : m_Fe mi12_24 0 (m_ap [(.aload_n 0, 1), (.iconst 0, 1)] ((.putfield 3, 3) :: (m_ap [(.aload_n 0, 1), (.iload_n 1, 1)] ((.invokestatic 103, 3) :: ([(.ifCond .ne 10, 3)]))))) := m_Fe_of nd2424 0 7 rfl
theorem eF12_need_13 : m_Fe mi12_24 13 (m_ap [(.iload_n 2, 1)] ((.invokestatic 78, 3) :: ([(.ifCond .eq 7, 3)]))) := m_Fe_of nd2424 7 3 rfl
theorem eF12_need_24 : m_Fe mi12_24 24 (m_ap [(.iconst 0, 1)] ([])) := m_Fe_of nd2424 12 1 rfl
theorem eF12_need_20 : m_Fe mi12_24 20 (m_ap [(.iconst 1, 1)] ([(.goto 4, 3)])) := m_Fe_of nd2424 10 2 rfl
theorem eF12_need_25 : m_Fe mi12_24 25 (m_ap [(.iconst 1, 1)] ((.invokevirtual 82, 3) :: ([(.ifCond .ne 31, 3)]))) := m_Fe_of nd2424 13 3 rfl
theorem eF12_need_60 : m_Fe mi12_24 60 ([(.return_, 1)]) := m_Fe_of nd2424 30 1 rfl
theorem eF12_need_32 : m_Fe mi12_24 32 (m_ap [(.aload_n 0, 1), (.iload_n 1, 1)] ([(.ifCond .eq 14, 3)])) := m_Fe_of nd2424 16 3 rfl
theorem eF12_need_37 : m_Fe mi12_24 37 (m_ap [(.iload_n 3, 1), (.iconst 0, 1), (.sipush 1000, 3)] ((.invokestatic 74, 3) :: ([(.ifCond .ne 7, 3)]))) := m_Fe_of nd2424 19 5 rfl
theorem eF12_need_52 : m_Fe mi12_24 52 (m_ap [(.iconst 0, 1)] ([])) := m_Fe_of nd2424 26 1 rfl
theorem eF12_need_48 : m_Fe mi12_24 48 (m_ap [(.iconst 1, 1)] ([(.goto 4, 3)])) := m_Fe_of nd2424 24 2 rfl
theorem eF12_need_53 : m_Fe mi12_24 53 (m_ap [(.iconst 2, 1)] ((.invokevirtual 82, 3) :: ([(.ifCond .eq 4, 3)]))) := m_Fe_of nd2424 27 3 rfl
theorem eF12_need_61 : m_Fe mi12_24 61 (m_ap [(.aload_n 0, 1)] ((.getfield 14, 3) :: (m_ap [(.bipush 61, 2), (.iload_n 1, 1), (.iload_n 2, 1)] ((.invokestatic 109, 3) :: (m_ap [(.iload_n 3, 1)] ((.iastore, 1) :: ([(.return_, 1)]))))))) := m_Fe_of nd2424 31 9 rfl
theorem SF12_need_53 {xs : Nat → Int32} {L : Nat} (x0 : Nat) (x1 : Int32) (x2 : Int32) (x3 : Int32) (s0 : Int32) (s1 : Nat) (hp : m_H) {r : m_O × m_H} {K : m_H → Prop} (k0 : ∀ x, K x → r = (.inl none, x)) {t : m_H} (h : F12_need_53 x0 x1 x2 x3 s0 s1 hp = some t) (hK : K t) : m_Rn xs L 2 2424 53 [(0, .ref x0), (1, .int x1), (2, .int x2), (3, .int x3)] [.int s0, .ref s1] hp r := by
  unfold F12_need_53 at h
  refine g_in eF12_need_53 mx2424 ?_
  refine g_ch [(0, .ref x0), (1, .int x1), (2, .int x2), (3, .int x3)] [.int 2, .int s0, .ref s1] (pc' := 54) rfl rfl rfl ?_
  obtain ⟨z2, e1, h⟩ := m_bd h
  refine g_call (v := some (.int z2.1)) (h := z2.2) (st' := [.int z2.1]) (D1 := 0) (as := [.ref s1, .int s0, .int 2]) (Or.inr (Or.inl rfl)) q12_m82 (m_cv (as := [.int 2, .int s0]) (rest := []) (Or.inl rfl) q12_m82 jv2401 (OF12_throwsIf e1) rfl rfl rfl rfl) (by decide) (SF12_throwsIf e1) rfl ?_
  rcases m_ifd h with ⟨c3, h⟩ | ⟨c3, h⟩
  · refine g_ifc (t := 61) rfl (m_eqT c3) ?_
    refine g_in eF12_need_61 mx2424 ?_
    refine g_ch [(0, .ref x0), (1, .int x1), (2, .int x2), (3, .int x3)] [.ref x0] (pc' := 62) rfl rfl rfl ?_
    obtain ⟨v4, e5, h⟩ := m_bd h
    refine g_gr q12_f14 e5 ?_
    refine g_ch [(0, .ref x0), (1, .int x1), (2, .int x2), (3, .int x3)] [.int x2, .int x1, .int 61, .ref v4] (pc' := 69) rfl rfl rfl ?_
    obtain ⟨v7, e6, h⟩ := m_bd h
    refine g_call (v := some (.int v7)) (h := z2.2) (st' := [.int v7, .ref v4]) (D1 := 0) (as := [.int 61, .int x1, .int x2]) (Or.inl rfl) q12_m109 (m_cs (as := [.int x2, .int x1, .int 61]) (rest := [.ref v4]) q12_m109 jv2414 rfl rfl rfl rfl rfl) (by decide) (SF12_both e6) rfl ?_
    refine g_ch [(0, .ref x0), (1, .int x1), (2, .int x2), (3, .int x3)] [.int x3, .int v7, .ref v4] (pc' := 73) rfl rfl rfl ?_
    obtain ⟨h8, e9, h⟩ := m_bd h
    refine g_is e9 ?_
    cases h
    rw [k0 _ hK]
    exact g_vret rfl
  · refine g_ifcn (t := 61) rfl (m_eqF c3) ?_
    refine g_in eF12_need_60 mx2424 ?_
    cases h
    rw [k0 _ hK]
    exact g_vret rfl
theorem SF12_need_48 {xs : Nat → Int32} {L : Nat} (x0 : Nat) (x1 : Int32) (x2 : Int32) (x3 : Int32) (s0 : Nat) (hp : m_H) {r : m_O × m_H} {K : m_H → Prop} (k0 : ∀ x, K x → r = (.inl none, x)) {t : m_H} (h : F12_need_48 x0 x1 x2 x3 s0 hp = some t) (hK : K t) : m_Rn xs L 2 2424 48 [(0, .ref x0), (1, .int x1), (2, .int x2), (3, .int x3)] [.ref s0] hp r := by
  unfold F12_need_48 at h
  refine g_in eF12_need_48 mx2424 ?_
  refine g_ch [(0, .ref x0), (1, .int x1), (2, .int x2), (3, .int x3)] [.int 1, .ref s0] (pc' := 49) rfl rfl rfl ?_
  refine g_goto (t := 53) rfl ?_
  exact r_lv (SF12_need_53 x0 x1 x2 x3 1 s0 hp (K := K) k0 h hK) rfl ⟨rfl, rfl, rfl, rfl, trivial⟩
theorem SF12_need_25 {xs : Nat → Int32} {L : Nat} (x0 : Nat) (x1 : Int32) (x2 : Int32) (x3 : Int32) (s0 : Int32) (s1 : Nat) (hp : m_H) {r : m_O × m_H} {K : m_H → Prop} (k0 : ∀ x, K x → r = (.inl none, x)) {t : m_H} (h : F12_need_25 x0 x1 x2 x3 s0 s1 hp = some t) (hK : K t) : m_Rn xs L 2 2424 25 [(0, .ref x0), (1, .int x1), (2, .int x2), (3, .int x3)] [.int s0, .ref s1] hp r := by
  unfold F12_need_25 at h
  refine g_in eF12_need_25 mx2424 ?_
  refine g_ch [(0, .ref x0), (1, .int x1), (2, .int x2), (3, .int x3)] [.int 1, .int s0, .ref s1] (pc' := 26) rfl rfl rfl ?_
  obtain ⟨z2, e1, h⟩ := m_bd h
  refine g_call (v := some (.int z2.1)) (h := z2.2) (st' := [.int z2.1]) (D1 := 0) (as := [.ref s1, .int s0, .int 1]) (Or.inr (Or.inl rfl)) q12_m82 (m_cv (as := [.int 1, .int s0]) (rest := []) (Or.inl rfl) q12_m82 jv2401 (OF12_throwsIf e1) rfl rfl rfl rfl) (by decide) (SF12_throwsIf e1) rfl ?_
  rcases m_ifd h with ⟨c3, h⟩ | ⟨c3, h⟩
  · refine g_ifcn (t := 60) rfl (m_neF c3) ?_
    refine g_in eF12_need_32 mx2424 ?_
    refine g_ch [(0, .ref x0), (1, .int x1), (2, .int x2), (3, .int x3)] [.int x1, .ref x0] (pc' := 34) rfl rfl rfl ?_
    rcases m_ifd h with ⟨c4, h⟩ | ⟨c4, h⟩
    · refine g_ifc (t := 48) rfl (m_eqT c4) ?_
      exact r_lv (SF12_need_48 x0 x1 x2 x3 x0 z2.2 (K := K) k0 h hK) rfl ⟨rfl, rfl, rfl, rfl, trivial⟩
    · refine g_ifcn (t := 48) rfl (m_eqF c4) ?_
      refine g_in eF12_need_37 mx2424 ?_
      refine g_ch [(0, .ref x0), (1, .int x1), (2, .int x2), (3, .int x3)] [.int 1000, .int 0, .int x3, .ref x0] (pc' := 42) rfl rfl rfl ?_
      obtain ⟨v6, e5, h⟩ := m_bd h
      refine g_call (v := some (.int v6)) (h := z2.2) (st' := [.int v6, .ref x0]) (D1 := 0) (as := [.int x3, .int 0, .int 1000]) (Or.inl rfl) q12_m74 (m_cs (as := [.int 1000, .int 0, .int x3]) (rest := [.ref x0]) q12_m74 jv2402 rfl rfl rfl rfl rfl) (by decide) (SF12_in e5) rfl ?_
      rcases m_ifd h with ⟨c7, h⟩ | ⟨c7, h⟩
      · refine g_ifcn (t := 52) rfl (m_neF c7) ?_
        exact r_lv (SF12_need_48 x0 x1 x2 x3 x0 z2.2 (K := K) k0 h hK) rfl ⟨rfl, rfl, rfl, rfl, trivial⟩
      · refine g_ifc (t := 52) rfl (m_neT c7) ?_
        refine g_in eF12_need_52 mx2424 ?_
        refine g_ch [(0, .ref x0), (1, .int x1), (2, .int x2), (3, .int x3)] [.int 0, .ref x0] (pc' := 53) rfl rfl rfl ?_
        refine g_end ?_
        exact r_lv (SF12_need_53 x0 x1 x2 x3 0 x0 z2.2 (K := K) k0 h hK) rfl ⟨rfl, rfl, rfl, rfl, trivial⟩
  · refine g_ifc (t := 60) rfl (m_neT c3) ?_
    refine g_in eF12_need_60 mx2424 ?_
    cases h
    rw [k0 _ hK]
    exact g_vret rfl
theorem SF12_need_20 {xs : Nat → Int32} {L : Nat} (x0 : Nat) (x1 : Int32) (x2 : Int32) (x3 : Int32) (s0 : Nat) (hp : m_H) {r : m_O × m_H} {K : m_H → Prop} (k0 : ∀ x, K x → r = (.inl none, x)) {t : m_H} (h : F12_need_20 x0 x1 x2 x3 s0 hp = some t) (hK : K t) : m_Rn xs L 2 2424 20 [(0, .ref x0), (1, .int x1), (2, .int x2), (3, .int x3)] [.ref s0] hp r := by
  unfold F12_need_20 at h
  refine g_in eF12_need_20 mx2424 ?_
  refine g_ch [(0, .ref x0), (1, .int x1), (2, .int x2), (3, .int x3)] [.int 1, .ref s0] (pc' := 21) rfl rfl rfl ?_
  refine g_goto (t := 25) rfl ?_
  exact r_lv (SF12_need_25 x0 x1 x2 x3 1 s0 hp (K := K) k0 h hK) rfl ⟨rfl, rfl, rfl, rfl, trivial⟩
theorem SF12_need_0 {xs : Nat → Int32} {L : Nat} (x0 : Nat) (x1 : Int32) (x2 : Int32) (x3 : Int32) (hp : m_H) {r : m_O × m_H} {K : m_H → Prop} (k0 : ∀ x, K x → r = (.inl none, x)) {t : m_H} (h : F12_need_0 x0 x1 x2 x3 hp = some t) (hK : K t) : m_Rn xs L 2 2424 0 [(0, .ref x0), (1, .int x1), (2, .int x2), (3, .int x3)] [] hp r := by
  unfold F12_need_0 at h
  refine g_in eF12_need_0 mx2424 ?_
  refine g_ch [(0, .ref x0), (1, .int x1), (2, .int x2), (3, .int x3)] [.int 0, .ref x0] (pc' := 2) rfl rfl rfl ?_
  obtain ⟨h1, e2, h⟩ := m_bd h
  refine g_pf q12_f3 e2 ?_
  refine g_ch [(0, .ref x0), (1, .int x1), (2, .int x2), (3, .int x3)] [.int x1, .ref x0] (pc' := 7) rfl rfl rfl ?_
  obtain ⟨v4, e3, h⟩ := m_bd h
  refine g_call (v := some (.int v4)) (h := h1) (st' := [.int v4, .ref x0]) (D1 := 1) (as := [.int x1]) (Or.inl rfl) q12_m103 (m_cs (as := [.int x1]) (rest := [.ref x0]) q12_m103 jv2411 rfl rfl rfl rfl rfl) (by decide) (SF12_noLand e3) rfl ?_
  rcases m_ifd h with ⟨c5, h⟩ | ⟨c5, h⟩
  · refine g_ifcn (t := 20) rfl (m_neF c5) ?_
    refine g_in eF12_need_13 mx2424 ?_
    refine g_ch [(0, .ref x0), (1, .int x1), (2, .int x2), (3, .int x3)] [.int x2, .ref x0] (pc' := 14) rfl rfl rfl ?_
    obtain ⟨v7, e6, h⟩ := m_bd h
    refine g_call (v := some (.int v7)) (h := h1) (st' := [.int v7, .ref x0]) (D1 := 1) (as := [.int x2]) (Or.inl rfl) q12_m78 (m_cs (as := [.int x2]) (rest := [.ref x0]) q12_m78 jv2410 rfl rfl rfl rfl rfl) (by decide) (SF12_noSort e6) rfl ?_
    rcases m_ifd h with ⟨c8, h⟩ | ⟨c8, h⟩
    · refine g_ifc (t := 24) rfl (m_eqT c8) ?_
      refine g_in eF12_need_24 mx2424 ?_
      refine g_ch [(0, .ref x0), (1, .int x1), (2, .int x2), (3, .int x3)] [.int 0, .ref x0] (pc' := 25) rfl rfl rfl ?_
      refine g_end ?_
      exact r_lv (SF12_need_25 x0 x1 x2 x3 0 x0 h1 (K := K) k0 h hK) rfl ⟨rfl, rfl, rfl, rfl, trivial⟩
    · refine g_ifcn (t := 24) rfl (m_eqF c8) ?_
      exact r_lv (SF12_need_20 x0 x1 x2 x3 x0 h1 (K := K) k0 h hK) rfl ⟨rfl, rfl, rfl, rfl, trivial⟩
  · refine g_ifc (t := 20) rfl (m_neT c5) ?_
    exact r_lv (SF12_need_20 x0 x1 x2 x3 x0 h1 (K := K) k0 h hK) rfl ⟨rfl, rfl, rfl, rfl, trivial⟩
theorem OF12_need {x0 : Nat} {x1 : Int32} {x2 : Int32} {x3 : Int32} {hp : m_H} {x : m_H} (h : F12_need x0 x1 x2 x3 hp = some x) : m_isO hp 9 x0 = true := (m_gdd h).1
theorem SF12_need {xs : Nat → Int32} {L : Nat} {x0 : Nat} {x1 : Int32} {x2 : Int32} {x3 : Int32} {hp : m_H} {x : m_H} (h : F12_need x0 x1 x2 x3 hp = some x) : m_Rn xs L 2 2424 0 (lv_args 0 [.ref x0, .int x1, .int x2, .int x3]) [] hp (.inl none, x) :=
  r_lv (SF12_need_0 x0 x1 x2 x3 hp (K := fun y => y = x) (fun y e => by rw [e]) (m_gdd h).2 rfl) rfl ⟨rfl, rfl, rfl, rfl, trivial⟩
-- F12_lotAt: LendHouseModel.lotAt(II)I
theorem eF12_lotAt_0 : m_Fe mi12_25 0 (m_ap [(.sipush 808, 3), (.bipush 21, 2), (.iload_n 0, 1), (.imul, 1), (.iadd, 1), (.iload_n 1, 1), (.iadd, 1)] ([(.ireturn, 1)])) := m_Fe_of nd2425 0 8 rfl
theorem SF12_lotAt_0 {xs : Nat → Int32} {L : Nat} (x0 : Int32) (x1 : Int32) (hp : m_H) {r : m_O × m_H} {K : Int32 → Prop} (k0 : ∀ x, K x → r = (.inl (some (.int x)), hp)) {t : Int32} (h : F12_lotAt_0 x0 x1 hp = some t) (hK : K t) : m_Rn xs L 0 2425 0 [(0, .int x0), (1, .int x1)] [] hp r := by
  unfold F12_lotAt_0 at h
  refine g_in eF12_lotAt_0 mx2425 ?_
  refine g_ch [(0, .int x0), (1, .int x1)] [.int ((808 + (21 * x0)) + x1)] (pc' := 10) rfl rfl rfl ?_
  cases h
  rw [k0 _ hK]
  exact g_iret rfl rfl
theorem SF12_lotAt {xs : Nat → Int32} {L : Nat} {x0 : Int32} {x1 : Int32} {hp : m_H} {x : Int32} (h : F12_lotAt x0 x1 hp = some x) : m_Rn xs L 0 2425 0 (lv_args 0 [.int x0, .int x1]) [] hp (.inl (some (.int x)), hp) :=
  r_lv (SF12_lotAt_0 x0 x1 hp (K := fun y => y = x) (fun y e => by rw [e]) h rfl) rfl ⟨rfl, rfl, trivial⟩
-- F12_of: LendHouseModel.of(II)I
theorem eF12_of_0 : m_Fe mi12_26 0 (m_ap [(.aload_n 0, 1)] ((.getfield 14, 3) :: (m_ap [(.iload_n 1, 1), (.iload_n 2, 1)] ((.invokestatic 112, 3) :: ((.iaload, 1) :: ([(.ireturn, 1)])))))) := m_Fe_of nd2426 0 7 rfl
theorem SF12_of_0 {xs : Nat → Int32} {L : Nat} (x0 : Nat) (x1 : Int32) (x2 : Int32) (hp : m_H) {r : m_O × m_H} {K : Int32 → Prop} (k0 : ∀ x, K x → r = (.inl (some (.int x)), hp)) {t : Int32} (h : F12_of_0 x0 x1 x2 hp = some t) (hK : K t) : m_Rn xs L 1 2426 0 [(0, .ref x0), (1, .int x1), (2, .int x2)] [] hp r := by
  unfold F12_of_0 at h
  refine g_in eF12_of_0 mx2426 ?_
  refine g_ch [(0, .ref x0), (1, .int x1), (2, .int x2)] [.ref x0] (pc' := 1) rfl rfl rfl ?_
  obtain ⟨v1, e2, h⟩ := m_bd h
  refine g_gr q12_f14 e2 ?_
  refine g_ch [(0, .ref x0), (1, .int x1), (2, .int x2)] [.int x2, .int x1, .ref v1] (pc' := 6) rfl rfl rfl ?_
  obtain ⟨v4, e3, h⟩ := m_bd h
  refine g_call (v := some (.int v4)) (h := hp) (st' := [.int v4, .ref v1]) (D1 := 0) (as := [.int x1, .int x2]) (Or.inl rfl) q12_m112 (m_cs (as := [.int x2, .int x1]) (rest := [.ref v1]) q12_m112 jv2425 rfl rfl rfl rfl rfl) (by decide) (SF12_lotAt e3) rfl ?_
  obtain ⟨v5, e6, h⟩ := m_bd h
  refine g_ia e6 ?_
  cases h
  rw [k0 _ hK]
  exact g_iret rfl rfl
theorem OF12_of {x0 : Nat} {x1 : Int32} {x2 : Int32} {hp : m_H} {x : Int32} (h : F12_of x0 x1 x2 hp = some x) : m_isO hp 9 x0 = true := (m_gdd h).1
theorem SF12_of {xs : Nat → Int32} {L : Nat} {x0 : Nat} {x1 : Int32} {x2 : Int32} {hp : m_H} {x : Int32} (h : F12_of x0 x1 x2 hp = some x) : m_Rn xs L 1 2426 0 (lv_args 0 [.ref x0, .int x1, .int x2]) [] hp (.inl (some (.int x)), hp) :=
  r_lv (SF12_of_0 x0 x1 x2 hp (K := fun y => y = x) (fun y e => by rw [e]) (m_gdd h).2 rfl) rfl ⟨rfl, rfl, rfl, trivial⟩
-- F12_noLot: LendHouseModel.noLot(I)Z
theorem eF12_noLot_0 : m_Fe mi12_27 0 (m_ap [(.iload_n 1, 1), (.iconst 0, 1), (.aload_n 0, 1)] ((.getfield 14, 3) :: (m_ap [(.sipush 807, 3)] ((.iaload, 1) :: (m_ap [(.iconst 1, 1), (.isub, 1)] ((.invokestatic 74, 3) :: ([(.ifCond .ne 7, 3)]))))))) := m_Fe_of nd2427 0 10 rfl
theorem eF12_noLot_22 : m_Fe mi12_27 22 (m_ap [(.iconst 0, 1)] ([])) := m_Fe_of nd2427 12 1 rfl
theorem eF12_noLot_23 : m_Fe mi12_27 23 ([(.ireturn, 1)]) := m_Fe_of nd2427 13 1 rfl
theorem eF12_noLot_18 : m_Fe mi12_27 18 (m_ap [(.iconst 1, 1)] ([(.goto 4, 3)])) := m_Fe_of nd2427 10 2 rfl
theorem SF12_noLot_0 {xs : Nat → Int32} {L : Nat} (x0 : Nat) (x1 : Int32) (hp : m_H) {r : m_O × m_H} {K : Int32 → Prop} (k0 : ∀ x, K x → r = (.inl (some (.int x)), hp)) {t : Int32} (h : F12_noLot_0 x0 x1 hp = some t) (hK : K t) : m_Rn xs L 1 2427 0 [(0, .ref x0), (1, .int x1)] [] hp r := by
  unfold F12_noLot_0 at h
  refine g_in eF12_noLot_0 mx2427 ?_
  refine g_ch [(0, .ref x0), (1, .int x1)] [.ref x0, .int 0, .int x1] (pc' := 3) rfl rfl rfl ?_
  obtain ⟨v1, e2, h⟩ := m_bd h
  refine g_gr q12_f14 e2 ?_
  refine g_ch [(0, .ref x0), (1, .int x1)] [.int 807, .ref v1, .int 0, .int x1] (pc' := 9) rfl rfl rfl ?_
  obtain ⟨v3, e4, h⟩ := m_bd h
  refine g_ia e4 ?_
  refine g_ch [(0, .ref x0), (1, .int x1)] [.int (v3 - 1), .int 0, .int x1] (pc' := 12) rfl rfl rfl ?_
  obtain ⟨v6, e5, h⟩ := m_bd h
  refine g_call (v := some (.int v6)) (h := hp) (st' := [.int v6]) (D1 := 0) (as := [.int x1, .int 0, .int (v3 - 1)]) (Or.inl rfl) q12_m74 (m_cs (as := [.int (v3 - 1), .int 0, .int x1]) (rest := []) q12_m74 jv2402 rfl rfl rfl rfl rfl) (by decide) (SF12_in e5) rfl ?_
  rcases m_ifd h with ⟨c7, h⟩ | ⟨c7, h⟩
  · refine g_ifcn (t := 22) rfl (m_neF c7) ?_
    refine g_in eF12_noLot_18 mx2427 ?_
    refine g_ch [(0, .ref x0), (1, .int x1)] [.int 1] (pc' := 19) rfl rfl rfl ?_
    refine g_goto (t := 23) rfl ?_
    refine g_in eF12_noLot_23 mx2427 ?_
    cases h
    rw [k0 _ hK]
    exact g_iret rfl (by decide +kernel)
  · refine g_ifc (t := 22) rfl (m_neT c7) ?_
    refine g_in eF12_noLot_22 mx2427 ?_
    refine g_ch [(0, .ref x0), (1, .int x1)] [.int 0] (pc' := 23) rfl rfl rfl ?_
    refine g_end ?_
    refine g_in eF12_noLot_23 mx2427 ?_
    cases h
    rw [k0 _ hK]
    exact g_iret rfl (by decide +kernel)
theorem OF12_noLot {x0 : Nat} {x1 : Int32} {hp : m_H} {x : Int32} (h : F12_noLot x0 x1 hp = some x) : m_isO hp 9 x0 = true := (m_gdd h).1
theorem SF12_noLot {xs : Nat → Int32} {L : Nat} {x0 : Nat} {x1 : Int32} {hp : m_H} {x : Int32} (h : F12_noLot x0 x1 hp = some x) : m_Rn xs L 1 2427 0 (lv_args 0 [.ref x0, .int x1]) [] hp (.inl (some (.int x)), hp) :=
  r_lv (SF12_noLot_0 x0 x1 hp (K := fun y => y = x) (fun y e => by rw [e]) (m_gdd h).2 rfl) rfl ⟨rfl, rfl, trivial⟩
-- F12_begins: LendHouseModel.begins(IIII)I
theorem eF12_begins_0 : m_Fe mi12_28 0 (m_ap [(.aload_n 0, 1)] ((.getfield 14, 3) :: (m_ap [(.sipush 807, 3)] ((.iaload, 1) :: (m_ap [(.istore 5, 2), (.aload_n 0, 1)] ((.getfield 14, 3) :: (m_ap [(.sipush 807, 3), (.dup2, 1)] ((.iaload, 1) :: (m_ap [(.iconst 1, 1), (.iadd, 1)] ((.iastore, 1) :: (m_ap [(.iconst 0, 1), (.istore 6, 2)] ([])))))))))))) := m_Fe_of nd2428 0 15 rfl
theorem eF12_begins_25 : m_Fe mi12_28 25 (m_ap [(.iload 6, 2), (.bipush 21, 2)] ([(.if_icmp .ge 22, 3)])) := m_Fe_of nd2428 15 3 rfl
theorem eF12_begins_51 : m_Fe mi12_28 51 (m_ap [(.aload_n 0, 1)] ((.getfield 14, 3) :: (m_ap [(.iload 5, 2), (.iconst 0, 1)] ((.invokestatic 112, 3) :: (m_ap [(.iload_n 1, 1)] ((.iastore, 1) :: (m_ap [(.aload_n 0, 1)] ((.getfield 14, 3) :: (m_ap [(.iload 5, 2), (.iconst 1, 1)] ((.invokestatic 112, 3) :: (m_ap [(.iload_n 2, 1)] ((.iastore, 1) :: (m_ap [(.aload_n 0, 1)] ((.getfield 14, 3) :: (m_ap [(.iload 5, 2), (.iconst 2, 1)] ((.invokestatic 112, 3) :: (m_ap [(.iload_n 3, 1)] ((.iastore, 1) :: (m_ap [(.aload_n 0, 1)] ((.getfield 14, 3) :: (m_ap [(.iload 5, 2), (.bipush 6, 2)] ((.invokestatic 112, 3) :: (m_ap [(.iconst (-1), 1)] ((.iastore, 1) :: (m_ap [(.aload_n 0, 1)] ((.getfield 14, 3) :: (m_ap [(.iload 5, 2), (.bipush 8, 2)] ((.invokestatic 112, 3) :: (m_ap [(.iconst (-1), 1)] ((.iastore, 1) :: (m_ap [(.aload_n 0, 1)] ((.getfield 14, 3) :: (m_ap [(.iload 5, 2), (.bipush 10, 2), (.iload 4, 2), (.iadd, 1)] ((.invokestatic 112, 3) :: (m_ap [(.iload_n 2, 1)] ((.iastore, 1) :: (m_ap [(.iload 5, 2)] ([(.ireturn, 1)])))))))))))))))))))))))))))))))))))))) := m_Fe_of nd2428 27 46 rfl
theorem eF12_begins_32 : m_Fe mi12_28 32 (m_ap [(.aload_n 0, 1)] ((.getfield 14, 3) :: (m_ap [(.iload 5, 2), (.iload 6, 2)] ((.invokestatic 112, 3) :: (m_ap [(.iconst 0, 1)] ((.iastore, 1) :: (m_ap [(.iinc 6 1, 3)] ([(.goto (-23), 3)])))))))) := m_Fe_of nd2428 18 9 rfl
theorem SF12_begins_25b {xs : Nat → Int32} {L : Nat} (x0 : Nat) (x1 : Int32) (x2 : Int32) (x3 : Int32) (x4 : Int32) (x5 : Int32) (s : Int32 × m_H) {r : m_O × m_H} {K : ((Int32 × m_H) ⊕ (Int32 × m_H)) → Prop} (k0 : ∀ x, K (.inr x) → r = (.inl (some (.int x.1)), x.2)) (k1 : ∀ s, K (.inl s) → m_Rn xs L 1 2428 25 [(0, .ref x0), (1, .int x1), (2, .int x2), (3, .int x3), (4, .int x4), (5, .int x5), (6, .int s.1)] [] s.2 r) {t : (Int32 × m_H) ⊕ (Int32 × m_H)} (h : F12_begins_25b x0 x1 x2 x3 x4 x5 s = some t) (hK : K t) : m_Rn xs L 1 2428 25 [(0, .ref x0), (1, .int x1), (2, .int x2), (3, .int x3), (4, .int x4), (5, .int x5), (6, .int s.1)] [] s.2 r := by
  unfold F12_begins_25b at h
  refine g_in eF12_begins_25 mx2428 ?_
  refine g_ch [(0, .ref x0), (1, .int x1), (2, .int x2), (3, .int x3), (4, .int x4), (5, .int x5), (6, .int s.1)] [.int 21, .int s.1] (pc' := 29) rfl rfl rfl ?_
  rcases m_ifd h with ⟨c1, h⟩ | ⟨c1, h⟩
  · refine g_if (t := 51) rfl (m_geT c1) ?_
    refine g_in eF12_begins_51 mx2428 ?_
    refine g_ch [(0, .ref x0), (1, .int x1), (2, .int x2), (3, .int x3), (4, .int x4), (5, .int x5), (6, .int s.1)] [.ref x0] (pc' := 52) rfl rfl rfl ?_
    obtain ⟨v2, e3, h⟩ := m_bd h
    refine g_gr q12_f14 e3 ?_
    refine g_ch [(0, .ref x0), (1, .int x1), (2, .int x2), (3, .int x3), (4, .int x4), (5, .int x5), (6, .int s.1)] [.int 0, .int x5, .ref v2] (pc' := 58) rfl rfl rfl ?_
    obtain ⟨v5, e4, h⟩ := m_bd h
    refine g_call (v := some (.int v5)) (h := s.2) (st' := [.int v5, .ref v2]) (D1 := 0) (as := [.int x5, .int 0]) (Or.inl rfl) q12_m112 (m_cs (as := [.int 0, .int x5]) (rest := [.ref v2]) q12_m112 jv2425 rfl rfl rfl rfl rfl) (by decide) (SF12_lotAt e4) rfl ?_
    refine g_ch [(0, .ref x0), (1, .int x1), (2, .int x2), (3, .int x3), (4, .int x4), (5, .int x5), (6, .int s.1)] [.int x1, .int v5, .ref v2] (pc' := 62) rfl rfl rfl ?_
    obtain ⟨h6, e7, h⟩ := m_bd h
    refine g_is e7 ?_
    refine g_ch [(0, .ref x0), (1, .int x1), (2, .int x2), (3, .int x3), (4, .int x4), (5, .int x5), (6, .int s.1)] [.ref x0] (pc' := 64) rfl rfl rfl ?_
    obtain ⟨v8, e9, h⟩ := m_bd h
    refine g_gr q12_f14 e9 ?_
    refine g_ch [(0, .ref x0), (1, .int x1), (2, .int x2), (3, .int x3), (4, .int x4), (5, .int x5), (6, .int s.1)] [.int 1, .int x5, .ref v8] (pc' := 70) rfl rfl rfl ?_
    obtain ⟨v11, e10, h⟩ := m_bd h
    refine g_call (v := some (.int v11)) (h := h6) (st' := [.int v11, .ref v8]) (D1 := 0) (as := [.int x5, .int 1]) (Or.inl rfl) q12_m112 (m_cs (as := [.int 1, .int x5]) (rest := [.ref v8]) q12_m112 jv2425 rfl rfl rfl rfl rfl) (by decide) (SF12_lotAt e10) rfl ?_
    refine g_ch [(0, .ref x0), (1, .int x1), (2, .int x2), (3, .int x3), (4, .int x4), (5, .int x5), (6, .int s.1)] [.int x2, .int v11, .ref v8] (pc' := 74) rfl rfl rfl ?_
    obtain ⟨h12, e13, h⟩ := m_bd h
    refine g_is e13 ?_
    refine g_ch [(0, .ref x0), (1, .int x1), (2, .int x2), (3, .int x3), (4, .int x4), (5, .int x5), (6, .int s.1)] [.ref x0] (pc' := 76) rfl rfl rfl ?_
    obtain ⟨v14, e15, h⟩ := m_bd h
    refine g_gr q12_f14 e15 ?_
    refine g_ch [(0, .ref x0), (1, .int x1), (2, .int x2), (3, .int x3), (4, .int x4), (5, .int x5), (6, .int s.1)] [.int 2, .int x5, .ref v14] (pc' := 82) rfl rfl rfl ?_
    obtain ⟨v17, e16, h⟩ := m_bd h
    refine g_call (v := some (.int v17)) (h := h12) (st' := [.int v17, .ref v14]) (D1 := 0) (as := [.int x5, .int 2]) (Or.inl rfl) q12_m112 (m_cs (as := [.int 2, .int x5]) (rest := [.ref v14]) q12_m112 jv2425 rfl rfl rfl rfl rfl) (by decide) (SF12_lotAt e16) rfl ?_
    refine g_ch [(0, .ref x0), (1, .int x1), (2, .int x2), (3, .int x3), (4, .int x4), (5, .int x5), (6, .int s.1)] [.int x3, .int v17, .ref v14] (pc' := 86) rfl rfl rfl ?_
    obtain ⟨h18, e19, h⟩ := m_bd h
    refine g_is e19 ?_
    refine g_ch [(0, .ref x0), (1, .int x1), (2, .int x2), (3, .int x3), (4, .int x4), (5, .int x5), (6, .int s.1)] [.ref x0] (pc' := 88) rfl rfl rfl ?_
    obtain ⟨v20, e21, h⟩ := m_bd h
    refine g_gr q12_f14 e21 ?_
    refine g_ch [(0, .ref x0), (1, .int x1), (2, .int x2), (3, .int x3), (4, .int x4), (5, .int x5), (6, .int s.1)] [.int 6, .int x5, .ref v20] (pc' := 95) rfl rfl rfl ?_
    obtain ⟨v23, e22, h⟩ := m_bd h
    refine g_call (v := some (.int v23)) (h := h18) (st' := [.int v23, .ref v20]) (D1 := 0) (as := [.int x5, .int 6]) (Or.inl rfl) q12_m112 (m_cs (as := [.int 6, .int x5]) (rest := [.ref v20]) q12_m112 jv2425 rfl rfl rfl rfl rfl) (by decide) (SF12_lotAt e22) rfl ?_
    refine g_ch [(0, .ref x0), (1, .int x1), (2, .int x2), (3, .int x3), (4, .int x4), (5, .int x5), (6, .int s.1)] [.int (-1), .int v23, .ref v20] (pc' := 99) rfl rfl rfl ?_
    obtain ⟨h24, e25, h⟩ := m_bd h
    refine g_is e25 ?_
    refine g_ch [(0, .ref x0), (1, .int x1), (2, .int x2), (3, .int x3), (4, .int x4), (5, .int x5), (6, .int s.1)] [.ref x0] (pc' := 101) rfl rfl rfl ?_
    obtain ⟨v26, e27, h⟩ := m_bd h
    refine g_gr q12_f14 e27 ?_
    refine g_ch [(0, .ref x0), (1, .int x1), (2, .int x2), (3, .int x3), (4, .int x4), (5, .int x5), (6, .int s.1)] [.int 8, .int x5, .ref v26] (pc' := 108) rfl rfl rfl ?_
    obtain ⟨v29, e28, h⟩ := m_bd h
    refine g_call (v := some (.int v29)) (h := h24) (st' := [.int v29, .ref v26]) (D1 := 0) (as := [.int x5, .int 8]) (Or.inl rfl) q12_m112 (m_cs (as := [.int 8, .int x5]) (rest := [.ref v26]) q12_m112 jv2425 rfl rfl rfl rfl rfl) (by decide) (SF12_lotAt e28) rfl ?_
    refine g_ch [(0, .ref x0), (1, .int x1), (2, .int x2), (3, .int x3), (4, .int x4), (5, .int x5), (6, .int s.1)] [.int (-1), .int v29, .ref v26] (pc' := 112) rfl rfl rfl ?_
    obtain ⟨h30, e31, h⟩ := m_bd h
    refine g_is e31 ?_
    refine g_ch [(0, .ref x0), (1, .int x1), (2, .int x2), (3, .int x3), (4, .int x4), (5, .int x5), (6, .int s.1)] [.ref x0] (pc' := 114) rfl rfl rfl ?_
    obtain ⟨v32, e33, h⟩ := m_bd h
    refine g_gr q12_f14 e33 ?_
    refine g_ch [(0, .ref x0), (1, .int x1), (2, .int x2), (3, .int x3), (4, .int x4), (5, .int x5), (6, .int s.1)] [.int (10 + x4), .int x5, .ref v32] (pc' := 124) rfl rfl rfl ?_
    obtain ⟨v35, e34, h⟩ := m_bd h
    refine g_call (v := some (.int v35)) (h := h30) (st' := [.int v35, .ref v32]) (D1 := 0) (as := [.int x5, .int (10 + x4)]) (Or.inl rfl) q12_m112 (m_cs (as := [.int (10 + x4), .int x5]) (rest := [.ref v32]) q12_m112 jv2425 rfl rfl rfl rfl rfl) (by decide) (SF12_lotAt e34) rfl ?_
    refine g_ch [(0, .ref x0), (1, .int x1), (2, .int x2), (3, .int x3), (4, .int x4), (5, .int x5), (6, .int s.1)] [.int x2, .int v35, .ref v32] (pc' := 128) rfl rfl rfl ?_
    obtain ⟨h36, e37, h⟩ := m_bd h
    refine g_is e37 ?_
    refine g_ch [(0, .ref x0), (1, .int x1), (2, .int x2), (3, .int x3), (4, .int x4), (5, .int x5), (6, .int s.1)] [.int x5] (pc' := 131) rfl rfl rfl ?_
    cases h
    rw [k0 _ hK]
    exact g_iret rfl rfl
  · refine g_ifn (t := 51) rfl (m_geF c1) ?_
    refine g_in eF12_begins_32 mx2428 ?_
    refine g_ch [(0, .ref x0), (1, .int x1), (2, .int x2), (3, .int x3), (4, .int x4), (5, .int x5), (6, .int s.1)] [.ref x0] (pc' := 33) rfl rfl rfl ?_
    obtain ⟨v38, e39, h⟩ := m_bd h
    refine g_gr q12_f14 e39 ?_
    refine g_ch [(0, .ref x0), (1, .int x1), (2, .int x2), (3, .int x3), (4, .int x4), (5, .int x5), (6, .int s.1)] [.int s.1, .int x5, .ref v38] (pc' := 40) rfl rfl rfl ?_
    obtain ⟨v41, e40, h⟩ := m_bd h
    refine g_call (v := some (.int v41)) (h := s.2) (st' := [.int v41, .ref v38]) (D1 := 0) (as := [.int x5, .int s.1]) (Or.inl rfl) q12_m112 (m_cs (as := [.int s.1, .int x5]) (rest := [.ref v38]) q12_m112 jv2425 rfl rfl rfl rfl rfl) (by decide) (SF12_lotAt e40) rfl ?_
    refine g_ch [(0, .ref x0), (1, .int x1), (2, .int x2), (3, .int x3), (4, .int x4), (5, .int x5), (6, .int s.1)] [.int 0, .int v41, .ref v38] (pc' := 44) rfl rfl rfl ?_
    obtain ⟨h42, e43, h⟩ := m_bd h
    refine g_is e43 ?_
    refine g_ch [(6, .int (s.1 + 1)), (0, .ref x0), (1, .int x1), (2, .int x2), (3, .int x3), (4, .int x4), (5, .int x5)] [] (pc' := 48) rfl rfl rfl ?_
    refine g_goto (t := 25) rfl ?_
    cases h
    exact r_lv (k1 ((s.1 + 1), h42) hK) rfl ⟨rfl, rfl, rfl, rfl, rfl, rfl, rfl, trivial⟩
theorem SF12_begins_25 {xs : Nat → Int32} {L : Nat} (x0 : Nat) (x1 : Int32) (x2 : Int32) (x3 : Int32) (x4 : Int32) (x5 : Int32) (x6 : Int32) (hp : m_H) {r : m_O × m_H} {K : Int32 × m_H → Prop} (k0 : ∀ x, K x → r = (.inl (some (.int x.1)), x.2)) {t : Int32 × m_H} (h : F12_begins_25 x0 x1 x2 x3 x4 x5 x6 hp = some t) (hK : K t) : m_Rn xs L 1 2428 25 [(0, .ref x0), (1, .int x1), (2, .int x2), (3, .int x3), (4, .int x4), (5, .int x5), (6, .int x6)] [] hp r :=
  m_wh_ok (P := fun s => m_Rn xs L 1 2428 25 [(0, .ref x0), (1, .int x1), (2, .int x2), (3, .int x3), (4, .int x4), (5, .int x5), (6, .int s.1)] [] s.2 r) (Q := K) (fun s t hb hK => SF12_begins_25b x0 x1 x2 x3 x4 x5 s (K := m_KK (fun s => m_Rn xs L 1 2428 25 [(0, .ref x0), (1, .int x1), (2, .int x2), (3, .int x3), (4, .int x4), (5, .int x5), (6, .int s.1)] [] s.2 r) K) k0 (fun _ q => q) hb hK) m_N _ _ h hK
theorem SF12_begins_0 {xs : Nat → Int32} {L : Nat} (x0 : Nat) (x1 : Int32) (x2 : Int32) (x3 : Int32) (x4 : Int32) (hp : m_H) {r : m_O × m_H} {K : (Int32 × m_H) → Prop} (k0 : ∀ x, K x → r = (.inl (some (.int x.1)), x.2)) {t : Int32 × m_H} (h : F12_begins_0 x0 x1 x2 x3 x4 hp = some t) (hK : K t) : m_Rn xs L 1 2428 0 [(0, .ref x0), (1, .int x1), (2, .int x2), (3, .int x3), (4, .int x4)] [] hp r := by
  unfold F12_begins_0 at h
  refine g_in eF12_begins_0 mx2428 ?_
  refine g_ch [(0, .ref x0), (1, .int x1), (2, .int x2), (3, .int x3), (4, .int x4)] [.ref x0] (pc' := 1) rfl rfl rfl ?_
  obtain ⟨v1, e2, h⟩ := m_bd h
  refine g_gr q12_f14 e2 ?_
  refine g_ch [(0, .ref x0), (1, .int x1), (2, .int x2), (3, .int x3), (4, .int x4)] [.int 807, .ref v1] (pc' := 7) rfl rfl rfl ?_
  obtain ⟨v3, e4, h⟩ := m_bd h
  refine g_ia e4 ?_
  refine g_ch [(5, .int v3), (0, .ref x0), (1, .int x1), (2, .int x2), (3, .int x3), (4, .int x4)] [.ref x0] (pc' := 11) rfl rfl rfl ?_
  obtain ⟨v5, e6, h⟩ := m_bd h
  refine g_gr q12_f14 e6 ?_
  refine g_ch [(5, .int v3), (0, .ref x0), (1, .int x1), (2, .int x2), (3, .int x3), (4, .int x4)] [.int 807, .ref v5, .int 807, .ref v5] (pc' := 18) rfl rfl rfl ?_
  obtain ⟨v7, e8, h⟩ := m_bd h
  refine g_ia e8 ?_
  refine g_ch [(5, .int v3), (0, .ref x0), (1, .int x1), (2, .int x2), (3, .int x3), (4, .int x4)] [.int (v7 + 1), .int 807, .ref v5] (pc' := 21) rfl rfl rfl ?_
  obtain ⟨h9, e10, h⟩ := m_bd h
  refine g_is e10 ?_
  refine g_ch [(6, .int 0), (5, .int v3), (0, .ref x0), (1, .int x1), (2, .int x2), (3, .int x3), (4, .int x4)] [] (pc' := 25) rfl rfl rfl ?_
  refine g_end ?_
  exact r_lv (SF12_begins_25 x0 x1 x2 x3 x4 v3 0 h9 (K := K) k0 h hK) rfl ⟨rfl, rfl, rfl, rfl, rfl, rfl, rfl, trivial⟩
theorem OF12_begins {x0 : Nat} {x1 : Int32} {x2 : Int32} {x3 : Int32} {x4 : Int32} {hp : m_H} {x : Int32 × m_H} (h : F12_begins x0 x1 x2 x3 x4 hp = some x) : m_isO hp 9 x0 = true := (m_gdd h).1
theorem SF12_begins {xs : Nat → Int32} {L : Nat} {x0 : Nat} {x1 : Int32} {x2 : Int32} {x3 : Int32} {x4 : Int32} {hp : m_H} {x : Int32 × m_H} (h : F12_begins x0 x1 x2 x3 x4 hp = some x) : m_Rn xs L 1 2428 0 (lv_args 0 [.ref x0, .int x1, .int x2, .int x3, .int x4]) [] hp (.inl (some (.int x.1)), x.2) :=
  r_lv (SF12_begins_0 x0 x1 x2 x3 x4 hp (K := fun y => y = x) (fun y e => by rw [e]) (m_gdd h).2 rfl) rfl ⟨rfl, rfl, rfl, rfl, rfl, trivial⟩
-- F12_moves: LendHouseModel.moves(IIII)V
theorem eF12_moves_0 : m_Fe mi12_29 0 (m_ap [(.aload_n 0, 1)] ((.getfield 14, 3) :: (m_ap [(.iload_n 1, 1), (.bipush 10, 2), (.iload_n 2, 1), (.iadd, 1)] ((.invokestatic 112, 3) :: (m_ap [(.dup2, 1)] ((.iaload, 1) :: (m_ap [(.iload 4, 2), (.isub, 1)] ((.iastore, 1) :: (m_ap [(.aload_n 0, 1)] ((.getfield 14, 3) :: (m_ap [(.iload_n 1, 1), (.bipush 10, 2), (.iload_n 3, 1), (.iadd, 1)] ((.invokestatic 112, 3) :: (m_ap [(.dup2, 1)] ((.iaload, 1) :: (m_ap [(.iload 4, 2), (.iadd, 1)] ((.iastore, 1) :: ([(.return_, 1)]))))))))))))))))) := m_Fe_of nd2429 0 25 rfl
theorem SF12_moves_0 {xs : Nat → Int32} {L : Nat} (x0 : Nat) (x1 : Int32) (x2 : Int32) (x3 : Int32) (x4 : Int32) (hp : m_H) {r : m_O × m_H} {K : m_H → Prop} (k0 : ∀ x, K x → r = (.inl none, x)) {t : m_H} (h : F12_moves_0 x0 x1 x2 x3 x4 hp = some t) (hK : K t) : m_Rn xs L 1 2429 0 [(0, .ref x0), (1, .int x1), (2, .int x2), (3, .int x3), (4, .int x4)] [] hp r := by
  unfold F12_moves_0 at h
  refine g_in eF12_moves_0 mx2429 ?_
  refine g_ch [(0, .ref x0), (1, .int x1), (2, .int x2), (3, .int x3), (4, .int x4)] [.ref x0] (pc' := 1) rfl rfl rfl ?_
  obtain ⟨v1, e2, h⟩ := m_bd h
  refine g_gr q12_f14 e2 ?_
  refine g_ch [(0, .ref x0), (1, .int x1), (2, .int x2), (3, .int x3), (4, .int x4)] [.int (10 + x2), .int x1, .ref v1] (pc' := 9) rfl rfl rfl ?_
  obtain ⟨v4, e3, h⟩ := m_bd h
  refine g_call (v := some (.int v4)) (h := hp) (st' := [.int v4, .ref v1]) (D1 := 0) (as := [.int x1, .int (10 + x2)]) (Or.inl rfl) q12_m112 (m_cs (as := [.int (10 + x2), .int x1]) (rest := [.ref v1]) q12_m112 jv2425 rfl rfl rfl rfl rfl) (by decide) (SF12_lotAt e3) rfl ?_
  refine g_ch [(0, .ref x0), (1, .int x1), (2, .int x2), (3, .int x3), (4, .int x4)] [.int v4, .ref v1, .int v4, .ref v1] (pc' := 13) rfl rfl rfl ?_
  obtain ⟨v5, e6, h⟩ := m_bd h
  refine g_ia e6 ?_
  refine g_ch [(0, .ref x0), (1, .int x1), (2, .int x2), (3, .int x3), (4, .int x4)] [.int (v5 - x4), .int v4, .ref v1] (pc' := 17) rfl rfl rfl ?_
  obtain ⟨h7, e8, h⟩ := m_bd h
  refine g_is e8 ?_
  refine g_ch [(0, .ref x0), (1, .int x1), (2, .int x2), (3, .int x3), (4, .int x4)] [.ref x0] (pc' := 19) rfl rfl rfl ?_
  obtain ⟨v9, e10, h⟩ := m_bd h
  refine g_gr q12_f14 e10 ?_
  refine g_ch [(0, .ref x0), (1, .int x1), (2, .int x2), (3, .int x3), (4, .int x4)] [.int (10 + x3), .int x1, .ref v9] (pc' := 27) rfl rfl rfl ?_
  obtain ⟨v12, e11, h⟩ := m_bd h
  refine g_call (v := some (.int v12)) (h := h7) (st' := [.int v12, .ref v9]) (D1 := 0) (as := [.int x1, .int (10 + x3)]) (Or.inl rfl) q12_m112 (m_cs (as := [.int (10 + x3), .int x1]) (rest := [.ref v9]) q12_m112 jv2425 rfl rfl rfl rfl rfl) (by decide) (SF12_lotAt e11) rfl ?_
  refine g_ch [(0, .ref x0), (1, .int x1), (2, .int x2), (3, .int x3), (4, .int x4)] [.int v12, .ref v9, .int v12, .ref v9] (pc' := 31) rfl rfl rfl ?_
  obtain ⟨v13, e14, h⟩ := m_bd h
  refine g_ia e14 ?_
  refine g_ch [(0, .ref x0), (1, .int x1), (2, .int x2), (3, .int x3), (4, .int x4)] [.int (v13 + x4), .int v12, .ref v9] (pc' := 35) rfl rfl rfl ?_
  obtain ⟨h15, e16, h⟩ := m_bd h
  refine g_is e16 ?_
  cases h
  rw [k0 _ hK]
  exact g_vret rfl
theorem OF12_moves {x0 : Nat} {x1 : Int32} {x2 : Int32} {x3 : Int32} {x4 : Int32} {hp : m_H} {x : m_H} (h : F12_moves x0 x1 x2 x3 x4 hp = some x) : m_isO hp 9 x0 = true := (m_gdd h).1
theorem SF12_moves {xs : Nat → Int32} {L : Nat} {x0 : Nat} {x1 : Int32} {x2 : Int32} {x3 : Int32} {x4 : Int32} {hp : m_H} {x : m_H} (h : F12_moves x0 x1 x2 x3 x4 hp = some x) : m_Rn xs L 1 2429 0 (lv_args 0 [.ref x0, .int x1, .int x2, .int x3, .int x4]) [] hp (.inl none, x) :=
  r_lv (SF12_moves_0 x0 x1 x2 x3 x4 hp (K := fun y => y = x) (fun y e => by rw [e]) (m_gdd h).2 rfl) rfl ⟨rfl, rfl, rfl, rfl, rfl, trivial⟩
-- F12_isStock: LendHouseModel.isStock(I)Z
theorem eF12_isStock_0 : m_Fe mi12_30 0 (m_ap [(.aload_n 0, 1), (.iload_n 1, 1), (.iconst 2, 1)] ((.invokevirtual 115, 3) :: ([(.ifCond .ne 7, 3)]))) := m_Fe_of nd2430 0 5 rfl
theorem eF12_isStock_13 : m_Fe mi12_30 13 (m_ap [(.iconst 0, 1)] ([])) := m_Fe_of nd2430 7 1 rfl
theorem eF12_isStock_14 : m_Fe mi12_30 14 ([(.ireturn, 1)]) := m_Fe_of nd2430 8 1 rfl
theorem eF12_isStock_9 : m_Fe mi12_30 9 (m_ap [(.iconst 1, 1)] ([(.goto 4, 3)])) := m_Fe_of nd2430 5 2 rfl
theorem SF12_isStock_0 {xs : Nat → Int32} {L : Nat} (x0 : Nat) (x1 : Int32) (hp : m_H) {r : m_O × m_H} {K : Int32 → Prop} (k0 : ∀ x, K x → r = (.inl (some (.int x)), hp)) {t : Int32} (h : F12_isStock_0 x0 x1 hp = some t) (hK : K t) : m_Rn xs L 2 2430 0 [(0, .ref x0), (1, .int x1)] [] hp r := by
  unfold F12_isStock_0 at h
  refine g_in eF12_isStock_0 mx2430 ?_
  refine g_ch [(0, .ref x0), (1, .int x1)] [.int 2, .int x1, .ref x0] (pc' := 3) rfl rfl rfl ?_
  obtain ⟨v2, e1, h⟩ := m_bd h
  refine g_call (v := some (.int v2)) (h := hp) (st' := [.int v2]) (D1 := 1) (as := [.ref x0, .int x1, .int 2]) (Or.inr (Or.inl rfl)) q12_m115 (m_cv (as := [.int 2, .int x1]) (rest := []) (Or.inl rfl) q12_m115 jv2426 (OF12_of e1) rfl rfl rfl rfl) (by decide) (SF12_of e1) rfl ?_
  rcases m_ifd h with ⟨c3, h⟩ | ⟨c3, h⟩
  · refine g_ifcn (t := 13) rfl (m_neF c3) ?_
    refine g_in eF12_isStock_9 mx2430 ?_
    refine g_ch [(0, .ref x0), (1, .int x1)] [.int 1] (pc' := 10) rfl rfl rfl ?_
    refine g_goto (t := 14) rfl ?_
    refine g_in eF12_isStock_14 mx2430 ?_
    cases h
    rw [k0 _ hK]
    exact g_iret rfl (by decide +kernel)
  · refine g_ifc (t := 13) rfl (m_neT c3) ?_
    refine g_in eF12_isStock_13 mx2430 ?_
    refine g_ch [(0, .ref x0), (1, .int x1)] [.int 0] (pc' := 14) rfl rfl rfl ?_
    refine g_end ?_
    refine g_in eF12_isStock_14 mx2430 ?_
    cases h
    rw [k0 _ hK]
    exact g_iret rfl (by decide +kernel)
theorem OF12_isStock {x0 : Nat} {x1 : Int32} {hp : m_H} {x : Int32} (h : F12_isStock x0 x1 hp = some x) : m_isO hp 9 x0 = true := (m_gdd h).1
theorem SF12_isStock {xs : Nat → Int32} {L : Nat} {x0 : Nat} {x1 : Int32} {hp : m_H} {x : Int32} (h : F12_isStock x0 x1 hp = some x) : m_Rn xs L 2 2430 0 (lv_args 0 [.ref x0, .int x1]) [] hp (.inl (some (.int x)), hp) :=
  r_lv (SF12_isStock_0 x0 x1 hp (K := fun y => y = x) (fun y e => by rw [e]) (m_gdd h).2 rfl) rfl ⟨rfl, rfl, trivial⟩
-- F12_isFor: LendHouseModel.isFor(II)Z
theorem eF12_isFor_0 : m_Fe mi12_31 0 (m_ap [(.aload_n 0, 1), (.iload_n 1, 1), (.iconst 2, 1)] ((.invokevirtual 115, 3) :: (m_ap [(.iload_n 2, 1)] ([(.if_icmp .ne 16, 3)])))) := m_Fe_of nd2431 0 6 rfl
theorem eF12_isFor_23 : m_Fe mi12_31 23 (m_ap [(.iconst 0, 1)] ([])) := m_Fe_of nd2431 13 1 rfl
theorem eF12_isFor_24 : m_Fe mi12_31 24 ([(.ireturn, 1)]) := m_Fe_of nd2431 14 1 rfl
theorem eF12_isFor_10 : m_Fe mi12_31 10 (m_ap [(.aload_n 0, 1), (.iload_n 1, 1), (.iconst 3, 1)] ((.invokevirtual 115, 3) :: ([(.ifCond .ne 7, 3)]))) := m_Fe_of nd2431 6 5 rfl
theorem eF12_isFor_19 : m_Fe mi12_31 19 (m_ap [(.iconst 1, 1)] ([(.goto 4, 3)])) := m_Fe_of nd2431 11 2 rfl
theorem SF12_isFor_0 {xs : Nat → Int32} {L : Nat} (x0 : Nat) (x1 : Int32) (x2 : Int32) (hp : m_H) {r : m_O × m_H} {K : Int32 → Prop} (k0 : ∀ x, K x → r = (.inl (some (.int x)), hp)) {t : Int32} (h : F12_isFor_0 x0 x1 x2 hp = some t) (hK : K t) : m_Rn xs L 2 2431 0 [(0, .ref x0), (1, .int x1), (2, .int x2)] [] hp r := by
  unfold F12_isFor_0 at h
  refine g_in eF12_isFor_0 mx2431 ?_
  refine g_ch [(0, .ref x0), (1, .int x1), (2, .int x2)] [.int 2, .int x1, .ref x0] (pc' := 3) rfl rfl rfl ?_
  obtain ⟨v2, e1, h⟩ := m_bd h
  refine g_call (v := some (.int v2)) (h := hp) (st' := [.int v2]) (D1 := 1) (as := [.ref x0, .int x1, .int 2]) (Or.inr (Or.inl rfl)) q12_m115 (m_cv (as := [.int 2, .int x1]) (rest := []) (Or.inl rfl) q12_m115 jv2426 (OF12_of e1) rfl rfl rfl rfl) (by decide) (SF12_of e1) rfl ?_
  refine g_ch [(0, .ref x0), (1, .int x1), (2, .int x2)] [.int x2, .int v2] (pc' := 7) rfl rfl rfl ?_
  rcases m_ifd h with ⟨c3, h⟩ | ⟨c3, h⟩
  · refine g_ifn (t := 23) rfl (m_neF c3) ?_
    refine g_in eF12_isFor_10 mx2431 ?_
    refine g_ch [(0, .ref x0), (1, .int x1), (2, .int x2)] [.int 3, .int x1, .ref x0] (pc' := 13) rfl rfl rfl ?_
    obtain ⟨v5, e4, h⟩ := m_bd h
    refine g_call (v := some (.int v5)) (h := hp) (st' := [.int v5]) (D1 := 1) (as := [.ref x0, .int x1, .int 3]) (Or.inr (Or.inl rfl)) q12_m115 (m_cv (as := [.int 3, .int x1]) (rest := []) (Or.inl rfl) q12_m115 jv2426 (OF12_of e4) rfl rfl rfl rfl) (by decide) (SF12_of e4) rfl ?_
    rcases m_ifd h with ⟨c6, h⟩ | ⟨c6, h⟩
    · refine g_ifcn (t := 23) rfl (m_neF c6) ?_
      refine g_in eF12_isFor_19 mx2431 ?_
      refine g_ch [(0, .ref x0), (1, .int x1), (2, .int x2)] [.int 1] (pc' := 20) rfl rfl rfl ?_
      refine g_goto (t := 24) rfl ?_
      refine g_in eF12_isFor_24 mx2431 ?_
      cases h
      rw [k0 _ hK]
      exact g_iret rfl (by decide +kernel)
    · refine g_ifc (t := 23) rfl (m_neT c6) ?_
      refine g_in eF12_isFor_23 mx2431 ?_
      refine g_ch [(0, .ref x0), (1, .int x1), (2, .int x2)] [.int 0] (pc' := 24) rfl rfl rfl ?_
      refine g_end ?_
      refine g_in eF12_isFor_24 mx2431 ?_
      cases h
      rw [k0 _ hK]
      exact g_iret rfl (by decide +kernel)
  · refine g_if (t := 23) rfl (m_neT c3) ?_
    refine g_in eF12_isFor_23 mx2431 ?_
    refine g_ch [(0, .ref x0), (1, .int x1), (2, .int x2)] [.int 0] (pc' := 24) rfl rfl rfl ?_
    refine g_end ?_
    refine g_in eF12_isFor_24 mx2431 ?_
    cases h
    rw [k0 _ hK]
    exact g_iret rfl (by decide +kernel)
theorem OF12_isFor {x0 : Nat} {x1 : Int32} {x2 : Int32} {hp : m_H} {x : Int32} (h : F12_isFor x0 x1 x2 hp = some x) : m_isO hp 9 x0 = true := (m_gdd h).1
theorem SF12_isFor {xs : Nat → Int32} {L : Nat} {x0 : Nat} {x1 : Int32} {x2 : Int32} {hp : m_H} {x : Int32} (h : F12_isFor x0 x1 x2 hp = some x) : m_Rn xs L 2 2431 0 (lv_args 0 [.ref x0, .int x1, .int x2]) [] hp (.inl (some (.int x)), hp) :=
  r_lv (SF12_isFor_0 x0 x1 x2 hp (K := fun y => y = x) (fun y e => by rw [e]) (m_gdd h).2 rfl) rfl ⟨rfl, rfl, rfl, trivial⟩
-- F12_order: LendHouseModel.order(II)I
theorem eF12_order_0 : m_Fe mi12_32 0 (m_ap [(.aload_n 0, 1), (.iconst 0, 1)] ((.putfield 3, 3) :: (m_ap [(.aload_n 0, 1), (.iload_n 1, 1)] ((.invokestatic 78, 3) :: (m_ap [(.iconst 1, 1)] ((.invokevirtual 82, 3) :: ([(.ifCond .ne 65, 3)]))))))) := m_Fe_of nd2432 0 9 rfl
theorem eF12_order_79 : m_Fe mi12_32 79 (m_ap [(.iconst 0, 1)] ([(.ireturn, 1)])) := m_Fe_of nd2432 40 2 rfl
theorem eF12_order_17 : m_Fe mi12_32 17 (m_ap [(.aload_n 0, 1), (.iload_n 2, 1), (.iconst 1, 1), (.sipush 1000, 3)] ((.invokestatic 74, 3) :: ([(.ifCond .ne 7, 3)]))) := m_Fe_of nd2432 9 6 rfl
theorem eF12_order_33 : m_Fe mi12_32 33 (m_ap [(.iconst 0, 1)] ([])) := m_Fe_of nd2432 17 1 rfl
theorem eF12_order_29 : m_Fe mi12_32 29 (m_ap [(.iconst 1, 1)] ([(.goto 4, 3)])) := m_Fe_of nd2432 15 2 rfl
theorem eF12_order_34 : m_Fe mi12_32 34 (m_ap [(.iconst 2, 1)] ((.invokevirtual 82, 3) :: ([(.ifCond .ne 41, 3)]))) := m_Fe_of nd2432 18 3 rfl
theorem eF12_order_41 : m_Fe mi12_32 41 (m_ap [(.aload_n 0, 1), (.aload_n 0, 1)] ((.getfield 14, 3) :: (m_ap [(.sipush 807, 3)] ((.iaload, 1) :: (m_ap [(.bipush 100, 2)] ([(.if_icmp .ne 7, 3)])))))) := m_Fe_of nd2432 21 7 rfl
theorem eF12_order_59 : m_Fe mi12_32 59 (m_ap [(.iconst 0, 1)] ([])) := m_Fe_of nd2432 30 1 rfl
theorem eF12_order_55 : m_Fe mi12_32 55 (m_ap [(.iconst 1, 1)] ([(.goto 4, 3)])) := m_Fe_of nd2432 28 2 rfl
theorem eF12_order_60 : m_Fe mi12_32 60 (m_ap [(.iconst 3, 1)] ((.invokevirtual 82, 3) :: ([(.ifCond .ne 15, 3)]))) := m_Fe_of nd2432 31 3 rfl
theorem eF12_order_67 : m_Fe mi12_32 67 (m_ap [(.aload_n 0, 1), (.aload_n 0, 1)] ((.invokevirtual 118, 3) :: (m_ap [(.iconst 4, 1)] ((.invokevirtual 82, 3) :: ([(.ifCond .eq 5, 3)]))))) := m_Fe_of nd2432 34 6 rfl
theorem eF12_order_81 : m_Fe mi12_32 81 (m_ap [(.aload_n 0, 1), (.iload_n 1, 1), (.iload_n 2, 1), (.iconst 0, 1), (.iconst 0, 1)] ((.invokevirtual 122, 3) :: ([(.ireturn, 1)]))) := m_Fe_of nd2432 42 7 rfl
theorem SF12_order_60 {xs : Nat → Int32} {L : Nat} (x0 : Nat) (x1 : Int32) (x2 : Int32) (s0 : Int32) (s1 : Nat) (hp : m_H) {r : m_O × m_H} {K : (Int32 × m_H) → Prop} (k0 : ∀ x, K x → r = (.inl (some (.int x.1)), x.2)) {t : Int32 × m_H} (h : F12_order_60 x0 x1 x2 s0 s1 hp = some t) (hK : K t) : m_Rn xs L 2 2432 60 [(0, .ref x0), (1, .int x1), (2, .int x2)] [.int s0, .ref s1] hp r := by
  unfold F12_order_60 at h
  refine g_in eF12_order_60 mx2432 ?_
  refine g_ch [(0, .ref x0), (1, .int x1), (2, .int x2)] [.int 3, .int s0, .ref s1] (pc' := 61) rfl rfl rfl ?_
  obtain ⟨z2, e1, h⟩ := m_bd h
  refine g_call (v := some (.int z2.1)) (h := z2.2) (st' := [.int z2.1]) (D1 := 0) (as := [.ref s1, .int s0, .int 3]) (Or.inr (Or.inl rfl)) q12_m82 (m_cv (as := [.int 3, .int s0]) (rest := []) (Or.inl rfl) q12_m82 jv2401 (OF12_throwsIf e1) rfl rfl rfl rfl) (by decide) (SF12_throwsIf e1) rfl ?_
  rcases m_ifd h with ⟨c3, h⟩ | ⟨c3, h⟩
  · refine g_ifcn (t := 79) rfl (m_neF c3) ?_
    refine g_in eF12_order_67 mx2432 ?_
    refine g_ch [(0, .ref x0), (1, .int x1), (2, .int x2)] [.ref x0, .ref x0] (pc' := 69) rfl rfl rfl ?_
    obtain ⟨v5, e4, h⟩ := m_bd h
    refine g_call (v := some (.int v5)) (h := z2.2) (st' := [.int v5, .ref x0]) (D1 := 0) (as := [.ref x0]) (Or.inr (Or.inl rfl)) q12_m118 (m_cv (as := []) (rest := [.ref x0]) (Or.inl rfl) q12_m118 jv2405 (OF12_isOver e4) rfl rfl rfl rfl) (by decide) (SF12_isOver e4) rfl ?_
    refine g_ch [(0, .ref x0), (1, .int x1), (2, .int x2)] [.int 4, .int v5, .ref x0] (pc' := 73) rfl rfl rfl ?_
    obtain ⟨z7, e6, h⟩ := m_bd h
    refine g_call (v := some (.int z7.1)) (h := z7.2) (st' := [.int z7.1]) (D1 := 0) (as := [.ref x0, .int v5, .int 4]) (Or.inr (Or.inl rfl)) q12_m82 (m_cv (as := [.int 4, .int v5]) (rest := []) (Or.inl rfl) q12_m82 jv2401 (OF12_throwsIf e6) rfl rfl rfl rfl) (by decide) (SF12_throwsIf e6) rfl ?_
    rcases m_ifd h with ⟨c8, h⟩ | ⟨c8, h⟩
    · refine g_ifc (t := 81) rfl (m_eqT c8) ?_
      refine g_in eF12_order_81 mx2432 ?_
      refine g_ch [(0, .ref x0), (1, .int x1), (2, .int x2)] [.int 0, .int 0, .int x2, .int x1, .ref x0] (pc' := 86) rfl rfl rfl ?_
      obtain ⟨z10, e9, h⟩ := m_bd h
      refine g_call (v := some (.int z10.1)) (h := z10.2) (st' := [.int z10.1]) (D1 := 1) (as := [.ref x0, .int x1, .int x2, .int 0, .int 0]) (Or.inr (Or.inl rfl)) q12_m122 (m_cv (as := [.int 0, .int 0, .int x2, .int x1]) (rest := []) (Or.inl rfl) q12_m122 jv2428 (OF12_begins e9) rfl rfl rfl rfl) (by decide) (SF12_begins e9) rfl ?_
      cases h
      rw [k0 _ hK]
      exact g_iret rfl rfl
    · refine g_ifcn (t := 81) rfl (m_eqF c8) ?_
      refine g_in eF12_order_79 mx2432 ?_
      refine g_ch [(0, .ref x0), (1, .int x1), (2, .int x2)] [.int 0] (pc' := 80) rfl rfl rfl ?_
      cases h
      rw [k0 _ hK]
      exact g_iret rfl rfl
  · refine g_ifc (t := 79) rfl (m_neT c3) ?_
    refine g_in eF12_order_79 mx2432 ?_
    refine g_ch [(0, .ref x0), (1, .int x1), (2, .int x2)] [.int 0] (pc' := 80) rfl rfl rfl ?_
    cases h
    rw [k0 _ hK]
    exact g_iret rfl rfl
theorem SF12_order_34 {xs : Nat → Int32} {L : Nat} (x0 : Nat) (x1 : Int32) (x2 : Int32) (s0 : Int32) (s1 : Nat) (hp : m_H) {r : m_O × m_H} {K : (Int32 × m_H) → Prop} (k0 : ∀ x, K x → r = (.inl (some (.int x.1)), x.2)) {t : Int32 × m_H} (h : F12_order_34 x0 x1 x2 s0 s1 hp = some t) (hK : K t) : m_Rn xs L 2 2432 34 [(0, .ref x0), (1, .int x1), (2, .int x2)] [.int s0, .ref s1] hp r := by
  unfold F12_order_34 at h
  refine g_in eF12_order_34 mx2432 ?_
  refine g_ch [(0, .ref x0), (1, .int x1), (2, .int x2)] [.int 2, .int s0, .ref s1] (pc' := 35) rfl rfl rfl ?_
  obtain ⟨z2, e1, h⟩ := m_bd h
  refine g_call (v := some (.int z2.1)) (h := z2.2) (st' := [.int z2.1]) (D1 := 0) (as := [.ref s1, .int s0, .int 2]) (Or.inr (Or.inl rfl)) q12_m82 (m_cv (as := [.int 2, .int s0]) (rest := []) (Or.inl rfl) q12_m82 jv2401 (OF12_throwsIf e1) rfl rfl rfl rfl) (by decide) (SF12_throwsIf e1) rfl ?_
  rcases m_ifd h with ⟨c3, h⟩ | ⟨c3, h⟩
  · refine g_ifcn (t := 79) rfl (m_neF c3) ?_
    refine g_in eF12_order_41 mx2432 ?_
    refine g_ch [(0, .ref x0), (1, .int x1), (2, .int x2)] [.ref x0, .ref x0] (pc' := 43) rfl rfl rfl ?_
    obtain ⟨v4, e5, h⟩ := m_bd h
    refine g_gr q12_f14 e5 ?_
    refine g_ch [(0, .ref x0), (1, .int x1), (2, .int x2)] [.int 807, .ref v4, .ref x0] (pc' := 49) rfl rfl rfl ?_
    obtain ⟨v6, e7, h⟩ := m_bd h
    refine g_ia e7 ?_
    refine g_ch [(0, .ref x0), (1, .int x1), (2, .int x2)] [.int 100, .int v6, .ref x0] (pc' := 52) rfl rfl rfl ?_
    rcases m_ifd h with ⟨c8, h⟩ | ⟨c8, h⟩
    · refine g_ifn (t := 59) rfl (m_neF c8) ?_
      refine g_in eF12_order_55 mx2432 ?_
      refine g_ch [(0, .ref x0), (1, .int x1), (2, .int x2)] [.int 1, .ref x0] (pc' := 56) rfl rfl rfl ?_
      refine g_goto (t := 60) rfl ?_
      exact r_lv (SF12_order_60 x0 x1 x2 1 x0 z2.2 (K := K) k0 h hK) rfl ⟨rfl, rfl, rfl, trivial⟩
    · refine g_if (t := 59) rfl (m_neT c8) ?_
      refine g_in eF12_order_59 mx2432 ?_
      refine g_ch [(0, .ref x0), (1, .int x1), (2, .int x2)] [.int 0, .ref x0] (pc' := 60) rfl rfl rfl ?_
      refine g_end ?_
      exact r_lv (SF12_order_60 x0 x1 x2 0 x0 z2.2 (K := K) k0 h hK) rfl ⟨rfl, rfl, rfl, trivial⟩
  · refine g_ifc (t := 79) rfl (m_neT c3) ?_
    refine g_in eF12_order_79 mx2432 ?_
    refine g_ch [(0, .ref x0), (1, .int x1), (2, .int x2)] [.int 0] (pc' := 80) rfl rfl rfl ?_
    cases h
    rw [k0 _ hK]
    exact g_iret rfl rfl
theorem SF12_order_0 {xs : Nat → Int32} {L : Nat} (x0 : Nat) (x1 : Int32) (x2 : Int32) (hp : m_H) {r : m_O × m_H} {K : (Int32 × m_H) → Prop} (k0 : ∀ x, K x → r = (.inl (some (.int x.1)), x.2)) {t : Int32 × m_H} (h : F12_order_0 x0 x1 x2 hp = some t) (hK : K t) : m_Rn xs L 2 2432 0 [(0, .ref x0), (1, .int x1), (2, .int x2)] [] hp r := by
  unfold F12_order_0 at h
  refine g_in eF12_order_0 mx2432 ?_
  refine g_ch [(0, .ref x0), (1, .int x1), (2, .int x2)] [.int 0, .ref x0] (pc' := 2) rfl rfl rfl ?_
  obtain ⟨h1, e2, h⟩ := m_bd h
  refine g_pf q12_f3 e2 ?_
  refine g_ch [(0, .ref x0), (1, .int x1), (2, .int x2)] [.int x1, .ref x0] (pc' := 7) rfl rfl rfl ?_
  obtain ⟨v4, e3, h⟩ := m_bd h
  refine g_call (v := some (.int v4)) (h := h1) (st' := [.int v4, .ref x0]) (D1 := 1) (as := [.int x1]) (Or.inl rfl) q12_m78 (m_cs (as := [.int x1]) (rest := [.ref x0]) q12_m78 jv2410 rfl rfl rfl rfl rfl) (by decide) (SF12_noSort e3) rfl ?_
  refine g_ch [(0, .ref x0), (1, .int x1), (2, .int x2)] [.int 1, .int v4, .ref x0] (pc' := 11) rfl rfl rfl ?_
  obtain ⟨z6, e5, h⟩ := m_bd h
  refine g_call (v := some (.int z6.1)) (h := z6.2) (st' := [.int z6.1]) (D1 := 0) (as := [.ref x0, .int v4, .int 1]) (Or.inr (Or.inl rfl)) q12_m82 (m_cv (as := [.int 1, .int v4]) (rest := []) (Or.inl rfl) q12_m82 jv2401 (OF12_throwsIf e5) rfl rfl rfl rfl) (by decide) (SF12_throwsIf e5) rfl ?_
  rcases m_ifd h with ⟨c7, h⟩ | ⟨c7, h⟩
  · refine g_ifcn (t := 79) rfl (m_neF c7) ?_
    refine g_in eF12_order_17 mx2432 ?_
    refine g_ch [(0, .ref x0), (1, .int x1), (2, .int x2)] [.int 1000, .int 1, .int x2, .ref x0] (pc' := 23) rfl rfl rfl ?_
    obtain ⟨v9, e8, h⟩ := m_bd h
    refine g_call (v := some (.int v9)) (h := z6.2) (st' := [.int v9, .ref x0]) (D1 := 0) (as := [.int x2, .int 1, .int 1000]) (Or.inl rfl) q12_m74 (m_cs (as := [.int 1000, .int 1, .int x2]) (rest := [.ref x0]) q12_m74 jv2402 rfl rfl rfl rfl rfl) (by decide) (SF12_in e8) rfl ?_
    rcases m_ifd h with ⟨c10, h⟩ | ⟨c10, h⟩
    · refine g_ifcn (t := 33) rfl (m_neF c10) ?_
      refine g_in eF12_order_29 mx2432 ?_
      refine g_ch [(0, .ref x0), (1, .int x1), (2, .int x2)] [.int 1, .ref x0] (pc' := 30) rfl rfl rfl ?_
      refine g_goto (t := 34) rfl ?_
      exact r_lv (SF12_order_34 x0 x1 x2 1 x0 z6.2 (K := K) k0 h hK) rfl ⟨rfl, rfl, rfl, trivial⟩
    · refine g_ifc (t := 33) rfl (m_neT c10) ?_
      refine g_in eF12_order_33 mx2432 ?_
      refine g_ch [(0, .ref x0), (1, .int x1), (2, .int x2)] [.int 0, .ref x0] (pc' := 34) rfl rfl rfl ?_
      refine g_end ?_
      exact r_lv (SF12_order_34 x0 x1 x2 0 x0 z6.2 (K := K) k0 h hK) rfl ⟨rfl, rfl, rfl, trivial⟩
  · refine g_ifc (t := 79) rfl (m_neT c7) ?_
    refine g_in eF12_order_79 mx2432 ?_
    refine g_ch [(0, .ref x0), (1, .int x1), (2, .int x2)] [.int 0] (pc' := 80) rfl rfl rfl ?_
    cases h
    rw [k0 _ hK]
    exact g_iret rfl rfl
theorem OF12_order {x0 : Nat} {x1 : Int32} {x2 : Int32} {hp : m_H} {x : Int32 × m_H} (h : F12_order x0 x1 x2 hp = some x) : m_isO hp 9 x0 = true := (m_gdd h).1
theorem SF12_order {xs : Nat → Int32} {L : Nat} {x0 : Nat} {x1 : Int32} {x2 : Int32} {hp : m_H} {x : Int32 × m_H} (h : F12_order x0 x1 x2 hp = some x) : m_Rn xs L 2 2432 0 (lv_args 0 [.ref x0, .int x1, .int x2]) [] hp (.inl (some (.int x.1)), x.2) :=
  r_lv (SF12_order_0 x0 x1 x2 hp (K := fun y => y = x) (fun y e => by rw [e]) (m_gdd h).2 rfl) rfl ⟨rfl, rfl, rfl, trivial⟩
-- F12_lot: LendHouseModel.lot(II)I
theorem eF12_lot_0 : m_Fe mi12_33 0 (m_ap [(.aload_n 0, 1), (.iconst 0, 1)] ((.putfield 3, 3) :: (m_ap [(.aload_n 0, 1), (.aload_n 0, 1), (.iload_n 1, 1)] ((.invokevirtual 125, 3) :: (m_ap [(.iconst 1, 1)] ((.invokevirtual 82, 3) :: ([(.ifCond .ne 26, 3)]))))))) := m_Fe_of nd2433 0 10 rfl
theorem eF12_lot_41 : m_Fe mi12_33 41 (m_ap [(.iconst 0, 1)] ([(.goto 9, 3)])) := m_Fe_of nd2433 22 2 rfl
theorem eF12_lot_51 : m_Fe mi12_33 51 ([(.ireturn, 1)]) := m_Fe_of nd2433 28 1 rfl
theorem eF12_lot_18 : m_Fe mi12_33 18 (m_ap [(.aload_n 0, 1), (.iload_n 2, 1), (.iconst 0, 1), (.bipush 18, 2)] ((.invokestatic 74, 3) :: ([(.ifCond .ne 7, 3)]))) := m_Fe_of nd2433 10 6 rfl
theorem eF12_lot_33 : m_Fe mi12_33 33 (m_ap [(.iconst 0, 1)] ([])) := m_Fe_of nd2433 18 1 rfl
theorem eF12_lot_29 : m_Fe mi12_33 29 (m_ap [(.iconst 1, 1)] ([(.goto 4, 3)])) := m_Fe_of nd2433 16 2 rfl
theorem eF12_lot_34 : m_Fe mi12_33 34 (m_ap [(.iconst 2, 1)] ((.invokevirtual 82, 3) :: ([(.ifCond .eq 7, 3)]))) := m_Fe_of nd2433 19 3 rfl
theorem eF12_lot_45 : m_Fe mi12_33 45 (m_ap [(.aload_n 0, 1), (.iload_n 1, 1), (.iload_n 2, 1)] ([(.invokevirtual 115, 3)])) := m_Fe_of nd2433 24 4 rfl
theorem SF12_lot_34 {xs : Nat → Int32} {L : Nat} (x0 : Nat) (x1 : Int32) (x2 : Int32) (s0 : Int32) (s1 : Nat) (hp : m_H) {r : m_O × m_H} {K : (Int32 × m_H) → Prop} (k0 : ∀ x, K x → r = (.inl (some (.int x.1)), x.2)) {t : Int32 × m_H} (h : F12_lot_34 x0 x1 x2 s0 s1 hp = some t) (hK : K t) : m_Rn xs L 2 2433 34 [(0, .ref x0), (1, .int x1), (2, .int x2)] [.int s0, .ref s1] hp r := by
  unfold F12_lot_34 at h
  refine g_in eF12_lot_34 mx2433 ?_
  refine g_ch [(0, .ref x0), (1, .int x1), (2, .int x2)] [.int 2, .int s0, .ref s1] (pc' := 35) rfl rfl rfl ?_
  obtain ⟨z2, e1, h⟩ := m_bd h
  refine g_call (v := some (.int z2.1)) (h := z2.2) (st' := [.int z2.1]) (D1 := 0) (as := [.ref s1, .int s0, .int 2]) (Or.inr (Or.inl rfl)) q12_m82 (m_cv (as := [.int 2, .int s0]) (rest := []) (Or.inl rfl) q12_m82 jv2401 (OF12_throwsIf e1) rfl rfl rfl rfl) (by decide) (SF12_throwsIf e1) rfl ?_
  rcases m_ifd h with ⟨c3, h⟩ | ⟨c3, h⟩
  · refine g_ifc (t := 45) rfl (m_eqT c3) ?_
    refine g_in eF12_lot_45 mx2433 ?_
    refine g_ch [(0, .ref x0), (1, .int x1), (2, .int x2)] [.int x2, .int x1, .ref x0] (pc' := 48) rfl rfl rfl ?_
    obtain ⟨v5, e4, h⟩ := m_bd h
    refine g_call (v := some (.int v5)) (h := z2.2) (st' := [.int v5]) (D1 := 1) (as := [.ref x0, .int x1, .int x2]) (Or.inr (Or.inl rfl)) q12_m115 (m_cv (as := [.int x2, .int x1]) (rest := []) (Or.inl rfl) q12_m115 jv2426 (OF12_of e4) rfl rfl rfl rfl) (by decide) (SF12_of e4) rfl ?_
    refine g_end ?_
    refine g_in eF12_lot_51 mx2433 ?_
    cases h
    rw [k0 _ hK]
    exact g_iret rfl rfl
  · refine g_ifcn (t := 45) rfl (m_eqF c3) ?_
    refine g_in eF12_lot_41 mx2433 ?_
    refine g_ch [(0, .ref x0), (1, .int x1), (2, .int x2)] [.int 0] (pc' := 42) rfl rfl rfl ?_
    refine g_goto (t := 51) rfl ?_
    refine g_in eF12_lot_51 mx2433 ?_
    cases h
    rw [k0 _ hK]
    exact g_iret rfl rfl
theorem SF12_lot_0 {xs : Nat → Int32} {L : Nat} (x0 : Nat) (x1 : Int32) (x2 : Int32) (hp : m_H) {r : m_O × m_H} {K : (Int32 × m_H) → Prop} (k0 : ∀ x, K x → r = (.inl (some (.int x.1)), x.2)) {t : Int32 × m_H} (h : F12_lot_0 x0 x1 x2 hp = some t) (hK : K t) : m_Rn xs L 2 2433 0 [(0, .ref x0), (1, .int x1), (2, .int x2)] [] hp r := by
  unfold F12_lot_0 at h
  refine g_in eF12_lot_0 mx2433 ?_
  refine g_ch [(0, .ref x0), (1, .int x1), (2, .int x2)] [.int 0, .ref x0] (pc' := 2) rfl rfl rfl ?_
  obtain ⟨h1, e2, h⟩ := m_bd h
  refine g_pf q12_f3 e2 ?_
  refine g_ch [(0, .ref x0), (1, .int x1), (2, .int x2)] [.int x1, .ref x0, .ref x0] (pc' := 8) rfl rfl rfl ?_
  obtain ⟨v4, e3, h⟩ := m_bd h
  refine g_call (v := some (.int v4)) (h := h1) (st' := [.int v4, .ref x0]) (D1 := 1) (as := [.ref x0, .int x1]) (Or.inr (Or.inl rfl)) q12_m125 (m_cv (as := [.int x1]) (rest := [.ref x0]) (Or.inl rfl) q12_m125 jv2427 (OF12_noLot e3) rfl rfl rfl rfl) (by decide) (SF12_noLot e3) rfl ?_
  refine g_ch [(0, .ref x0), (1, .int x1), (2, .int x2)] [.int 1, .int v4, .ref x0] (pc' := 12) rfl rfl rfl ?_
  obtain ⟨z6, e5, h⟩ := m_bd h
  refine g_call (v := some (.int z6.1)) (h := z6.2) (st' := [.int z6.1]) (D1 := 0) (as := [.ref x0, .int v4, .int 1]) (Or.inr (Or.inl rfl)) q12_m82 (m_cv (as := [.int 1, .int v4]) (rest := []) (Or.inl rfl) q12_m82 jv2401 (OF12_throwsIf e5) rfl rfl rfl rfl) (by decide) (SF12_throwsIf e5) rfl ?_
  rcases m_ifd h with ⟨c7, h⟩ | ⟨c7, h⟩
  · refine g_ifcn (t := 41) rfl (m_neF c7) ?_
    refine g_in eF12_lot_18 mx2433 ?_
    refine g_ch [(0, .ref x0), (1, .int x1), (2, .int x2)] [.int 18, .int 0, .int x2, .ref x0] (pc' := 23) rfl rfl rfl ?_
    obtain ⟨v9, e8, h⟩ := m_bd h
    refine g_call (v := some (.int v9)) (h := z6.2) (st' := [.int v9, .ref x0]) (D1 := 0) (as := [.int x2, .int 0, .int 18]) (Or.inl rfl) q12_m74 (m_cs (as := [.int 18, .int 0, .int x2]) (rest := [.ref x0]) q12_m74 jv2402 rfl rfl rfl rfl rfl) (by decide) (SF12_in e8) rfl ?_
    rcases m_ifd h with ⟨c10, h⟩ | ⟨c10, h⟩
    · refine g_ifcn (t := 33) rfl (m_neF c10) ?_
      refine g_in eF12_lot_29 mx2433 ?_
      refine g_ch [(0, .ref x0), (1, .int x1), (2, .int x2)] [.int 1, .ref x0] (pc' := 30) rfl rfl rfl ?_
      refine g_goto (t := 34) rfl ?_
      exact r_lv (SF12_lot_34 x0 x1 x2 1 x0 z6.2 (K := K) k0 h hK) rfl ⟨rfl, rfl, rfl, trivial⟩
    · refine g_ifc (t := 33) rfl (m_neT c10) ?_
      refine g_in eF12_lot_33 mx2433 ?_
      refine g_ch [(0, .ref x0), (1, .int x1), (2, .int x2)] [.int 0, .ref x0] (pc' := 34) rfl rfl rfl ?_
      refine g_end ?_
      exact r_lv (SF12_lot_34 x0 x1 x2 0 x0 z6.2 (K := K) k0 h hK) rfl ⟨rfl, rfl, rfl, trivial⟩
  · refine g_ifc (t := 41) rfl (m_neT c7) ?_
    refine g_in eF12_lot_41 mx2433 ?_
    refine g_ch [(0, .ref x0), (1, .int x1), (2, .int x2)] [.int 0] (pc' := 42) rfl rfl rfl ?_
    refine g_goto (t := 51) rfl ?_
    refine g_in eF12_lot_51 mx2433 ?_
    cases h
    rw [k0 _ hK]
    exact g_iret rfl rfl
theorem OF12_lot {x0 : Nat} {x1 : Int32} {x2 : Int32} {hp : m_H} {x : Int32 × m_H} (h : F12_lot x0 x1 x2 hp = some x) : m_isO hp 9 x0 = true := (m_gdd h).1
theorem SF12_lot {xs : Nat → Int32} {L : Nat} {x0 : Nat} {x1 : Int32} {x2 : Int32} {hp : m_H} {x : Int32 × m_H} (h : F12_lot x0 x1 x2 hp = some x) : m_Rn xs L 2 2433 0 (lv_args 0 [.ref x0, .int x1, .int x2]) [] hp (.inl (some (.int x.1)), x.2) :=
  r_lv (SF12_lot_0 x0 x1 x2 hp (K := fun y => y = x) (fun y e => by rw [e]) (m_gdd h).2 rfl) rfl ⟨rfl, rfl, rfl, trivial⟩
-- F12_back: LendHouseModel.back(III)I
theorem eF12_back_0 : m_Fe mi12_34 0 (m_ap [(.aload_n 0, 1), (.iconst 0, 1)] ((.putfield 3, 3) :: (m_ap [(.aload_n 0, 1), (.iload_n 1, 1)] ((.invokestatic 103, 3) :: ([(.ifCond .ne 10, 3)]))))) := m_Fe_of nd2434 0 7 rfl
theorem eF12_back_13 : m_Fe mi12_34 13 (m_ap [(.iload_n 2, 1)] ((.invokestatic 78, 3) :: ([(.ifCond .eq 7, 3)]))) := m_Fe_of nd2434 7 3 rfl
theorem eF12_back_24 : m_Fe mi12_34 24 (m_ap [(.iconst 0, 1)] ([])) := m_Fe_of nd2434 12 1 rfl
theorem eF12_back_20 : m_Fe mi12_34 20 (m_ap [(.iconst 1, 1)] ([(.goto 4, 3)])) := m_Fe_of nd2434 10 2 rfl
theorem eF12_back_25 : m_Fe mi12_34 25 (m_ap [(.iconst 1, 1)] ((.invokevirtual 82, 3) :: ([(.ifCond .ne 69, 3)]))) := m_Fe_of nd2434 13 3 rfl
theorem eF12_back_98 : m_Fe mi12_34 98 (m_ap [(.iconst 0, 1)] ([(.ireturn, 1)])) := m_Fe_of nd2434 49 2 rfl
theorem eF12_back_32 : m_Fe mi12_34 32 (m_ap [(.aload_n 0, 1), (.iload_n 1, 1)] ([(.ifCond .eq 14, 3)])) := m_Fe_of nd2434 16 3 rfl
theorem eF12_back_37 : m_Fe mi12_34 37 (m_ap [(.iload_n 3, 1), (.iconst 1, 1), (.sipush 1000, 3)] ((.invokestatic 74, 3) :: ([(.ifCond .ne 7, 3)]))) := m_Fe_of nd2434 19 5 rfl
theorem eF12_back_52 : m_Fe mi12_34 52 (m_ap [(.iconst 0, 1)] ([])) := m_Fe_of nd2434 26 1 rfl
theorem eF12_back_48 : m_Fe mi12_34 48 (m_ap [(.iconst 1, 1)] ([(.goto 4, 3)])) := m_Fe_of nd2434 24 2 rfl
theorem eF12_back_53 : m_Fe mi12_34 53 (m_ap [(.iconst 2, 1)] ((.invokevirtual 82, 3) :: ([(.ifCond .ne 41, 3)]))) := m_Fe_of nd2434 27 3 rfl
theorem eF12_back_60 : m_Fe mi12_34 60 (m_ap [(.aload_n 0, 1), (.aload_n 0, 1)] ((.getfield 14, 3) :: (m_ap [(.sipush 807, 3)] ((.iaload, 1) :: (m_ap [(.bipush 100, 2)] ([(.if_icmp .ne 7, 3)])))))) := m_Fe_of nd2434 30 7 rfl
theorem eF12_back_78 : m_Fe mi12_34 78 (m_ap [(.iconst 0, 1)] ([])) := m_Fe_of nd2434 39 1 rfl
theorem eF12_back_74 : m_Fe mi12_34 74 (m_ap [(.iconst 1, 1)] ([(.goto 4, 3)])) := m_Fe_of nd2434 37 2 rfl
theorem eF12_back_79 : m_Fe mi12_34 79 (m_ap [(.iconst 3, 1)] ((.invokevirtual 82, 3) :: ([(.ifCond .ne 15, 3)]))) := m_Fe_of nd2434 40 3 rfl
theorem eF12_back_86 : m_Fe mi12_34 86 (m_ap [(.aload_n 0, 1), (.aload_n 0, 1)] ((.invokevirtual 118, 3) :: (m_ap [(.iconst 4, 1)] ((.invokevirtual 82, 3) :: ([(.ifCond .eq 5, 3)]))))) := m_Fe_of nd2434 43 6 rfl
theorem eF12_back_100 : m_Fe mi12_34 100 (m_ap [(.aload_n 0, 1), (.iload_n 2, 1), (.iload_n 3, 1), (.iload_n 1, 1), (.iconst 3, 1)] ((.invokevirtual 122, 3) :: (m_ap [(.istore 4, 2), (.aload_n 0, 1)] ((.getfield 14, 3) :: (m_ap [(.iload 4, 2), (.iconst 3, 1)] ((.invokestatic 112, 3) :: (m_ap [(.iconst 1, 1)] ((.iastore, 1) :: (m_ap [(.iload 4, 2)] ([(.ireturn, 1)])))))))))) := m_Fe_of nd2434 51 16 rfl
theorem SF12_back_79 {xs : Nat → Int32} {L : Nat} (x0 : Nat) (x1 : Int32) (x2 : Int32) (x3 : Int32) (s0 : Int32) (s1 : Nat) (hp : m_H) {r : m_O × m_H} {K : (Int32 × m_H) → Prop} (k0 : ∀ x, K x → r = (.inl (some (.int x.1)), x.2)) {t : Int32 × m_H} (h : F12_back_79 x0 x1 x2 x3 s0 s1 hp = some t) (hK : K t) : m_Rn xs L 2 2434 79 [(0, .ref x0), (1, .int x1), (2, .int x2), (3, .int x3)] [.int s0, .ref s1] hp r := by
  unfold F12_back_79 at h
  refine g_in eF12_back_79 mx2434 ?_
  refine g_ch [(0, .ref x0), (1, .int x1), (2, .int x2), (3, .int x3)] [.int 3, .int s0, .ref s1] (pc' := 80) rfl rfl rfl ?_
  obtain ⟨z2, e1, h⟩ := m_bd h
  refine g_call (v := some (.int z2.1)) (h := z2.2) (st' := [.int z2.1]) (D1 := 0) (as := [.ref s1, .int s0, .int 3]) (Or.inr (Or.inl rfl)) q12_m82 (m_cv (as := [.int 3, .int s0]) (rest := []) (Or.inl rfl) q12_m82 jv2401 (OF12_throwsIf e1) rfl rfl rfl rfl) (by decide) (SF12_throwsIf e1) rfl ?_
  rcases m_ifd h with ⟨c3, h⟩ | ⟨c3, h⟩
  · refine g_ifcn (t := 98) rfl (m_neF c3) ?_
    refine g_in eF12_back_86 mx2434 ?_
    refine g_ch [(0, .ref x0), (1, .int x1), (2, .int x2), (3, .int x3)] [.ref x0, .ref x0] (pc' := 88) rfl rfl rfl ?_
    obtain ⟨v5, e4, h⟩ := m_bd h
    refine g_call (v := some (.int v5)) (h := z2.2) (st' := [.int v5, .ref x0]) (D1 := 0) (as := [.ref x0]) (Or.inr (Or.inl rfl)) q12_m118 (m_cv (as := []) (rest := [.ref x0]) (Or.inl rfl) q12_m118 jv2405 (OF12_isOver e4) rfl rfl rfl rfl) (by decide) (SF12_isOver e4) rfl ?_
    refine g_ch [(0, .ref x0), (1, .int x1), (2, .int x2), (3, .int x3)] [.int 4, .int v5, .ref x0] (pc' := 92) rfl rfl rfl ?_
    obtain ⟨z7, e6, h⟩ := m_bd h
    refine g_call (v := some (.int z7.1)) (h := z7.2) (st' := [.int z7.1]) (D1 := 0) (as := [.ref x0, .int v5, .int 4]) (Or.inr (Or.inl rfl)) q12_m82 (m_cv (as := [.int 4, .int v5]) (rest := []) (Or.inl rfl) q12_m82 jv2401 (OF12_throwsIf e6) rfl rfl rfl rfl) (by decide) (SF12_throwsIf e6) rfl ?_
    rcases m_ifd h with ⟨c8, h⟩ | ⟨c8, h⟩
    · refine g_ifc (t := 100) rfl (m_eqT c8) ?_
      refine g_in eF12_back_100 mx2434 ?_
      refine g_ch [(0, .ref x0), (1, .int x1), (2, .int x2), (3, .int x3)] [.int 3, .int x1, .int x3, .int x2, .ref x0] (pc' := 105) rfl rfl rfl ?_
      obtain ⟨z10, e9, h⟩ := m_bd h
      refine g_call (v := some (.int z10.1)) (h := z10.2) (st' := [.int z10.1]) (D1 := 1) (as := [.ref x0, .int x2, .int x3, .int x1, .int 3]) (Or.inr (Or.inl rfl)) q12_m122 (m_cv (as := [.int 3, .int x1, .int x3, .int x2]) (rest := []) (Or.inl rfl) q12_m122 jv2428 (OF12_begins e9) rfl rfl rfl rfl) (by decide) (SF12_begins e9) rfl ?_
      refine g_ch [(4, .int z10.1), (0, .ref x0), (1, .int x1), (2, .int x2), (3, .int x3)] [.ref x0] (pc' := 111) rfl rfl rfl ?_
      obtain ⟨v11, e12, h⟩ := m_bd h
      refine g_gr q12_f14 e12 ?_
      refine g_ch [(4, .int z10.1), (0, .ref x0), (1, .int x1), (2, .int x2), (3, .int x3)] [.int 3, .int z10.1, .ref v11] (pc' := 117) rfl rfl rfl ?_
      obtain ⟨v14, e13, h⟩ := m_bd h
      refine g_call (v := some (.int v14)) (h := z10.2) (st' := [.int v14, .ref v11]) (D1 := 0) (as := [.int z10.1, .int 3]) (Or.inl rfl) q12_m112 (m_cs (as := [.int 3, .int z10.1]) (rest := [.ref v11]) q12_m112 jv2425 rfl rfl rfl rfl rfl) (by decide) (SF12_lotAt e13) rfl ?_
      refine g_ch [(4, .int z10.1), (0, .ref x0), (1, .int x1), (2, .int x2), (3, .int x3)] [.int 1, .int v14, .ref v11] (pc' := 121) rfl rfl rfl ?_
      obtain ⟨h15, e16, h⟩ := m_bd h
      refine g_is e16 ?_
      refine g_ch [(4, .int z10.1), (0, .ref x0), (1, .int x1), (2, .int x2), (3, .int x3)] [.int z10.1] (pc' := 124) rfl rfl rfl ?_
      cases h
      rw [k0 _ hK]
      exact g_iret rfl rfl
    · refine g_ifcn (t := 100) rfl (m_eqF c8) ?_
      refine g_in eF12_back_98 mx2434 ?_
      refine g_ch [(0, .ref x0), (1, .int x1), (2, .int x2), (3, .int x3)] [.int 0] (pc' := 99) rfl rfl rfl ?_
      cases h
      rw [k0 _ hK]
      exact g_iret rfl rfl
  · refine g_ifc (t := 98) rfl (m_neT c3) ?_
    refine g_in eF12_back_98 mx2434 ?_
    refine g_ch [(0, .ref x0), (1, .int x1), (2, .int x2), (3, .int x3)] [.int 0] (pc' := 99) rfl rfl rfl ?_
    cases h
    rw [k0 _ hK]
    exact g_iret rfl rfl
theorem SF12_back_53 {xs : Nat → Int32} {L : Nat} (x0 : Nat) (x1 : Int32) (x2 : Int32) (x3 : Int32) (s0 : Int32) (s1 : Nat) (hp : m_H) {r : m_O × m_H} {K : (Int32 × m_H) → Prop} (k0 : ∀ x, K x → r = (.inl (some (.int x.1)), x.2)) {t : Int32 × m_H} (h : F12_back_53 x0 x1 x2 x3 s0 s1 hp = some t) (hK : K t) : m_Rn xs L 2 2434 53 [(0, .ref x0), (1, .int x1), (2, .int x2), (3, .int x3)] [.int s0, .ref s1] hp r := by
  unfold F12_back_53 at h
  refine g_in eF12_back_53 mx2434 ?_
  refine g_ch [(0, .ref x0), (1, .int x1), (2, .int x2), (3, .int x3)] [.int 2, .int s0, .ref s1] (pc' := 54) rfl rfl rfl ?_
  obtain ⟨z2, e1, h⟩ := m_bd h
  refine g_call (v := some (.int z2.1)) (h := z2.2) (st' := [.int z2.1]) (D1 := 0) (as := [.ref s1, .int s0, .int 2]) (Or.inr (Or.inl rfl)) q12_m82 (m_cv (as := [.int 2, .int s0]) (rest := []) (Or.inl rfl) q12_m82 jv2401 (OF12_throwsIf e1) rfl rfl rfl rfl) (by decide) (SF12_throwsIf e1) rfl ?_
  rcases m_ifd h with ⟨c3, h⟩ | ⟨c3, h⟩
  · refine g_ifcn (t := 98) rfl (m_neF c3) ?_
    refine g_in eF12_back_60 mx2434 ?_
    refine g_ch [(0, .ref x0), (1, .int x1), (2, .int x2), (3, .int x3)] [.ref x0, .ref x0] (pc' := 62) rfl rfl rfl ?_
    obtain ⟨v4, e5, h⟩ := m_bd h
    refine g_gr q12_f14 e5 ?_
    refine g_ch [(0, .ref x0), (1, .int x1), (2, .int x2), (3, .int x3)] [.int 807, .ref v4, .ref x0] (pc' := 68) rfl rfl rfl ?_
    obtain ⟨v6, e7, h⟩ := m_bd h
    refine g_ia e7 ?_
    refine g_ch [(0, .ref x0), (1, .int x1), (2, .int x2), (3, .int x3)] [.int 100, .int v6, .ref x0] (pc' := 71) rfl rfl rfl ?_
    rcases m_ifd h with ⟨c8, h⟩ | ⟨c8, h⟩
    · refine g_ifn (t := 78) rfl (m_neF c8) ?_
      refine g_in eF12_back_74 mx2434 ?_
      refine g_ch [(0, .ref x0), (1, .int x1), (2, .int x2), (3, .int x3)] [.int 1, .ref x0] (pc' := 75) rfl rfl rfl ?_
      refine g_goto (t := 79) rfl ?_
      exact r_lv (SF12_back_79 x0 x1 x2 x3 1 x0 z2.2 (K := K) k0 h hK) rfl ⟨rfl, rfl, rfl, rfl, trivial⟩
    · refine g_if (t := 78) rfl (m_neT c8) ?_
      refine g_in eF12_back_78 mx2434 ?_
      refine g_ch [(0, .ref x0), (1, .int x1), (2, .int x2), (3, .int x3)] [.int 0, .ref x0] (pc' := 79) rfl rfl rfl ?_
      refine g_end ?_
      exact r_lv (SF12_back_79 x0 x1 x2 x3 0 x0 z2.2 (K := K) k0 h hK) rfl ⟨rfl, rfl, rfl, rfl, trivial⟩
  · refine g_ifc (t := 98) rfl (m_neT c3) ?_
    refine g_in eF12_back_98 mx2434 ?_
    refine g_ch [(0, .ref x0), (1, .int x1), (2, .int x2), (3, .int x3)] [.int 0] (pc' := 99) rfl rfl rfl ?_
    cases h
    rw [k0 _ hK]
    exact g_iret rfl rfl
theorem SF12_back_48 {xs : Nat → Int32} {L : Nat} (x0 : Nat) (x1 : Int32) (x2 : Int32) (x3 : Int32) (s0 : Nat) (hp : m_H) {r : m_O × m_H} {K : (Int32 × m_H) → Prop} (k0 : ∀ x, K x → r = (.inl (some (.int x.1)), x.2)) {t : Int32 × m_H} (h : F12_back_48 x0 x1 x2 x3 s0 hp = some t) (hK : K t) : m_Rn xs L 2 2434 48 [(0, .ref x0), (1, .int x1), (2, .int x2), (3, .int x3)] [.ref s0] hp r := by
  unfold F12_back_48 at h
  refine g_in eF12_back_48 mx2434 ?_
  refine g_ch [(0, .ref x0), (1, .int x1), (2, .int x2), (3, .int x3)] [.int 1, .ref s0] (pc' := 49) rfl rfl rfl ?_
  refine g_goto (t := 53) rfl ?_
  exact r_lv (SF12_back_53 x0 x1 x2 x3 1 s0 hp (K := K) k0 h hK) rfl ⟨rfl, rfl, rfl, rfl, trivial⟩
theorem SF12_back_25 {xs : Nat → Int32} {L : Nat} (x0 : Nat) (x1 : Int32) (x2 : Int32) (x3 : Int32) (s0 : Int32) (s1 : Nat) (hp : m_H) {r : m_O × m_H} {K : (Int32 × m_H) → Prop} (k0 : ∀ x, K x → r = (.inl (some (.int x.1)), x.2)) {t : Int32 × m_H} (h : F12_back_25 x0 x1 x2 x3 s0 s1 hp = some t) (hK : K t) : m_Rn xs L 2 2434 25 [(0, .ref x0), (1, .int x1), (2, .int x2), (3, .int x3)] [.int s0, .ref s1] hp r := by
  unfold F12_back_25 at h
  refine g_in eF12_back_25 mx2434 ?_
  refine g_ch [(0, .ref x0), (1, .int x1), (2, .int x2), (3, .int x3)] [.int 1, .int s0, .ref s1] (pc' := 26) rfl rfl rfl ?_
  obtain ⟨z2, e1, h⟩ := m_bd h
  refine g_call (v := some (.int z2.1)) (h := z2.2) (st' := [.int z2.1]) (D1 := 0) (as := [.ref s1, .int s0, .int 1]) (Or.inr (Or.inl rfl)) q12_m82 (m_cv (as := [.int 1, .int s0]) (rest := []) (Or.inl rfl) q12_m82 jv2401 (OF12_throwsIf e1) rfl rfl rfl rfl) (by decide) (SF12_throwsIf e1) rfl ?_
  rcases m_ifd h with ⟨c3, h⟩ | ⟨c3, h⟩
  · refine g_ifcn (t := 98) rfl (m_neF c3) ?_
    refine g_in eF12_back_32 mx2434 ?_
    refine g_ch [(0, .ref x0), (1, .int x1), (2, .int x2), (3, .int x3)] [.int x1, .ref x0] (pc' := 34) rfl rfl rfl ?_
    rcases m_ifd h with ⟨c4, h⟩ | ⟨c4, h⟩
    · refine g_ifc (t := 48) rfl (m_eqT c4) ?_
      exact r_lv (SF12_back_48 x0 x1 x2 x3 x0 z2.2 (K := K) k0 h hK) rfl ⟨rfl, rfl, rfl, rfl, trivial⟩
    · refine g_ifcn (t := 48) rfl (m_eqF c4) ?_
      refine g_in eF12_back_37 mx2434 ?_
      refine g_ch [(0, .ref x0), (1, .int x1), (2, .int x2), (3, .int x3)] [.int 1000, .int 1, .int x3, .ref x0] (pc' := 42) rfl rfl rfl ?_
      obtain ⟨v6, e5, h⟩ := m_bd h
      refine g_call (v := some (.int v6)) (h := z2.2) (st' := [.int v6, .ref x0]) (D1 := 0) (as := [.int x3, .int 1, .int 1000]) (Or.inl rfl) q12_m74 (m_cs (as := [.int 1000, .int 1, .int x3]) (rest := [.ref x0]) q12_m74 jv2402 rfl rfl rfl rfl rfl) (by decide) (SF12_in e5) rfl ?_
      rcases m_ifd h with ⟨c7, h⟩ | ⟨c7, h⟩
      · refine g_ifcn (t := 52) rfl (m_neF c7) ?_
        exact r_lv (SF12_back_48 x0 x1 x2 x3 x0 z2.2 (K := K) k0 h hK) rfl ⟨rfl, rfl, rfl, rfl, trivial⟩
      · refine g_ifc (t := 52) rfl (m_neT c7) ?_
        refine g_in eF12_back_52 mx2434 ?_
        refine g_ch [(0, .ref x0), (1, .int x1), (2, .int x2), (3, .int x3)] [.int 0, .ref x0] (pc' := 53) rfl rfl rfl ?_
        refine g_end ?_
        exact r_lv (SF12_back_53 x0 x1 x2 x3 0 x0 z2.2 (K := K) k0 h hK) rfl ⟨rfl, rfl, rfl, rfl, trivial⟩
  · refine g_ifc (t := 98) rfl (m_neT c3) ?_
    refine g_in eF12_back_98 mx2434 ?_
    refine g_ch [(0, .ref x0), (1, .int x1), (2, .int x2), (3, .int x3)] [.int 0] (pc' := 99) rfl rfl rfl ?_
    cases h
    rw [k0 _ hK]
    exact g_iret rfl rfl
theorem SF12_back_20 {xs : Nat → Int32} {L : Nat} (x0 : Nat) (x1 : Int32) (x2 : Int32) (x3 : Int32) (s0 : Nat) (hp : m_H) {r : m_O × m_H} {K : (Int32 × m_H) → Prop} (k0 : ∀ x, K x → r = (.inl (some (.int x.1)), x.2)) {t : Int32 × m_H} (h : F12_back_20 x0 x1 x2 x3 s0 hp = some t) (hK : K t) : m_Rn xs L 2 2434 20 [(0, .ref x0), (1, .int x1), (2, .int x2), (3, .int x3)] [.ref s0] hp r := by
  unfold F12_back_20 at h
  refine g_in eF12_back_20 mx2434 ?_
  refine g_ch [(0, .ref x0), (1, .int x1), (2, .int x2), (3, .int x3)] [.int 1, .ref s0] (pc' := 21) rfl rfl rfl ?_
  refine g_goto (t := 25) rfl ?_
  exact r_lv (SF12_back_25 x0 x1 x2 x3 1 s0 hp (K := K) k0 h hK) rfl ⟨rfl, rfl, rfl, rfl, trivial⟩
theorem SF12_back_0 {xs : Nat → Int32} {L : Nat} (x0 : Nat) (x1 : Int32) (x2 : Int32) (x3 : Int32) (hp : m_H) {r : m_O × m_H} {K : (Int32 × m_H) → Prop} (k0 : ∀ x, K x → r = (.inl (some (.int x.1)), x.2)) {t : Int32 × m_H} (h : F12_back_0 x0 x1 x2 x3 hp = some t) (hK : K t) : m_Rn xs L 2 2434 0 [(0, .ref x0), (1, .int x1), (2, .int x2), (3, .int x3)] [] hp r := by
  unfold F12_back_0 at h
  refine g_in eF12_back_0 mx2434 ?_
  refine g_ch [(0, .ref x0), (1, .int x1), (2, .int x2), (3, .int x3)] [.int 0, .ref x0] (pc' := 2) rfl rfl rfl ?_
  obtain ⟨h1, e2, h⟩ := m_bd h
  refine g_pf q12_f3 e2 ?_
  refine g_ch [(0, .ref x0), (1, .int x1), (2, .int x2), (3, .int x3)] [.int x1, .ref x0] (pc' := 7) rfl rfl rfl ?_
  obtain ⟨v4, e3, h⟩ := m_bd h
  refine g_call (v := some (.int v4)) (h := h1) (st' := [.int v4, .ref x0]) (D1 := 1) (as := [.int x1]) (Or.inl rfl) q12_m103 (m_cs (as := [.int x1]) (rest := [.ref x0]) q12_m103 jv2411 rfl rfl rfl rfl rfl) (by decide) (SF12_noLand e3) rfl ?_
  rcases m_ifd h with ⟨c5, h⟩ | ⟨c5, h⟩
  · refine g_ifcn (t := 20) rfl (m_neF c5) ?_
    refine g_in eF12_back_13 mx2434 ?_
    refine g_ch [(0, .ref x0), (1, .int x1), (2, .int x2), (3, .int x3)] [.int x2, .ref x0] (pc' := 14) rfl rfl rfl ?_
    obtain ⟨v7, e6, h⟩ := m_bd h
    refine g_call (v := some (.int v7)) (h := h1) (st' := [.int v7, .ref x0]) (D1 := 1) (as := [.int x2]) (Or.inl rfl) q12_m78 (m_cs (as := [.int x2]) (rest := [.ref x0]) q12_m78 jv2410 rfl rfl rfl rfl rfl) (by decide) (SF12_noSort e6) rfl ?_
    rcases m_ifd h with ⟨c8, h⟩ | ⟨c8, h⟩
    · refine g_ifc (t := 24) rfl (m_eqT c8) ?_
      refine g_in eF12_back_24 mx2434 ?_
      refine g_ch [(0, .ref x0), (1, .int x1), (2, .int x2), (3, .int x3)] [.int 0, .ref x0] (pc' := 25) rfl rfl rfl ?_
      refine g_end ?_
      exact r_lv (SF12_back_25 x0 x1 x2 x3 0 x0 h1 (K := K) k0 h hK) rfl ⟨rfl, rfl, rfl, rfl, trivial⟩
    · refine g_ifcn (t := 24) rfl (m_eqF c8) ?_
      exact r_lv (SF12_back_20 x0 x1 x2 x3 x0 h1 (K := K) k0 h hK) rfl ⟨rfl, rfl, rfl, rfl, trivial⟩
  · refine g_ifc (t := 20) rfl (m_neT c5) ?_
    exact r_lv (SF12_back_20 x0 x1 x2 x3 x0 h1 (K := K) k0 h hK) rfl ⟨rfl, rfl, rfl, rfl, trivial⟩
theorem OF12_back {x0 : Nat} {x1 : Int32} {x2 : Int32} {x3 : Int32} {hp : m_H} {x : Int32 × m_H} (h : F12_back x0 x1 x2 x3 hp = some x) : m_isO hp 9 x0 = true := (m_gdd h).1
theorem SF12_back {xs : Nat → Int32} {L : Nat} {x0 : Nat} {x1 : Int32} {x2 : Int32} {x3 : Int32} {hp : m_H} {x : Int32 × m_H} (h : F12_back x0 x1 x2 x3 hp = some x) : m_Rn xs L 2 2434 0 (lv_args 0 [.ref x0, .int x1, .int x2, .int x3]) [] hp (.inl (some (.int x.1)), x.2) :=
  r_lv (SF12_back_0 x0 x1 x2 x3 hp (K := fun y => y = x) (fun y e => by rw [e]) (m_gdd h).2 rfl) rfl ⟨rfl, rfl, rfl, rfl, trivial⟩
-- F12_label: LendHouseModel.label(II)Z
theorem eF12_label_0 : m_Fe mi12_35 0 (m_ap [(.aload_n 0, 1), (.iconst 0, 1)] ((.putfield 3, 3) :: (m_ap [(.aload_n 0, 1), (.aload_n 0, 1), (.iload_n 1, 1)] ((.invokevirtual 125, 3) :: (m_ap [(.iconst 1, 1)] ((.invokevirtual 82, 3) :: ([(.ifCond .ne 55, 3)]))))))) := m_Fe_of nd2435 0 10 rfl
theorem eF12_label_70 : m_Fe mi12_35 70 (m_ap [(.iconst 0, 1)] ([(.ireturn, 1)])) := m_Fe_of nd2435 37 2 rfl
theorem eF12_label_18 : m_Fe mi12_35 18 (m_ap [(.aload_n 0, 1), (.iload_n 2, 1), (.iconst 0, 1), (.bipush 9, 2)] ((.invokestatic 74, 3) :: ([(.ifCond .ne 7, 3)]))) := m_Fe_of nd2435 10 6 rfl
theorem eF12_label_33 : m_Fe mi12_35 33 (m_ap [(.iconst 0, 1)] ([])) := m_Fe_of nd2435 18 1 rfl
theorem eF12_label_29 : m_Fe mi12_35 29 (m_ap [(.iconst 1, 1)] ([(.goto 4, 3)])) := m_Fe_of nd2435 16 2 rfl
theorem eF12_label_34 : m_Fe mi12_35 34 (m_ap [(.iconst 2, 1)] ((.invokevirtual 82, 3) :: ([(.ifCond .ne 32, 3)]))) := m_Fe_of nd2435 19 3 rfl
theorem eF12_label_41 : m_Fe mi12_35 41 (m_ap [(.aload_n 0, 1), (.iload_n 1, 1)] ((.invokevirtual 128, 3) :: ([(.ifCond .ne 24, 3)]))) := m_Fe_of nd2435 22 4 rfl
theorem eF12_label_49 : m_Fe mi12_35 49 (m_ap [(.aload_n 0, 1), (.iload_n 1, 1), (.bipush 11, 2)] ((.invokevirtual 115, 3) :: ([(.ifCond .eq 14, 3)]))) := m_Fe_of nd2435 26 5 rfl
theorem eF12_label_59 : m_Fe mi12_35 59 (m_ap [(.aload_n 0, 1), (.iload_n 1, 1), (.bipush 7, 2)] ((.invokevirtual 115, 3) :: (m_ap [(.iload_n 2, 1)] ([(.if_icmp .ne 5, 3)])))) := m_Fe_of nd2435 31 6 rfl
theorem eF12_label_72 : m_Fe mi12_35 72 (m_ap [(.aload_n 0, 1)] ((.getfield 14, 3) :: (m_ap [(.iload_n 1, 1), (.bipush 7, 2)] ((.invokestatic 112, 3) :: (m_ap [(.iload_n 2, 1)] ((.iastore, 1) :: (m_ap [(.iconst 1, 1)] ([(.ireturn, 1)])))))))) := m_Fe_of nd2435 39 9 rfl
theorem SF12_label_34 {xs : Nat → Int32} {L : Nat} (x0 : Nat) (x1 : Int32) (x2 : Int32) (s0 : Int32) (s1 : Nat) (hp : m_H) {r : m_O × m_H} {K : (Int32 × m_H) → Prop} (k0 : ∀ x, K x → r = (.inl (some (.int x.1)), x.2)) {t : Int32 × m_H} (h : F12_label_34 x0 x1 x2 s0 s1 hp = some t) (hK : K t) : m_Rn xs L 3 2435 34 [(0, .ref x0), (1, .int x1), (2, .int x2)] [.int s0, .ref s1] hp r := by
  unfold F12_label_34 at h
  refine g_in eF12_label_34 mx2435 ?_
  refine g_ch [(0, .ref x0), (1, .int x1), (2, .int x2)] [.int 2, .int s0, .ref s1] (pc' := 35) rfl rfl rfl ?_
  obtain ⟨z2, e1, h⟩ := m_bd h
  refine g_call (v := some (.int z2.1)) (h := z2.2) (st' := [.int z2.1]) (D1 := 0) (as := [.ref s1, .int s0, .int 2]) (Or.inr (Or.inl rfl)) q12_m82 (m_cv (as := [.int 2, .int s0]) (rest := []) (Or.inl rfl) q12_m82 jv2401 (OF12_throwsIf e1) rfl rfl rfl rfl) (by decide) (SF12_throwsIf e1) rfl ?_
  rcases m_ifd h with ⟨c3, h⟩ | ⟨c3, h⟩
  · refine g_ifcn (t := 70) rfl (m_neF c3) ?_
    refine g_in eF12_label_41 mx2435 ?_
    refine g_ch [(0, .ref x0), (1, .int x1), (2, .int x2)] [.int x1, .ref x0] (pc' := 43) rfl rfl rfl ?_
    obtain ⟨v5, e4, h⟩ := m_bd h
    refine g_call (v := some (.int v5)) (h := z2.2) (st' := [.int v5]) (D1 := 2) (as := [.ref x0, .int x1]) (Or.inr (Or.inl rfl)) q12_m128 (m_cv (as := [.int x1]) (rest := []) (Or.inl rfl) q12_m128 jv2430 (OF12_isStock e4) rfl rfl rfl rfl) (by decide) (SF12_isStock e4) rfl ?_
    rcases m_ifd h with ⟨c6, h⟩ | ⟨c6, h⟩
    · refine g_ifcn (t := 70) rfl (m_neF c6) ?_
      refine g_in eF12_label_49 mx2435 ?_
      refine g_ch [(0, .ref x0), (1, .int x1), (2, .int x2)] [.int 11, .int x1, .ref x0] (pc' := 53) rfl rfl rfl ?_
      obtain ⟨v8, e7, h⟩ := m_bd h
      refine g_call (v := some (.int v8)) (h := z2.2) (st' := [.int v8]) (D1 := 1) (as := [.ref x0, .int x1, .int 11]) (Or.inr (Or.inl rfl)) q12_m115 (m_cv (as := [.int 11, .int x1]) (rest := []) (Or.inl rfl) q12_m115 jv2426 (OF12_of e7) rfl rfl rfl rfl) (by decide) (SF12_of e7) rfl ?_
      rcases m_ifd h with ⟨c9, h⟩ | ⟨c9, h⟩
      · refine g_ifc (t := 70) rfl (m_eqT c9) ?_
        refine g_in eF12_label_70 mx2435 ?_
        refine g_ch [(0, .ref x0), (1, .int x1), (2, .int x2)] [.int 0] (pc' := 71) rfl rfl rfl ?_
        cases h
        rw [k0 _ hK]
        exact g_iret rfl (by decide +kernel)
      · refine g_ifcn (t := 70) rfl (m_eqF c9) ?_
        refine g_in eF12_label_59 mx2435 ?_
        refine g_ch [(0, .ref x0), (1, .int x1), (2, .int x2)] [.int 7, .int x1, .ref x0] (pc' := 63) rfl rfl rfl ?_
        obtain ⟨v11, e10, h⟩ := m_bd h
        refine g_call (v := some (.int v11)) (h := z2.2) (st' := [.int v11]) (D1 := 1) (as := [.ref x0, .int x1, .int 7]) (Or.inr (Or.inl rfl)) q12_m115 (m_cv (as := [.int 7, .int x1]) (rest := []) (Or.inl rfl) q12_m115 jv2426 (OF12_of e10) rfl rfl rfl rfl) (by decide) (SF12_of e10) rfl ?_
        refine g_ch [(0, .ref x0), (1, .int x1), (2, .int x2)] [.int x2, .int v11] (pc' := 67) rfl rfl rfl ?_
        rcases m_ifd h with ⟨c12, h⟩ | ⟨c12, h⟩
        · refine g_ifn (t := 72) rfl (m_neF c12) ?_
          refine g_in eF12_label_70 mx2435 ?_
          refine g_ch [(0, .ref x0), (1, .int x1), (2, .int x2)] [.int 0] (pc' := 71) rfl rfl rfl ?_
          cases h
          rw [k0 _ hK]
          exact g_iret rfl (by decide +kernel)
        · refine g_if (t := 72) rfl (m_neT c12) ?_
          refine g_in eF12_label_72 mx2435 ?_
          refine g_ch [(0, .ref x0), (1, .int x1), (2, .int x2)] [.ref x0] (pc' := 73) rfl rfl rfl ?_
          obtain ⟨v13, e14, h⟩ := m_bd h
          refine g_gr q12_f14 e14 ?_
          refine g_ch [(0, .ref x0), (1, .int x1), (2, .int x2)] [.int 7, .int x1, .ref v13] (pc' := 79) rfl rfl rfl ?_
          obtain ⟨v16, e15, h⟩ := m_bd h
          refine g_call (v := some (.int v16)) (h := z2.2) (st' := [.int v16, .ref v13]) (D1 := 0) (as := [.int x1, .int 7]) (Or.inl rfl) q12_m112 (m_cs (as := [.int 7, .int x1]) (rest := [.ref v13]) q12_m112 jv2425 rfl rfl rfl rfl rfl) (by decide) (SF12_lotAt e15) rfl ?_
          refine g_ch [(0, .ref x0), (1, .int x1), (2, .int x2)] [.int x2, .int v16, .ref v13] (pc' := 83) rfl rfl rfl ?_
          obtain ⟨h17, e18, h⟩ := m_bd h
          refine g_is e18 ?_
          refine g_ch [(0, .ref x0), (1, .int x1), (2, .int x2)] [.int 1] (pc' := 85) rfl rfl rfl ?_
          cases h
          rw [k0 _ hK]
          exact g_iret rfl (by decide +kernel)
    · refine g_ifc (t := 70) rfl (m_neT c6) ?_
      refine g_in eF12_label_70 mx2435 ?_
      refine g_ch [(0, .ref x0), (1, .int x1), (2, .int x2)] [.int 0] (pc' := 71) rfl rfl rfl ?_
      cases h
      rw [k0 _ hK]
      exact g_iret rfl (by decide +kernel)
  · refine g_ifc (t := 70) rfl (m_neT c3) ?_
    refine g_in eF12_label_70 mx2435 ?_
    refine g_ch [(0, .ref x0), (1, .int x1), (2, .int x2)] [.int 0] (pc' := 71) rfl rfl rfl ?_
    cases h
    rw [k0 _ hK]
    exact g_iret rfl (by decide +kernel)
theorem SF12_label_0 {xs : Nat → Int32} {L : Nat} (x0 : Nat) (x1 : Int32) (x2 : Int32) (hp : m_H) {r : m_O × m_H} {K : (Int32 × m_H) → Prop} (k0 : ∀ x, K x → r = (.inl (some (.int x.1)), x.2)) {t : Int32 × m_H} (h : F12_label_0 x0 x1 x2 hp = some t) (hK : K t) : m_Rn xs L 3 2435 0 [(0, .ref x0), (1, .int x1), (2, .int x2)] [] hp r := by
  unfold F12_label_0 at h
  refine g_in eF12_label_0 mx2435 ?_
  refine g_ch [(0, .ref x0), (1, .int x1), (2, .int x2)] [.int 0, .ref x0] (pc' := 2) rfl rfl rfl ?_
  obtain ⟨h1, e2, h⟩ := m_bd h
  refine g_pf q12_f3 e2 ?_
  refine g_ch [(0, .ref x0), (1, .int x1), (2, .int x2)] [.int x1, .ref x0, .ref x0] (pc' := 8) rfl rfl rfl ?_
  obtain ⟨v4, e3, h⟩ := m_bd h
  refine g_call (v := some (.int v4)) (h := h1) (st' := [.int v4, .ref x0]) (D1 := 1) (as := [.ref x0, .int x1]) (Or.inr (Or.inl rfl)) q12_m125 (m_cv (as := [.int x1]) (rest := [.ref x0]) (Or.inl rfl) q12_m125 jv2427 (OF12_noLot e3) rfl rfl rfl rfl) (by decide) (SF12_noLot e3) rfl ?_
  refine g_ch [(0, .ref x0), (1, .int x1), (2, .int x2)] [.int 1, .int v4, .ref x0] (pc' := 12) rfl rfl rfl ?_
  obtain ⟨z6, e5, h⟩ := m_bd h
  refine g_call (v := some (.int z6.1)) (h := z6.2) (st' := [.int z6.1]) (D1 := 0) (as := [.ref x0, .int v4, .int 1]) (Or.inr (Or.inl rfl)) q12_m82 (m_cv (as := [.int 1, .int v4]) (rest := []) (Or.inl rfl) q12_m82 jv2401 (OF12_throwsIf e5) rfl rfl rfl rfl) (by decide) (SF12_throwsIf e5) rfl ?_
  rcases m_ifd h with ⟨c7, h⟩ | ⟨c7, h⟩
  · refine g_ifcn (t := 70) rfl (m_neF c7) ?_
    refine g_in eF12_label_18 mx2435 ?_
    refine g_ch [(0, .ref x0), (1, .int x1), (2, .int x2)] [.int 9, .int 0, .int x2, .ref x0] (pc' := 23) rfl rfl rfl ?_
    obtain ⟨v9, e8, h⟩ := m_bd h
    refine g_call (v := some (.int v9)) (h := z6.2) (st' := [.int v9, .ref x0]) (D1 := 0) (as := [.int x2, .int 0, .int 9]) (Or.inl rfl) q12_m74 (m_cs (as := [.int 9, .int 0, .int x2]) (rest := [.ref x0]) q12_m74 jv2402 rfl rfl rfl rfl rfl) (by decide) (SF12_in e8) rfl ?_
    rcases m_ifd h with ⟨c10, h⟩ | ⟨c10, h⟩
    · refine g_ifcn (t := 33) rfl (m_neF c10) ?_
      refine g_in eF12_label_29 mx2435 ?_
      refine g_ch [(0, .ref x0), (1, .int x1), (2, .int x2)] [.int 1, .ref x0] (pc' := 30) rfl rfl rfl ?_
      refine g_goto (t := 34) rfl ?_
      exact r_lv (SF12_label_34 x0 x1 x2 1 x0 z6.2 (K := K) k0 h hK) rfl ⟨rfl, rfl, rfl, trivial⟩
    · refine g_ifc (t := 33) rfl (m_neT c10) ?_
      refine g_in eF12_label_33 mx2435 ?_
      refine g_ch [(0, .ref x0), (1, .int x1), (2, .int x2)] [.int 0, .ref x0] (pc' := 34) rfl rfl rfl ?_
      refine g_end ?_
      exact r_lv (SF12_label_34 x0 x1 x2 0 x0 z6.2 (K := K) k0 h hK) rfl ⟨rfl, rfl, rfl, trivial⟩
  · refine g_ifc (t := 70) rfl (m_neT c7) ?_
    refine g_in eF12_label_70 mx2435 ?_
    refine g_ch [(0, .ref x0), (1, .int x1), (2, .int x2)] [.int 0] (pc' := 71) rfl rfl rfl ?_
    cases h
    rw [k0 _ hK]
    exact g_iret rfl (by decide +kernel)
theorem OF12_label {x0 : Nat} {x1 : Int32} {x2 : Int32} {hp : m_H} {x : Int32 × m_H} (h : F12_label x0 x1 x2 hp = some x) : m_isO hp 9 x0 = true := (m_gdd h).1
theorem SF12_label {xs : Nat → Int32} {L : Nat} {x0 : Nat} {x1 : Int32} {x2 : Int32} {hp : m_H} {x : Int32 × m_H} (h : F12_label x0 x1 x2 hp = some x) : m_Rn xs L 3 2435 0 (lv_args 0 [.ref x0, .int x1, .int x2]) [] hp (.inl (some (.int x.1)), x.2) :=
  r_lv (SF12_label_0 x0 x1 x2 hp (K := fun y => y = x) (fun y e => by rw [e]) (m_gdd h).2 rfl) rfl ⟨rfl, rfl, rfl, trivial⟩
-- F12_feed: LendHouseModel.feed(IIIII)I
theorem eF12_feed_0 : m_Fe mi12_36 0 (m_ap [(.aload_n 0, 1), (.iconst 0, 1)] ((.putfield 3, 3) :: (m_ap [(.aload_n 0, 1)] ((.getfield 131, 3) :: (m_ap [(.bipush 20, 2), (.iadd, 1), (.sipush 400, 3)] ([(.if_icmp .le 5, 3)])))))) := m_Fe_of nd2436 0 9 rfl
theorem eF12_feed_20 : m_Fe mi12_36 20 (m_ap [(.aload_n 0, 1)] ((.getfield 32, 3) :: (m_ap [(.iconst 0, 1), (.iload_n 1, 1)] ((.iastore, 1) :: (m_ap [(.aload_n 0, 1)] ((.getfield 32, 3) :: (m_ap [(.iconst 1, 1), (.iload_n 2, 1)] ((.iastore, 1) :: (m_ap [(.aload_n 0, 1)] ((.getfield 32, 3) :: (m_ap [(.iconst 2, 1), (.iload_n 3, 1)] ((.iastore, 1) :: (m_ap [(.aload_n 0, 1)] ((.getfield 32, 3) :: (m_ap [(.iconst 3, 1), (.iload 4, 2)] ((.iastore, 1) :: (m_ap [(.aload_n 0, 1)] ((.getfield 32, 3) :: (m_ap [(.iconst 4, 1), (.iload 5, 2)] ((.iastore, 1) :: (m_ap [(.iconst 0, 1), (.istore 6, 2)] ([])))))))))))))))))))))) := m_Fe_of nd2436 11 27 rfl
theorem eF12_feed_18 : m_Fe mi12_36 18 (m_ap [(.iconst (-1), 1)] ([(.ireturn, 1)])) := m_Fe_of nd2436 9 2 rfl
theorem eF12_feed_60 : m_Fe mi12_36 60 (m_ap [(.iload 6, 2), (.bipush 20, 2)] ([(.if_icmp .ge 42, 3)])) := m_Fe_of nd2436 38 3 rfl
theorem eF12_feed_106 : m_Fe mi12_36 106 (m_ap [(.aload_n 0, 1), (.dup, 1)] ((.getfield 131, 3) :: (m_ap [(.bipush 20, 2), (.iadd, 1)] ((.putfield 131, 3) :: (m_ap [(.aload_n 0, 1)] ((.getfield 131, 3) :: ([(.ireturn, 1)]))))))) := m_Fe_of nd2436 65 9 rfl
theorem eF12_feed_67 : m_Fe mi12_36 67 (m_ap [(.aload_n 0, 1)] ((.getfield 25, 3) :: (m_ap [(.aload_n 0, 1)] ((.getfield 131, 3) :: (m_ap [(.iload 6, 2), (.iadd, 1), (.aload_n 0, 1)] ((.getfield 32, 3) :: (m_ap [(.iload 6, 2), (.iconst 4, 1)] ((.idiv, 1) :: ((.iaload, 1) :: (m_ap [(.bipush 24, 2), (.bipush 8, 2), (.iload 6, 2), (.iconst 4, 1)] ((.irem, 1) :: (m_ap [(.imul, 1), (.isub, 1), (.ishr, 1), (.i2b, 1)] ((.bastore, 1) :: (m_ap [(.iinc 6 1, 3)] ([(.goto (-43), 3)]))))))))))))))) := m_Fe_of nd2436 41 24 rfl
theorem SF12_feed_60b {xs : Nat → Int32} {L : Nat} (x0 : Nat) (s : Int32 × m_H) {r : m_O × m_H} {K : ((Int32 × m_H) ⊕ (Int32 × m_H)) → Prop} (k0 : ∀ x, K (.inr x) → r = (.inl (some (.int x.1)), x.2)) (k1 : ∀ s, K (.inl s) → m_Rn xs L 0 2436 60 [(0, .ref x0), (6, .int s.1)] [] s.2 r) {t : (Int32 × m_H) ⊕ (Int32 × m_H)} (h : F12_feed_60b x0 s = some t) (hK : K t) : m_Rn xs L 0 2436 60 [(0, .ref x0), (6, .int s.1)] [] s.2 r := by
  unfold F12_feed_60b at h
  refine g_in eF12_feed_60 mx2436 ?_
  refine g_ch [(0, .ref x0), (6, .int s.1)] [.int 20, .int s.1] (pc' := 64) rfl rfl rfl ?_
  rcases m_ifd h with ⟨c1, h⟩ | ⟨c1, h⟩
  · refine g_if (t := 106) rfl (m_geT c1) ?_
    refine g_in eF12_feed_106 mx2436 ?_
    refine g_ch [(0, .ref x0), (6, .int s.1)] [.ref x0, .ref x0] (pc' := 108) rfl rfl rfl ?_
    obtain ⟨v2, e3, h⟩ := m_bd h
    refine g_gi q12_f131 e3 ?_
    refine g_ch [(0, .ref x0), (6, .int s.1)] [.int (v2 + 20), .ref x0] (pc' := 114) rfl rfl rfl ?_
    obtain ⟨h4, e5, h⟩ := m_bd h
    refine g_pf q12_f131 e5 ?_
    refine g_ch [(0, .ref x0), (6, .int s.1)] [.ref x0] (pc' := 118) rfl rfl rfl ?_
    obtain ⟨v6, e7, h⟩ := m_bd h
    refine g_gi q12_f131 e7 ?_
    cases h
    rw [k0 _ hK]
    exact g_iret rfl rfl
  · refine g_ifn (t := 106) rfl (m_geF c1) ?_
    refine g_in eF12_feed_67 mx2436 ?_
    refine g_ch [(0, .ref x0), (6, .int s.1)] [.ref x0] (pc' := 68) rfl rfl rfl ?_
    obtain ⟨v8, e9, h⟩ := m_bd h
    refine g_gr q12_f25 e9 ?_
    refine g_ch [(0, .ref x0), (6, .int s.1)] [.ref x0, .ref v8] (pc' := 72) rfl rfl rfl ?_
    obtain ⟨v10, e11, h⟩ := m_bd h
    refine g_gi q12_f131 e11 ?_
    refine g_ch [(0, .ref x0), (6, .int s.1)] [.ref x0, .int (v10 + s.1), .ref v8] (pc' := 79) rfl rfl rfl ?_
    obtain ⟨v12, e13, h⟩ := m_bd h
    refine g_gr q12_f32 e13 ?_
    refine g_ch [(0, .ref x0), (6, .int s.1)] [.int 4, .int s.1, .ref v12, .int (v10 + s.1), .ref v8] (pc' := 85) rfl rfl rfl ?_
    obtain ⟨v14, e15, h⟩ := m_bd h
    refine g_dv e15 ?_
    obtain ⟨v16, e17, h⟩ := m_bd h
    refine g_ia e17 ?_
    refine g_ch [(0, .ref x0), (6, .int s.1)] [.int 4, .int s.1, .int 8, .int 24, .int v16, .int (v10 + s.1), .ref v8] (pc' := 94) rfl rfl rfl ?_
    obtain ⟨v18, e19, h⟩ := m_bd h
    refine g_rm e19 ?_
    refine g_ch [(0, .ref x0), (6, .int s.1)] [.int (m_i2b (v16 >>> ((24 - (8 * v18)) &&& 31))), .int (v10 + s.1), .ref v8] (pc' := 99) rfl rfl rfl ?_
    obtain ⟨h20, e21, h⟩ := m_bd h
    refine g_bs2 e21 ?_
    refine g_ch [(6, .int (s.1 + 1)), (0, .ref x0)] [] (pc' := 103) rfl rfl rfl ?_
    refine g_goto (t := 60) rfl ?_
    cases h
    exact r_lv (k1 ((s.1 + 1), h20) hK) rfl ⟨rfl, rfl, trivial⟩
theorem SF12_feed_60 {xs : Nat → Int32} {L : Nat} (x0 : Nat) (x6 : Int32) (hp : m_H) {r : m_O × m_H} {K : Int32 × m_H → Prop} (k0 : ∀ x, K x → r = (.inl (some (.int x.1)), x.2)) {t : Int32 × m_H} (h : F12_feed_60 x0 x6 hp = some t) (hK : K t) : m_Rn xs L 0 2436 60 [(0, .ref x0), (6, .int x6)] [] hp r :=
  m_wh_ok (P := fun s => m_Rn xs L 0 2436 60 [(0, .ref x0), (6, .int s.1)] [] s.2 r) (Q := K) (fun s t hb hK => SF12_feed_60b x0 s (K := m_KK (fun s => m_Rn xs L 0 2436 60 [(0, .ref x0), (6, .int s.1)] [] s.2 r) K) k0 (fun _ q => q) hb hK) m_N _ _ h hK
theorem SF12_feed_0 {xs : Nat → Int32} {L : Nat} (x0 : Nat) (x1 : Int32) (x2 : Int32) (x3 : Int32) (x4 : Int32) (x5 : Int32) (hp : m_H) {r : m_O × m_H} {K : (Int32 × m_H) → Prop} (k0 : ∀ x, K x → r = (.inl (some (.int x.1)), x.2)) {t : Int32 × m_H} (h : F12_feed_0 x0 x1 x2 x3 x4 x5 hp = some t) (hK : K t) : m_Rn xs L 0 2436 0 [(0, .ref x0), (1, .int x1), (2, .int x2), (3, .int x3), (4, .int x4), (5, .int x5)] [] hp r := by
  unfold F12_feed_0 at h
  refine g_in eF12_feed_0 mx2436 ?_
  refine g_ch [(0, .ref x0), (1, .int x1), (2, .int x2), (3, .int x3), (4, .int x4), (5, .int x5)] [.int 0, .ref x0] (pc' := 2) rfl rfl rfl ?_
  obtain ⟨h1, e2, h⟩ := m_bd h
  refine g_pf q12_f3 e2 ?_
  refine g_ch [(0, .ref x0), (1, .int x1), (2, .int x2), (3, .int x3), (4, .int x4), (5, .int x5)] [.ref x0] (pc' := 6) rfl rfl rfl ?_
  obtain ⟨v3, e4, h⟩ := m_bd h
  refine g_gi q12_f131 e4 ?_
  refine g_ch [(0, .ref x0), (1, .int x1), (2, .int x2), (3, .int x3), (4, .int x4), (5, .int x5)] [.int 400, .int (v3 + 20)] (pc' := 15) rfl rfl rfl ?_
  rcases m_ifd h with ⟨c5, h⟩ | ⟨c5, h⟩
  · refine g_if (t := 20) rfl (m_leT c5) ?_
    refine g_in eF12_feed_20 mx2436 ?_
    refine g_ch [(0, .ref x0), (1, .int x1), (2, .int x2), (3, .int x3), (4, .int x4), (5, .int x5)] [.ref x0] (pc' := 21) rfl rfl rfl ?_
    obtain ⟨v6, e7, h⟩ := m_bd h
    refine g_gr q12_f32 e7 ?_
    refine g_ch [(0, .ref x0), (1, .int x1), (2, .int x2), (3, .int x3), (4, .int x4), (5, .int x5)] [.int x1, .int 0, .ref v6] (pc' := 26) rfl rfl rfl ?_
    obtain ⟨h8, e9, h⟩ := m_bd h
    refine g_is e9 ?_
    refine g_ch [(0, .ref x0), (1, .int x1), (2, .int x2), (3, .int x3), (4, .int x4), (5, .int x5)] [.ref x0] (pc' := 28) rfl rfl rfl ?_
    obtain ⟨v10, e11, h⟩ := m_bd h
    refine g_gr q12_f32 e11 ?_
    refine g_ch [(0, .ref x0), (1, .int x1), (2, .int x2), (3, .int x3), (4, .int x4), (5, .int x5)] [.int x2, .int 1, .ref v10] (pc' := 33) rfl rfl rfl ?_
    obtain ⟨h12, e13, h⟩ := m_bd h
    refine g_is e13 ?_
    refine g_ch [(0, .ref x0), (1, .int x1), (2, .int x2), (3, .int x3), (4, .int x4), (5, .int x5)] [.ref x0] (pc' := 35) rfl rfl rfl ?_
    obtain ⟨v14, e15, h⟩ := m_bd h
    refine g_gr q12_f32 e15 ?_
    refine g_ch [(0, .ref x0), (1, .int x1), (2, .int x2), (3, .int x3), (4, .int x4), (5, .int x5)] [.int x3, .int 2, .ref v14] (pc' := 40) rfl rfl rfl ?_
    obtain ⟨h16, e17, h⟩ := m_bd h
    refine g_is e17 ?_
    refine g_ch [(0, .ref x0), (1, .int x1), (2, .int x2), (3, .int x3), (4, .int x4), (5, .int x5)] [.ref x0] (pc' := 42) rfl rfl rfl ?_
    obtain ⟨v18, e19, h⟩ := m_bd h
    refine g_gr q12_f32 e19 ?_
    refine g_ch [(0, .ref x0), (1, .int x1), (2, .int x2), (3, .int x3), (4, .int x4), (5, .int x5)] [.int x4, .int 3, .ref v18] (pc' := 48) rfl rfl rfl ?_
    obtain ⟨h20, e21, h⟩ := m_bd h
    refine g_is e21 ?_
    refine g_ch [(0, .ref x0), (1, .int x1), (2, .int x2), (3, .int x3), (4, .int x4), (5, .int x5)] [.ref x0] (pc' := 50) rfl rfl rfl ?_
    obtain ⟨v22, e23, h⟩ := m_bd h
    refine g_gr q12_f32 e23 ?_
    refine g_ch [(0, .ref x0), (1, .int x1), (2, .int x2), (3, .int x3), (4, .int x4), (5, .int x5)] [.int x5, .int 4, .ref v22] (pc' := 56) rfl rfl rfl ?_
    obtain ⟨h24, e25, h⟩ := m_bd h
    refine g_is e25 ?_
    refine g_ch [(6, .int 0), (0, .ref x0), (1, .int x1), (2, .int x2), (3, .int x3), (4, .int x4), (5, .int x5)] [] (pc' := 60) rfl rfl rfl ?_
    refine g_end ?_
    exact r_lv (SF12_feed_60 x0 0 h24 (K := K) k0 h hK) rfl ⟨rfl, rfl, trivial⟩
  · refine g_ifn (t := 20) rfl (m_leF c5) ?_
    refine g_in eF12_feed_18 mx2436 ?_
    refine g_ch [(0, .ref x0), (1, .int x1), (2, .int x2), (3, .int x3), (4, .int x4), (5, .int x5)] [.int (-1)] (pc' := 19) rfl rfl rfl ?_
    cases h
    rw [k0 _ hK]
    exact g_iret rfl rfl
theorem OF12_feed {x0 : Nat} {x1 : Int32} {x2 : Int32} {x3 : Int32} {x4 : Int32} {x5 : Int32} {hp : m_H} {x : Int32 × m_H} (h : F12_feed x0 x1 x2 x3 x4 x5 hp = some x) : m_isO hp 9 x0 = true := (m_gdd h).1
theorem SF12_feed {xs : Nat → Int32} {L : Nat} {x0 : Nat} {x1 : Int32} {x2 : Int32} {x3 : Int32} {x4 : Int32} {x5 : Int32} {hp : m_H} {x : Int32 × m_H} (h : F12_feed x0 x1 x2 x3 x4 x5 hp = some x) : m_Rn xs L 0 2436 0 (lv_args 0 [.ref x0, .int x1, .int x2, .int x3, .int x4, .int x5]) [] hp (.inl (some (.int x.1)), x.2) :=
  r_lv (SF12_feed_0 x0 x1 x2 x3 x4 x5 hp (K := fun y => y = x) (fun y e => by rw [e]) (m_gdd h).2 rfl) rfl ⟨rfl, rfl, rfl, rfl, rfl, rfl, trivial⟩
-- F12_end: LendHouseModel.end(I)Z
theorem eF12_end_0 : m_Fe mi12_37 0 (m_ap [(.aload_n 0, 1), (.iconst 0, 1)] ((.putfield 3, 3) :: (m_ap [(.iload_n 1, 1)] ([(.ifCond .lt 11, 3)])))) := m_Fe_of nd2437 0 5 rfl
theorem eF12_end_17 : m_Fe mi12_37 17 (m_ap [(.iconst 0, 1)] ([(.ireturn, 1)])) := m_Fe_of nd2437 9 2 rfl
theorem eF12_end_9 : m_Fe mi12_37 9 (m_ap [(.iload_n 1, 1), (.aload_n 0, 1)] ((.getfield 131, 3) :: ([(.if_icmp .le 5, 3)]))) := m_Fe_of nd2437 5 4 rfl
theorem eF12_end_19 : m_Fe mi12_37 19 (m_ap [(.aload_n 0, 1), (.iload_n 1, 1)] ((.putfield 131, 3) :: (m_ap [(.iconst 1, 1)] ([(.ireturn, 1)])))) := m_Fe_of nd2437 11 5 rfl
theorem SF12_end_0 {xs : Nat → Int32} {L : Nat} (x0 : Nat) (x1 : Int32) (hp : m_H) {r : m_O × m_H} {K : (Int32 × m_H) → Prop} (k0 : ∀ x, K x → r = (.inl (some (.int x.1)), x.2)) {t : Int32 × m_H} (h : F12_end_0 x0 x1 hp = some t) (hK : K t) : m_Rn xs L 0 2437 0 [(0, .ref x0), (1, .int x1)] [] hp r := by
  unfold F12_end_0 at h
  refine g_in eF12_end_0 mx2437 ?_
  refine g_ch [(0, .ref x0), (1, .int x1)] [.int 0, .ref x0] (pc' := 2) rfl rfl rfl ?_
  obtain ⟨h1, e2, h⟩ := m_bd h
  refine g_pf q12_f3 e2 ?_
  refine g_ch [(0, .ref x0), (1, .int x1)] [.int x1] (pc' := 6) rfl rfl rfl ?_
  rcases m_ifd h with ⟨c3, h⟩ | ⟨c3, h⟩
  · refine g_ifc (t := 17) rfl (m_ltT c3) ?_
    refine g_in eF12_end_17 mx2437 ?_
    refine g_ch [(0, .ref x0), (1, .int x1)] [.int 0] (pc' := 18) rfl rfl rfl ?_
    cases h
    rw [k0 _ hK]
    exact g_iret rfl (by decide +kernel)
  · refine g_ifcn (t := 17) rfl (m_ltF c3) ?_
    refine g_in eF12_end_9 mx2437 ?_
    refine g_ch [(0, .ref x0), (1, .int x1)] [.ref x0, .int x1] (pc' := 11) rfl rfl rfl ?_
    obtain ⟨v4, e5, h⟩ := m_bd h
    refine g_gi q12_f131 e5 ?_
    rcases m_ifd h with ⟨c6, h⟩ | ⟨c6, h⟩
    · refine g_if (t := 19) rfl (m_leT c6) ?_
      refine g_in eF12_end_19 mx2437 ?_
      refine g_ch [(0, .ref x0), (1, .int x1)] [.int x1, .ref x0] (pc' := 21) rfl rfl rfl ?_
      obtain ⟨h7, e8, h⟩ := m_bd h
      refine g_pf q12_f131 e8 ?_
      refine g_ch [(0, .ref x0), (1, .int x1)] [.int 1] (pc' := 25) rfl rfl rfl ?_
      cases h
      rw [k0 _ hK]
      exact g_iret rfl (by decide +kernel)
    · refine g_ifn (t := 19) rfl (m_leF c6) ?_
      refine g_in eF12_end_17 mx2437 ?_
      refine g_ch [(0, .ref x0), (1, .int x1)] [.int 0] (pc' := 18) rfl rfl rfl ?_
      cases h
      rw [k0 _ hK]
      exact g_iret rfl (by decide +kernel)
theorem OF12_end {x0 : Nat} {x1 : Int32} {hp : m_H} {x : Int32 × m_H} (h : F12_end x0 x1 hp = some x) : m_isO hp 9 x0 = true := (m_gdd h).1
theorem SF12_end {xs : Nat → Int32} {L : Nat} {x0 : Nat} {x1 : Int32} {hp : m_H} {x : Int32 × m_H} (h : F12_end x0 x1 hp = some x) : m_Rn xs L 0 2437 0 (lv_args 0 [.ref x0, .int x1]) [] hp (.inl (some (.int x.1)), x.2) :=
  r_lv (SF12_end_0 x0 x1 hp (K := fun y => y = x) (fun y e => by rw [e]) (m_gdd h).2 rfl) rfl ⟨rfl, rfl, trivial⟩
-- F12_uses: LendHouseModel.uses()V
theorem eF12_uses_0 : m_Fe mi12_38 0 (m_ap [(.aload_n 0, 1), (.iconst 0, 1)] ((.putfield 3, 3) :: (m_ap [(.aload_n 0, 1), (.aload_n 0, 1)] ((.getfield 131, 3) :: ((.putfield 134, 3) :: (m_ap [(.aload_n 0, 1), (.iconst 0, 1)] ((.putfield 131, 3) :: (m_ap [(.aload_n 0, 1), (.iconst 0, 1)] ((.putfield 137, 3) :: ([(.return_, 1)])))))))))) := m_Fe_of nd2438 0 14 rfl
theorem SF12_uses_0 {xs : Nat → Int32} {L : Nat} (x0 : Nat) (hp : m_H) {r : m_O × m_H} {K : m_H → Prop} (k0 : ∀ x, K x → r = (.inl none, x)) {t : m_H} (h : F12_uses_0 x0 hp = some t) (hK : K t) : m_Rn xs L 0 2438 0 [(0, .ref x0)] [] hp r := by
  unfold F12_uses_0 at h
  refine g_in eF12_uses_0 mx2438 ?_
  refine g_ch [(0, .ref x0)] [.int 0, .ref x0] (pc' := 2) rfl rfl rfl ?_
  obtain ⟨h1, e2, h⟩ := m_bd h
  refine g_pf q12_f3 e2 ?_
  refine g_ch [(0, .ref x0)] [.ref x0, .ref x0] (pc' := 7) rfl rfl rfl ?_
  obtain ⟨v3, e4, h⟩ := m_bd h
  refine g_gi q12_f131 e4 ?_
  obtain ⟨h5, e6, h⟩ := m_bd h
  refine g_pf q12_f134 e6 ?_
  refine g_ch [(0, .ref x0)] [.int 0, .ref x0] (pc' := 15) rfl rfl rfl ?_
  obtain ⟨h7, e8, h⟩ := m_bd h
  refine g_pf q12_f131 e8 ?_
  refine g_ch [(0, .ref x0)] [.int 0, .ref x0] (pc' := 20) rfl rfl rfl ?_
  obtain ⟨h9, e10, h⟩ := m_bd h
  refine g_pf q12_f137 e10 ?_
  cases h
  rw [k0 _ hK]
  exact g_vret rfl
theorem OF12_uses {x0 : Nat} {hp : m_H} {x : m_H} (h : F12_uses x0 hp = some x) : m_isO hp 9 x0 = true := (m_gdd h).1
theorem SF12_uses {xs : Nat → Int32} {L : Nat} {x0 : Nat} {hp : m_H} {x : m_H} (h : F12_uses x0 hp = some x) : m_Rn xs L 0 2438 0 (lv_args 0 [.ref x0]) [] hp (.inl none, x) :=
  r_lv (SF12_uses_0 x0 hp (K := fun y => y = x) (fun y e => by rw [e]) (m_gdd h).2 rfl) rfl ⟨rfl, trivial⟩
-- F12_isAt: LendHouseModel.isAt(II)Z
theorem eF12_isAt_0 : m_Fe mi12_39 0 (m_ap [(.aload_n 0, 1)] ((.getfield 137, 3) :: (m_ap [(.aload_n 0, 1)] ((.getfield 134, 3) :: ([(.if_icmp .ge 33, 3)]))))) := m_Fe_of nd2439 0 5 rfl
theorem eF12_isAt_41 : m_Fe mi12_39 41 (m_ap [(.iconst 0, 1)] ([])) := m_Fe_of nd2439 21 1 rfl
theorem eF12_isAt_42 : m_Fe mi12_39 42 ([(.ireturn, 1)]) := m_Fe_of nd2439 22 1 rfl
theorem eF12_isAt_11 : m_Fe mi12_39 11 (m_ap [(.aload_n 0, 1)] ((.getfield 25, 3) :: (m_ap [(.aload_n 0, 1)] ((.getfield 137, 3) :: ((.baload, 1) :: (m_ap [(.iload_n 1, 1)] ([(.if_icmp .lt 20, 3)]))))))) := m_Fe_of nd2439 5 7 rfl
theorem eF12_isAt_24 : m_Fe mi12_39 24 (m_ap [(.aload_n 0, 1)] ((.getfield 25, 3) :: (m_ap [(.aload_n 0, 1)] ((.getfield 137, 3) :: ((.baload, 1) :: (m_ap [(.iload_n 2, 1)] ([(.if_icmp .gt 7, 3)]))))))) := m_Fe_of nd2439 12 7 rfl
theorem eF12_isAt_37 : m_Fe mi12_39 37 (m_ap [(.iconst 1, 1)] ([(.goto 4, 3)])) := m_Fe_of nd2439 19 2 rfl
theorem SF12_isAt_0 {xs : Nat → Int32} {L : Nat} (x0 : Nat) (x1 : Int32) (x2 : Int32) (hp : m_H) {r : m_O × m_H} {K : Int32 → Prop} (k0 : ∀ x, K x → r = (.inl (some (.int x)), hp)) {t : Int32} (h : F12_isAt_0 x0 x1 x2 hp = some t) (hK : K t) : m_Rn xs L 0 2439 0 [(0, .ref x0), (1, .int x1), (2, .int x2)] [] hp r := by
  unfold F12_isAt_0 at h
  refine g_in eF12_isAt_0 mx2439 ?_
  refine g_ch [(0, .ref x0), (1, .int x1), (2, .int x2)] [.ref x0] (pc' := 1) rfl rfl rfl ?_
  obtain ⟨v1, e2, h⟩ := m_bd h
  refine g_gi q12_f137 e2 ?_
  refine g_ch [(0, .ref x0), (1, .int x1), (2, .int x2)] [.ref x0, .int v1] (pc' := 5) rfl rfl rfl ?_
  obtain ⟨v3, e4, h⟩ := m_bd h
  refine g_gi q12_f134 e4 ?_
  rcases m_ifd h with ⟨c5, h⟩ | ⟨c5, h⟩
  · refine g_if (t := 41) rfl (m_geT c5) ?_
    refine g_in eF12_isAt_41 mx2439 ?_
    refine g_ch [(0, .ref x0), (1, .int x1), (2, .int x2)] [.int 0] (pc' := 42) rfl rfl rfl ?_
    refine g_end ?_
    refine g_in eF12_isAt_42 mx2439 ?_
    cases h
    rw [k0 _ hK]
    exact g_iret rfl (by decide +kernel)
  · refine g_ifn (t := 41) rfl (m_geF c5) ?_
    refine g_in eF12_isAt_11 mx2439 ?_
    refine g_ch [(0, .ref x0), (1, .int x1), (2, .int x2)] [.ref x0] (pc' := 12) rfl rfl rfl ?_
    obtain ⟨v6, e7, h⟩ := m_bd h
    refine g_gr q12_f25 e7 ?_
    refine g_ch [(0, .ref x0), (1, .int x1), (2, .int x2)] [.ref x0, .ref v6] (pc' := 16) rfl rfl rfl ?_
    obtain ⟨v8, e9, h⟩ := m_bd h
    refine g_gi q12_f137 e9 ?_
    obtain ⟨v10, e11, h⟩ := m_bd h
    refine g_ba2 e11 ?_
    refine g_ch [(0, .ref x0), (1, .int x1), (2, .int x2)] [.int x1, .int v10] (pc' := 21) rfl rfl rfl ?_
    rcases m_ifd h with ⟨c12, h⟩ | ⟨c12, h⟩
    · refine g_if (t := 41) rfl (m_ltT c12) ?_
      refine g_in eF12_isAt_41 mx2439 ?_
      refine g_ch [(0, .ref x0), (1, .int x1), (2, .int x2)] [.int 0] (pc' := 42) rfl rfl rfl ?_
      refine g_end ?_
      refine g_in eF12_isAt_42 mx2439 ?_
      cases h
      rw [k0 _ hK]
      exact g_iret rfl (by decide +kernel)
    · refine g_ifn (t := 41) rfl (m_ltF c12) ?_
      refine g_in eF12_isAt_24 mx2439 ?_
      refine g_ch [(0, .ref x0), (1, .int x1), (2, .int x2)] [.ref x0] (pc' := 25) rfl rfl rfl ?_
      obtain ⟨v13, e14, h⟩ := m_bd h
      refine g_gr q12_f25 e14 ?_
      refine g_ch [(0, .ref x0), (1, .int x1), (2, .int x2)] [.ref x0, .ref v13] (pc' := 29) rfl rfl rfl ?_
      obtain ⟨v15, e16, h⟩ := m_bd h
      refine g_gi q12_f137 e16 ?_
      obtain ⟨v17, e18, h⟩ := m_bd h
      refine g_ba2 e18 ?_
      refine g_ch [(0, .ref x0), (1, .int x1), (2, .int x2)] [.int x2, .int v17] (pc' := 34) rfl rfl rfl ?_
      rcases m_ifd h with ⟨c19, h⟩ | ⟨c19, h⟩
      · refine g_if (t := 41) rfl (m_gtT c19) ?_
        refine g_in eF12_isAt_41 mx2439 ?_
        refine g_ch [(0, .ref x0), (1, .int x1), (2, .int x2)] [.int 0] (pc' := 42) rfl rfl rfl ?_
        refine g_end ?_
        refine g_in eF12_isAt_42 mx2439 ?_
        cases h
        rw [k0 _ hK]
        exact g_iret rfl (by decide +kernel)
      · refine g_ifn (t := 41) rfl (m_gtF c19) ?_
        refine g_in eF12_isAt_37 mx2439 ?_
        refine g_ch [(0, .ref x0), (1, .int x1), (2, .int x2)] [.int 1] (pc' := 38) rfl rfl rfl ?_
        refine g_goto (t := 42) rfl ?_
        refine g_in eF12_isAt_42 mx2439 ?_
        cases h
        rw [k0 _ hK]
        exact g_iret rfl (by decide +kernel)
theorem OF12_isAt {x0 : Nat} {x1 : Int32} {x2 : Int32} {hp : m_H} {x : Int32} (h : F12_isAt x0 x1 x2 hp = some x) : m_isO hp 9 x0 = true := (m_gdd h).1
theorem SF12_isAt {xs : Nat → Int32} {L : Nat} {x0 : Nat} {x1 : Int32} {x2 : Int32} {hp : m_H} {x : Int32} (h : F12_isAt x0 x1 x2 hp = some x) : m_Rn xs L 0 2439 0 (lv_args 0 [.ref x0, .int x1, .int x2]) [] hp (.inl (some (.int x)), hp) :=
  r_lv (SF12_isAt_0 x0 x1 x2 hp (K := fun y => y = x) (fun y e => by rw [e]) (m_gdd h).2 rfl) rfl ⟨rfl, rfl, rfl, trivial⟩
-- F12_blanks: LendHouseModel.blanks()V
theorem eF12_blanks_0 : m_Fe mi12_40 0 (m_ap [(.aload_n 0, 1), (.bipush 32, 2), (.bipush 32, 2)] ((.invokevirtual 140, 3) :: ([(.ifCond .eq 16, 3)]))) := m_Fe_of nd2440 0 5 rfl
theorem eF12_blanks_24 : m_Fe mi12_40 24 (m_ap [(.aload_n 0, 1), (.aload_n 0, 1)] ((.getfield 137, 3) :: ((.putfield 144, 3) :: ([(.return_, 1)])))) := m_Fe_of nd2440 12 5 rfl
theorem eF12_blanks_11 : m_Fe mi12_40 11 (m_ap [(.aload_n 0, 1), (.dup, 1)] ((.getfield 137, 3) :: (m_ap [(.iconst 1, 1), (.iadd, 1)] ((.putfield 137, 3) :: ([(.goto (-21), 3)]))))) := m_Fe_of nd2440 5 7 rfl
theorem SF12_blanks_0b {xs : Nat → Int32} {L : Nat} (x0 : Nat) (s : m_H) {r : m_O × m_H} {K : (m_H ⊕ m_H) → Prop} (k0 : ∀ x, K (.inr x) → r = (.inl none, x)) (k1 : ∀ s, K (.inl s) → m_Rn xs L 1 2440 0 [(0, .ref x0)] [] s r) {t : m_H ⊕ m_H} (h : F12_blanks_0b x0 s = some t) (hK : K t) : m_Rn xs L 1 2440 0 [(0, .ref x0)] [] s r := by
  unfold F12_blanks_0b at h
  refine g_in eF12_blanks_0 mx2440 ?_
  refine g_ch [(0, .ref x0)] [.int 32, .int 32, .ref x0] (pc' := 5) rfl rfl rfl ?_
  obtain ⟨v2, e1, h⟩ := m_bd h
  refine g_call (v := some (.int v2)) (h := s) (st' := [.int v2]) (D1 := 0) (as := [.ref x0, .int 32, .int 32]) (Or.inr (Or.inl rfl)) q12_m140 (m_cv (as := [.int 32, .int 32]) (rest := []) (Or.inl rfl) q12_m140 jv2439 (OF12_isAt e1) rfl rfl rfl rfl) (by decide) (SF12_isAt e1) rfl ?_
  rcases m_ifd h with ⟨c3, h⟩ | ⟨c3, h⟩
  · refine g_ifc (t := 24) rfl (m_eqT c3) ?_
    refine g_in eF12_blanks_24 mx2440 ?_
    refine g_ch [(0, .ref x0)] [.ref x0, .ref x0] (pc' := 26) rfl rfl rfl ?_
    obtain ⟨v4, e5, h⟩ := m_bd h
    refine g_gi q12_f137 e5 ?_
    obtain ⟨h6, e7, h⟩ := m_bd h
    refine g_pf q12_f144 e7 ?_
    cases h
    rw [k0 _ hK]
    exact g_vret rfl
  · refine g_ifcn (t := 24) rfl (m_eqF c3) ?_
    refine g_in eF12_blanks_11 mx2440 ?_
    refine g_ch [(0, .ref x0)] [.ref x0, .ref x0] (pc' := 13) rfl rfl rfl ?_
    obtain ⟨v8, e9, h⟩ := m_bd h
    refine g_gi q12_f137 e9 ?_
    refine g_ch [(0, .ref x0)] [.int (v8 + 1), .ref x0] (pc' := 18) rfl rfl rfl ?_
    obtain ⟨h10, e11, h⟩ := m_bd h
    refine g_pf q12_f137 e11 ?_
    refine g_goto (t := 0) rfl ?_
    cases h
    exact r_lv (k1 h10 hK) rfl ⟨rfl, trivial⟩
theorem SF12_blanks_0 {xs : Nat → Int32} {L : Nat} (x0 : Nat) (hp : m_H) {r : m_O × m_H} {K : m_H → Prop} (k0 : ∀ x, K x → r = (.inl none, x)) {t : m_H} (h : F12_blanks_0 x0 hp = some t) (hK : K t) : m_Rn xs L 1 2440 0 [(0, .ref x0)] [] hp r :=
  m_wh_ok (P := fun s => m_Rn xs L 1 2440 0 [(0, .ref x0)] [] s r) (Q := K) (fun s t hb hK => SF12_blanks_0b x0 s (K := m_KK (fun s => m_Rn xs L 1 2440 0 [(0, .ref x0)] [] s r) K) k0 (fun _ q => q) hb hK) m_N _ _ h hK
theorem OF12_blanks {x0 : Nat} {hp : m_H} {x : m_H} (h : F12_blanks x0 hp = some x) : m_isO hp 9 x0 = true := (m_gdd h).1
theorem SF12_blanks {xs : Nat → Int32} {L : Nat} {x0 : Nat} {hp : m_H} {x : m_H} (h : F12_blanks x0 hp = some x) : m_Rn xs L 1 2440 0 (lv_args 0 [.ref x0]) [] hp (.inl none, x) :=
  r_lv (SF12_blanks_0 x0 hp (K := fun y => y = x) (fun y e => by rw [e]) (m_gdd h).2 rfl) rfl ⟨rfl, trivial⟩
-- F12_word: LendHouseModel.word()V
theorem eF12_word_0 : m_Fe mi12_41 0 (m_ap [(.aload_n 0, 1)] ([(.invokevirtual 147, 3)])) := m_Fe_of nd2441 0 2 rfl
theorem eF12_word_4 : m_Fe mi12_41 4 (m_ap [(.aload_n 0, 1), (.bipush 97, 2), (.bipush 122, 2)] ((.invokevirtual 140, 3) :: ([(.ifCond .eq 16, 3)]))) := m_Fe_of nd2441 2 5 rfl
theorem eF12_word_28 : m_Fe mi12_41 28 ([(.return_, 1)]) := m_Fe_of nd2441 14 1 rfl
theorem eF12_word_15 : m_Fe mi12_41 15 (m_ap [(.aload_n 0, 1), (.dup, 1)] ((.getfield 137, 3) :: (m_ap [(.iconst 1, 1), (.iadd, 1)] ((.putfield 137, 3) :: ([(.goto (-21), 3)]))))) := m_Fe_of nd2441 7 7 rfl
theorem SF12_word_4b {xs : Nat → Int32} {L : Nat} (x0 : Nat) (s : m_H) {r : m_O × m_H} {K : (m_H ⊕ m_H) → Prop} (k0 : ∀ x, K (.inr x) → r = (.inl none, x)) (k1 : ∀ s, K (.inl s) → m_Rn xs L 2 2441 4 [(0, .ref x0)] [] s r) {t : m_H ⊕ m_H} (h : F12_word_4b x0 s = some t) (hK : K t) : m_Rn xs L 2 2441 4 [(0, .ref x0)] [] s r := by
  unfold F12_word_4b at h
  refine g_in eF12_word_4 mx2441 ?_
  refine g_ch [(0, .ref x0)] [.int 122, .int 97, .ref x0] (pc' := 9) rfl rfl rfl ?_
  obtain ⟨v2, e1, h⟩ := m_bd h
  refine g_call (v := some (.int v2)) (h := s) (st' := [.int v2]) (D1 := 0) (as := [.ref x0, .int 97, .int 122]) (Or.inr (Or.inl rfl)) q12_m140 (m_cv (as := [.int 122, .int 97]) (rest := []) (Or.inl rfl) q12_m140 jv2439 (OF12_isAt e1) rfl rfl rfl rfl) (by decide) (SF12_isAt e1) rfl ?_
  rcases m_ifd h with ⟨c3, h⟩ | ⟨c3, h⟩
  · refine g_ifc (t := 28) rfl (m_eqT c3) ?_
    refine g_in eF12_word_28 mx2441 ?_
    cases h
    rw [k0 _ hK]
    exact g_vret rfl
  · refine g_ifcn (t := 28) rfl (m_eqF c3) ?_
    refine g_in eF12_word_15 mx2441 ?_
    refine g_ch [(0, .ref x0)] [.ref x0, .ref x0] (pc' := 17) rfl rfl rfl ?_
    obtain ⟨v4, e5, h⟩ := m_bd h
    refine g_gi q12_f137 e5 ?_
    refine g_ch [(0, .ref x0)] [.int (v4 + 1), .ref x0] (pc' := 22) rfl rfl rfl ?_
    obtain ⟨h6, e7, h⟩ := m_bd h
    refine g_pf q12_f137 e7 ?_
    refine g_goto (t := 4) rfl ?_
    cases h
    exact r_lv (k1 h6 hK) rfl ⟨rfl, trivial⟩
theorem SF12_word_4 {xs : Nat → Int32} {L : Nat} (x0 : Nat) (hp : m_H) {r : m_O × m_H} {K : m_H → Prop} (k0 : ∀ x, K x → r = (.inl none, x)) {t : m_H} (h : F12_word_4 x0 hp = some t) (hK : K t) : m_Rn xs L 2 2441 4 [(0, .ref x0)] [] hp r :=
  m_wh_ok (P := fun s => m_Rn xs L 2 2441 4 [(0, .ref x0)] [] s r) (Q := K) (fun s t hb hK => SF12_word_4b x0 s (K := m_KK (fun s => m_Rn xs L 2 2441 4 [(0, .ref x0)] [] s r) K) k0 (fun _ q => q) hb hK) m_N _ _ h hK
theorem SF12_word_0 {xs : Nat → Int32} {L : Nat} (x0 : Nat) (hp : m_H) {r : m_O × m_H} {K : m_H → Prop} (k0 : ∀ x, K x → r = (.inl none, x)) {t : m_H} (h : F12_word_0 x0 hp = some t) (hK : K t) : m_Rn xs L 2 2441 0 [(0, .ref x0)] [] hp r := by
  unfold F12_word_0 at h
  refine g_in eF12_word_0 mx2441 ?_
  refine g_ch [(0, .ref x0)] [.ref x0] (pc' := 1) rfl rfl rfl ?_
  obtain ⟨h2, e1, h⟩ := m_bd h
  refine g_call (v := none) (h := h2) (st' := []) (D1 := 1) (as := [.ref x0]) (Or.inr (Or.inl rfl)) q12_m147 (m_cv (as := []) (rest := []) (Or.inl rfl) q12_m147 jv2440 (OF12_blanks e1) rfl rfl rfl rfl) (by decide) (SF12_blanks e1) rfl ?_
  refine g_end ?_
  exact r_lv (SF12_word_4 x0 h2 (K := K) k0 h hK) rfl ⟨rfl, trivial⟩
theorem OF12_word {x0 : Nat} {hp : m_H} {x : m_H} (h : F12_word x0 hp = some x) : m_isO hp 9 x0 = true := (m_gdd h).1
theorem SF12_word {xs : Nat → Int32} {L : Nat} {x0 : Nat} {hp : m_H} {x : m_H} (h : F12_word x0 hp = some x) : m_Rn xs L 2 2441 0 (lv_args 0 [.ref x0]) [] hp (.inl none, x) :=
  r_lv (SF12_word_0 x0 hp (K := fun y => y = x) (fun y e => by rw [e]) (m_gdd h).2 rfl) rfl ⟨rfl, trivial⟩
-- F12_isWord: LendHouseModel.isWord(Ljava/lang/String;)Z
theorem eF12_isWord_0 : m_Fe mi12_42 0 (m_ap [(.aload_n 0, 1)] ((.getfield 137, 3) :: (m_ap [(.aload_n 0, 1)] ((.getfield 144, 3) :: (m_ap [(.isub, 1), (.aload_n 1, 1)] ((.invokevirtual 150, 3) :: ([(.if_icmp .ne 7, 3)]))))))) := m_Fe_of nd2442 0 8 rfl
theorem eF12_isWord_20 : m_Fe mi12_42 20 (m_ap [(.iconst 0, 1)] ([])) := m_Fe_of nd2442 10 1 rfl
theorem eF12_isWord_16 : m_Fe mi12_42 16 (m_ap [(.iconst 1, 1)] ([(.goto 4, 3)])) := m_Fe_of nd2442 8 2 rfl
theorem eF12_isWord_21 : m_Fe mi12_42 21 (m_ap [(.istore_n 2, 1), (.iconst 0, 1), (.istore_n 3, 1)] ([])) := m_Fe_of nd2442 11 3 rfl
theorem eF12_isWord_24 : m_Fe mi12_42 24 (m_ap [(.iload_n 2, 1)] ([(.ifCond .eq 42, 3)])) := m_Fe_of nd2442 14 2 rfl
theorem eF12_isWord_67 : m_Fe mi12_42 67 (m_ap [(.iload_n 2, 1)] ([(.ireturn, 1)])) := m_Fe_of nd2442 37 2 rfl
theorem eF12_isWord_28 : m_Fe mi12_42 28 (m_ap [(.iload_n 3, 1), (.aload_n 1, 1)] ((.invokevirtual 150, 3) :: ([(.if_icmp .ge 34, 3)]))) := m_Fe_of nd2442 16 4 rfl
theorem eF12_isWord_36 : m_Fe mi12_42 36 (m_ap [(.aload_n 0, 1)] ((.getfield 25, 3) :: (m_ap [(.aload_n 0, 1)] ((.getfield 144, 3) :: (m_ap [(.iload_n 3, 1), (.iadd, 1)] ((.baload, 1) :: (m_ap [(.aload_n 1, 1), (.iload_n 3, 1)] ((.invokevirtual 155, 3) :: ([(.if_icmp .ne 7, 3)]))))))))) := m_Fe_of nd2442 20 11 rfl
theorem eF12_isWord_59 : m_Fe mi12_42 59 (m_ap [(.iconst 0, 1)] ([])) := m_Fe_of nd2442 33 1 rfl
theorem eF12_isWord_60 : m_Fe mi12_42 60 (m_ap [(.istore_n 2, 1), (.iinc 3 1, 3)] ([(.goto (-40), 3)])) := m_Fe_of nd2442 34 3 rfl
theorem eF12_isWord_55 : m_Fe mi12_42 55 (m_ap [(.iconst 1, 1)] ([(.goto 4, 3)])) := m_Fe_of nd2442 31 2 rfl
theorem SF12_isWord_24b {xs : Nat → Int32} {L : Nat} (x0 : Nat) (x1 : Nat) (hp : m_H) (s : Int32 × Int32) {r : m_O × m_H} {K : ((Int32 × Int32) ⊕ Int32) → Prop} (k0 : ∀ x, K (.inr x) → r = (.inl (some (.int x)), hp)) (k1 : ∀ s, K (.inl s) → m_Rn xs L 7 2442 24 [(0, .ref x0), (1, .ref x1), (2, .int s.1), (3, .int s.2)] [] hp r) {t : (Int32 × Int32) ⊕ Int32} (h : F12_isWord_24b x0 x1 hp s = some t) (hK : K t) : m_Rn xs L 7 2442 24 [(0, .ref x0), (1, .ref x1), (2, .int s.1), (3, .int s.2)] [] hp r := by
  unfold F12_isWord_24b at h
  refine g_in eF12_isWord_24 mx2442 ?_
  refine g_ch [(0, .ref x0), (1, .ref x1), (2, .int s.1), (3, .int s.2)] [.int s.1] (pc' := 25) rfl rfl rfl ?_
  rcases m_ifd h with ⟨c1, h⟩ | ⟨c1, h⟩
  · refine g_ifc (t := 67) rfl (m_eqT c1) ?_
    refine g_in eF12_isWord_67 mx2442 ?_
    refine g_ch [(0, .ref x0), (1, .ref x1), (2, .int s.1), (3, .int s.2)] [.int s.1] (pc' := 68) rfl rfl rfl ?_
    obtain ⟨e2, h⟩ := m_gdd h
    cases h
    rw [k0 _ hK]
    exact g_iret rfl e2
  · refine g_ifcn (t := 67) rfl (m_eqF c1) ?_
    refine g_in eF12_isWord_28 mx2442 ?_
    refine g_ch [(0, .ref x0), (1, .ref x1), (2, .int s.1), (3, .int s.2)] [.ref x1, .int s.2] (pc' := 30) rfl rfl rfl ?_
    obtain ⟨v4, e3, h⟩ := m_bd h
    refine g_nat (Or.inr (Or.inl rfl)) q12_m150 rfl (z := ([.int v4, .int s.2], hp)) (m_z6 e3) (by decide) ?_
    rcases m_ifd h with ⟨c5, h⟩ | ⟨c5, h⟩
    · refine g_if (t := 67) rfl (m_geT c5) ?_
      refine g_in eF12_isWord_67 mx2442 ?_
      refine g_ch [(0, .ref x0), (1, .ref x1), (2, .int s.1), (3, .int s.2)] [.int s.1] (pc' := 68) rfl rfl rfl ?_
      obtain ⟨e6, h⟩ := m_gdd h
      cases h
      rw [k0 _ hK]
      exact g_iret rfl e6
    · refine g_ifn (t := 67) rfl (m_geF c5) ?_
      refine g_in eF12_isWord_36 mx2442 ?_
      refine g_ch [(0, .ref x0), (1, .ref x1), (2, .int s.1), (3, .int s.2)] [.ref x0] (pc' := 37) rfl rfl rfl ?_
      obtain ⟨v7, e8, h⟩ := m_bd h
      refine g_gr q12_f25 e8 ?_
      refine g_ch [(0, .ref x0), (1, .ref x1), (2, .int s.1), (3, .int s.2)] [.ref x0, .ref v7] (pc' := 41) rfl rfl rfl ?_
      obtain ⟨v9, e10, h⟩ := m_bd h
      refine g_gi q12_f144 e10 ?_
      refine g_ch [(0, .ref x0), (1, .ref x1), (2, .int s.1), (3, .int s.2)] [.int (v9 + s.2), .ref v7] (pc' := 46) rfl rfl rfl ?_
      obtain ⟨v11, e12, h⟩ := m_bd h
      refine g_ba2 e12 ?_
      refine g_ch [(0, .ref x0), (1, .ref x1), (2, .int s.1), (3, .int s.2)] [.int s.2, .ref x1, .int v11] (pc' := 49) rfl rfl rfl ?_
      obtain ⟨v14, e13, h⟩ := m_bd h
      refine g_nat (Or.inr (Or.inl rfl)) q12_m155 rfl (z := ([.int v14, .int v11], hp)) (m_z7 e13) (by decide) ?_
      rcases m_ifd h with ⟨c15, h⟩ | ⟨c15, h⟩
      · refine g_ifn (t := 59) rfl (m_neF c15) ?_
        refine g_in eF12_isWord_55 mx2442 ?_
        refine g_ch [(0, .ref x0), (1, .ref x1), (2, .int s.1), (3, .int s.2)] [.int 1] (pc' := 56) rfl rfl rfl ?_
        refine g_goto (t := 60) rfl ?_
        refine g_in eF12_isWord_60 mx2442 ?_
        refine g_ch [(3, .int (s.2 + 1)), (2, .int 1), (0, .ref x0), (1, .ref x1)] [] (pc' := 64) rfl rfl rfl ?_
        refine g_goto (t := 24) rfl ?_
        cases h
        exact r_lv (k1 (1, (s.2 + 1)) hK) rfl ⟨rfl, rfl, rfl, rfl, trivial⟩
      · refine g_if (t := 59) rfl (m_neT c15) ?_
        refine g_in eF12_isWord_59 mx2442 ?_
        refine g_ch [(0, .ref x0), (1, .ref x1), (2, .int s.1), (3, .int s.2)] [.int 0] (pc' := 60) rfl rfl rfl ?_
        refine g_end ?_
        refine g_in eF12_isWord_60 mx2442 ?_
        refine g_ch [(3, .int (s.2 + 1)), (2, .int 0), (0, .ref x0), (1, .ref x1)] [] (pc' := 64) rfl rfl rfl ?_
        refine g_goto (t := 24) rfl ?_
        cases h
        exact r_lv (k1 (0, (s.2 + 1)) hK) rfl ⟨rfl, rfl, rfl, rfl, trivial⟩
theorem SF12_isWord_24 {xs : Nat → Int32} {L : Nat} (x0 : Nat) (x1 : Nat) (x2 : Int32) (x3 : Int32) (hp : m_H) {r : m_O × m_H} {K : Int32 → Prop} (k0 : ∀ x, K x → r = (.inl (some (.int x)), hp)) {t : Int32} (h : F12_isWord_24 x0 x1 x2 x3 hp = some t) (hK : K t) : m_Rn xs L 7 2442 24 [(0, .ref x0), (1, .ref x1), (2, .int x2), (3, .int x3)] [] hp r :=
  m_wh_ok (P := fun s => m_Rn xs L 7 2442 24 [(0, .ref x0), (1, .ref x1), (2, .int s.1), (3, .int s.2)] [] hp r) (Q := K) (fun s t hb hK => SF12_isWord_24b x0 x1 hp s (K := m_KK (fun s => m_Rn xs L 7 2442 24 [(0, .ref x0), (1, .ref x1), (2, .int s.1), (3, .int s.2)] [] hp r) K) k0 (fun _ q => q) hb hK) m_N _ _ h hK
theorem SF12_isWord_21 {xs : Nat → Int32} {L : Nat} (x0 : Nat) (x1 : Nat) (s0 : Int32) (hp : m_H) {r : m_O × m_H} {K : Int32 → Prop} (k0 : ∀ x, K x → r = (.inl (some (.int x)), hp)) {t : Int32} (h : F12_isWord_21 x0 x1 s0 hp = some t) (hK : K t) : m_Rn xs L 7 2442 21 [(0, .ref x0), (1, .ref x1)] [.int s0] hp r := by
  unfold F12_isWord_21 at h
  refine g_in eF12_isWord_21 mx2442 ?_
  refine g_ch [(3, .int 0), (2, .int s0), (0, .ref x0), (1, .ref x1)] [] (pc' := 24) rfl rfl rfl ?_
  refine g_end ?_
  exact r_lv (SF12_isWord_24 x0 x1 s0 0 hp (K := K) k0 h hK) rfl ⟨rfl, rfl, rfl, rfl, trivial⟩
theorem SF12_isWord_0 {xs : Nat → Int32} {L : Nat} (x0 : Nat) (x1 : Nat) (hp : m_H) {r : m_O × m_H} {K : Int32 → Prop} (k0 : ∀ x, K x → r = (.inl (some (.int x)), hp)) {t : Int32} (h : F12_isWord_0 x0 x1 hp = some t) (hK : K t) : m_Rn xs L 7 2442 0 [(0, .ref x0), (1, .ref x1)] [] hp r := by
  unfold F12_isWord_0 at h
  refine g_in eF12_isWord_0 mx2442 ?_
  refine g_ch [(0, .ref x0), (1, .ref x1)] [.ref x0] (pc' := 1) rfl rfl rfl ?_
  obtain ⟨v1, e2, h⟩ := m_bd h
  refine g_gi q12_f137 e2 ?_
  refine g_ch [(0, .ref x0), (1, .ref x1)] [.ref x0, .int v1] (pc' := 5) rfl rfl rfl ?_
  obtain ⟨v3, e4, h⟩ := m_bd h
  refine g_gi q12_f144 e4 ?_
  refine g_ch [(0, .ref x0), (1, .ref x1)] [.ref x1, .int (v1 - v3)] (pc' := 10) rfl rfl rfl ?_
  obtain ⟨v6, e5, h⟩ := m_bd h
  refine g_nat (Or.inr (Or.inl rfl)) q12_m150 rfl (z := ([.int v6, .int (v1 - v3)], hp)) (m_z6 e5) (by decide) ?_
  rcases m_ifd h with ⟨c7, h⟩ | ⟨c7, h⟩
  · refine g_ifn (t := 20) rfl (m_neF c7) ?_
    refine g_in eF12_isWord_16 mx2442 ?_
    refine g_ch [(0, .ref x0), (1, .ref x1)] [.int 1] (pc' := 17) rfl rfl rfl ?_
    refine g_goto (t := 21) rfl ?_
    exact r_lv (SF12_isWord_21 x0 x1 1 hp (K := K) k0 h hK) rfl ⟨rfl, rfl, trivial⟩
  · refine g_if (t := 20) rfl (m_neT c7) ?_
    refine g_in eF12_isWord_20 mx2442 ?_
    refine g_ch [(0, .ref x0), (1, .ref x1)] [.int 0] (pc' := 21) rfl rfl rfl ?_
    refine g_end ?_
    exact r_lv (SF12_isWord_21 x0 x1 0 hp (K := K) k0 h hK) rfl ⟨rfl, rfl, trivial⟩
theorem OF12_isWord {x0 : Nat} {x1 : Nat} {hp : m_H} {x : Int32} (h : F12_isWord x0 x1 hp = some x) : m_isO hp 9 x0 = true := (m_gdd h).1
theorem SF12_isWord {xs : Nat → Int32} {L : Nat} {x0 : Nat} {x1 : Nat} {hp : m_H} {x : Int32} (h : F12_isWord x0 x1 hp = some x) : m_Rn xs L 7 2442 0 (lv_args 0 [.ref x0, .ref x1]) [] hp (.inl (some (.int x)), hp) :=
  r_lv (SF12_isWord_0 x0 x1 hp (K := fun y => y = x) (fun y e => by rw [e]) (m_gdd h).2 rfl) rfl ⟨rfl, rfl, trivial⟩
-- F12_passes: LendHouseModel.passes(Ljava/lang/String;)Z
theorem eF12_passes_0 : m_Fe mi12_43 0 (m_ap [(.aload_n 0, 1)] ((.invokevirtual 159, 3) :: (m_ap [(.aload_n 0, 1), (.aload_n 1, 1)] ((.invokevirtual 162, 3) :: ([(.ifCond .eq 5, 3)]))))) := m_Fe_of nd2443 0 6 rfl
theorem eF12_passes_14 : m_Fe mi12_43 14 (m_ap [(.aload_n 0, 1), (.aload_n 0, 1)] ((.getfield 144, 3) :: ((.putfield 137, 3) :: (m_ap [(.iconst 0, 1)] ([(.ireturn, 1)]))))) := m_Fe_of nd2443 8 6 rfl
theorem eF12_passes_12 : m_Fe mi12_43 12 (m_ap [(.iconst 1, 1)] ([(.ireturn, 1)])) := m_Fe_of nd2443 6 2 rfl
theorem SF12_passes_0 {xs : Nat → Int32} {L : Nat} (x0 : Nat) (x1 : Nat) (hp : m_H) {r : m_O × m_H} {K : (Int32 × m_H) → Prop} (k0 : ∀ x, K x → r = (.inl (some (.int x.1)), x.2)) {t : Int32 × m_H} (h : F12_passes_0 x0 x1 hp = some t) (hK : K t) : m_Rn xs L 8 2443 0 [(0, .ref x0), (1, .ref x1)] [] hp r := by
  unfold F12_passes_0 at h
  refine g_in eF12_passes_0 mx2443 ?_
  refine g_ch [(0, .ref x0), (1, .ref x1)] [.ref x0] (pc' := 1) rfl rfl rfl ?_
  obtain ⟨h2, e1, h⟩ := m_bd h
  refine g_call (v := none) (h := h2) (st' := []) (D1 := 2) (as := [.ref x0]) (Or.inr (Or.inl rfl)) q12_m159 (m_cv (as := []) (rest := []) (Or.inl rfl) q12_m159 jv2441 (OF12_word e1) rfl rfl rfl rfl) (by decide) (SF12_word e1) rfl ?_
  refine g_ch [(0, .ref x0), (1, .ref x1)] [.ref x1, .ref x0] (pc' := 6) rfl rfl rfl ?_
  obtain ⟨v4, e3, h⟩ := m_bd h
  refine g_call (v := some (.int v4)) (h := h2) (st' := [.int v4]) (D1 := 7) (as := [.ref x0, .ref x1]) (Or.inr (Or.inl rfl)) q12_m162 (m_cv (as := [.ref x1]) (rest := []) (Or.inl rfl) q12_m162 jv2442 (OF12_isWord e3) rfl rfl rfl rfl) (by decide) (SF12_isWord e3) rfl ?_
  rcases m_ifd h with ⟨c5, h⟩ | ⟨c5, h⟩
  · refine g_ifc (t := 14) rfl (m_eqT c5) ?_
    refine g_in eF12_passes_14 mx2443 ?_
    refine g_ch [(0, .ref x0), (1, .ref x1)] [.ref x0, .ref x0] (pc' := 16) rfl rfl rfl ?_
    obtain ⟨v6, e7, h⟩ := m_bd h
    refine g_gi q12_f144 e7 ?_
    obtain ⟨h8, e9, h⟩ := m_bd h
    refine g_pf q12_f137 e9 ?_
    refine g_ch [(0, .ref x0), (1, .ref x1)] [.int 0] (pc' := 23) rfl rfl rfl ?_
    cases h
    rw [k0 _ hK]
    exact g_iret rfl (by decide +kernel)
  · refine g_ifcn (t := 14) rfl (m_eqF c5) ?_
    refine g_in eF12_passes_12 mx2443 ?_
    refine g_ch [(0, .ref x0), (1, .ref x1)] [.int 1] (pc' := 13) rfl rfl rfl ?_
    cases h
    rw [k0 _ hK]
    exact g_iret rfl (by decide +kernel)
theorem OF12_passes {x0 : Nat} {x1 : Nat} {hp : m_H} {x : Int32 × m_H} (h : F12_passes x0 x1 hp = some x) : m_isO hp 9 x0 = true := (m_gdd h).1
theorem SF12_passes {xs : Nat → Int32} {L : Nat} {x0 : Nat} {x1 : Nat} {hp : m_H} {x : Int32 × m_H} (h : F12_passes x0 x1 hp = some x) : m_Rn xs L 8 2443 0 (lv_args 0 [.ref x0, .ref x1]) [] hp (.inl (some (.int x.1)), x.2) :=
  r_lv (SF12_passes_0 x0 x1 hp (K := fun y => y = x) (fun y e => by rw [e]) (m_gdd h).2 rfl) rfl ⟨rfl, rfl, trivial⟩
-- F12_sign: LendHouseModel.sign(I)Z
theorem eF12_sign_0 : m_Fe mi12_44 0 (m_ap [(.aload_n 0, 1)] ((.invokevirtual 147, 3) :: (m_ap [(.aload_n 0, 1), (.iload_n 1, 1), (.iload_n 1, 1)] ((.invokevirtual 140, 3) :: ([(.ifCond .ne 5, 3)]))))) := m_Fe_of nd2444 0 7 rfl
theorem eF12_sign_15 : m_Fe mi12_44 15 (m_ap [(.aload_n 0, 1), (.dup, 1)] ((.getfield 137, 3) :: (m_ap [(.iconst 1, 1), (.iadd, 1)] ((.putfield 137, 3) :: (m_ap [(.iconst 1, 1)] ([(.ireturn, 1)])))))) := m_Fe_of nd2444 9 8 rfl
theorem eF12_sign_13 : m_Fe mi12_44 13 (m_ap [(.iconst 0, 1)] ([(.ireturn, 1)])) := m_Fe_of nd2444 7 2 rfl
theorem SF12_sign_0 {xs : Nat → Int32} {L : Nat} (x0 : Nat) (x1 : Int32) (hp : m_H) {r : m_O × m_H} {K : (Int32 × m_H) → Prop} (k0 : ∀ x, K x → r = (.inl (some (.int x.1)), x.2)) {t : Int32 × m_H} (h : F12_sign_0 x0 x1 hp = some t) (hK : K t) : m_Rn xs L 2 2444 0 [(0, .ref x0), (1, .int x1)] [] hp r := by
  unfold F12_sign_0 at h
  refine g_in eF12_sign_0 mx2444 ?_
  refine g_ch [(0, .ref x0), (1, .int x1)] [.ref x0] (pc' := 1) rfl rfl rfl ?_
  obtain ⟨h2, e1, h⟩ := m_bd h
  refine g_call (v := none) (h := h2) (st' := []) (D1 := 1) (as := [.ref x0]) (Or.inr (Or.inl rfl)) q12_m147 (m_cv (as := []) (rest := []) (Or.inl rfl) q12_m147 jv2440 (OF12_blanks e1) rfl rfl rfl rfl) (by decide) (SF12_blanks e1) rfl ?_
  refine g_ch [(0, .ref x0), (1, .int x1)] [.int x1, .int x1, .ref x0] (pc' := 7) rfl rfl rfl ?_
  obtain ⟨v4, e3, h⟩ := m_bd h
  refine g_call (v := some (.int v4)) (h := h2) (st' := [.int v4]) (D1 := 0) (as := [.ref x0, .int x1, .int x1]) (Or.inr (Or.inl rfl)) q12_m140 (m_cv (as := [.int x1, .int x1]) (rest := []) (Or.inl rfl) q12_m140 jv2439 (OF12_isAt e3) rfl rfl rfl rfl) (by decide) (SF12_isAt e3) rfl ?_
  rcases m_ifd h with ⟨c5, h⟩ | ⟨c5, h⟩
  · refine g_ifcn (t := 15) rfl (m_neF c5) ?_
    refine g_in eF12_sign_13 mx2444 ?_
    refine g_ch [(0, .ref x0), (1, .int x1)] [.int 0] (pc' := 14) rfl rfl rfl ?_
    cases h
    rw [k0 _ hK]
    exact g_iret rfl (by decide +kernel)
  · refine g_ifc (t := 15) rfl (m_neT c5) ?_
    refine g_in eF12_sign_15 mx2444 ?_
    refine g_ch [(0, .ref x0), (1, .int x1)] [.ref x0, .ref x0] (pc' := 17) rfl rfl rfl ?_
    obtain ⟨v6, e7, h⟩ := m_bd h
    refine g_gi q12_f137 e7 ?_
    refine g_ch [(0, .ref x0), (1, .int x1)] [.int (v6 + 1), .ref x0] (pc' := 22) rfl rfl rfl ?_
    obtain ⟨h8, e9, h⟩ := m_bd h
    refine g_pf q12_f137 e9 ?_
    refine g_ch [(0, .ref x0), (1, .int x1)] [.int 1] (pc' := 26) rfl rfl rfl ?_
    cases h
    rw [k0 _ hK]
    exact g_iret rfl (by decide +kernel)
theorem OF12_sign {x0 : Nat} {x1 : Int32} {hp : m_H} {x : Int32 × m_H} (h : F12_sign x0 x1 hp = some x) : m_isO hp 9 x0 = true := (m_gdd h).1
theorem SF12_sign {xs : Nat → Int32} {L : Nat} {x0 : Nat} {x1 : Int32} {hp : m_H} {x : Int32 × m_H} (h : F12_sign x0 x1 hp = some x) : m_Rn xs L 2 2444 0 (lv_args 0 [.ref x0, .int x1]) [] hp (.inl (some (.int x.1)), x.2) :=
  r_lv (SF12_sign_0 x0 x1 hp (K := fun y => y = x) (fun y e => by rw [e]) (m_gdd h).2 rfl) rfl ⟨rfl, rfl, trivial⟩
-- F12_number: LendHouseModel.number(I)I
theorem eF12_number_0 : m_Fe mi12_45 0 (m_ap [(.aload_n 0, 1)] ((.invokevirtual 147, 3) :: (m_ap [(.iconst 0, 1), (.istore_n 2, 1)] ([])))) := m_Fe_of nd2445 0 4 rfl
theorem eF12_number_6 : m_Fe mi12_45 6 (m_ap [(.aload_n 0, 1), (.bipush 48, 2), (.bipush 57, 2)] ((.invokevirtual 140, 3) :: ([(.ifCond .eq 51, 3)]))) := m_Fe_of nd2445 4 5 rfl
theorem eF12_number_65 : m_Fe mi12_45 65 (m_ap [(.aload_n 0, 1)] ((.getfield 137, 3) :: (m_ap [(.aload_n 0, 1)] ((.getfield 144, 3) :: ([(.if_icmp .eq 21, 3)]))))) := m_Fe_of nd2445 37 5 rfl
theorem eF12_number_94 : m_Fe mi12_45 94 (m_ap [(.iconst (-1), 1)] ([(.goto 4, 3)])) := m_Fe_of nd2445 52 2 rfl
theorem eF12_number_99 : m_Fe mi12_45 99 ([(.ireturn, 1)]) := m_Fe_of nd2445 55 1 rfl
theorem eF12_number_76 : m_Fe mi12_45 76 (m_ap [(.aload_n 0, 1)] ((.getfield 137, 3) :: (m_ap [(.aload_n 0, 1)] ((.getfield 144, 3) :: (m_ap [(.isub, 1), (.iconst 5, 1)] ([(.if_icmp .gt 8, 3)])))))) := m_Fe_of nd2445 42 7 rfl
theorem eF12_number_89 : m_Fe mi12_45 89 (m_ap [(.iload_n 2, 1), (.iload_n 1, 1)] ([(.if_icmp .le 7, 3)])) := m_Fe_of nd2445 49 3 rfl
theorem eF12_number_98 : m_Fe mi12_45 98 (m_ap [(.iload_n 2, 1)] ([])) := m_Fe_of nd2445 54 1 rfl
theorem eF12_number_17 : m_Fe mi12_45 17 (m_ap [(.aload_n 0, 1)] ((.getfield 137, 3) :: (m_ap [(.aload_n 0, 1)] ((.getfield 144, 3) :: (m_ap [(.isub, 1), (.iconst 5, 1)] ([(.if_icmp .ge 23, 3)])))))) := m_Fe_of nd2445 9 7 rfl
theorem eF12_number_50 : m_Fe mi12_45 50 (m_ap [(.iload_n 2, 1)] ([])) := m_Fe_of nd2445 28 1 rfl
theorem eF12_number_30 : m_Fe mi12_45 30 (m_ap [(.bipush 10, 2), (.iload_n 2, 1), (.imul, 1), (.aload_n 0, 1)] ((.getfield 25, 3) :: (m_ap [(.aload_n 0, 1)] ((.getfield 137, 3) :: ((.baload, 1) :: (m_ap [(.iadd, 1), (.bipush 48, 2), (.isub, 1)] ([(.goto 4, 3)]))))))) := m_Fe_of nd2445 16 12 rfl
theorem eF12_number_51 : m_Fe mi12_45 51 (m_ap [(.istore_n 2, 1), (.aload_n 0, 1), (.dup, 1)] ((.getfield 137, 3) :: (m_ap [(.iconst 1, 1), (.iadd, 1)] ((.putfield 137, 3) :: ([(.goto (-56), 3)]))))) := m_Fe_of nd2445 29 8 rfl
theorem SF12_number_51 {xs : Nat → Int32} {L : Nat} (x0 : Nat) (x1 : Int32) (s0 : Int32) (hp : m_H) {r : m_O × m_H} {K : ((Int32 × m_H) ⊕ (Int32 × m_H)) → Prop} (k0 : ∀ x, K (.inr x) → r = (.inl (some (.int x.1)), x.2)) (k1 : ∀ s, K (.inl s) → m_Rn xs L 2 2445 6 [(0, .ref x0), (1, .int x1), (2, .int s.1)] [] s.2 r) {t : (Int32 × m_H) ⊕ (Int32 × m_H)} (h : F12_number_51 x0 x1 s0 hp = some t) (hK : K t) : m_Rn xs L 2 2445 51 [(0, .ref x0), (1, .int x1)] [.int s0] hp r := by
  unfold F12_number_51 at h
  refine g_in eF12_number_51 mx2445 ?_
  refine g_ch [(2, .int s0), (0, .ref x0), (1, .int x1)] [.ref x0, .ref x0] (pc' := 54) rfl rfl rfl ?_
  obtain ⟨v1, e2, h⟩ := m_bd h
  refine g_gi q12_f137 e2 ?_
  refine g_ch [(2, .int s0), (0, .ref x0), (1, .int x1)] [.int (v1 + 1), .ref x0] (pc' := 59) rfl rfl rfl ?_
  obtain ⟨h3, e4, h⟩ := m_bd h
  refine g_pf q12_f137 e4 ?_
  refine g_goto (t := 6) rfl ?_
  cases h
  exact r_lv (k1 (s0, h3) hK) rfl ⟨rfl, rfl, rfl, trivial⟩
theorem SF12_number_6b {xs : Nat → Int32} {L : Nat} (x0 : Nat) (x1 : Int32) (s : Int32 × m_H) {r : m_O × m_H} {K : ((Int32 × m_H) ⊕ (Int32 × m_H)) → Prop} (k0 : ∀ x, K (.inr x) → r = (.inl (some (.int x.1)), x.2)) (k1 : ∀ s, K (.inl s) → m_Rn xs L 2 2445 6 [(0, .ref x0), (1, .int x1), (2, .int s.1)] [] s.2 r) {t : (Int32 × m_H) ⊕ (Int32 × m_H)} (h : F12_number_6b x0 x1 s = some t) (hK : K t) : m_Rn xs L 2 2445 6 [(0, .ref x0), (1, .int x1), (2, .int s.1)] [] s.2 r := by
  unfold F12_number_6b at h
  refine g_in eF12_number_6 mx2445 ?_
  refine g_ch [(0, .ref x0), (1, .int x1), (2, .int s.1)] [.int 57, .int 48, .ref x0] (pc' := 11) rfl rfl rfl ?_
  obtain ⟨v2, e1, h⟩ := m_bd h
  refine g_call (v := some (.int v2)) (h := s.2) (st' := [.int v2]) (D1 := 0) (as := [.ref x0, .int 48, .int 57]) (Or.inr (Or.inl rfl)) q12_m140 (m_cv (as := [.int 57, .int 48]) (rest := []) (Or.inl rfl) q12_m140 jv2439 (OF12_isAt e1) rfl rfl rfl rfl) (by decide) (SF12_isAt e1) rfl ?_
  rcases m_ifd h with ⟨c3, h⟩ | ⟨c3, h⟩
  · refine g_ifc (t := 65) rfl (m_eqT c3) ?_
    refine g_in eF12_number_65 mx2445 ?_
    refine g_ch [(0, .ref x0), (1, .int x1), (2, .int s.1)] [.ref x0] (pc' := 66) rfl rfl rfl ?_
    obtain ⟨v4, e5, h⟩ := m_bd h
    refine g_gi q12_f137 e5 ?_
    refine g_ch [(0, .ref x0), (1, .int x1), (2, .int s.1)] [.ref x0, .int v4] (pc' := 70) rfl rfl rfl ?_
    obtain ⟨v6, e7, h⟩ := m_bd h
    refine g_gi q12_f144 e7 ?_
    rcases m_ifd h with ⟨c8, h⟩ | ⟨c8, h⟩
    · refine g_if (t := 94) rfl (m_eqT c8) ?_
      refine g_in eF12_number_94 mx2445 ?_
      refine g_ch [(0, .ref x0), (1, .int x1), (2, .int s.1)] [.int (-1)] (pc' := 95) rfl rfl rfl ?_
      refine g_goto (t := 99) rfl ?_
      refine g_in eF12_number_99 mx2445 ?_
      cases h
      rw [k0 _ hK]
      exact g_iret rfl rfl
    · refine g_ifn (t := 94) rfl (m_eqF c8) ?_
      refine g_in eF12_number_76 mx2445 ?_
      refine g_ch [(0, .ref x0), (1, .int x1), (2, .int s.1)] [.ref x0] (pc' := 77) rfl rfl rfl ?_
      obtain ⟨v9, e10, h⟩ := m_bd h
      refine g_gi q12_f137 e10 ?_
      refine g_ch [(0, .ref x0), (1, .int x1), (2, .int s.1)] [.ref x0, .int v9] (pc' := 81) rfl rfl rfl ?_
      obtain ⟨v11, e12, h⟩ := m_bd h
      refine g_gi q12_f144 e12 ?_
      refine g_ch [(0, .ref x0), (1, .int x1), (2, .int s.1)] [.int 5, .int (v9 - v11)] (pc' := 86) rfl rfl rfl ?_
      rcases m_ifd h with ⟨c13, h⟩ | ⟨c13, h⟩
      · refine g_if (t := 94) rfl (m_gtT c13) ?_
        refine g_in eF12_number_94 mx2445 ?_
        refine g_ch [(0, .ref x0), (1, .int x1), (2, .int s.1)] [.int (-1)] (pc' := 95) rfl rfl rfl ?_
        refine g_goto (t := 99) rfl ?_
        refine g_in eF12_number_99 mx2445 ?_
        cases h
        rw [k0 _ hK]
        exact g_iret rfl rfl
      · refine g_ifn (t := 94) rfl (m_gtF c13) ?_
        refine g_in eF12_number_89 mx2445 ?_
        refine g_ch [(0, .ref x0), (1, .int x1), (2, .int s.1)] [.int x1, .int s.1] (pc' := 91) rfl rfl rfl ?_
        rcases m_ifd h with ⟨c14, h⟩ | ⟨c14, h⟩
        · refine g_if (t := 98) rfl (m_leT c14) ?_
          refine g_in eF12_number_98 mx2445 ?_
          refine g_ch [(0, .ref x0), (1, .int x1), (2, .int s.1)] [.int s.1] (pc' := 99) rfl rfl rfl ?_
          refine g_end ?_
          refine g_in eF12_number_99 mx2445 ?_
          cases h
          rw [k0 _ hK]
          exact g_iret rfl rfl
        · refine g_ifn (t := 98) rfl (m_leF c14) ?_
          refine g_in eF12_number_94 mx2445 ?_
          refine g_ch [(0, .ref x0), (1, .int x1), (2, .int s.1)] [.int (-1)] (pc' := 95) rfl rfl rfl ?_
          refine g_goto (t := 99) rfl ?_
          refine g_in eF12_number_99 mx2445 ?_
          cases h
          rw [k0 _ hK]
          exact g_iret rfl rfl
  · refine g_ifcn (t := 65) rfl (m_eqF c3) ?_
    refine g_in eF12_number_17 mx2445 ?_
    refine g_ch [(0, .ref x0), (1, .int x1), (2, .int s.1)] [.ref x0] (pc' := 18) rfl rfl rfl ?_
    obtain ⟨v15, e16, h⟩ := m_bd h
    refine g_gi q12_f137 e16 ?_
    refine g_ch [(0, .ref x0), (1, .int x1), (2, .int s.1)] [.ref x0, .int v15] (pc' := 22) rfl rfl rfl ?_
    obtain ⟨v17, e18, h⟩ := m_bd h
    refine g_gi q12_f144 e18 ?_
    refine g_ch [(0, .ref x0), (1, .int x1), (2, .int s.1)] [.int 5, .int (v15 - v17)] (pc' := 27) rfl rfl rfl ?_
    rcases m_ifd h with ⟨c19, h⟩ | ⟨c19, h⟩
    · refine g_if (t := 50) rfl (m_geT c19) ?_
      refine g_in eF12_number_50 mx2445 ?_
      refine g_ch [(0, .ref x0), (1, .int x1), (2, .int s.1)] [.int s.1] (pc' := 51) rfl rfl rfl ?_
      refine g_end ?_
      exact r_lv (SF12_number_51 x0 x1 s.1 s.2 (K := K) k0 k1 h hK) rfl ⟨rfl, rfl, trivial⟩
    · refine g_ifn (t := 50) rfl (m_geF c19) ?_
      refine g_in eF12_number_30 mx2445 ?_
      refine g_ch [(0, .ref x0), (1, .int x1), (2, .int s.1)] [.ref x0, .int (10 * s.1)] (pc' := 35) rfl rfl rfl ?_
      obtain ⟨v20, e21, h⟩ := m_bd h
      refine g_gr q12_f25 e21 ?_
      refine g_ch [(0, .ref x0), (1, .int x1), (2, .int s.1)] [.ref x0, .ref v20, .int (10 * s.1)] (pc' := 39) rfl rfl rfl ?_
      obtain ⟨v22, e23, h⟩ := m_bd h
      refine g_gi q12_f137 e23 ?_
      obtain ⟨v24, e25, h⟩ := m_bd h
      refine g_ba2 e25 ?_
      refine g_ch [(0, .ref x0), (1, .int x1), (2, .int s.1)] [.int (((10 * s.1) + v24) - 48)] (pc' := 47) rfl rfl rfl ?_
      refine g_goto (t := 51) rfl ?_
      exact r_lv (SF12_number_51 x0 x1 (((10 * s.1) + v24) - 48) s.2 (K := K) k0 k1 h hK) rfl ⟨rfl, rfl, trivial⟩
theorem SF12_number_6 {xs : Nat → Int32} {L : Nat} (x0 : Nat) (x1 : Int32) (x2 : Int32) (hp : m_H) {r : m_O × m_H} {K : Int32 × m_H → Prop} (k0 : ∀ x, K x → r = (.inl (some (.int x.1)), x.2)) {t : Int32 × m_H} (h : F12_number_6 x0 x1 x2 hp = some t) (hK : K t) : m_Rn xs L 2 2445 6 [(0, .ref x0), (1, .int x1), (2, .int x2)] [] hp r :=
  m_wh_ok (P := fun s => m_Rn xs L 2 2445 6 [(0, .ref x0), (1, .int x1), (2, .int s.1)] [] s.2 r) (Q := K) (fun s t hb hK => SF12_number_6b x0 x1 s (K := m_KK (fun s => m_Rn xs L 2 2445 6 [(0, .ref x0), (1, .int x1), (2, .int s.1)] [] s.2 r) K) k0 (fun _ q => q) hb hK) m_N _ _ h hK
theorem SF12_number_0 {xs : Nat → Int32} {L : Nat} (x0 : Nat) (x1 : Int32) (hp : m_H) {r : m_O × m_H} {K : (Int32 × m_H) → Prop} (k0 : ∀ x, K x → r = (.inl (some (.int x.1)), x.2)) {t : Int32 × m_H} (h : F12_number_0 x0 x1 hp = some t) (hK : K t) : m_Rn xs L 2 2445 0 [(0, .ref x0), (1, .int x1)] [] hp r := by
  unfold F12_number_0 at h
  refine g_in eF12_number_0 mx2445 ?_
  refine g_ch [(0, .ref x0), (1, .int x1)] [.ref x0] (pc' := 1) rfl rfl rfl ?_
  obtain ⟨h2, e1, h⟩ := m_bd h
  refine g_call (v := none) (h := h2) (st' := []) (D1 := 1) (as := [.ref x0]) (Or.inr (Or.inl rfl)) q12_m147 (m_cv (as := []) (rest := []) (Or.inl rfl) q12_m147 jv2440 (OF12_blanks e1) rfl rfl rfl rfl) (by decide) (SF12_blanks e1) rfl ?_
  refine g_ch [(2, .int 0), (0, .ref x0), (1, .int x1)] [] (pc' := 6) rfl rfl rfl ?_
  refine g_end ?_
  exact r_lv (SF12_number_6 x0 x1 0 h2 (K := K) k0 h hK) rfl ⟨rfl, rfl, rfl, trivial⟩
theorem OF12_number {x0 : Nat} {x1 : Int32} {hp : m_H} {x : Int32 × m_H} (h : F12_number x0 x1 hp = some x) : m_isO hp 9 x0 = true := (m_gdd h).1
theorem SF12_number {xs : Nat → Int32} {L : Nat} {x0 : Nat} {x1 : Int32} {hp : m_H} {x : Int32 × m_H} (h : F12_number x0 x1 hp = some x) : m_Rn xs L 2 2445 0 (lv_args 0 [.ref x0, .int x1]) [] hp (.inl (some (.int x.1)), x.2) :=
  r_lv (SF12_number_0 x0 x1 hp (K := fun y => y = x) (fun y e => by rw [e]) (m_gdd h).2 rfl) rfl ⟨rfl, rfl, trivial⟩
-- F12_fault: LendHouseModel.fault()I
theorem eF12_fault_0 : m_Fe mi12_46 0 (m_ap [(.aload_n 0, 1), (.iconst 0, 1)] ((.putfield 3, 3) :: (m_ap [(.aload_n 0, 1)] ((.getfield 29, 3) :: ([(.ireturn, 1)]))))) := m_Fe_of nd2446 0 6 rfl
theorem SF12_fault_0 {xs : Nat → Int32} {L : Nat} (x0 : Nat) (hp : m_H) {r : m_O × m_H} {K : (Int32 × m_H) → Prop} (k0 : ∀ x, K x → r = (.inl (some (.int x.1)), x.2)) {t : Int32 × m_H} (h : F12_fault_0 x0 hp = some t) (hK : K t) : m_Rn xs L 0 2446 0 [(0, .ref x0)] [] hp r := by
  unfold F12_fault_0 at h
  refine g_in eF12_fault_0 mx2446 ?_
  refine g_ch [(0, .ref x0)] [.int 0, .ref x0] (pc' := 2) rfl rfl rfl ?_
  obtain ⟨h1, e2, h⟩ := m_bd h
  refine g_pf q12_f3 e2 ?_
  refine g_ch [(0, .ref x0)] [.ref x0] (pc' := 6) rfl rfl rfl ?_
  obtain ⟨v3, e4, h⟩ := m_bd h
  refine g_gi q12_f29 e4 ?_
  cases h
  rw [k0 _ hK]
  exact g_iret rfl rfl
theorem OF12_fault {x0 : Nat} {hp : m_H} {x : Int32 × m_H} (h : F12_fault x0 hp = some x) : m_isO hp 9 x0 = true := (m_gdd h).1
theorem SF12_fault {xs : Nat → Int32} {L : Nat} {x0 : Nat} {hp : m_H} {x : Int32 × m_H} (h : F12_fault x0 hp = some x) : m_Rn xs L 0 2446 0 (lv_args 0 [.ref x0]) [] hp (.inl (some (.int x.1)), x.2) :=
  r_lv (SF12_fault_0 x0 hp (K := fun y => y = x) (fun y e => by rw [e]) (m_gdd h).2 rfl) rfl ⟨rfl, trivial⟩
-- F12_textAt: LendHouseModel.textAt(I)I
theorem eF12_textAt_0 : m_Fe mi12_47 0 (m_ap [(.sipush 28327, 3), (.sipush 850, 3), (.iload_n 0, 1), (.imul, 1), (.iadd, 1)] ([(.ireturn, 1)])) := m_Fe_of nd2447 0 6 rfl
theorem SF12_textAt_0 {xs : Nat → Int32} {L : Nat} (x0 : Int32) (hp : m_H) {r : m_O × m_H} {K : Int32 → Prop} (k0 : ∀ x, K x → r = (.inl (some (.int x)), hp)) {t : Int32} (h : F12_textAt_0 x0 hp = some t) (hK : K t) : m_Rn xs L 0 2447 0 [(0, .int x0)] [] hp r := by
  unfold F12_textAt_0 at h
  refine g_in eF12_textAt_0 mx2447 ?_
  refine g_ch [(0, .int x0)] [.int (28327 + (850 * x0))] (pc' := 9) rfl rfl rfl ?_
  cases h
  rw [k0 _ hK]
  exact g_iret rfl rfl
theorem SF12_textAt {xs : Nat → Int32} {L : Nat} {x0 : Int32} {hp : m_H} {x : Int32} (h : F12_textAt x0 hp = some x) : m_Rn xs L 0 2447 0 (lv_args 0 [.int x0]) [] hp (.inl (some (.int x)), hp) :=
  r_lv (SF12_textAt_0 x0 hp (K := fun y => y = x) (fun y e => by rw [e]) h rfl) rfl ⟨rfl, trivial⟩
-- F12_lineAt: LendHouseModel.lineAt(II)I
theorem eF12_lineAt_0 : m_Fe mi12_48 0 (m_ap [(.iload_n 0, 1)] ((.invokestatic 166, 3) :: (m_ap [(.iconst 2, 1), (.iadd, 1), (.iconst 4, 1), (.iload_n 1, 1), (.imul, 1), (.iadd, 1)] ([(.ireturn, 1)])))) := m_Fe_of nd2448 0 9 rfl
theorem SF12_lineAt_0 {xs : Nat → Int32} {L : Nat} (x0 : Int32) (x1 : Int32) (hp : m_H) {r : m_O × m_H} {K : Int32 → Prop} (k0 : ∀ x, K x → r = (.inl (some (.int x)), hp)) {t : Int32} (h : F12_lineAt_0 x0 x1 hp = some t) (hK : K t) : m_Rn xs L 1 2448 0 [(0, .int x0), (1, .int x1)] [] hp r := by
  unfold F12_lineAt_0 at h
  refine g_in eF12_lineAt_0 mx2448 ?_
  refine g_ch [(0, .int x0), (1, .int x1)] [.int x0] (pc' := 1) rfl rfl rfl ?_
  obtain ⟨v2, e1, h⟩ := m_bd h
  refine g_call (v := some (.int v2)) (h := hp) (st' := [.int v2]) (D1 := 0) (as := [.int x0]) (Or.inl rfl) q12_m166 (m_cs (as := [.int x0]) (rest := []) q12_m166 jv2447 rfl rfl rfl rfl rfl) (by decide) (SF12_textAt e1) rfl ?_
  refine g_ch [(0, .int x0), (1, .int x1)] [.int ((v2 + 2) + (4 * x1))] (pc' := 10) rfl rfl rfl ?_
  cases h
  rw [k0 _ hK]
  exact g_iret rfl rfl
theorem SF12_lineAt {xs : Nat → Int32} {L : Nat} {x0 : Int32} {x1 : Int32} {hp : m_H} {x : Int32} (h : F12_lineAt x0 x1 hp = some x) : m_Rn xs L 1 2448 0 (lv_args 0 [.int x0, .int x1]) [] hp (.inl (some (.int x)), hp) :=
  r_lv (SF12_lineAt_0 x0 x1 hp (K := fun y => y = x) (fun y e => by rw [e]) h rfl) rfl ⟨rfl, rfl, trivial⟩
-- F12_emits: LendHouseModel.emits(II)V
theorem eF12_emits_0 : m_Fe mi12_49 0 (m_ap [(.bipush 10, 2)] ((.invokestatic 166, 3) :: (m_ap [(.bipush 50, 2), (.iadd, 1), (.iconst 2, 1), (.aload_n 0, 1)] ((.getfield 170, 3) :: (m_ap [(.imul, 1), (.iadd, 1), (.istore_n 3, 1), (.aload_n 0, 1)] ((.getfield 14, 3) :: (m_ap [(.iload_n 3, 1), (.iload_n 1, 1)] ((.iastore, 1) :: (m_ap [(.aload_n 0, 1)] ((.getfield 14, 3) :: (m_ap [(.iload_n 3, 1), (.iconst 1, 1), (.iadd, 1), (.iload_n 2, 1)] ((.iastore, 1) :: (m_ap [(.aload_n 0, 1), (.dup, 1)] ((.getfield 170, 3) :: (m_ap [(.iconst 1, 1), (.iadd, 1)] ((.putfield 170, 3) :: ([(.return_, 1)]))))))))))))))))) := m_Fe_of nd2449 0 29 rfl
theorem SF12_emits_0 {xs : Nat → Int32} {L : Nat} (x0 : Nat) (x1 : Int32) (x2 : Int32) (hp : m_H) {r : m_O × m_H} {K : m_H → Prop} (k0 : ∀ x, K x → r = (.inl none, x)) {t : m_H} (h : F12_emits_0 x0 x1 x2 hp = some t) (hK : K t) : m_Rn xs L 1 2449 0 [(0, .ref x0), (1, .int x1), (2, .int x2)] [] hp r := by
  unfold F12_emits_0 at h
  refine g_in eF12_emits_0 mx2449 ?_
  refine g_ch [(0, .ref x0), (1, .int x1), (2, .int x2)] [.int 10] (pc' := 2) rfl rfl rfl ?_
  obtain ⟨v2, e1, h⟩ := m_bd h
  refine g_call (v := some (.int v2)) (h := hp) (st' := [.int v2]) (D1 := 0) (as := [.int 10]) (Or.inl rfl) q12_m166 (m_cs (as := [.int 10]) (rest := []) q12_m166 jv2447 rfl rfl rfl rfl rfl) (by decide) (SF12_textAt e1) rfl ?_
  refine g_ch [(0, .ref x0), (1, .int x1), (2, .int x2)] [.ref x0, .int 2, .int (v2 + 50)] (pc' := 10) rfl rfl rfl ?_
  obtain ⟨v3, e4, h⟩ := m_bd h
  refine g_gi q12_f170 e4 ?_
  refine g_ch [(3, .int ((v2 + 50) + (2 * v3))), (0, .ref x0), (1, .int x1), (2, .int x2)] [.ref x0] (pc' := 17) rfl rfl rfl ?_
  obtain ⟨v5, e6, h⟩ := m_bd h
  refine g_gr q12_f14 e6 ?_
  refine g_ch [(3, .int ((v2 + 50) + (2 * v3))), (0, .ref x0), (1, .int x1), (2, .int x2)] [.int x1, .int ((v2 + 50) + (2 * v3)), .ref v5] (pc' := 22) rfl rfl rfl ?_
  obtain ⟨h7, e8, h⟩ := m_bd h
  refine g_is e8 ?_
  refine g_ch [(3, .int ((v2 + 50) + (2 * v3))), (0, .ref x0), (1, .int x1), (2, .int x2)] [.ref x0] (pc' := 24) rfl rfl rfl ?_
  obtain ⟨v9, e10, h⟩ := m_bd h
  refine g_gr q12_f14 e10 ?_
  refine g_ch [(3, .int ((v2 + 50) + (2 * v3))), (0, .ref x0), (1, .int x1), (2, .int x2)] [.int x2, .int (((v2 + 50) + (2 * v3)) + 1), .ref v9] (pc' := 31) rfl rfl rfl ?_
  obtain ⟨h11, e12, h⟩ := m_bd h
  refine g_is e12 ?_
  refine g_ch [(3, .int ((v2 + 50) + (2 * v3))), (0, .ref x0), (1, .int x1), (2, .int x2)] [.ref x0, .ref x0] (pc' := 34) rfl rfl rfl ?_
  obtain ⟨v13, e14, h⟩ := m_bd h
  refine g_gi q12_f170 e14 ?_
  refine g_ch [(3, .int ((v2 + 50) + (2 * v3))), (0, .ref x0), (1, .int x1), (2, .int x2)] [.int (v13 + 1), .ref x0] (pc' := 39) rfl rfl rfl ?_
  obtain ⟨h15, e16, h⟩ := m_bd h
  refine g_pf q12_f170 e16 ?_
  cases h
  rw [k0 _ hK]
  exact g_vret rfl
theorem OF12_emits {x0 : Nat} {x1 : Int32} {x2 : Int32} {hp : m_H} {x : m_H} (h : F12_emits x0 x1 x2 hp = some x) : m_isO hp 9 x0 = true := (m_gdd h).1
theorem SF12_emits {xs : Nat → Int32} {L : Nat} {x0 : Nat} {x1 : Int32} {x2 : Int32} {hp : m_H} {x : m_H} (h : F12_emits x0 x1 x2 hp = some x) : m_Rn xs L 1 2449 0 (lv_args 0 [.ref x0, .int x1, .int x2]) [] hp (.inl none, x) :=
  r_lv (SF12_emits_0 x0 x1 x2 hp (K := fun y => y = x) (fun y e => by rw [e]) (m_gdd h).2 rfl) rfl ⟨rfl, rfl, rfl, trivial⟩
-- F12_fact: LendHouseModel.fact(I)Ljava/lang/String;
theorem eF12_fact_0 : m_Fe mi12_50 0 (m_ap [(.iload_n 0, 1)] ([(.tableswitch 78 0 8 #[51, 54, 57, 60, 63, 66, 69, 72, 75], 51)])) := m_Fe_of nd2450 0 2 rfl
theorem eF12_fact_79 : m_Fe mi12_50 79 (m_ap [(.ldc 190, 2)] ([(.areturn, 1)])) := m_Fe_of nd2450 20 2 rfl
theorem eF12_fact_52 : m_Fe mi12_50 52 (m_ap [(.ldc 173, 2)] ([(.areturn, 1)])) := m_Fe_of nd2450 2 2 rfl
theorem eF12_fact_55 : m_Fe mi12_50 55 (m_ap [(.ldc 175, 2)] ([(.areturn, 1)])) := m_Fe_of nd2450 4 2 rfl
theorem eF12_fact_58 : m_Fe mi12_50 58 (m_ap [(.ldc 177, 2)] ([(.areturn, 1)])) := m_Fe_of nd2450 6 2 rfl
theorem eF12_fact_61 : m_Fe mi12_50 61 (m_ap [(.ldc 178, 2)] ([(.areturn, 1)])) := m_Fe_of nd2450 8 2 rfl
theorem eF12_fact_64 : m_Fe mi12_50 64 (m_ap [(.ldc 180, 2)] ([(.areturn, 1)])) := m_Fe_of nd2450 10 2 rfl
theorem eF12_fact_67 : m_Fe mi12_50 67 (m_ap [(.ldc 182, 2)] ([(.areturn, 1)])) := m_Fe_of nd2450 12 2 rfl
theorem eF12_fact_70 : m_Fe mi12_50 70 (m_ap [(.ldc 184, 2)] ([(.areturn, 1)])) := m_Fe_of nd2450 14 2 rfl
theorem eF12_fact_73 : m_Fe mi12_50 73 (m_ap [(.ldc 186, 2)] ([(.areturn, 1)])) := m_Fe_of nd2450 16 2 rfl
theorem eF12_fact_76 : m_Fe mi12_50 76 (m_ap [(.ldc 188, 2)] ([(.areturn, 1)])) := m_Fe_of nd2450 18 2 rfl
theorem SF12_fact_0 {xs : Nat → Int32} {L : Nat} (x0 : Int32) (hp : m_H) {r : m_O × m_H} {K : Nat → Prop} (k0 : ∀ x, K x → r = (.inl (some (.ref x)), hp)) {t : Nat} (h : F12_fact_0 x0 hp = some t) (hK : K t) : m_Rn xs L 0 2450 0 [(0, .int x0)] [] hp r := by
  unfold F12_fact_0 at h
  refine g_in eF12_fact_0 mx2450 ?_
  refine g_ch [(0, .int x0)] [.int x0] (pc' := 1) rfl rfl rfl ?_
  rcases m_swd h with ⟨e2, h⟩ | ⟨w1, e2, h⟩
  · refine g_swd e2 (t := 79) rfl ?_
    refine g_in eF12_fact_79 mx2450 ?_
    refine g_ch [(0, .int x0)] [.ref 74] (pc' := 81) rfl rfl rfl ?_
    cases h
    rw [k0 _ hK]
    exact g_aret (v := some 74) rfl
  · rcases m_ifd h with ⟨c3, hc3⟩ | ⟨c3, h⟩
    · subst c3
      have h := hc3
      refine g_sw (o := 51) (t := 52) e2 rfl rfl ?_
      refine g_in eF12_fact_52 mx2450 ?_
      refine g_ch [(0, .int x0)] [.ref 65] (pc' := 54) rfl rfl rfl ?_
      cases h
      rw [k0 _ hK]
      exact g_aret (v := some 65) rfl
    rcases m_ifd h with ⟨c4, hc4⟩ | ⟨c4, h⟩
    · subst c4
      have h := hc4
      refine g_sw (o := 54) (t := 55) e2 rfl rfl ?_
      refine g_in eF12_fact_55 mx2450 ?_
      refine g_ch [(0, .int x0)] [.ref 66] (pc' := 57) rfl rfl rfl ?_
      cases h
      rw [k0 _ hK]
      exact g_aret (v := some 66) rfl
    rcases m_ifd h with ⟨c5, hc5⟩ | ⟨c5, h⟩
    · subst c5
      have h := hc5
      refine g_sw (o := 57) (t := 58) e2 rfl rfl ?_
      refine g_in eF12_fact_58 mx2450 ?_
      refine g_ch [(0, .int x0)] [.ref 67] (pc' := 60) rfl rfl rfl ?_
      cases h
      rw [k0 _ hK]
      exact g_aret (v := some 67) rfl
    rcases m_ifd h with ⟨c6, hc6⟩ | ⟨c6, h⟩
    · subst c6
      have h := hc6
      refine g_sw (o := 60) (t := 61) e2 rfl rfl ?_
      refine g_in eF12_fact_61 mx2450 ?_
      refine g_ch [(0, .int x0)] [.ref 68] (pc' := 63) rfl rfl rfl ?_
      cases h
      rw [k0 _ hK]
      exact g_aret (v := some 68) rfl
    rcases m_ifd h with ⟨c7, hc7⟩ | ⟨c7, h⟩
    · subst c7
      have h := hc7
      refine g_sw (o := 63) (t := 64) e2 rfl rfl ?_
      refine g_in eF12_fact_64 mx2450 ?_
      refine g_ch [(0, .int x0)] [.ref 69] (pc' := 66) rfl rfl rfl ?_
      cases h
      rw [k0 _ hK]
      exact g_aret (v := some 69) rfl
    rcases m_ifd h with ⟨c8, hc8⟩ | ⟨c8, h⟩
    · subst c8
      have h := hc8
      refine g_sw (o := 66) (t := 67) e2 rfl rfl ?_
      refine g_in eF12_fact_67 mx2450 ?_
      refine g_ch [(0, .int x0)] [.ref 70] (pc' := 69) rfl rfl rfl ?_
      cases h
      rw [k0 _ hK]
      exact g_aret (v := some 70) rfl
    rcases m_ifd h with ⟨c9, hc9⟩ | ⟨c9, h⟩
    · subst c9
      have h := hc9
      refine g_sw (o := 69) (t := 70) e2 rfl rfl ?_
      refine g_in eF12_fact_70 mx2450 ?_
      refine g_ch [(0, .int x0)] [.ref 71] (pc' := 72) rfl rfl rfl ?_
      cases h
      rw [k0 _ hK]
      exact g_aret (v := some 71) rfl
    rcases m_ifd h with ⟨c10, hc10⟩ | ⟨c10, h⟩
    · subst c10
      have h := hc10
      refine g_sw (o := 72) (t := 73) e2 rfl rfl ?_
      refine g_in eF12_fact_73 mx2450 ?_
      refine g_ch [(0, .int x0)] [.ref 72] (pc' := 75) rfl rfl rfl ?_
      cases h
      rw [k0 _ hK]
      exact g_aret (v := some 72) rfl
    rcases m_ifd h with ⟨c11, hc11⟩ | ⟨c11, h⟩
    · subst c11
      have h := hc11
      refine g_sw (o := 75) (t := 76) e2 rfl rfl ?_
      refine g_in eF12_fact_76 mx2450 ?_
      refine g_ch [(0, .int x0)] [.ref 73] (pc' := 78) rfl rfl rfl ?_
      cases h
      rw [k0 _ hK]
      exact g_aret (v := some 73) rfl
    cases h
theorem SF12_fact {xs : Nat → Int32} {L : Nat} {x0 : Int32} {hp : m_H} {x : Nat} (h : F12_fact x0 hp = some x) : m_Rn xs L 0 2450 0 (lv_args 0 [.int x0]) [] hp (.inl (some (.ref x)), hp) :=
  r_lv (SF12_fact_0 x0 hp (K := fun y => y = x) (fun y e => by rw [e]) h rfl) rfl ⟨rfl, trivial⟩
