/-! ===== m_: the small machine does what the functions say, piece 3 (printed) ===== -/
-- F9_wordNumbered: LendHouse$Tape.wordNumbered(I)Ljava/lang/String;
theorem eF9_wordNumbered_0 : m_Fe mi9_15 0 (m_ap [(.iload_n 0, 1)] ([(.tableswitch 71 0 7 #[47, 50, 53, 56, 59, 62, 65, 68], 47)])) := m_Fe_of nd1815 0 2 rfl
theorem eF9_wordNumbered_72 : m_Fe mi9_15 72 (m_ap [(.iload_n 0, 1), (.bipush 8, 2), (.isub, 1)] ((.invokestatic 102, 3) :: ([(.areturn, 1)]))) := m_Fe_of nd1815 18 5 rfl
theorem eF9_wordNumbered_48 : m_Fe mi9_15 48 (m_ap [(.ldc 86, 2)] ([(.areturn, 1)])) := m_Fe_of nd1815 2 2 rfl
theorem eF9_wordNumbered_51 : m_Fe mi9_15 51 (m_ap [(.ldc 88, 2)] ([(.areturn, 1)])) := m_Fe_of nd1815 4 2 rfl
theorem eF9_wordNumbered_54 : m_Fe mi9_15 54 (m_ap [(.ldc 90, 2)] ([(.areturn, 1)])) := m_Fe_of nd1815 6 2 rfl
theorem eF9_wordNumbered_57 : m_Fe mi9_15 57 (m_ap [(.ldc 92, 2)] ([(.areturn, 1)])) := m_Fe_of nd1815 8 2 rfl
theorem eF9_wordNumbered_60 : m_Fe mi9_15 60 (m_ap [(.ldc 94, 2)] ([(.areturn, 1)])) := m_Fe_of nd1815 10 2 rfl
theorem eF9_wordNumbered_63 : m_Fe mi9_15 63 (m_ap [(.ldc 96, 2)] ([(.areturn, 1)])) := m_Fe_of nd1815 12 2 rfl
theorem eF9_wordNumbered_66 : m_Fe mi9_15 66 (m_ap [(.ldc 98, 2)] ([(.areturn, 1)])) := m_Fe_of nd1815 14 2 rfl
theorem eF9_wordNumbered_69 : m_Fe mi9_15 69 (m_ap [(.ldc 100, 2)] ([(.areturn, 1)])) := m_Fe_of nd1815 16 2 rfl
theorem SF9_wordNumbered_0 {xs : Nat → Int32} {L : Nat} (x0 : Int32) (hp : m_H) {r : m_O × m_H} {K : Nat → Prop} (k0 : ∀ x, K x → r = (.inl (some (.ref x)), hp)) {t : Nat} (h : F9_wordNumbered_0 x0 hp = some t) (hK : K t) : m_Rn xs L 1 1815 0 [(0, .int x0)] [] hp r := by
  unfold F9_wordNumbered_0 at h
  refine g_in eF9_wordNumbered_0 mx1815 ?_
  refine g_ch [(0, .int x0)] [.int x0] (pc' := 1) rfl rfl rfl ?_
  rcases m_swd h with ⟨e2, h⟩ | ⟨w1, e2, h⟩
  · refine g_swd e2 (t := 72) rfl ?_
    refine g_in eF9_wordNumbered_72 mx1815 ?_
    refine g_ch [(0, .int x0)] [.int (x0 - 8)] (pc' := 76) rfl rfl rfl ?_
    obtain ⟨v4, e3, h⟩ := m_bd h
    refine g_call (v := some (.ref v4)) (h := hp) (st' := [.ref v4]) (D1 := 0) (as := [.int (x0 - 8)]) (Or.inl rfl) q9_m102 (m_cs (as := [.int (x0 - 8)]) (rest := []) q9_m102 jv1816 rfl rfl rfl rfl rfl) (by decide) (SF9_factNumbered e3) rfl ?_
    cases h
    rw [k0 _ hK]
    exact g_aret (v := some _) rfl
  · rcases m_ifd h with ⟨c5, hc5⟩ | ⟨c5, h⟩
    · subst c5
      have h := hc5
      refine g_sw (o := 47) (t := 48) e2 rfl rfl ?_
      refine g_in eF9_wordNumbered_48 mx1815 ?_
      refine g_ch [(0, .int x0)] [.ref 11] (pc' := 50) rfl rfl rfl ?_
      cases h
      rw [k0 _ hK]
      exact g_aret (v := some 11) rfl
    rcases m_ifd h with ⟨c6, hc6⟩ | ⟨c6, h⟩
    · subst c6
      have h := hc6
      refine g_sw (o := 50) (t := 51) e2 rfl rfl ?_
      refine g_in eF9_wordNumbered_51 mx1815 ?_
      refine g_ch [(0, .int x0)] [.ref 12] (pc' := 53) rfl rfl rfl ?_
      cases h
      rw [k0 _ hK]
      exact g_aret (v := some 12) rfl
    rcases m_ifd h with ⟨c7, hc7⟩ | ⟨c7, h⟩
    · subst c7
      have h := hc7
      refine g_sw (o := 53) (t := 54) e2 rfl rfl ?_
      refine g_in eF9_wordNumbered_54 mx1815 ?_
      refine g_ch [(0, .int x0)] [.ref 13] (pc' := 56) rfl rfl rfl ?_
      cases h
      rw [k0 _ hK]
      exact g_aret (v := some 13) rfl
    rcases m_ifd h with ⟨c8, hc8⟩ | ⟨c8, h⟩
    · subst c8
      have h := hc8
      refine g_sw (o := 56) (t := 57) e2 rfl rfl ?_
      refine g_in eF9_wordNumbered_57 mx1815 ?_
      refine g_ch [(0, .int x0)] [.ref 14] (pc' := 59) rfl rfl rfl ?_
      cases h
      rw [k0 _ hK]
      exact g_aret (v := some 14) rfl
    rcases m_ifd h with ⟨c9, hc9⟩ | ⟨c9, h⟩
    · subst c9
      have h := hc9
      refine g_sw (o := 59) (t := 60) e2 rfl rfl ?_
      refine g_in eF9_wordNumbered_60 mx1815 ?_
      refine g_ch [(0, .int x0)] [.ref 15] (pc' := 62) rfl rfl rfl ?_
      cases h
      rw [k0 _ hK]
      exact g_aret (v := some 15) rfl
    rcases m_ifd h with ⟨c10, hc10⟩ | ⟨c10, h⟩
    · subst c10
      have h := hc10
      refine g_sw (o := 62) (t := 63) e2 rfl rfl ?_
      refine g_in eF9_wordNumbered_63 mx1815 ?_
      refine g_ch [(0, .int x0)] [.ref 16] (pc' := 65) rfl rfl rfl ?_
      cases h
      rw [k0 _ hK]
      exact g_aret (v := some 16) rfl
    rcases m_ifd h with ⟨c11, hc11⟩ | ⟨c11, h⟩
    · subst c11
      have h := hc11
      refine g_sw (o := 65) (t := 66) e2 rfl rfl ?_
      refine g_in eF9_wordNumbered_66 mx1815 ?_
      refine g_ch [(0, .int x0)] [.ref 17] (pc' := 68) rfl rfl rfl ?_
      cases h
      rw [k0 _ hK]
      exact g_aret (v := some 17) rfl
    rcases m_ifd h with ⟨c12, hc12⟩ | ⟨c12, h⟩
    · subst c12
      have h := hc12
      refine g_sw (o := 68) (t := 69) e2 rfl rfl ?_
      refine g_in eF9_wordNumbered_69 mx1815 ?_
      refine g_ch [(0, .int x0)] [.ref 18] (pc' := 71) rfl rfl rfl ?_
      cases h
      rw [k0 _ hK]
      exact g_aret (v := some 18) rfl
    cases h
theorem SF9_wordNumbered {xs : Nat → Int32} {L : Nat} {x0 : Int32} {hp : m_H} {x : Nat} (h : F9_wordNumbered x0 hp = some x) : m_Rn xs L 1 1815 0 (lv_args 0 [.int x0]) [] hp (.inl (some (.ref x)), hp) :=
  r_lv (SF9_wordNumbered_0 x0 hp (K := fun y => y = x) (fun y e => by rw [e]) h rfl) rfl ⟨rfl, trivial⟩
-- F9_wordFrom: LendHouse$Tape.wordFrom(I)I
theorem eF9_wordFrom_0 : m_Fe mi9_8 0 (m_ap [(.iconst 0, 1), (.istore_n 2, 1)] ([])) := m_Fe_of nd1808 0 2 rfl
theorem eF9_wordFrom_2 : m_Fe mi9_8 2 (m_ap [(.iload_n 2, 1), (.bipush 18, 2)] ([(.if_icmp .ge 27, 3)])) := m_Fe_of nd1808 2 3 rfl
theorem eF9_wordFrom_32 : m_Fe mi9_8 32 (m_ap [(.iconst 2, 1)] ([(.ireturn, 1)])) := m_Fe_of nd1808 17 2 rfl
theorem eF9_wordFrom_8 : m_Fe mi9_8 8 (m_ap [(.aload_n 0, 1), (.iload_n 2, 1)] ((.invokestatic 71, 3) :: (m_ap [(.iload_n 1, 1)] ((.invokevirtual 75, 3) :: ([(.ifCond .eq 9, 3)]))))) := m_Fe_of nd1808 5 6 rfl
theorem eF9_wordFrom_26 : m_Fe mi9_8 26 (m_ap [(.iinc 2 1, 3)] ([(.goto (-27), 3)])) := m_Fe_of nd1808 15 2 rfl
theorem eF9_wordFrom_20 : m_Fe mi9_8 20 (m_ap [(.sipush 256, 3), (.iload_n 2, 1), (.iadd, 1)] ([(.ireturn, 1)])) := m_Fe_of nd1808 11 4 rfl
theorem SF9_wordFrom_2b {xs : Nat → Int32} {L : Nat} (x0 : Nat) (x1 : Int32) (hp : m_H) (s : Int32) {r : m_O × m_H} {K : (Int32 ⊕ Int32) → Prop} (k0 : ∀ x, K (.inr x) → r = (.inl (some (.int x)), hp)) (k1 : ∀ s, K (.inl s) → m_Rn xs L 8 1808 2 [(0, .ref x0), (1, .int x1), (2, .int s)] [] hp r) {t : Int32 ⊕ Int32} (h : F9_wordFrom_2b x0 x1 hp s = some t) (hK : K t) : m_Rn xs L 8 1808 2 [(0, .ref x0), (1, .int x1), (2, .int s)] [] hp r := by
  unfold F9_wordFrom_2b at h
  refine g_in eF9_wordFrom_2 mx1808 ?_
  refine g_ch [(0, .ref x0), (1, .int x1), (2, .int s)] [.int 18, .int s] (pc' := 5) rfl rfl rfl ?_
  rcases m_ifd h with ⟨c1, h⟩ | ⟨c1, h⟩
  · refine g_if (t := 32) rfl (m_geT c1) ?_
    refine g_in eF9_wordFrom_32 mx1808 ?_
    refine g_ch [(0, .ref x0), (1, .int x1), (2, .int s)] [.int 2] (pc' := 33) rfl rfl rfl ?_
    cases h
    rw [k0 _ hK]
    exact g_iret rfl rfl
  · refine g_ifn (t := 32) rfl (m_geF c1) ?_
    refine g_in eF9_wordFrom_8 mx1808 ?_
    refine g_ch [(0, .ref x0), (1, .int x1), (2, .int s)] [.int s, .ref x0] (pc' := 10) rfl rfl rfl ?_
    obtain ⟨v3, e2, h⟩ := m_bd h
    refine g_call (v := some (.ref v3)) (h := hp) (st' := [.ref v3, .ref x0]) (D1 := 1) (as := [.int s]) (Or.inl rfl) q9_m71 (m_cs (as := [.int s]) (rest := [.ref x0]) q9_m71 jv1815 rfl rfl rfl rfl rfl) (by decide) (SF9_wordNumbered e2) rfl ?_
    refine g_ch [(0, .ref x0), (1, .int x1), (2, .int s)] [.int x1, .ref v3, .ref x0] (pc' := 14) rfl rfl rfl ?_
    obtain ⟨v5, e4, h⟩ := m_bd h
    refine g_call (v := some (.int v5)) (h := hp) (st' := [.int v5]) (D1 := 7) (as := [.ref x0, .ref v3, .int x1]) (Or.inr (Or.inl rfl)) q9_m75 (m_cv (as := [.int x1, .ref v3]) (rest := []) (Or.inl rfl) q9_m75 jv1809 (OF9_stands e4) rfl rfl rfl rfl) (by decide) (SF9_stands e4) rfl ?_
    rcases m_ifd h with ⟨c6, h⟩ | ⟨c6, h⟩
    · refine g_ifc (t := 26) rfl (m_eqT c6) ?_
      refine g_in eF9_wordFrom_26 mx1808 ?_
      refine g_ch [(2, .int (s + 1)), (0, .ref x0), (1, .int x1)] [] (pc' := 29) rfl rfl rfl ?_
      refine g_goto (t := 2) rfl ?_
      cases h
      exact r_lv (k1 (s + 1) hK) rfl ⟨rfl, rfl, rfl, trivial⟩
    · refine g_ifcn (t := 26) rfl (m_eqF c6) ?_
      refine g_in eF9_wordFrom_20 mx1808 ?_
      refine g_ch [(0, .ref x0), (1, .int x1), (2, .int s)] [.int (256 + s)] (pc' := 25) rfl rfl rfl ?_
      cases h
      rw [k0 _ hK]
      exact g_iret rfl rfl
theorem SF9_wordFrom_2 {xs : Nat → Int32} {L : Nat} (x0 : Nat) (x1 : Int32) (x2 : Int32) (hp : m_H) {r : m_O × m_H} {K : Int32 → Prop} (k0 : ∀ x, K x → r = (.inl (some (.int x)), hp)) {t : Int32} (h : F9_wordFrom_2 x0 x1 x2 hp = some t) (hK : K t) : m_Rn xs L 8 1808 2 [(0, .ref x0), (1, .int x1), (2, .int x2)] [] hp r :=
  m_wh_ok (P := fun s => m_Rn xs L 8 1808 2 [(0, .ref x0), (1, .int x1), (2, .int s)] [] hp r) (Q := K) (fun s t hb hK => SF9_wordFrom_2b x0 x1 hp s (K := m_KK (fun s => m_Rn xs L 8 1808 2 [(0, .ref x0), (1, .int x1), (2, .int s)] [] hp r) K) k0 (fun _ q => q) hb hK) m_N _ _ h hK
theorem SF9_wordFrom_0 {xs : Nat → Int32} {L : Nat} (x0 : Nat) (x1 : Int32) (hp : m_H) {r : m_O × m_H} {K : Int32 → Prop} (k0 : ∀ x, K x → r = (.inl (some (.int x)), hp)) {t : Int32} (h : F9_wordFrom_0 x0 x1 hp = some t) (hK : K t) : m_Rn xs L 8 1808 0 [(0, .ref x0), (1, .int x1)] [] hp r := by
  unfold F9_wordFrom_0 at h
  refine g_in eF9_wordFrom_0 mx1808 ?_
  refine g_ch [(2, .int 0), (0, .ref x0), (1, .int x1)] [] (pc' := 2) rfl rfl rfl ?_
  refine g_end ?_
  exact r_lv (SF9_wordFrom_2 x0 x1 0 hp (K := K) k0 h hK) rfl ⟨rfl, rfl, rfl, trivial⟩
theorem OF9_wordFrom {x0 : Nat} {x1 : Int32} {hp : m_H} {x : Int32} (h : F9_wordFrom x0 x1 hp = some x) : m_isO hp 7 x0 = true := (m_gdd h).1
theorem SF9_wordFrom {xs : Nat → Int32} {L : Nat} {x0 : Nat} {x1 : Int32} {hp : m_H} {x : Int32} (h : F9_wordFrom x0 x1 hp = some x) : m_Rn xs L 8 1808 0 (lv_args 0 [.ref x0, .int x1]) [] hp (.inl (some (.int x)), hp) :=
  r_lv (SF9_wordFrom_0 x0 x1 hp (K := fun y => y = x) (fun y e => by rw [e]) (m_gdd h).2 rfl) rfl ⟨rfl, rfl, trivial⟩
-- F9_splitOff: LendHouse$Tape.splitOff(C)V
theorem eF9_splitOff_0 : m_Fe mi9_5 0 (m_ap [(.aload_n 0, 1)] ((.getfield 32, 3) :: (m_ap [(.istore_n 2, 1), (.iload_n 1, 1)] ((.invokestatic 53, 3) :: ([(.ifCond .eq 32, 3)]))))) := m_Fe_of nd1805 0 6 rfl
theorem eF9_splitOff_41 : m_Fe mi9_5 41 (m_ap [(.iload_n 1, 1)] ((.invokestatic 61, 3) :: ([(.ifCond .eq 21, 3)]))) := m_Fe_of nd1805 23 3 rfl
theorem eF9_splitOff_66 : m_Fe mi9_5 66 (m_ap [(.aload_n 0, 1), (.dup, 1)] ((.getfield 32, 3) :: (m_ap [(.iconst 1, 1), (.iadd, 1)] ((.putfield 32, 3) :: (m_ap [(.iload_n 1, 1), (.bipush 59, 2)] ([(.if_icmp .eq 33, 3)])))))) := m_Fe_of nd1805 36 9 rfl
theorem eF9_splitOff_82 : m_Fe mi9_5 82 (m_ap [(.iload_n 1, 1), (.bipush 60, 2)] ([(.if_icmp .eq 27, 3)])) := m_Fe_of nd1805 45 3 rfl
theorem eF9_splitOff_88 : m_Fe mi9_5 88 (m_ap [(.iload_n 1, 1), (.bipush 62, 2)] ([(.if_icmp .eq 21, 3)])) := m_Fe_of nd1805 48 3 rfl
theorem eF9_splitOff_94 : m_Fe mi9_5 94 (m_ap [(.iload_n 1, 1), (.bipush 43, 2)] ([(.if_icmp .eq 15, 3)])) := m_Fe_of nd1805 51 3 rfl
theorem eF9_splitOff_100 : m_Fe mi9_5 100 (m_ap [(.iload_n 1, 1), (.bipush 40, 2)] ([(.if_icmp .eq 9, 3)])) := m_Fe_of nd1805 54 3 rfl
theorem eF9_splitOff_106 : m_Fe mi9_5 106 (m_ap [(.iload_n 1, 1), (.bipush 41, 2)] ([(.if_icmp .ne 7, 3)])) := m_Fe_of nd1805 57 3 rfl
theorem eF9_splitOff_116 : m_Fe mi9_5 116 (m_ap [(.iconst 0, 1)] ([])) := m_Fe_of nd1805 62 1 rfl
theorem eF9_splitOff_48 : m_Fe mi9_5 48 (m_ap [(.aload_n 0, 1)] ((.invokevirtual 64, 3) :: (m_ap [(.aload_n 0, 1), (.aload_n 0, 1), (.iload_n 2, 1)] ((.invokevirtual 67, 3) :: (m_ap [(.iload_n 2, 1), (.iconst 0, 1)] ((.invokevirtual 41, 3) :: ([(.goto 70, 3)]))))))) := m_Fe_of nd1805 26 10 rfl
theorem eF9_splitOff_133 : m_Fe mi9_5 133 ([(.return_, 1)]) := m_Fe_of nd1805 73 1 rfl
theorem eF9_splitOff_12 : m_Fe mi9_5 12 (m_ap [(.aload_n 0, 1)] ((.invokevirtual 57, 3) :: (m_ap [(.istore_n 3, 1), (.aload_n 0, 1), (.aload_n 0, 1)] ((.getfield 32, 3) :: (m_ap [(.iload_n 2, 1), (.isub, 1), (.iconst 5, 1)] ([(.if_icmp .le 7, 3)])))))) := m_Fe_of nd1805 6 10 rfl
theorem eF9_splitOff_32 : m_Fe mi9_5 32 (m_ap [(.iconst 1, 1)] ([])) := m_Fe_of nd1805 18 1 rfl
theorem eF9_splitOff_33 : m_Fe mi9_5 33 (m_ap [(.iload_n 2, 1), (.iload_n 3, 1)] ((.invokevirtual 41, 3) :: ([(.goto 95, 3)]))) := m_Fe_of nd1805 19 4 rfl
theorem eF9_splitOff_28 : m_Fe mi9_5 28 (m_ap [(.iconst 2, 1)] ([(.goto 4, 3)])) := m_Fe_of nd1805 16 2 rfl
theorem eF9_splitOff_112 : m_Fe mi9_5 112 (m_ap [(.iconst 1, 1)] ([(.goto 4, 3)])) := m_Fe_of nd1805 60 2 rfl
theorem eF9_splitOff_117 : m_Fe mi9_5 117 (m_ap [(.istore_n 3, 1), (.aload_n 0, 1), (.iload_n 3, 1)] ([(.ifCond .eq 7, 3)])) := m_Fe_of nd1805 63 4 rfl
theorem eF9_splitOff_127 : m_Fe mi9_5 127 (m_ap [(.iconst 2, 1)] ([])) := m_Fe_of nd1805 69 1 rfl
theorem eF9_splitOff_128 : m_Fe mi9_5 128 (m_ap [(.iload_n 2, 1), (.iconst 0, 1)] ([(.invokevirtual 41, 3)])) := m_Fe_of nd1805 70 3 rfl
theorem eF9_splitOff_123 : m_Fe mi9_5 123 (m_ap [(.iload_n 1, 1)] ([(.goto 4, 3)])) := m_Fe_of nd1805 67 2 rfl
theorem SF9_splitOff_117 {xs : Nat → Int32} {L : Nat} (x0 : Nat) (x1 : Int32) (x2 : Int32) (s0 : Int32) (hp : m_H) {r : m_O × m_H} {K : m_H → Prop} (k0 : ∀ x, K x → r = (.inl none, x)) {t : m_H} (h : F9_splitOff_117 x0 x1 x2 s0 hp = some t) (hK : K t) : m_Rn xs L 9 1805 117 [(0, .ref x0), (1, .int x1), (2, .int x2)] [.int s0] hp r := by
  unfold F9_splitOff_117 at h
  refine g_in eF9_splitOff_117 mx1805 ?_
  refine g_ch [(3, .int s0), (0, .ref x0), (1, .int x1), (2, .int x2)] [.int s0, .ref x0] (pc' := 120) rfl rfl rfl ?_
  rcases m_ifd h with ⟨c1, h⟩ | ⟨c1, h⟩
  · refine g_ifc (t := 127) rfl (m_eqT c1) ?_
    refine g_in eF9_splitOff_127 mx1805 ?_
    refine g_ch [(3, .int s0), (0, .ref x0), (1, .int x1), (2, .int x2)] [.int 2, .ref x0] (pc' := 128) rfl rfl rfl ?_
    refine g_end ?_
    refine g_in eF9_splitOff_128 mx1805 ?_
    refine g_ch [(3, .int s0), (0, .ref x0), (1, .int x1), (2, .int x2)] [.int 0, .int x2, .int 2, .ref x0] (pc' := 130) rfl rfl rfl ?_
    obtain ⟨h3, e2, h⟩ := m_bd h
    refine g_call (v := none) (h := h3) (st' := []) (D1 := 0) (as := [.ref x0, .int 2, .int x2, .int 0]) (Or.inr (Or.inl rfl)) q9_m41 (m_cv (as := [.int 0, .int x2, .int 2]) (rest := []) (Or.inl rfl) q9_m41 jv1810 (OF9_addThing e2) rfl rfl rfl rfl) (by decide) (SF9_addThing e2) rfl ?_
    refine g_end ?_
    refine g_in eF9_splitOff_133 mx1805 ?_
    cases h
    rw [k0 _ hK]
    exact g_vret rfl
  · refine g_ifcn (t := 127) rfl (m_eqF c1) ?_
    refine g_in eF9_splitOff_123 mx1805 ?_
    refine g_ch [(3, .int s0), (0, .ref x0), (1, .int x1), (2, .int x2)] [.int x1, .ref x0] (pc' := 124) rfl rfl rfl ?_
    refine g_goto (t := 128) rfl ?_
    refine g_in eF9_splitOff_128 mx1805 ?_
    refine g_ch [(3, .int s0), (0, .ref x0), (1, .int x1), (2, .int x2)] [.int 0, .int x2, .int x1, .ref x0] (pc' := 130) rfl rfl rfl ?_
    obtain ⟨h5, e4, h⟩ := m_bd h
    refine g_call (v := none) (h := h5) (st' := []) (D1 := 0) (as := [.ref x0, .int x1, .int x2, .int 0]) (Or.inr (Or.inl rfl)) q9_m41 (m_cv (as := [.int 0, .int x2, .int x1]) (rest := []) (Or.inl rfl) q9_m41 jv1810 (OF9_addThing e4) rfl rfl rfl rfl) (by decide) (SF9_addThing e4) rfl ?_
    refine g_end ?_
    refine g_in eF9_splitOff_133 mx1805 ?_
    cases h
    rw [k0 _ hK]
    exact g_vret rfl
theorem SF9_splitOff_112 {xs : Nat → Int32} {L : Nat} (x0 : Nat) (x1 : Int32) (x2 : Int32) (hp : m_H) {r : m_O × m_H} {K : m_H → Prop} (k0 : ∀ x, K x → r = (.inl none, x)) {t : m_H} (h : F9_splitOff_112 x0 x1 x2 hp = some t) (hK : K t) : m_Rn xs L 9 1805 112 [(0, .ref x0), (1, .int x1), (2, .int x2)] [] hp r := by
  unfold F9_splitOff_112 at h
  refine g_in eF9_splitOff_112 mx1805 ?_
  refine g_ch [(0, .ref x0), (1, .int x1), (2, .int x2)] [.int 1] (pc' := 113) rfl rfl rfl ?_
  refine g_goto (t := 117) rfl ?_
  exact r_lv (SF9_splitOff_117 x0 x1 x2 1 hp (K := K) k0 h hK) rfl ⟨rfl, rfl, rfl, trivial⟩
theorem SF9_splitOff_0 {xs : Nat → Int32} {L : Nat} (x0 : Nat) (x1 : Int32) (hp : m_H) {r : m_O × m_H} {K : m_H → Prop} (k0 : ∀ x, K x → r = (.inl none, x)) {t : m_H} (h : F9_splitOff_0 x0 x1 hp = some t) (hK : K t) : m_Rn xs L 9 1805 0 [(0, .ref x0), (1, .int x1)] [] hp r := by
  unfold F9_splitOff_0 at h
  refine g_in eF9_splitOff_0 mx1805 ?_
  refine g_ch [(0, .ref x0), (1, .int x1)] [.ref x0] (pc' := 1) rfl rfl rfl ?_
  obtain ⟨v1, e2, h⟩ := m_bd h
  refine g_gi q9_f32 e2 ?_
  refine g_ch [(2, .int v1), (0, .ref x0), (1, .int x1)] [.int x1] (pc' := 6) rfl rfl rfl ?_
  obtain ⟨v4, e3, h⟩ := m_bd h
  refine g_call (v := some (.int v4)) (h := hp) (st' := [.int v4]) (D1 := 0) (as := [.int x1]) (Or.inl rfl) q9_m53 (m_cs (as := [.int x1]) (rest := []) q9_m53 jv1813 rfl rfl rfl rfl rfl) (by decide) (SF9_isDigit e3) rfl ?_
  rcases m_ifd h with ⟨c5, h⟩ | ⟨c5, h⟩
  · refine g_ifc (t := 41) rfl (m_eqT c5) ?_
    refine g_in eF9_splitOff_41 mx1805 ?_
    refine g_ch [(2, .int v1), (0, .ref x0), (1, .int x1)] [.int x1] (pc' := 42) rfl rfl rfl ?_
    obtain ⟨v7, e6, h⟩ := m_bd h
    refine g_call (v := some (.int v7)) (h := hp) (st' := [.int v7]) (D1 := 0) (as := [.int x1]) (Or.inl rfl) q9_m61 (m_cs (as := [.int x1]) (rest := []) q9_m61 jv1814 rfl rfl rfl rfl rfl) (by decide) (SF9_isLetter e6) rfl ?_
    rcases m_ifd h with ⟨c8, h⟩ | ⟨c8, h⟩
    · refine g_ifc (t := 66) rfl (m_eqT c8) ?_
      refine g_in eF9_splitOff_66 mx1805 ?_
      refine g_ch [(2, .int v1), (0, .ref x0), (1, .int x1)] [.ref x0, .ref x0] (pc' := 68) rfl rfl rfl ?_
      obtain ⟨v9, e10, h⟩ := m_bd h
      refine g_gi q9_f32 e10 ?_
      refine g_ch [(2, .int v1), (0, .ref x0), (1, .int x1)] [.int (v9 + 1), .ref x0] (pc' := 73) rfl rfl rfl ?_
      obtain ⟨h11, e12, h⟩ := m_bd h
      refine g_pf q9_f32 e12 ?_
      refine g_ch [(2, .int v1), (0, .ref x0), (1, .int x1)] [.int 59, .int x1] (pc' := 79) rfl rfl rfl ?_
      rcases m_ifd h with ⟨c13, h⟩ | ⟨c13, h⟩
      · refine g_if (t := 112) rfl (m_eqT c13) ?_
        exact r_lv (SF9_splitOff_112 x0 x1 v1 h11 (K := K) k0 h hK) rfl ⟨rfl, rfl, rfl, trivial⟩
      · refine g_ifn (t := 112) rfl (m_eqF c13) ?_
        refine g_in eF9_splitOff_82 mx1805 ?_
        refine g_ch [(2, .int v1), (0, .ref x0), (1, .int x1)] [.int 60, .int x1] (pc' := 85) rfl rfl rfl ?_
        rcases m_ifd h with ⟨c14, h⟩ | ⟨c14, h⟩
        · refine g_if (t := 112) rfl (m_eqT c14) ?_
          exact r_lv (SF9_splitOff_112 x0 x1 v1 h11 (K := K) k0 h hK) rfl ⟨rfl, rfl, rfl, trivial⟩
        · refine g_ifn (t := 112) rfl (m_eqF c14) ?_
          refine g_in eF9_splitOff_88 mx1805 ?_
          refine g_ch [(2, .int v1), (0, .ref x0), (1, .int x1)] [.int 62, .int x1] (pc' := 91) rfl rfl rfl ?_
          rcases m_ifd h with ⟨c15, h⟩ | ⟨c15, h⟩
          · refine g_if (t := 112) rfl (m_eqT c15) ?_
            exact r_lv (SF9_splitOff_112 x0 x1 v1 h11 (K := K) k0 h hK) rfl ⟨rfl, rfl, rfl, trivial⟩
          · refine g_ifn (t := 112) rfl (m_eqF c15) ?_
            refine g_in eF9_splitOff_94 mx1805 ?_
            refine g_ch [(2, .int v1), (0, .ref x0), (1, .int x1)] [.int 43, .int x1] (pc' := 97) rfl rfl rfl ?_
            rcases m_ifd h with ⟨c16, h⟩ | ⟨c16, h⟩
            · refine g_if (t := 112) rfl (m_eqT c16) ?_
              exact r_lv (SF9_splitOff_112 x0 x1 v1 h11 (K := K) k0 h hK) rfl ⟨rfl, rfl, rfl, trivial⟩
            · refine g_ifn (t := 112) rfl (m_eqF c16) ?_
              refine g_in eF9_splitOff_100 mx1805 ?_
              refine g_ch [(2, .int v1), (0, .ref x0), (1, .int x1)] [.int 40, .int x1] (pc' := 103) rfl rfl rfl ?_
              rcases m_ifd h with ⟨c17, h⟩ | ⟨c17, h⟩
              · refine g_if (t := 112) rfl (m_eqT c17) ?_
                exact r_lv (SF9_splitOff_112 x0 x1 v1 h11 (K := K) k0 h hK) rfl ⟨rfl, rfl, rfl, trivial⟩
              · refine g_ifn (t := 112) rfl (m_eqF c17) ?_
                refine g_in eF9_splitOff_106 mx1805 ?_
                refine g_ch [(2, .int v1), (0, .ref x0), (1, .int x1)] [.int 41, .int x1] (pc' := 109) rfl rfl rfl ?_
                rcases m_ifd h with ⟨c18, h⟩ | ⟨c18, h⟩
                · refine g_ifn (t := 116) rfl (m_neF c18) ?_
                  exact r_lv (SF9_splitOff_112 x0 x1 v1 h11 (K := K) k0 h hK) rfl ⟨rfl, rfl, rfl, trivial⟩
                · refine g_if (t := 116) rfl (m_neT c18) ?_
                  refine g_in eF9_splitOff_116 mx1805 ?_
                  refine g_ch [(2, .int v1), (0, .ref x0), (1, .int x1)] [.int 0] (pc' := 117) rfl rfl rfl ?_
                  refine g_end ?_
                  exact r_lv (SF9_splitOff_117 x0 x1 v1 0 h11 (K := K) k0 h hK) rfl ⟨rfl, rfl, rfl, trivial⟩
    · refine g_ifcn (t := 66) rfl (m_eqF c8) ?_
      refine g_in eF9_splitOff_48 mx1805 ?_
      refine g_ch [(2, .int v1), (0, .ref x0), (1, .int x1)] [.ref x0] (pc' := 49) rfl rfl rfl ?_
      obtain ⟨h20, e19, h⟩ := m_bd h
      refine g_call (v := none) (h := h20) (st' := []) (D1 := 1) (as := [.ref x0]) (Or.inr (Or.inl rfl)) q9_m64 (m_cv (as := []) (rest := []) (Or.inl rfl) q9_m64 jv1807 (OF9_passWord e19) rfl rfl rfl rfl) (by decide) (SF9_passWord e19) rfl ?_
      refine g_ch [(2, .int v1), (0, .ref x0), (1, .int x1)] [.int v1, .ref x0, .ref x0] (pc' := 55) rfl rfl rfl ?_
      obtain ⟨v22, e21, h⟩ := m_bd h
      refine g_call (v := some (.int v22)) (h := h20) (st' := [.int v22, .ref x0]) (D1 := 8) (as := [.ref x0, .int v1]) (Or.inr (Or.inl rfl)) q9_m67 (m_cv (as := [.int v1]) (rest := [.ref x0]) (Or.inl rfl) q9_m67 jv1808 (OF9_wordFrom e21) rfl rfl rfl rfl) (by decide) (SF9_wordFrom e21) rfl ?_
      refine g_ch [(2, .int v1), (0, .ref x0), (1, .int x1)] [.int 0, .int v1, .int v22, .ref x0] (pc' := 60) rfl rfl rfl ?_
      obtain ⟨h24, e23, h⟩ := m_bd h
      refine g_call (v := none) (h := h24) (st' := []) (D1 := 0) (as := [.ref x0, .int v22, .int v1, .int 0]) (Or.inr (Or.inl rfl)) q9_m41 (m_cv (as := [.int 0, .int v1, .int v22]) (rest := []) (Or.inl rfl) q9_m41 jv1810 (OF9_addThing e23) rfl rfl rfl rfl) (by decide) (SF9_addThing e23) rfl ?_
      refine g_goto (t := 133) rfl ?_
      refine g_in eF9_splitOff_133 mx1805 ?_
      cases h
      rw [k0 _ hK]
      exact g_vret rfl
  · refine g_ifcn (t := 41) rfl (m_eqF c5) ?_
    refine g_in eF9_splitOff_12 mx1805 ?_
    refine g_ch [(2, .int v1), (0, .ref x0), (1, .int x1)] [.ref x0] (pc' := 13) rfl rfl rfl ?_
    obtain ⟨z26, e25, h⟩ := m_bd h
    refine g_call (v := some (.int z26.1)) (h := z26.2) (st' := [.int z26.1]) (D1 := 1) (as := [.ref x0]) (Or.inr (Or.inl rfl)) q9_m57 (m_cv (as := []) (rest := []) (Or.inl rfl) q9_m57 jv1806 (OF9_passNumber e25) rfl rfl rfl rfl) (by decide) (SF9_passNumber e25) rfl ?_
    refine g_ch [(3, .int z26.1), (2, .int v1), (0, .ref x0), (1, .int x1)] [.ref x0, .ref x0] (pc' := 19) rfl rfl rfl ?_
    obtain ⟨v27, e28, h⟩ := m_bd h
    refine g_gi q9_f32 e28 ?_
    refine g_ch [(3, .int z26.1), (2, .int v1), (0, .ref x0), (1, .int x1)] [.int 5, .int (v27 - v1), .ref x0] (pc' := 25) rfl rfl rfl ?_
    rcases m_ifd h with ⟨c29, h⟩ | ⟨c29, h⟩
    · refine g_if (t := 32) rfl (m_leT c29) ?_
      refine g_in eF9_splitOff_32 mx1805 ?_
      refine g_ch [(3, .int z26.1), (2, .int v1), (0, .ref x0), (1, .int x1)] [.int 1, .ref x0] (pc' := 33) rfl rfl rfl ?_
      refine g_end ?_
      refine g_in eF9_splitOff_33 mx1805 ?_
      refine g_ch [(3, .int z26.1), (2, .int v1), (0, .ref x0), (1, .int x1)] [.int z26.1, .int v1, .int 1, .ref x0] (pc' := 35) rfl rfl rfl ?_
      obtain ⟨h31, e30, h⟩ := m_bd h
      refine g_call (v := none) (h := h31) (st' := []) (D1 := 0) (as := [.ref x0, .int 1, .int v1, .int z26.1]) (Or.inr (Or.inl rfl)) q9_m41 (m_cv (as := [.int z26.1, .int v1, .int 1]) (rest := []) (Or.inl rfl) q9_m41 jv1810 (OF9_addThing e30) rfl rfl rfl rfl) (by decide) (SF9_addThing e30) rfl ?_
      refine g_goto (t := 133) rfl ?_
      refine g_in eF9_splitOff_133 mx1805 ?_
      cases h
      rw [k0 _ hK]
      exact g_vret rfl
    · refine g_ifn (t := 32) rfl (m_leF c29) ?_
      refine g_in eF9_splitOff_28 mx1805 ?_
      refine g_ch [(3, .int z26.1), (2, .int v1), (0, .ref x0), (1, .int x1)] [.int 2, .ref x0] (pc' := 29) rfl rfl rfl ?_
      refine g_goto (t := 33) rfl ?_
      refine g_in eF9_splitOff_33 mx1805 ?_
      refine g_ch [(3, .int z26.1), (2, .int v1), (0, .ref x0), (1, .int x1)] [.int z26.1, .int v1, .int 2, .ref x0] (pc' := 35) rfl rfl rfl ?_
      obtain ⟨h33, e32, h⟩ := m_bd h
      refine g_call (v := none) (h := h33) (st' := []) (D1 := 0) (as := [.ref x0, .int 2, .int v1, .int z26.1]) (Or.inr (Or.inl rfl)) q9_m41 (m_cv (as := [.int z26.1, .int v1, .int 2]) (rest := []) (Or.inl rfl) q9_m41 jv1810 (OF9_addThing e32) rfl rfl rfl rfl) (by decide) (SF9_addThing e32) rfl ?_
      refine g_goto (t := 133) rfl ?_
      refine g_in eF9_splitOff_133 mx1805 ?_
      cases h
      rw [k0 _ hK]
      exact g_vret rfl
theorem OF9_splitOff {x0 : Nat} {x1 : Int32} {hp : m_H} {x : m_H} (h : F9_splitOff x0 x1 hp = some x) : m_isO hp 7 x0 = true := (m_gdd h).1
theorem SF9_splitOff {xs : Nat → Int32} {L : Nat} {x0 : Nat} {x1 : Int32} {hp : m_H} {x : m_H} (h : F9_splitOff x0 x1 hp = some x) : m_Rn xs L 9 1805 0 (lv_args 0 [.ref x0, .int x1]) [] hp (.inl none, x) :=
  r_lv (SF9_splitOff_0 x0 x1 hp (K := fun y => y = x) (fun y e => by rw [e]) (m_gdd h).2 rfl) rfl ⟨rfl, rfl, trivial⟩
-- F9_skipBlanks: LendHouse$Tape.skipBlanks()V
theorem eF9_skipBlanks_0 : m_Fe mi9_4 0 (m_ap [(.iconst 0, 1), (.istore_n 1, 1)] ([])) := m_Fe_of nd1804 0 2 rfl
theorem eF9_skipBlanks_2 : m_Fe mi9_4 2 (m_ap [(.iload_n 1, 1), (.aload_n 0, 1)] ((.getfield 29, 3) :: ([(.if_icmp .ge 32, 3)]))) := m_Fe_of nd1804 2 4 rfl
theorem eF9_skipBlanks_39 : m_Fe mi9_4 39 ([(.return_, 1)]) := m_Fe_of nd1804 20 1 rfl
theorem eF9_skipBlanks_10 : m_Fe mi9_4 10 (m_ap [(.aload_n 0, 1), (.aload_n 0, 1)] ((.getfield 32, 3) :: ((.invokevirtual 45, 3) :: (m_ap [(.bipush 32, 2)] ([(.if_icmp .ne 19, 3)]))))) := m_Fe_of nd1804 6 6 rfl
theorem eF9_skipBlanks_23 : m_Fe mi9_4 23 (m_ap [(.aload_n 0, 1), (.dup, 1)] ((.getfield 32, 3) :: (m_ap [(.iconst 1, 1), (.iadd, 1)] ((.putfield 32, 3) :: (m_ap [(.iinc 1 1, 3)] ([(.goto (-34), 3)])))))) := m_Fe_of nd1804 12 8 rfl
theorem SF9_skipBlanks_2b {xs : Nat → Int32} {L : Nat} (x0 : Nat) (s : Int32 × m_H) {r : m_O × m_H} {K : ((Int32 × m_H) ⊕ m_H) → Prop} (k0 : ∀ x, K (.inr x) → r = (.inl none, x)) (k1 : ∀ s, K (.inl s) → m_Rn xs L 1 1804 2 [(0, .ref x0), (1, .int s.1)] [] s.2 r) {t : (Int32 × m_H) ⊕ m_H} (h : F9_skipBlanks_2b x0 s = some t) (hK : K t) : m_Rn xs L 1 1804 2 [(0, .ref x0), (1, .int s.1)] [] s.2 r := by
  unfold F9_skipBlanks_2b at h
  refine g_in eF9_skipBlanks_2 mx1804 ?_
  refine g_ch [(0, .ref x0), (1, .int s.1)] [.ref x0, .int s.1] (pc' := 4) rfl rfl rfl ?_
  obtain ⟨v1, e2, h⟩ := m_bd h
  refine g_gi q9_f29 e2 ?_
  rcases m_ifd h with ⟨c3, h⟩ | ⟨c3, h⟩
  · refine g_if (t := 39) rfl (m_geT c3) ?_
    refine g_in eF9_skipBlanks_39 mx1804 ?_
    cases h
    rw [k0 _ hK]
    exact g_vret rfl
  · refine g_ifn (t := 39) rfl (m_geF c3) ?_
    refine g_in eF9_skipBlanks_10 mx1804 ?_
    refine g_ch [(0, .ref x0), (1, .int s.1)] [.ref x0, .ref x0] (pc' := 12) rfl rfl rfl ?_
    obtain ⟨v4, e5, h⟩ := m_bd h
    refine g_gi q9_f32 e5 ?_
    obtain ⟨v7, e6, h⟩ := m_bd h
    refine g_call (v := some (.int v7)) (h := s.2) (st' := [.int v7]) (D1 := 0) (as := [.ref x0, .int v4]) (Or.inr (Or.inl rfl)) q9_m45 (m_cv (as := [.int v4]) (rest := []) (Or.inl rfl) q9_m45 jv1812 (OF9_byteAt e6) rfl rfl rfl rfl) (by decide) (SF9_byteAt e6) rfl ?_
    refine g_ch [(0, .ref x0), (1, .int s.1)] [.int 32, .int v7] (pc' := 20) rfl rfl rfl ?_
    rcases m_ifd h with ⟨c8, h⟩ | ⟨c8, h⟩
    · refine g_ifn (t := 39) rfl (m_neF c8) ?_
      refine g_in eF9_skipBlanks_23 mx1804 ?_
      refine g_ch [(0, .ref x0), (1, .int s.1)] [.ref x0, .ref x0] (pc' := 25) rfl rfl rfl ?_
      obtain ⟨v9, e10, h⟩ := m_bd h
      refine g_gi q9_f32 e10 ?_
      refine g_ch [(0, .ref x0), (1, .int s.1)] [.int (v9 + 1), .ref x0] (pc' := 30) rfl rfl rfl ?_
      obtain ⟨h11, e12, h⟩ := m_bd h
      refine g_pf q9_f32 e12 ?_
      refine g_ch [(1, .int (s.1 + 1)), (0, .ref x0)] [] (pc' := 36) rfl rfl rfl ?_
      refine g_goto (t := 2) rfl ?_
      cases h
      exact r_lv (k1 ((s.1 + 1), h11) hK) rfl ⟨rfl, rfl, trivial⟩
    · refine g_if (t := 39) rfl (m_neT c8) ?_
      refine g_in eF9_skipBlanks_39 mx1804 ?_
      cases h
      rw [k0 _ hK]
      exact g_vret rfl
theorem SF9_skipBlanks_2 {xs : Nat → Int32} {L : Nat} (x0 : Nat) (x1 : Int32) (hp : m_H) {r : m_O × m_H} {K : m_H → Prop} (k0 : ∀ x, K x → r = (.inl none, x)) {t : m_H} (h : F9_skipBlanks_2 x0 x1 hp = some t) (hK : K t) : m_Rn xs L 1 1804 2 [(0, .ref x0), (1, .int x1)] [] hp r :=
  m_wh_ok (P := fun s => m_Rn xs L 1 1804 2 [(0, .ref x0), (1, .int s.1)] [] s.2 r) (Q := K) (fun s t hb hK => SF9_skipBlanks_2b x0 s (K := m_KK (fun s => m_Rn xs L 1 1804 2 [(0, .ref x0), (1, .int s.1)] [] s.2 r) K) k0 (fun _ q => q) hb hK) m_N _ _ h hK
theorem SF9_skipBlanks_0 {xs : Nat → Int32} {L : Nat} (x0 : Nat) (hp : m_H) {r : m_O × m_H} {K : m_H → Prop} (k0 : ∀ x, K x → r = (.inl none, x)) {t : m_H} (h : F9_skipBlanks_0 x0 hp = some t) (hK : K t) : m_Rn xs L 1 1804 0 [(0, .ref x0)] [] hp r := by
  unfold F9_skipBlanks_0 at h
  refine g_in eF9_skipBlanks_0 mx1804 ?_
  refine g_ch [(1, .int 0), (0, .ref x0)] [] (pc' := 2) rfl rfl rfl ?_
  refine g_end ?_
  exact r_lv (SF9_skipBlanks_2 x0 0 hp (K := K) k0 h hK) rfl ⟨rfl, rfl, trivial⟩
theorem OF9_skipBlanks {x0 : Nat} {hp : m_H} {x : m_H} (h : F9_skipBlanks x0 hp = some x) : m_isO hp 7 x0 = true := (m_gdd h).1
theorem SF9_skipBlanks {xs : Nat → Int32} {L : Nat} {x0 : Nat} {hp : m_H} {x : m_H} (h : F9_skipBlanks x0 hp = some x) : m_Rn xs L 1 1804 0 (lv_args 0 [.ref x0]) [] hp (.inl none, x) :=
  r_lv (SF9_skipBlanks_0 x0 hp (K := fun y => y = x) (fun y e => by rw [e]) (m_gdd h).2 rfl) rfl ⟨rfl, trivial⟩
-- F9_split: LendHouse$Tape.split()V
theorem eF9_split_0 : m_Fe mi9_3 0 (m_ap [(.aload_n 0, 1), (.iconst 0, 1)] ((.putfield 32, 3) :: (m_ap [(.aload_n 0, 1), (.iconst 0, 1)] ((.putfield 35, 3) :: (m_ap [(.iconst 0, 1), (.istore_n 1, 1)] ([])))))) := m_Fe_of nd1803 0 8 rfl
theorem eF9_split_12 : m_Fe mi9_3 12 (m_ap [(.iload_n 1, 1), (.aload_n 0, 1)] ((.getfield 29, 3) :: ([(.if_icmp .gt 47, 3)]))) := m_Fe_of nd1803 8 4 rfl
theorem eF9_split_64 : m_Fe mi9_3 64 ([(.return_, 1)]) := m_Fe_of nd1803 34 1 rfl
theorem eF9_split_20 : m_Fe mi9_3 20 (m_ap [(.aload_n 0, 1)] ((.invokevirtual 38, 3) :: (m_ap [(.aload_n 0, 1)] ((.getfield 32, 3) :: (m_ap [(.aload_n 0, 1)] ((.getfield 29, 3) :: ([(.if_icmp .lt 14, 3)]))))))) := m_Fe_of nd1803 12 7 rfl
theorem eF9_split_46 : m_Fe mi9_3 46 (m_ap [(.aload_n 0, 1), (.aload_n 0, 1), (.aload_n 0, 1)] ((.getfield 32, 3) :: ((.invokevirtual 45, 3) :: ((.invokevirtual 49, 3) :: (m_ap [(.iinc 1 1, 3)] ([(.goto (-49), 3)])))))) := m_Fe_of nd1803 26 8 rfl
theorem eF9_split_35 : m_Fe mi9_3 35 (m_ap [(.aload_n 0, 1), (.iconst 0, 1), (.aload_n 0, 1)] ((.getfield 29, 3) :: (m_ap [(.iconst 0, 1)] ((.invokevirtual 41, 3) :: ([(.return_, 1)]))))) := m_Fe_of nd1803 19 7 rfl
theorem SF9_split_12b {xs : Nat → Int32} {L : Nat} (x0 : Nat) (s : Int32 × m_H) {r : m_O × m_H} {K : ((Int32 × m_H) ⊕ m_H) → Prop} (k0 : ∀ x, K (.inr x) → r = (.inl none, x)) (k1 : ∀ s, K (.inl s) → m_Rn xs L 10 1803 12 [(0, .ref x0), (1, .int s.1)] [] s.2 r) {t : (Int32 × m_H) ⊕ m_H} (h : F9_split_12b x0 s = some t) (hK : K t) : m_Rn xs L 10 1803 12 [(0, .ref x0), (1, .int s.1)] [] s.2 r := by
  unfold F9_split_12b at h
  refine g_in eF9_split_12 mx1803 ?_
  refine g_ch [(0, .ref x0), (1, .int s.1)] [.ref x0, .int s.1] (pc' := 14) rfl rfl rfl ?_
  obtain ⟨v1, e2, h⟩ := m_bd h
  refine g_gi q9_f29 e2 ?_
  rcases m_ifd h with ⟨c3, h⟩ | ⟨c3, h⟩
  · refine g_if (t := 64) rfl (m_gtT c3) ?_
    refine g_in eF9_split_64 mx1803 ?_
    cases h
    rw [k0 _ hK]
    exact g_vret rfl
  · refine g_ifn (t := 64) rfl (m_gtF c3) ?_
    refine g_in eF9_split_20 mx1803 ?_
    refine g_ch [(0, .ref x0), (1, .int s.1)] [.ref x0] (pc' := 21) rfl rfl rfl ?_
    obtain ⟨h5, e4, h⟩ := m_bd h
    refine g_call (v := none) (h := h5) (st' := []) (D1 := 1) (as := [.ref x0]) (Or.inr (Or.inl rfl)) q9_m38 (m_cv (as := []) (rest := []) (Or.inl rfl) q9_m38 jv1804 (OF9_skipBlanks e4) rfl rfl rfl rfl) (by decide) (SF9_skipBlanks e4) rfl ?_
    refine g_ch [(0, .ref x0), (1, .int s.1)] [.ref x0] (pc' := 25) rfl rfl rfl ?_
    obtain ⟨v6, e7, h⟩ := m_bd h
    refine g_gi q9_f32 e7 ?_
    refine g_ch [(0, .ref x0), (1, .int s.1)] [.ref x0, .int v6] (pc' := 29) rfl rfl rfl ?_
    obtain ⟨v8, e9, h⟩ := m_bd h
    refine g_gi q9_f29 e9 ?_
    rcases m_ifd h with ⟨c10, h⟩ | ⟨c10, h⟩
    · refine g_if (t := 46) rfl (m_ltT c10) ?_
      refine g_in eF9_split_46 mx1803 ?_
      refine g_ch [(0, .ref x0), (1, .int s.1)] [.ref x0, .ref x0, .ref x0] (pc' := 49) rfl rfl rfl ?_
      obtain ⟨v11, e12, h⟩ := m_bd h
      refine g_gi q9_f32 e12 ?_
      obtain ⟨v14, e13, h⟩ := m_bd h
      refine g_call (v := some (.int v14)) (h := h5) (st' := [.int v14, .ref x0]) (D1 := 0) (as := [.ref x0, .int v11]) (Or.inr (Or.inl rfl)) q9_m45 (m_cv (as := [.int v11]) (rest := [.ref x0]) (Or.inl rfl) q9_m45 jv1812 (OF9_byteAt e13) rfl rfl rfl rfl) (by decide) (SF9_byteAt e13) rfl ?_
      obtain ⟨h16, e15, h⟩ := m_bd h
      refine g_call (v := none) (h := h16) (st' := []) (D1 := 9) (as := [.ref x0, .int v14]) (Or.inr (Or.inl rfl)) q9_m49 (m_cv (as := [.int v14]) (rest := []) (Or.inl rfl) q9_m49 jv1805 (OF9_splitOff e15) rfl rfl rfl rfl) (by decide) (SF9_splitOff e15) rfl ?_
      refine g_ch [(1, .int (s.1 + 1)), (0, .ref x0)] [] (pc' := 61) rfl rfl rfl ?_
      refine g_goto (t := 12) rfl ?_
      cases h
      exact r_lv (k1 ((s.1 + 1), h16) hK) rfl ⟨rfl, rfl, trivial⟩
    · refine g_ifn (t := 46) rfl (m_ltF c10) ?_
      refine g_in eF9_split_35 mx1803 ?_
      refine g_ch [(0, .ref x0), (1, .int s.1)] [.ref x0, .int 0, .ref x0] (pc' := 38) rfl rfl rfl ?_
      obtain ⟨v17, e18, h⟩ := m_bd h
      refine g_gi q9_f29 e18 ?_
      refine g_ch [(0, .ref x0), (1, .int s.1)] [.int 0, .int v17, .int 0, .ref x0] (pc' := 42) rfl rfl rfl ?_
      obtain ⟨h20, e19, h⟩ := m_bd h
      refine g_call (v := none) (h := h20) (st' := []) (D1 := 0) (as := [.ref x0, .int 0, .int v17, .int 0]) (Or.inr (Or.inl rfl)) q9_m41 (m_cv (as := [.int 0, .int v17, .int 0]) (rest := []) (Or.inl rfl) q9_m41 jv1810 (OF9_addThing e19) rfl rfl rfl rfl) (by decide) (SF9_addThing e19) rfl ?_
      cases h
      rw [k0 _ hK]
      exact g_vret rfl
theorem SF9_split_12 {xs : Nat → Int32} {L : Nat} (x0 : Nat) (x1 : Int32) (hp : m_H) {r : m_O × m_H} {K : m_H → Prop} (k0 : ∀ x, K x → r = (.inl none, x)) {t : m_H} (h : F9_split_12 x0 x1 hp = some t) (hK : K t) : m_Rn xs L 10 1803 12 [(0, .ref x0), (1, .int x1)] [] hp r :=
  m_wh_ok (P := fun s => m_Rn xs L 10 1803 12 [(0, .ref x0), (1, .int s.1)] [] s.2 r) (Q := K) (fun s t hb hK => SF9_split_12b x0 s (K := m_KK (fun s => m_Rn xs L 10 1803 12 [(0, .ref x0), (1, .int s.1)] [] s.2 r) K) k0 (fun _ q => q) hb hK) m_N _ _ h hK
theorem SF9_split_0 {xs : Nat → Int32} {L : Nat} (x0 : Nat) (hp : m_H) {r : m_O × m_H} {K : m_H → Prop} (k0 : ∀ x, K x → r = (.inl none, x)) {t : m_H} (h : F9_split_0 x0 hp = some t) (hK : K t) : m_Rn xs L 10 1803 0 [(0, .ref x0)] [] hp r := by
  unfold F9_split_0 at h
  refine g_in eF9_split_0 mx1803 ?_
  refine g_ch [(0, .ref x0)] [.int 0, .ref x0] (pc' := 2) rfl rfl rfl ?_
  obtain ⟨h1, e2, h⟩ := m_bd h
  refine g_pf q9_f32 e2 ?_
  refine g_ch [(0, .ref x0)] [.int 0, .ref x0] (pc' := 7) rfl rfl rfl ?_
  obtain ⟨h3, e4, h⟩ := m_bd h
  refine g_pf q9_f35 e4 ?_
  refine g_ch [(1, .int 0), (0, .ref x0)] [] (pc' := 12) rfl rfl rfl ?_
  refine g_end ?_
  exact r_lv (SF9_split_12 x0 0 h3 (K := K) k0 h hK) rfl ⟨rfl, rfl, trivial⟩
theorem OF9_split {x0 : Nat} {hp : m_H} {x : m_H} (h : F9_split x0 hp = some x) : m_isO hp 7 x0 = true := (m_gdd h).1
theorem SF9_split {xs : Nat → Int32} {L : Nat} {x0 : Nat} {hp : m_H} {x : m_H} (h : F9_split x0 hp = some x) : m_Rn xs L 10 1803 0 (lv_args 0 [.ref x0]) [] hp (.inl none, x) :=
  r_lv (SF9_split_0 x0 hp (K := fun y => y = x) (fun y e => by rw [e]) (m_gdd h).2 rfl) rfl ⟨rfl, trivial⟩
-- F7_read: LendHouse$Reader.read()V
theorem eF7_read_0 : m_Fe mi7_1 0 (m_ap [(.aload_n 0, 1), (.iconst 0, 1)] ((.putfield 34, 3) :: (m_ap [(.aload_n 0, 1), (.iconst 0, 1)] ((.putfield 37, 3) :: (m_ap [(.aload_n 0, 1), (.iconst (-1), 1)] ((.putfield 30, 3) :: (m_ap [(.aload_n 0, 1)] ((.getfield 9, 3) :: ((.invokevirtual 40, 3) :: (m_ap [(.aload_n 0, 1), (.iconst 0, 1)] ((.invokevirtual 43, 3) :: (m_ap [(.iconst 0, 1), (.istore_n 1, 1)] ([]))))))))))))) := m_Fe_of nd1401 0 17 rfl
theorem eF7_read_29 : m_Fe mi7_1 29 (m_ap [(.iload_n 1, 1), (.bipush 12, 2)] ([(.if_icmp .ge 78, 3)])) := m_Fe_of nd1401 17 3 rfl
theorem eF7_read_110 : m_Fe mi7_1 110 ([(.return_, 1)]) := m_Fe_of nd1401 57 1 rfl
theorem eF7_read_35 : m_Fe mi7_1 35 (m_ap [(.aload_n 0, 1)] ((.getfield 47, 3) :: ([(.ifCond .eq 71, 3)]))) := m_Fe_of nd1401 20 3 rfl
theorem eF7_read_42 : m_Fe mi7_1 42 (m_ap [(.aload_n 0, 1)] ((.invokevirtual 50, 3) :: (m_ap [(.aload_n 0, 1)] ((.getfield 30, 3) :: (m_ap [(.iconst (-1), 1)] ([(.if_icmp .ne 10, 3)])))))) := m_Fe_of nd1401 23 6 rfl
theorem eF7_read_61 : m_Fe mi7_1 61 ([(.return_, 1)]) := m_Fe_of nd1401 32 1 rfl
theorem eF7_read_54 : m_Fe mi7_1 54 (m_ap [(.aload_n 0, 1)] ((.getfield 47, 3) :: ([(.ifCond .ne 4, 3)]))) := m_Fe_of nd1401 29 3 rfl
theorem eF7_read_62 : m_Fe mi7_1 62 (m_ap [(.aload_n 0, 1)] ((.getfield 47, 3) :: (m_ap [(.bipush 59, 2)] ([(.if_icmp .eq 8, 3)])))) := m_Fe_of nd1401 33 4 rfl
theorem eF7_read_76 : m_Fe mi7_1 76 (m_ap [(.aload_n 0, 1), (.aload_n 0, 1)] ((.getfield 56, 3) :: (m_ap [(.iconst 1, 1), (.iadd, 1)] ((.invokevirtual 43, 3) :: (m_ap [(.aload_n 0, 1)] ((.getfield 47, 3) :: ([(.ifCond .eq 9, 3)]))))))) := m_Fe_of nd1401 40 9 rfl
theorem eF7_read_99 : m_Fe mi7_1 99 (m_ap [(.aload_n 0, 1)] ((.invokevirtual 53, 3) :: ([(.return_, 1)]))) := m_Fe_of nd1401 52 3 rfl
theorem eF7_read_93 : m_Fe mi7_1 93 (m_ap [(.iload_n 1, 1), (.bipush 11, 2)] ([(.if_icmp .ne 8, 3)])) := m_Fe_of nd1401 49 3 rfl
theorem eF7_read_104 : m_Fe mi7_1 104 (m_ap [(.iinc 1 1, 3)] ([(.goto (-78), 3)])) := m_Fe_of nd1401 55 2 rfl
theorem eF7_read_71 : m_Fe mi7_1 71 (m_ap [(.aload_n 0, 1)] ((.invokevirtual 53, 3) :: ([(.return_, 1)]))) := m_Fe_of nd1401 37 3 rfl
theorem SF7_read_29b {xs : Nat → Int32} {L : Nat} (x0 : Nat) (s : Int32 × m_H) {r : m_O × m_H} {K : ((Int32 × m_H) ⊕ m_H) → Prop} (k0 : ∀ x, K (.inr x) → r = (.inl none, x)) (k1 : ∀ s, K (.inl s) → m_Rn xs L 402 1401 29 [(0, .ref x0), (1, .int s.1)] [] s.2 r) {t : (Int32 × m_H) ⊕ m_H} (h : F7_read_29b x0 s = some t) (hK : K t) : m_Rn xs L 402 1401 29 [(0, .ref x0), (1, .int s.1)] [] s.2 r := by
  unfold F7_read_29b at h
  refine g_in eF7_read_29 mx1401 ?_
  refine g_ch [(0, .ref x0), (1, .int s.1)] [.int 12, .int s.1] (pc' := 32) rfl rfl rfl ?_
  rcases m_ifd h with ⟨c1, h⟩ | ⟨c1, h⟩
  · refine g_if (t := 110) rfl (m_geT c1) ?_
    refine g_in eF7_read_110 mx1401 ?_
    cases h
    rw [k0 _ hK]
    exact g_vret rfl
  · refine g_ifn (t := 110) rfl (m_geF c1) ?_
    refine g_in eF7_read_35 mx1401 ?_
    refine g_ch [(0, .ref x0), (1, .int s.1)] [.ref x0] (pc' := 36) rfl rfl rfl ?_
    obtain ⟨v2, e3, h⟩ := m_bd h
    refine g_gi q7_f47 e3 ?_
    rcases m_ifd h with ⟨c4, h⟩ | ⟨c4, h⟩
    · refine g_ifc (t := 110) rfl (m_eqT c4) ?_
      refine g_in eF7_read_110 mx1401 ?_
      cases h
      rw [k0 _ hK]
      exact g_vret rfl
    · refine g_ifcn (t := 110) rfl (m_eqF c4) ?_
      refine g_in eF7_read_42 mx1401 ?_
      refine g_ch [(0, .ref x0), (1, .int s.1)] [.ref x0] (pc' := 43) rfl rfl rfl ?_
      obtain ⟨h6, e5, h⟩ := m_bd h
      refine g_call (v := none) (h := h6) (st' := []) (D1 := 401) (as := [.ref x0]) (Or.inr (Or.inl rfl)) q7_m50 (m_cv (as := []) (rest := []) (Or.inl rfl) q7_m50 jv1402 (OF7_readLine e5) rfl rfl rfl rfl) (by decide) (SF7_readLine e5) rfl ?_
      refine g_ch [(0, .ref x0), (1, .int s.1)] [.ref x0] (pc' := 47) rfl rfl rfl ?_
      obtain ⟨v7, e8, h⟩ := m_bd h
      refine g_gi q7_f30 e8 ?_
      refine g_ch [(0, .ref x0), (1, .int s.1)] [.int (-1), .int v7] (pc' := 51) rfl rfl rfl ?_
      rcases m_ifd h with ⟨c9, h⟩ | ⟨c9, h⟩
      · refine g_ifn (t := 61) rfl (m_neF c9) ?_
        refine g_in eF7_read_54 mx1401 ?_
        refine g_ch [(0, .ref x0), (1, .int s.1)] [.ref x0] (pc' := 55) rfl rfl rfl ?_
        obtain ⟨v10, e11, h⟩ := m_bd h
        refine g_gi q7_f47 e11 ?_
        rcases m_ifd h with ⟨c12, h⟩ | ⟨c12, h⟩
        · refine g_ifcn (t := 62) rfl (m_neF c12) ?_
          refine g_in eF7_read_61 mx1401 ?_
          cases h
          rw [k0 _ hK]
          exact g_vret rfl
        · refine g_ifc (t := 62) rfl (m_neT c12) ?_
          refine g_in eF7_read_62 mx1401 ?_
          refine g_ch [(0, .ref x0), (1, .int s.1)] [.ref x0] (pc' := 63) rfl rfl rfl ?_
          obtain ⟨v13, e14, h⟩ := m_bd h
          refine g_gi q7_f47 e14 ?_
          refine g_ch [(0, .ref x0), (1, .int s.1)] [.int 59, .int v13] (pc' := 68) rfl rfl rfl ?_
          rcases m_ifd h with ⟨c15, h⟩ | ⟨c15, h⟩
          · refine g_if (t := 76) rfl (m_eqT c15) ?_
            refine g_in eF7_read_76 mx1401 ?_
            refine g_ch [(0, .ref x0), (1, .int s.1)] [.ref x0, .ref x0] (pc' := 78) rfl rfl rfl ?_
            obtain ⟨v16, e17, h⟩ := m_bd h
            refine g_gi q7_f56 e17 ?_
            refine g_ch [(0, .ref x0), (1, .int s.1)] [.int (v16 + 1), .ref x0] (pc' := 83) rfl rfl rfl ?_
            obtain ⟨h19, e18, h⟩ := m_bd h
            refine g_call (v := none) (h := h19) (st' := []) (D1 := 0) (as := [.ref x0, .int (v16 + 1)]) (Or.inr (Or.inl rfl)) q7_m43 (m_cv (as := [.int (v16 + 1)]) (rest := []) (Or.inl rfl) q7_m43 jv1409 (OF7_lookAt e18) rfl rfl rfl rfl) (by decide) (SF7_lookAt e18) rfl ?_
            refine g_ch [(0, .ref x0), (1, .int s.1)] [.ref x0] (pc' := 87) rfl rfl rfl ?_
            obtain ⟨v20, e21, h⟩ := m_bd h
            refine g_gi q7_f47 e21 ?_
            rcases m_ifd h with ⟨c22, h⟩ | ⟨c22, h⟩
            · refine g_ifc (t := 99) rfl (m_eqT c22) ?_
              refine g_in eF7_read_99 mx1401 ?_
              refine g_ch [(0, .ref x0), (1, .int s.1)] [.ref x0] (pc' := 100) rfl rfl rfl ?_
              obtain ⟨h24, e23, h⟩ := m_bd h
              refine g_call (v := none) (h := h24) (st' := []) (D1 := 0) (as := [.ref x0]) (Or.inr (Or.inl rfl)) q7_m53 (m_cv (as := []) (rest := []) (Or.inl rfl) q7_m53 jv1408 (OF7_refuse e23) rfl rfl rfl rfl) (by decide) (SF7_refuse e23) rfl ?_
              cases h
              rw [k0 _ hK]
              exact g_vret rfl
            · refine g_ifcn (t := 99) rfl (m_eqF c22) ?_
              refine g_in eF7_read_93 mx1401 ?_
              refine g_ch [(0, .ref x0), (1, .int s.1)] [.int 11, .int s.1] (pc' := 96) rfl rfl rfl ?_
              rcases m_ifd h with ⟨c25, h⟩ | ⟨c25, h⟩
              · refine g_ifn (t := 104) rfl (m_neF c25) ?_
                refine g_in eF7_read_99 mx1401 ?_
                refine g_ch [(0, .ref x0), (1, .int s.1)] [.ref x0] (pc' := 100) rfl rfl rfl ?_
                obtain ⟨h27, e26, h⟩ := m_bd h
                refine g_call (v := none) (h := h27) (st' := []) (D1 := 0) (as := [.ref x0]) (Or.inr (Or.inl rfl)) q7_m53 (m_cv (as := []) (rest := []) (Or.inl rfl) q7_m53 jv1408 (OF7_refuse e26) rfl rfl rfl rfl) (by decide) (SF7_refuse e26) rfl ?_
                cases h
                rw [k0 _ hK]
                exact g_vret rfl
              · refine g_if (t := 104) rfl (m_neT c25) ?_
                refine g_in eF7_read_104 mx1401 ?_
                refine g_ch [(1, .int (s.1 + 1)), (0, .ref x0)] [] (pc' := 107) rfl rfl rfl ?_
                refine g_goto (t := 29) rfl ?_
                cases h
                exact r_lv (k1 ((s.1 + 1), h19) hK) rfl ⟨rfl, rfl, trivial⟩
          · refine g_ifn (t := 76) rfl (m_eqF c15) ?_
            refine g_in eF7_read_71 mx1401 ?_
            refine g_ch [(0, .ref x0), (1, .int s.1)] [.ref x0] (pc' := 72) rfl rfl rfl ?_
            obtain ⟨h29, e28, h⟩ := m_bd h
            refine g_call (v := none) (h := h29) (st' := []) (D1 := 0) (as := [.ref x0]) (Or.inr (Or.inl rfl)) q7_m53 (m_cv (as := []) (rest := []) (Or.inl rfl) q7_m53 jv1408 (OF7_refuse e28) rfl rfl rfl rfl) (by decide) (SF7_refuse e28) rfl ?_
            cases h
            rw [k0 _ hK]
            exact g_vret rfl
      · refine g_if (t := 61) rfl (m_neT c9) ?_
        refine g_in eF7_read_61 mx1401 ?_
        cases h
        rw [k0 _ hK]
        exact g_vret rfl
theorem SF7_read_29 {xs : Nat → Int32} {L : Nat} (x0 : Nat) (x1 : Int32) (hp : m_H) {r : m_O × m_H} {K : m_H → Prop} (k0 : ∀ x, K x → r = (.inl none, x)) {t : m_H} (h : F7_read_29 x0 x1 hp = some t) (hK : K t) : m_Rn xs L 402 1401 29 [(0, .ref x0), (1, .int x1)] [] hp r :=
  m_wh_ok (P := fun s => m_Rn xs L 402 1401 29 [(0, .ref x0), (1, .int s.1)] [] s.2 r) (Q := K) (fun s t hb hK => SF7_read_29b x0 s (K := m_KK (fun s => m_Rn xs L 402 1401 29 [(0, .ref x0), (1, .int s.1)] [] s.2 r) K) k0 (fun _ q => q) hb hK) m_N _ _ h hK
theorem SF7_read_0 {xs : Nat → Int32} {L : Nat} (x0 : Nat) (hp : m_H) {r : m_O × m_H} {K : m_H → Prop} (k0 : ∀ x, K x → r = (.inl none, x)) {t : m_H} (h : F7_read_0 x0 hp = some t) (hK : K t) : m_Rn xs L 402 1401 0 [(0, .ref x0)] [] hp r := by
  unfold F7_read_0 at h
  refine g_in eF7_read_0 mx1401 ?_
  refine g_ch [(0, .ref x0)] [.int 0, .ref x0] (pc' := 2) rfl rfl rfl ?_
  obtain ⟨h1, e2, h⟩ := m_bd h
  refine g_pf q7_f34 e2 ?_
  refine g_ch [(0, .ref x0)] [.int 0, .ref x0] (pc' := 7) rfl rfl rfl ?_
  obtain ⟨h3, e4, h⟩ := m_bd h
  refine g_pf q7_f37 e4 ?_
  refine g_ch [(0, .ref x0)] [.int (-1), .ref x0] (pc' := 12) rfl rfl rfl ?_
  obtain ⟨h5, e6, h⟩ := m_bd h
  refine g_pf q7_f30 e6 ?_
  refine g_ch [(0, .ref x0)] [.ref x0] (pc' := 16) rfl rfl rfl ?_
  obtain ⟨v7, e8, h⟩ := m_bd h
  refine g_gr q7_f9 e8 ?_
  obtain ⟨h10, e9, h⟩ := m_bd h
  refine g_call (v := none) (h := h10) (st' := []) (D1 := 10) (as := [.ref v7]) (Or.inr (Or.inl rfl)) q7_m40 (m_cv (as := []) (rest := []) (Or.inl rfl) q7_m40 jv1803 (OF9_split e9) rfl rfl rfl rfl) (by decide) (SF9_split e9) rfl ?_
  refine g_ch [(0, .ref x0)] [.int 0, .ref x0] (pc' := 24) rfl rfl rfl ?_
  obtain ⟨h12, e11, h⟩ := m_bd h
  refine g_call (v := none) (h := h12) (st' := []) (D1 := 0) (as := [.ref x0, .int 0]) (Or.inr (Or.inl rfl)) q7_m43 (m_cv (as := [.int 0]) (rest := []) (Or.inl rfl) q7_m43 jv1409 (OF7_lookAt e11) rfl rfl rfl rfl) (by decide) (SF7_lookAt e11) rfl ?_
  refine g_ch [(1, .int 0), (0, .ref x0)] [] (pc' := 29) rfl rfl rfl ?_
  refine g_end ?_
  exact r_lv (SF7_read_29 x0 0 h12 (K := K) k0 h hK) rfl ⟨rfl, rfl, trivial⟩
theorem OF7_read {x0 : Nat} {hp : m_H} {x : m_H} (h : F7_read x0 hp = some x) : m_isO hp 5 x0 = true := (m_gdd h).1
theorem SF7_read {xs : Nat → Int32} {L : Nat} {x0 : Nat} {hp : m_H} {x : m_H} (h : F7_read x0 hp = some x) : m_Rn xs L 402 1401 0 (lv_args 0 [.ref x0]) [] hp (.inl none, x) :=
  r_lv (SF7_read_0 x0 hp (K := fun y => y = x) (fun y e => by rw [e]) (m_gdd h).2 rfl) rfl ⟨rfl, trivial⟩
-- F8_rowsWith: LendHouse$Table.rowsWith(II)I
theorem eF8_rowsWith_0 : m_Fe mi8_8 0 (m_ap [(.iconst 0, 1), (.istore_n 3, 1), (.iconst 0, 1), (.istore 4, 2)] ([])) := m_Fe_of nd1608 0 4 rfl
theorem eF8_rowsWith_5 : m_Fe mi8_8 5 (m_ap [(.iload 4, 2), (.aload_n 0, 1)] ((.getfield 25, 3) :: ([(.if_icmp .ge 23, 3)]))) := m_Fe_of nd1608 4 4 rfl
theorem eF8_rowsWith_34 : m_Fe mi8_8 34 (m_ap [(.iload_n 3, 1)] ([(.ireturn, 1)])) := m_Fe_of nd1608 17 2 rfl
theorem eF8_rowsWith_14 : m_Fe mi8_8 14 (m_ap [(.aload_n 0, 1), (.iload 4, 2), (.iload_n 1, 1)] ((.invokevirtual 40, 3) :: (m_ap [(.iload_n 2, 1)] ([(.if_icmp .ne 6, 3)])))) := m_Fe_of nd1608 8 6 rfl
theorem eF8_rowsWith_28 : m_Fe mi8_8 28 (m_ap [(.iinc 4 1, 3)] ([(.goto (-26), 3)])) := m_Fe_of nd1608 15 2 rfl
theorem eF8_rowsWith_25 : m_Fe mi8_8 25 (m_ap [(.iinc 3 1, 3)] ([])) := m_Fe_of nd1608 14 1 rfl
theorem SF8_rowsWith_5b {xs : Nat → Int32} {L : Nat} (x0 : Nat) (x1 : Int32) (x2 : Int32) (hp : m_H) (s : Int32 × Int32) {r : m_O × m_H} {K : ((Int32 × Int32) ⊕ Int32) → Prop} (k0 : ∀ x, K (.inr x) → r = (.inl (some (.int x)), hp)) (k1 : ∀ s, K (.inl s) → m_Rn xs L 2 1608 5 [(0, .ref x0), (1, .int x1), (2, .int x2), (3, .int s.1), (4, .int s.2)] [] hp r) {t : (Int32 × Int32) ⊕ Int32} (h : F8_rowsWith_5b x0 x1 x2 hp s = some t) (hK : K t) : m_Rn xs L 2 1608 5 [(0, .ref x0), (1, .int x1), (2, .int x2), (3, .int s.1), (4, .int s.2)] [] hp r := by
  unfold F8_rowsWith_5b at h
  refine g_in eF8_rowsWith_5 mx1608 ?_
  refine g_ch [(0, .ref x0), (1, .int x1), (2, .int x2), (3, .int s.1), (4, .int s.2)] [.ref x0, .int s.2] (pc' := 8) rfl rfl rfl ?_
  obtain ⟨v1, e2, h⟩ := m_bd h
  refine g_gi q8_f25 e2 ?_
  rcases m_ifd h with ⟨c3, h⟩ | ⟨c3, h⟩
  · refine g_if (t := 34) rfl (m_geT c3) ?_
    refine g_in eF8_rowsWith_34 mx1608 ?_
    refine g_ch [(0, .ref x0), (1, .int x1), (2, .int x2), (3, .int s.1), (4, .int s.2)] [.int s.1] (pc' := 35) rfl rfl rfl ?_
    cases h
    rw [k0 _ hK]
    exact g_iret rfl rfl
  · refine g_ifn (t := 34) rfl (m_geF c3) ?_
    refine g_in eF8_rowsWith_14 mx1608 ?_
    refine g_ch [(0, .ref x0), (1, .int x1), (2, .int x2), (3, .int s.1), (4, .int s.2)] [.int x1, .int s.2, .ref x0] (pc' := 18) rfl rfl rfl ?_
    obtain ⟨v5, e4, h⟩ := m_bd h
    refine g_call (v := some (.int v5)) (h := hp) (st' := [.int v5]) (D1 := 1) (as := [.ref x0, .int s.2, .int x1]) (Or.inr (Or.inl rfl)) q8_m40 (m_cv (as := [.int x1, .int s.2]) (rest := []) (Or.inl rfl) q8_m40 jv1604 (OF8_get e4) rfl rfl rfl rfl) (by decide) (SF8_get e4) rfl ?_
    refine g_ch [(0, .ref x0), (1, .int x1), (2, .int x2), (3, .int s.1), (4, .int s.2)] [.int x2, .int v5] (pc' := 22) rfl rfl rfl ?_
    rcases m_ifd h with ⟨c6, h⟩ | ⟨c6, h⟩
    · refine g_ifn (t := 28) rfl (m_neF c6) ?_
      refine g_in eF8_rowsWith_25 mx1608 ?_
      refine g_ch [(3, .int (s.1 + 1)), (0, .ref x0), (1, .int x1), (2, .int x2), (4, .int s.2)] [] (pc' := 28) rfl rfl rfl ?_
      refine g_end ?_
      refine g_in eF8_rowsWith_28 mx1608 ?_
      refine g_ch [(4, .int (s.2 + 1)), (3, .int (s.1 + 1)), (0, .ref x0), (1, .int x1), (2, .int x2)] [] (pc' := 31) rfl rfl rfl ?_
      refine g_goto (t := 5) rfl ?_
      cases h
      exact r_lv (k1 ((s.1 + 1), (s.2 + 1)) hK) rfl ⟨rfl, rfl, rfl, rfl, rfl, trivial⟩
    · refine g_if (t := 28) rfl (m_neT c6) ?_
      refine g_in eF8_rowsWith_28 mx1608 ?_
      refine g_ch [(4, .int (s.2 + 1)), (0, .ref x0), (1, .int x1), (2, .int x2), (3, .int s.1)] [] (pc' := 31) rfl rfl rfl ?_
      refine g_goto (t := 5) rfl ?_
      cases h
      exact r_lv (k1 (s.1, (s.2 + 1)) hK) rfl ⟨rfl, rfl, rfl, rfl, rfl, trivial⟩
theorem SF8_rowsWith_5 {xs : Nat → Int32} {L : Nat} (x0 : Nat) (x1 : Int32) (x2 : Int32) (x3 : Int32) (x4 : Int32) (hp : m_H) {r : m_O × m_H} {K : Int32 → Prop} (k0 : ∀ x, K x → r = (.inl (some (.int x)), hp)) {t : Int32} (h : F8_rowsWith_5 x0 x1 x2 x3 x4 hp = some t) (hK : K t) : m_Rn xs L 2 1608 5 [(0, .ref x0), (1, .int x1), (2, .int x2), (3, .int x3), (4, .int x4)] [] hp r :=
  m_wh_ok (P := fun s => m_Rn xs L 2 1608 5 [(0, .ref x0), (1, .int x1), (2, .int x2), (3, .int s.1), (4, .int s.2)] [] hp r) (Q := K) (fun s t hb hK => SF8_rowsWith_5b x0 x1 x2 hp s (K := m_KK (fun s => m_Rn xs L 2 1608 5 [(0, .ref x0), (1, .int x1), (2, .int x2), (3, .int s.1), (4, .int s.2)] [] hp r) K) k0 (fun _ q => q) hb hK) m_N _ _ h hK
theorem SF8_rowsWith_0 {xs : Nat → Int32} {L : Nat} (x0 : Nat) (x1 : Int32) (x2 : Int32) (hp : m_H) {r : m_O × m_H} {K : Int32 → Prop} (k0 : ∀ x, K x → r = (.inl (some (.int x)), hp)) {t : Int32} (h : F8_rowsWith_0 x0 x1 x2 hp = some t) (hK : K t) : m_Rn xs L 2 1608 0 [(0, .ref x0), (1, .int x1), (2, .int x2)] [] hp r := by
  unfold F8_rowsWith_0 at h
  refine g_in eF8_rowsWith_0 mx1608 ?_
  refine g_ch [(4, .int 0), (3, .int 0), (0, .ref x0), (1, .int x1), (2, .int x2)] [] (pc' := 5) rfl rfl rfl ?_
  refine g_end ?_
  exact r_lv (SF8_rowsWith_5 x0 x1 x2 0 0 hp (K := K) k0 h hK) rfl ⟨rfl, rfl, rfl, rfl, rfl, trivial⟩
theorem OF8_rowsWith {x0 : Nat} {x1 : Int32} {x2 : Int32} {hp : m_H} {x : Int32} (h : F8_rowsWith x0 x1 x2 hp = some x) : m_isO hp 6 x0 = true := (m_gdd h).1
theorem SF8_rowsWith {xs : Nat → Int32} {L : Nat} {x0 : Nat} {x1 : Int32} {x2 : Int32} {hp : m_H} {x : Int32} (h : F8_rowsWith x0 x1 x2 hp = some x) : m_Rn xs L 2 1608 0 (lv_args 0 [.ref x0, .int x1, .int x2]) [] hp (.inl (some (.int x)), hp) :=
  r_lv (SF8_rowsWith_0 x0 x1 x2 hp (K := fun y => y = x) (fun y e => by rw [e]) (m_gdd h).2 rfl) rfl ⟨rfl, rfl, rfl, trivial⟩
-- F9_init: LendHouse$Tape.<init>()V
theorem eF9_init_0 : m_Fe mi9_0 0 (m_ap [(.aload_n 0, 1)] ((.invokespecial 3, 3) :: (m_ap [(.aload_n 0, 1), (.sipush 400, 3)] ((.newarray .char, 2) :: ((.putfield 11, 3) :: (m_ap [(.aload_n 0, 1), (.sipush 401, 3)] ((.newarray .int, 2) :: ((.putfield 15, 3) :: (m_ap [(.aload_n 0, 1), (.sipush 401, 3)] ((.newarray .int, 2) :: ((.putfield 19, 3) :: (m_ap [(.aload_n 0, 1), (.sipush 401, 3)] ((.newarray .int, 2) :: ((.putfield 22, 3) :: ([(.return_, 1)]))))))))))))))) := m_Fe_of nd1800 0 19 rfl
theorem SF9_init_0 {xs : Nat → Int32} {L : Nat} (x0 : Nat) (hp : m_H) {r : m_O × m_H} {K : m_H → Prop} (k0 : ∀ x, K x → r = (.inl none, x)) {t : m_H} (h : F9_init_0 x0 hp = some t) (hK : K t) : m_Rn xs L 7 1800 0 [(0, .ref x0)] [] hp r := by
  unfold F9_init_0 at h
  refine g_in eF9_init_0 mx1800 ?_
  refine g_ch [(0, .ref x0)] [.ref x0] (pc' := 1) rfl rfl rfl ?_
  refine g_nat (Or.inr (Or.inr rfl)) q9_m3 rfl (z := ([], hp)) rfl (by decide) ?_
  refine g_ch [(0, .ref x0)] [.int 400, .ref x0] (pc' := 8) rfl rfl rfl ?_
  obtain ⟨h1, e2, h⟩ := m_bd h
  refine g_na rfl e2 ?_
  obtain ⟨h3, e4, h⟩ := m_bd h
  refine g_pf q9_f11 e4 ?_
  refine g_ch [(0, .ref x0)] [.int 401, .ref x0] (pc' := 17) rfl rfl rfl ?_
  obtain ⟨h5, e6, h⟩ := m_bd h
  refine g_na rfl e6 ?_
  obtain ⟨h7, e8, h⟩ := m_bd h
  refine g_pf q9_f15 e8 ?_
  refine g_ch [(0, .ref x0)] [.int 401, .ref x0] (pc' := 26) rfl rfl rfl ?_
  obtain ⟨h9, e10, h⟩ := m_bd h
  refine g_na rfl e10 ?_
  obtain ⟨h11, e12, h⟩ := m_bd h
  refine g_pf q9_f19 e12 ?_
  refine g_ch [(0, .ref x0)] [.int 401, .ref x0] (pc' := 35) rfl rfl rfl ?_
  obtain ⟨h13, e14, h⟩ := m_bd h
  refine g_na rfl e14 ?_
  obtain ⟨h15, e16, h⟩ := m_bd h
  refine g_pf q9_f22 e16 ?_
  cases h
  rw [k0 _ hK]
  exact g_vret rfl
theorem OF9_init {x0 : Nat} {hp : m_H} {x : m_H} (h : F9_init x0 hp = some x) : m_isO hp 7 x0 = true := (m_gdd h).1
theorem SF9_init {xs : Nat → Int32} {L : Nat} {x0 : Nat} {hp : m_H} {x : m_H} (h : F9_init x0 hp = some x) : m_Rn xs L 7 1800 0 (lv_args 0 [.ref x0]) [] hp (.inl none, x) :=
  r_lv (SF9_init_0 x0 hp (K := fun y => y = x) (fun y e => by rw [e]) (m_gdd h).2 rfl) rfl ⟨rfl, trivial⟩
-- F9_put: LendHouse$Tape.put(I)V
theorem eF9_put_0 : m_Fe mi9_1 0 (m_ap [(.bipush 24, 2), (.istore_n 2, 1)] ([])) := m_Fe_of nd1801 0 2 rfl
theorem eF9_put_3 : m_Fe mi9_1 3 (m_ap [(.iload_n 2, 1)] ([(.ifCond .lt 55, 3)])) := m_Fe_of nd1801 2 2 rfl
theorem eF9_put_59 : m_Fe mi9_1 59 ([(.return_, 1)]) := m_Fe_of nd1801 32 1 rfl
theorem eF9_put_7 : m_Fe mi9_1 7 (m_ap [(.aload_n 0, 1)] ((.getfield 25, 3) :: ([(.ifCond .lt 42, 3)]))) := m_Fe_of nd1801 4 3 rfl
theorem eF9_put_53 : m_Fe mi9_1 53 (m_ap [(.iinc 2 (-8), 3)] ([(.goto (-53), 3)])) := m_Fe_of nd1801 30 2 rfl
theorem eF9_put_14 : m_Fe mi9_1 14 (m_ap [(.aload_n 0, 1)] ((.getfield 25, 3) :: (m_ap [(.aload_n 0, 1)] ((.getfield 11, 3) :: ((.arraylength, 1) :: ([(.if_icmp .ge 30, 3)])))))) := m_Fe_of nd1801 7 6 rfl
theorem eF9_put_26 : m_Fe mi9_1 26 (m_ap [(.aload_n 0, 1)] ((.getfield 11, 3) :: (m_ap [(.aload_n 0, 1)] ((.getfield 25, 3) :: (m_ap [(.iload_n 1, 1), (.iload_n 2, 1), (.iushr, 1), (.sipush 255, 3), (.iand, 1), (.i2c, 1)] ((.castore, 1) :: (m_ap [(.aload_n 0, 1), (.dup, 1)] ((.getfield 25, 3) :: (m_ap [(.iconst 1, 1), (.iadd, 1)] ([(.putfield 25, 3)])))))))))) := m_Fe_of nd1801 13 17 rfl
theorem SF9_put_3b {xs : Nat → Int32} {L : Nat} (x0 : Nat) (x1 : Int32) (s : Int32 × m_H) {r : m_O × m_H} {K : ((Int32 × m_H) ⊕ m_H) → Prop} (k0 : ∀ x, K (.inr x) → r = (.inl none, x)) (k1 : ∀ s, K (.inl s) → m_Rn xs L 0 1801 3 [(0, .ref x0), (1, .int x1), (2, .int s.1)] [] s.2 r) {t : (Int32 × m_H) ⊕ m_H} (h : F9_put_3b x0 x1 s = some t) (hK : K t) : m_Rn xs L 0 1801 3 [(0, .ref x0), (1, .int x1), (2, .int s.1)] [] s.2 r := by
  unfold F9_put_3b at h
  refine g_in eF9_put_3 mx1801 ?_
  refine g_ch [(0, .ref x0), (1, .int x1), (2, .int s.1)] [.int s.1] (pc' := 4) rfl rfl rfl ?_
  rcases m_ifd h with ⟨c1, h⟩ | ⟨c1, h⟩
  · refine g_ifc (t := 59) rfl (m_ltT c1) ?_
    refine g_in eF9_put_59 mx1801 ?_
    cases h
    rw [k0 _ hK]
    exact g_vret rfl
  · refine g_ifcn (t := 59) rfl (m_ltF c1) ?_
    refine g_in eF9_put_7 mx1801 ?_
    refine g_ch [(0, .ref x0), (1, .int x1), (2, .int s.1)] [.ref x0] (pc' := 8) rfl rfl rfl ?_
    obtain ⟨v2, e3, h⟩ := m_bd h
    refine g_gi q9_f25 e3 ?_
    rcases m_ifd h with ⟨c4, h⟩ | ⟨c4, h⟩
    · refine g_ifc (t := 53) rfl (m_ltT c4) ?_
      refine g_in eF9_put_53 mx1801 ?_
      refine g_ch [(2, .int (s.1 + (-8))), (0, .ref x0), (1, .int x1)] [] (pc' := 56) rfl rfl rfl ?_
      refine g_goto (t := 3) rfl ?_
      cases h
      have kk := k1 ((s.1 + (-8)), s.2) hK
      exact r_lv kk rfl ⟨rfl, rfl, rfl, trivial⟩
    · refine g_ifcn (t := 53) rfl (m_ltF c4) ?_
      refine g_in eF9_put_14 mx1801 ?_
      refine g_ch [(0, .ref x0), (1, .int x1), (2, .int s.1)] [.ref x0] (pc' := 15) rfl rfl rfl ?_
      obtain ⟨v5, e6, h⟩ := m_bd h
      refine g_gi q9_f25 e6 ?_
      refine g_ch [(0, .ref x0), (1, .int x1), (2, .int s.1)] [.ref x0, .int v5] (pc' := 19) rfl rfl rfl ?_
      obtain ⟨v7, e8, h⟩ := m_bd h
      refine g_gr q9_f11 e8 ?_
      obtain ⟨v9, e10, h⟩ := m_bd h
      refine g_len e10 ?_
      rcases m_ifd h with ⟨c11, h⟩ | ⟨c11, h⟩
      · refine g_if (t := 53) rfl (m_geT c11) ?_
        refine g_in eF9_put_53 mx1801 ?_
        refine g_ch [(2, .int (s.1 + (-8))), (0, .ref x0), (1, .int x1)] [] (pc' := 56) rfl rfl rfl ?_
        refine g_goto (t := 3) rfl ?_
        cases h
        have kk := k1 ((s.1 + (-8)), s.2) hK
        exact r_lv kk rfl ⟨rfl, rfl, rfl, trivial⟩
      · refine g_ifn (t := 53) rfl (m_geF c11) ?_
        refine g_in eF9_put_26 mx1801 ?_
        refine g_ch [(0, .ref x0), (1, .int x1), (2, .int s.1)] [.ref x0] (pc' := 27) rfl rfl rfl ?_
        obtain ⟨v12, e13, h⟩ := m_bd h
        refine g_gr q9_f11 e13 ?_
        refine g_ch [(0, .ref x0), (1, .int x1), (2, .int s.1)] [.ref x0, .ref v12] (pc' := 31) rfl rfl rfl ?_
        obtain ⟨v14, e15, h⟩ := m_bd h
        refine g_gi q9_f25 e15 ?_
        refine g_ch [(0, .ref x0), (1, .int x1), (2, .int s.1)] [.int (m_i2c ((m_ushr x1 s.1) &&& 255)), .int v14, .ref v12] (pc' := 42) rfl rfl rfl ?_
        obtain ⟨h16, e17, h⟩ := m_bd h
        refine g_cs e17 ?_
        refine g_ch [(0, .ref x0), (1, .int x1), (2, .int s.1)] [.ref x0, .ref x0] (pc' := 45) rfl rfl rfl ?_
        obtain ⟨v18, e19, h⟩ := m_bd h
        refine g_gi q9_f25 e19 ?_
        refine g_ch [(0, .ref x0), (1, .int x1), (2, .int s.1)] [.int (v18 + 1), .ref x0] (pc' := 50) rfl rfl rfl ?_
        obtain ⟨h20, e21, h⟩ := m_bd h
        refine g_pf q9_f25 e21 ?_
        refine g_end ?_
        refine g_in eF9_put_53 mx1801 ?_
        refine g_ch [(2, .int (s.1 + (-8))), (0, .ref x0), (1, .int x1)] [] (pc' := 56) rfl rfl rfl ?_
        refine g_goto (t := 3) rfl ?_
        cases h
        exact r_lv (k1 _ hK) rfl ⟨rfl, rfl, rfl, trivial⟩
theorem SF9_put_3 {xs : Nat → Int32} {L : Nat} (x0 : Nat) (x1 : Int32) (x2 : Int32) (hp : m_H) {r : m_O × m_H} {K : m_H → Prop} (k0 : ∀ x, K x → r = (.inl none, x)) {t : m_H} (h : F9_put_3 x0 x1 x2 hp = some t) (hK : K t) : m_Rn xs L 0 1801 3 [(0, .ref x0), (1, .int x1), (2, .int x2)] [] hp r :=
  m_wh_ok (P := fun s => m_Rn xs L 0 1801 3 [(0, .ref x0), (1, .int x1), (2, .int s.1)] [] s.2 r) (Q := K) (fun s t hb hK => SF9_put_3b x0 x1 s (K := m_KK (fun s => m_Rn xs L 0 1801 3 [(0, .ref x0), (1, .int x1), (2, .int s.1)] [] s.2 r) K) k0 (fun _ q => q) hb hK) m_N _ _ h hK
theorem SF9_put_0 {xs : Nat → Int32} {L : Nat} (x0 : Nat) (x1 : Int32) (hp : m_H) {r : m_O × m_H} {K : m_H → Prop} (k0 : ∀ x, K x → r = (.inl none, x)) {t : m_H} (h : F9_put_0 x0 x1 hp = some t) (hK : K t) : m_Rn xs L 0 1801 0 [(0, .ref x0), (1, .int x1)] [] hp r := by
  unfold F9_put_0 at h
  refine g_in eF9_put_0 mx1801 ?_
  refine g_ch [(2, .int 24), (0, .ref x0), (1, .int x1)] [] (pc' := 3) rfl rfl rfl ?_
  refine g_end ?_
  exact r_lv (SF9_put_3 x0 x1 24 hp (K := K) k0 h hK) rfl ⟨rfl, rfl, rfl, trivial⟩
theorem OF9_put {x0 : Nat} {x1 : Int32} {hp : m_H} {x : m_H} (h : F9_put x0 x1 hp = some x) : m_isO hp 7 x0 = true := (m_gdd h).1
theorem SF9_put {xs : Nat → Int32} {L : Nat} {x0 : Nat} {x1 : Int32} {hp : m_H} {x : m_H} (h : F9_put x0 x1 hp = some x) : m_Rn xs L 0 1801 0 (lv_args 0 [.ref x0, .int x1]) [] hp (.inl none, x) :=
  r_lv (SF9_put_0 x0 x1 hp (K := fun y => y = x) (fun y e => by rw [e]) (m_gdd h).2 rfl) rfl ⟨rfl, rfl, trivial⟩
-- F9_useUp: LendHouse$Tape.useUp()V
theorem eF9_useUp_0 : m_Fe mi9_2 0 (m_ap [(.aload_n 0, 1), (.aload_n 0, 1)] ((.getfield 25, 3) :: ((.putfield 29, 3) :: (m_ap [(.aload_n 0, 1), (.iconst 0, 1)] ((.putfield 25, 3) :: ([(.return_, 1)])))))) := m_Fe_of nd1802 0 8 rfl
theorem SF9_useUp_0 {xs : Nat → Int32} {L : Nat} (x0 : Nat) (hp : m_H) {r : m_O × m_H} {K : m_H → Prop} (k0 : ∀ x, K x → r = (.inl none, x)) {t : m_H} (h : F9_useUp_0 x0 hp = some t) (hK : K t) : m_Rn xs L 0 1802 0 [(0, .ref x0)] [] hp r := by
  unfold F9_useUp_0 at h
  refine g_in eF9_useUp_0 mx1802 ?_
  refine g_ch [(0, .ref x0)] [.ref x0, .ref x0] (pc' := 2) rfl rfl rfl ?_
  obtain ⟨v1, e2, h⟩ := m_bd h
  refine g_gi q9_f25 e2 ?_
  obtain ⟨h3, e4, h⟩ := m_bd h
  refine g_pf q9_f29 e4 ?_
  refine g_ch [(0, .ref x0)] [.int 0, .ref x0] (pc' := 10) rfl rfl rfl ?_
  obtain ⟨h5, e6, h⟩ := m_bd h
  refine g_pf q9_f25 e6 ?_
  cases h
  rw [k0 _ hK]
  exact g_vret rfl
theorem OF9_useUp {x0 : Nat} {hp : m_H} {x : m_H} (h : F9_useUp x0 hp = some x) : m_isO hp 7 x0 = true := (m_gdd h).1
theorem SF9_useUp {xs : Nat → Int32} {L : Nat} {x0 : Nat} {hp : m_H} {x : m_H} (h : F9_useUp x0 hp = some x) : m_Rn xs L 0 1802 0 (lv_args 0 [.ref x0]) [] hp (.inl none, x) :=
  r_lv (SF9_useUp_0 x0 hp (K := fun y => y = x) (fun y e => by rw [e]) (m_gdd h).2 rfl) rfl ⟨rfl, trivial⟩
-- F10_beginOrders: LendHouse$Turn.beginOrders(LLendHouse$House;)V
theorem eF10_beginOrders_0 : m_Fe mi10_1 0 (m_ap [(.iconst 0, 1), (.istore_n 1, 1)] ([])) := m_Fe_of nd2001 0 2 rfl
theorem eF10_beginOrders_2 : m_Fe mi10_1 2 (m_ap [(.iload_n 1, 1), (.aload_n 0, 1)] ((.getfield 58, 3) :: ((.getfield 32, 3) :: ([(.if_icmp .ge 55, 3)])))) := m_Fe_of nd2001 2 5 rfl
theorem eF10_beginOrders_65 : m_Fe mi10_1 65 ([(.return_, 1)]) := m_Fe_of nd2001 35 1 rfl
theorem eF10_beginOrders_13 : m_Fe mi10_1 13 (m_ap [(.aload_n 0, 1), (.iload_n 1, 1)] ((.invokevirtual 61, 3) :: ([(.ifCond .eq 41, 3)]))) := m_Fe_of nd2001 7 4 rfl
theorem eF10_beginOrders_59 : m_Fe mi10_1 59 (m_ap [(.iinc 1 1, 3)] ([(.goto (-60), 3)])) := m_Fe_of nd2001 33 2 rfl
theorem eF10_beginOrders_21 : m_Fe mi10_1 21 (m_ap [(.aload_n 0, 1), (.iload_n 1, 1), (.iconst 1, 1)] ((.invokevirtual 65, 3) :: (m_ap [(.aload_n 0, 1)] ((.getfield 68, 3) :: ([(.if_icmp .gt 28, 3)]))))) := m_Fe_of nd2001 11 7 rfl
theorem eF10_beginOrders_34 : m_Fe mi10_1 34 (m_ap [(.aload_n 0, 1), (.dup, 1)] ((.getfield 68, 3) :: (m_ap [(.aload_n 0, 1), (.iload_n 1, 1), (.iconst 1, 1)] ((.invokevirtual 65, 3) :: (m_ap [(.isub, 1)] ((.putfield 68, 3) :: (m_ap [(.aload_n 0, 1)] ((.getfield 58, 3) :: (m_ap [(.iload_n 1, 1), (.iconst 5, 1), (.iconst 1, 1)] ([(.invokevirtual 71, 3)])))))))))) := m_Fe_of nd2001 18 15 rfl
theorem SF10_beginOrders_2b {xs : Nat → Int32} {L : Nat} (x0 : Nat) (s : Int32 × m_H) {r : m_O × m_H} {K : ((Int32 × m_H) ⊕ m_H) → Prop} (k0 : ∀ x, K (.inr x) → r = (.inl none, x)) (k1 : ∀ s, K (.inl s) → m_Rn xs L 4 2001 2 [(0, .ref x0), (1, .int s.1)] [] s.2 r) {t : (Int32 × m_H) ⊕ m_H} (h : F10_beginOrders_2b x0 s = some t) (hK : K t) : m_Rn xs L 4 2001 2 [(0, .ref x0), (1, .int s.1)] [] s.2 r := by
  unfold F10_beginOrders_2b at h
  refine g_in eF10_beginOrders_2 mx2001 ?_
  refine g_ch [(0, .ref x0), (1, .int s.1)] [.ref x0, .int s.1] (pc' := 4) rfl rfl rfl ?_
  obtain ⟨v1, e2, h⟩ := m_bd h
  refine g_gr q10_f58 e2 ?_
  obtain ⟨v3, e4, h⟩ := m_bd h
  refine g_gi q10_f32 e4 ?_
  rcases m_ifd h with ⟨c5, h⟩ | ⟨c5, h⟩
  · refine g_if (t := 65) rfl (m_geT c5) ?_
    refine g_in eF10_beginOrders_65 mx2001 ?_
    cases h
    rw [k0 _ hK]
    exact g_vret rfl
  · refine g_ifn (t := 65) rfl (m_geF c5) ?_
    refine g_in eF10_beginOrders_13 mx2001 ?_
    refine g_ch [(0, .ref x0), (1, .int s.1)] [.int s.1, .ref x0] (pc' := 15) rfl rfl rfl ?_
    obtain ⟨v7, e6, h⟩ := m_bd h
    refine g_call (v := some (.int v7)) (h := s.2) (st' := [.int v7]) (D1 := 3) (as := [.ref x0, .int s.1]) (Or.inr (Or.inl rfl)) q10_m61 (m_cv (as := [.int s.1]) (rest := []) (Or.inl rfl) q10_m61 jv615 (OF3_isOrderNotBegun e6) rfl rfl rfl rfl) (by decide) (SF3_isOrderNotBegun e6) rfl ?_
    rcases m_ifd h with ⟨c8, h⟩ | ⟨c8, h⟩
    · refine g_ifc (t := 59) rfl (m_eqT c8) ?_
      refine g_in eF10_beginOrders_59 mx2001 ?_
      refine g_ch [(1, .int (s.1 + 1)), (0, .ref x0)] [] (pc' := 62) rfl rfl rfl ?_
      refine g_goto (t := 2) rfl ?_
      cases h
      exact r_lv (k1 ((s.1 + 1), s.2) hK) rfl ⟨rfl, rfl, trivial⟩
    · refine g_ifcn (t := 59) rfl (m_eqF c8) ?_
      refine g_in eF10_beginOrders_21 mx2001 ?_
      refine g_ch [(0, .ref x0), (1, .int s.1)] [.int 1, .int s.1, .ref x0] (pc' := 24) rfl rfl rfl ?_
      obtain ⟨v10, e9, h⟩ := m_bd h
      refine g_call (v := some (.int v10)) (h := s.2) (st' := [.int v10]) (D1 := 2) (as := [.ref x0, .int s.1, .int 1]) (Or.inr (Or.inl rfl)) q10_m65 (m_cv (as := [.int 1, .int s.1]) (rest := []) (Or.inl rfl) q10_m65 jv619 (OF3_needOfAll e9) rfl rfl rfl rfl) (by decide) (SF3_needOfAll e9) rfl ?_
      refine g_ch [(0, .ref x0), (1, .int s.1)] [.ref x0, .int v10] (pc' := 28) rfl rfl rfl ?_
      obtain ⟨v11, e12, h⟩ := m_bd h
      refine g_gi q10_f68 e12 ?_
      rcases m_ifd h with ⟨c13, h⟩ | ⟨c13, h⟩
      · refine g_if (t := 59) rfl (m_gtT c13) ?_
        refine g_in eF10_beginOrders_59 mx2001 ?_
        refine g_ch [(1, .int (s.1 + 1)), (0, .ref x0)] [] (pc' := 62) rfl rfl rfl ?_
        refine g_goto (t := 2) rfl ?_
        cases h
        exact r_lv (k1 ((s.1 + 1), s.2) hK) rfl ⟨rfl, rfl, trivial⟩
      · refine g_ifn (t := 59) rfl (m_gtF c13) ?_
        refine g_in eF10_beginOrders_34 mx2001 ?_
        refine g_ch [(0, .ref x0), (1, .int s.1)] [.ref x0, .ref x0] (pc' := 36) rfl rfl rfl ?_
        obtain ⟨v14, e15, h⟩ := m_bd h
        refine g_gi q10_f68 e15 ?_
        refine g_ch [(0, .ref x0), (1, .int s.1)] [.int 1, .int s.1, .ref x0, .int v14, .ref x0] (pc' := 42) rfl rfl rfl ?_
        obtain ⟨v17, e16, h⟩ := m_bd h
        refine g_call (v := some (.int v17)) (h := s.2) (st' := [.int v17, .int v14, .ref x0]) (D1 := 2) (as := [.ref x0, .int s.1, .int 1]) (Or.inr (Or.inl rfl)) q10_m65 (m_cv (as := [.int 1, .int s.1]) (rest := [.int v14, .ref x0]) (Or.inl rfl) q10_m65 jv619 (OF3_needOfAll e16) rfl rfl rfl rfl) (by decide) (SF3_needOfAll e16) rfl ?_
        refine g_ch [(0, .ref x0), (1, .int s.1)] [.int (v14 - v17), .ref x0] (pc' := 46) rfl rfl rfl ?_
        obtain ⟨h18, e19, h⟩ := m_bd h
        refine g_pf q10_f68 e19 ?_
        refine g_ch [(0, .ref x0), (1, .int s.1)] [.ref x0] (pc' := 50) rfl rfl rfl ?_
        obtain ⟨v20, e21, h⟩ := m_bd h
        refine g_gr q10_f58 e21 ?_
        refine g_ch [(0, .ref x0), (1, .int s.1)] [.int 1, .int 5, .int s.1, .ref v20] (pc' := 56) rfl rfl rfl ?_
        obtain ⟨h23, e22, h⟩ := m_bd h
        refine g_call (v := none) (h := h23) (st' := []) (D1 := 1) (as := [.ref v20, .int s.1, .int 5, .int 1]) (Or.inr (Or.inl rfl)) q10_m71 (m_cv (as := [.int 1, .int 5, .int s.1]) (rest := []) (Or.inl rfl) q10_m71 jv1605 (OF8_set e22) rfl rfl rfl rfl) (by decide) (SF8_set e22) rfl ?_
        refine g_end ?_
        refine g_in eF10_beginOrders_59 mx2001 ?_
        refine g_ch [(1, .int (s.1 + 1)), (0, .ref x0)] [] (pc' := 62) rfl rfl rfl ?_
        refine g_goto (t := 2) rfl ?_
        cases h
        exact r_lv (k1 ((s.1 + 1), h23) hK) rfl ⟨rfl, rfl, trivial⟩
theorem SF10_beginOrders_2 {xs : Nat → Int32} {L : Nat} (x0 : Nat) (x1 : Int32) (hp : m_H) {r : m_O × m_H} {K : m_H → Prop} (k0 : ∀ x, K x → r = (.inl none, x)) {t : m_H} (h : F10_beginOrders_2 x0 x1 hp = some t) (hK : K t) : m_Rn xs L 4 2001 2 [(0, .ref x0), (1, .int x1)] [] hp r :=
  m_wh_ok (P := fun s => m_Rn xs L 4 2001 2 [(0, .ref x0), (1, .int s.1)] [] s.2 r) (Q := K) (fun s t hb hK => SF10_beginOrders_2b x0 s (K := m_KK (fun s => m_Rn xs L 4 2001 2 [(0, .ref x0), (1, .int s.1)] [] s.2 r) K) k0 (fun _ q => q) hb hK) m_N _ _ h hK
theorem SF10_beginOrders_0 {xs : Nat → Int32} {L : Nat} (x0 : Nat) (hp : m_H) {r : m_O × m_H} {K : m_H → Prop} (k0 : ∀ x, K x → r = (.inl none, x)) {t : m_H} (h : F10_beginOrders_0 x0 hp = some t) (hK : K t) : m_Rn xs L 4 2001 0 [(0, .ref x0)] [] hp r := by
  unfold F10_beginOrders_0 at h
  refine g_in eF10_beginOrders_0 mx2001 ?_
  refine g_ch [(1, .int 0), (0, .ref x0)] [] (pc' := 2) rfl rfl rfl ?_
  refine g_end ?_
  exact r_lv (SF10_beginOrders_2 x0 0 hp (K := K) k0 h hK) rfl ⟨rfl, rfl, trivial⟩
theorem SF10_beginOrders {xs : Nat → Int32} {L : Nat} {x0 : Nat} {hp : m_H} {x : m_H} (h : F10_beginOrders x0 hp = some x) : m_Rn xs L 4 2001 0 (lv_args 0 [.ref x0]) [] hp (.inl none, x) :=
  r_lv (SF10_beginOrders_0 x0 hp (K := fun y => y = x) (fun y e => by rw [e]) h rfl) rfl ⟨rfl, trivial⟩
-- F10_workOn: LendHouse$Turn.workOn(LLendHouse$House;I)V
theorem eF10_workOn_0 : m_Fe mi10_3 0 (m_ap [(.aload_n 0, 1)] ((.getfield 58, 3) :: (m_ap [(.iload_n 1, 1), (.iconst 4, 1), (.iconst 1, 1)] ((.invokevirtual 51, 3) :: (m_ap [(.aload_n 0, 1)] ((.getfield 58, 3) :: (m_ap [(.iload_n 1, 1), (.iconst 4, 1)] ((.invokevirtual 37, 3) :: (m_ap [(.aload_n 0, 1)] ((.getfield 83, 3) :: (m_ap [(.aload_n 0, 1)] ((.getfield 58, 3) :: (m_ap [(.iload_n 1, 1), (.iconst 0, 1)] ((.invokevirtual 37, 3) :: (m_ap [(.iconst 3, 1)] ((.invokevirtual 37, 3) :: ([(.if_icmp .lt 16, 3)]))))))))))))))))) := m_Fe_of nd2003 0 21 rfl
theorem eF10_workOn_52 : m_Fe mi10_3 52 ([(.return_, 1)]) := m_Fe_of nd2003 30 1 rfl
theorem eF10_workOn_39 : m_Fe mi10_3 39 (m_ap [(.aload_n 0, 1), (.iload_n 1, 1), (.aload_n 0, 1), (.iload_n 1, 1), (.iconst 0, 1)] ((.invokevirtual 77, 3) :: (m_ap [(.iconst 0, 1), (.iconst 1, 1)] ([(.invokevirtual 86, 3)])))) := m_Fe_of nd2003 21 9 rfl
theorem SF10_workOn_0 {xs : Nat → Int32} {L : Nat} (x0 : Nat) (x1 : Int32) (hp : m_H) {r : m_O × m_H} {K : m_H → Prop} (k0 : ∀ x, K x → r = (.inl none, x)) {t : m_H} (h : F10_workOn_0 x0 x1 hp = some t) (hK : K t) : m_Rn xs L 3 2003 0 [(0, .ref x0), (1, .int x1)] [] hp r := by
  unfold F10_workOn_0 at h
  refine g_in eF10_workOn_0 mx2003 ?_
  refine g_ch [(0, .ref x0), (1, .int x1)] [.ref x0] (pc' := 1) rfl rfl rfl ?_
  obtain ⟨v1, e2, h⟩ := m_bd h
  refine g_gr q10_f58 e2 ?_
  refine g_ch [(0, .ref x0), (1, .int x1)] [.int 1, .int 4, .int x1, .ref v1] (pc' := 7) rfl rfl rfl ?_
  obtain ⟨h4, e3, h⟩ := m_bd h
  refine g_call (v := none) (h := h4) (st' := []) (D1 := 1) (as := [.ref v1, .int x1, .int 4, .int 1]) (Or.inr (Or.inl rfl)) q10_m51 (m_cv (as := [.int 1, .int 4, .int x1]) (rest := []) (Or.inl rfl) q10_m51 jv1606 (OF8_raise e3) rfl rfl rfl rfl) (by decide) (SF8_raise e3) rfl ?_
  refine g_ch [(0, .ref x0), (1, .int x1)] [.ref x0] (pc' := 11) rfl rfl rfl ?_
  obtain ⟨v5, e6, h⟩ := m_bd h
  refine g_gr q10_f58 e6 ?_
  refine g_ch [(0, .ref x0), (1, .int x1)] [.int 4, .int x1, .ref v5] (pc' := 16) rfl rfl rfl ?_
  obtain ⟨v8, e7, h⟩ := m_bd h
  refine g_call (v := some (.int v8)) (h := h4) (st' := [.int v8]) (D1 := 1) (as := [.ref v5, .int x1, .int 4]) (Or.inr (Or.inl rfl)) q10_m37 (m_cv (as := [.int 4, .int x1]) (rest := []) (Or.inl rfl) q10_m37 jv1604 (OF8_get e7) rfl rfl rfl rfl) (by decide) (SF8_get e7) rfl ?_
  refine g_ch [(0, .ref x0), (1, .int x1)] [.ref x0, .int v8] (pc' := 20) rfl rfl rfl ?_
  obtain ⟨v9, e10, h⟩ := m_bd h
  refine g_gr q10_f83 e10 ?_
  refine g_ch [(0, .ref x0), (1, .int x1)] [.ref x0, .ref v9, .int v8] (pc' := 24) rfl rfl rfl ?_
  obtain ⟨v11, e12, h⟩ := m_bd h
  refine g_gr q10_f58 e12 ?_
  refine g_ch [(0, .ref x0), (1, .int x1)] [.int 0, .int x1, .ref v11, .ref v9, .int v8] (pc' := 29) rfl rfl rfl ?_
  obtain ⟨v14, e13, h⟩ := m_bd h
  refine g_call (v := some (.int v14)) (h := h4) (st' := [.int v14, .ref v9, .int v8]) (D1 := 1) (as := [.ref v11, .int x1, .int 0]) (Or.inr (Or.inl rfl)) q10_m37 (m_cv (as := [.int 0, .int x1]) (rest := [.ref v9, .int v8]) (Or.inl rfl) q10_m37 jv1604 (OF8_get e13) rfl rfl rfl rfl) (by decide) (SF8_get e13) rfl ?_
  refine g_ch [(0, .ref x0), (1, .int x1)] [.int 3, .int v14, .ref v9, .int v8] (pc' := 33) rfl rfl rfl ?_
  obtain ⟨v16, e15, h⟩ := m_bd h
  refine g_call (v := some (.int v16)) (h := h4) (st' := [.int v16, .int v8]) (D1 := 1) (as := [.ref v9, .int v14, .int 3]) (Or.inr (Or.inl rfl)) q10_m37 (m_cv (as := [.int 3, .int v14]) (rest := [.int v8]) (Or.inl rfl) q10_m37 jv1604 (OF8_get e15) rfl rfl rfl rfl) (by decide) (SF8_get e15) rfl ?_
  rcases m_ifd h with ⟨c17, h⟩ | ⟨c17, h⟩
  · refine g_if (t := 52) rfl (m_ltT c17) ?_
    refine g_in eF10_workOn_52 mx2003 ?_
    cases h
    rw [k0 _ hK]
    exact g_vret rfl
  · refine g_ifn (t := 52) rfl (m_ltF c17) ?_
    refine g_in eF10_workOn_39 mx2003 ?_
    refine g_ch [(0, .ref x0), (1, .int x1)] [.int 0, .int x1, .ref x0, .int x1, .ref x0] (pc' := 44) rfl rfl rfl ?_
    obtain ⟨v19, e18, h⟩ := m_bd h
    refine g_call (v := some (.int v19)) (h := h4) (st' := [.int v19, .int x1, .ref x0]) (D1 := 2) (as := [.ref x0, .int x1, .int 0]) (Or.inr (Or.inl rfl)) q10_m77 (m_cv (as := [.int 0, .int x1]) (rest := [.int x1, .ref x0]) (Or.inl rfl) q10_m77 jv616 (OF3_crates e18) rfl rfl rfl rfl) (by decide) (SF3_crates e18) rfl ?_
    refine g_ch [(0, .ref x0), (1, .int x1)] [.int 1, .int 0, .int v19, .int x1, .ref x0] (pc' := 49) rfl rfl rfl ?_
    obtain ⟨h21, e20, h⟩ := m_bd h
    refine g_call (v := none) (h := h21) (st' := []) (D1 := 2) (as := [.ref x0, .int x1, .int v19, .int 0, .int 1]) (Or.inr (Or.inl rfl)) q10_m86 (m_cv (as := [.int 1, .int 0, .int v19, .int x1]) (rest := []) (Or.inl rfl) q10_m86 jv617 (OF3_move e20) rfl rfl rfl rfl) (by decide) (SF3_move e20) rfl ?_
    refine g_end ?_
    refine g_in eF10_workOn_52 mx2003 ?_
    cases h
    rw [k0 _ hK]
    exact g_vret rfl
theorem SF10_workOn {xs : Nat → Int32} {L : Nat} {x0 : Nat} {x1 : Int32} {hp : m_H} {x : m_H} (h : F10_workOn x0 x1 hp = some x) : m_Rn xs L 3 2003 0 (lv_args 0 [.ref x0, .int x1]) [] hp (.inl none, x) :=
  r_lv (SF10_workOn_0 x0 x1 hp (K := fun y => y = x) (fun y e => by rw [e]) h rfl) rfl ⟨rfl, rfl, trivial⟩
-- F10_workOnOrders: LendHouse$Turn.workOnOrders(LLendHouse$House;)V
theorem eF10_workOnOrders_0 : m_Fe mi10_2 0 (m_ap [(.aload_n 0, 1)] ((.getfield 74, 3) :: (m_ap [(.istore_n 1, 1), (.iconst 0, 1), (.istore_n 2, 1)] ([])))) := m_Fe_of nd2002 0 5 rfl
theorem eF10_workOnOrders_7 : m_Fe mi10_2 7 (m_ap [(.iload_n 2, 1), (.aload_n 0, 1)] ((.getfield 58, 3) :: ((.getfield 32, 3) :: ([(.if_icmp .ge 65, 3)])))) := m_Fe_of nd2002 5 5 rfl
theorem eF10_workOnOrders_80 : m_Fe mi10_2 80 ([(.return_, 1)]) := m_Fe_of nd2002 46 1 rfl
theorem eF10_workOnOrders_18 : m_Fe mi10_2 18 (m_ap [(.aload_n 0, 1), (.iload_n 2, 1), (.iconst 0, 1)] ((.invokevirtual 77, 3) :: ([(.ifCond .le 20, 3)]))) := m_Fe_of nd2002 10 5 rfl
theorem eF10_workOnOrders_27 : m_Fe mi10_2 27 (m_ap [(.aload_n 0, 1)] ((.getfield 58, 3) :: (m_ap [(.iload_n 2, 1), (.iconst 5, 1)] ((.invokevirtual 37, 3) :: (m_ap [(.iconst 1, 1)] ([(.if_icmp .ne 7, 3)])))))) := m_Fe_of nd2002 15 7 rfl
theorem eF10_workOnOrders_40 : m_Fe mi10_2 40 (m_ap [(.iconst 1, 1)] ([(.goto 4, 3)])) := m_Fe_of nd2002 22 2 rfl
theorem eF10_workOnOrders_44 : m_Fe mi10_2 44 (m_ap [(.iconst 0, 1)] ([])) := m_Fe_of nd2002 24 1 rfl
theorem eF10_workOnOrders_45 : m_Fe mi10_2 45 (m_ap [(.istore_n 3, 1), (.iload_n 3, 1)] ([(.ifCond .eq 27, 3)])) := m_Fe_of nd2002 25 3 rfl
theorem eF10_workOnOrders_74 : m_Fe mi10_2 74 (m_ap [(.iinc 2 1, 3)] ([(.goto (-70), 3)])) := m_Fe_of nd2002 44 2 rfl
theorem eF10_workOnOrders_50 : m_Fe mi10_2 50 (m_ap [(.aload_n 0, 1), (.iload_n 2, 1), (.iconst 2, 1)] ((.invokevirtual 65, 3) :: (m_ap [(.iload_n 1, 1)] ([(.if_icmp .gt 17, 3)])))) := m_Fe_of nd2002 28 6 rfl
theorem eF10_workOnOrders_60 : m_Fe mi10_2 60 (m_ap [(.iload_n 1, 1), (.aload_n 0, 1), (.iload_n 2, 1), (.iconst 2, 1)] ((.invokevirtual 65, 3) :: (m_ap [(.isub, 1), (.istore_n 1, 1), (.aload_n 0, 1), (.iload_n 2, 1)] ([(.invokestatic 80, 3)])))) := m_Fe_of nd2002 34 10 rfl
theorem SF10_workOnOrders_45 {xs : Nat → Int32} {L : Nat} (x0 : Nat) (x1 : Int32) (x2 : Int32) (s0 : Int32) (hp : m_H) {r : m_O × m_H} {K : ((Int32 × Int32 × m_H) ⊕ m_H) → Prop} (k0 : ∀ x, K (.inr x) → r = (.inl none, x)) (k1 : ∀ s, K (.inl s) → m_Rn xs L 4 2002 7 [(0, .ref x0), (1, .int s.1), (2, .int s.2.1)] [] s.2.2 r) {t : (Int32 × Int32 × m_H) ⊕ m_H} (h : F10_workOnOrders_45 x0 x1 x2 s0 hp = some t) (hK : K t) : m_Rn xs L 4 2002 45 [(0, .ref x0), (1, .int x1), (2, .int x2)] [.int s0] hp r := by
  unfold F10_workOnOrders_45 at h
  refine g_in eF10_workOnOrders_45 mx2002 ?_
  refine g_ch [(3, .int s0), (0, .ref x0), (1, .int x1), (2, .int x2)] [.int s0] (pc' := 47) rfl rfl rfl ?_
  rcases m_ifd h with ⟨c1, h⟩ | ⟨c1, h⟩
  · refine g_ifc (t := 74) rfl (m_eqT c1) ?_
    refine g_in eF10_workOnOrders_74 mx2002 ?_
    refine g_ch [(2, .int (x2 + 1)), (3, .int s0), (0, .ref x0), (1, .int x1)] [] (pc' := 77) rfl rfl rfl ?_
    refine g_goto (t := 7) rfl ?_
    cases h
    exact r_lv (k1 (x1, (x2 + 1), hp) hK) rfl ⟨rfl, rfl, rfl, trivial⟩
  · refine g_ifcn (t := 74) rfl (m_eqF c1) ?_
    refine g_in eF10_workOnOrders_50 mx2002 ?_
    refine g_ch [(3, .int s0), (0, .ref x0), (1, .int x1), (2, .int x2)] [.int 2, .int x2, .ref x0] (pc' := 53) rfl rfl rfl ?_
    obtain ⟨v3, e2, h⟩ := m_bd h
    refine g_call (v := some (.int v3)) (h := hp) (st' := [.int v3]) (D1 := 2) (as := [.ref x0, .int x2, .int 2]) (Or.inr (Or.inl rfl)) q10_m65 (m_cv (as := [.int 2, .int x2]) (rest := []) (Or.inl rfl) q10_m65 jv619 (OF3_needOfAll e2) rfl rfl rfl rfl) (by decide) (SF3_needOfAll e2) rfl ?_
    refine g_ch [(3, .int s0), (0, .ref x0), (1, .int x1), (2, .int x2)] [.int x1, .int v3] (pc' := 57) rfl rfl rfl ?_
    rcases m_ifd h with ⟨c4, h⟩ | ⟨c4, h⟩
    · refine g_if (t := 74) rfl (m_gtT c4) ?_
      refine g_in eF10_workOnOrders_74 mx2002 ?_
      refine g_ch [(2, .int (x2 + 1)), (3, .int s0), (0, .ref x0), (1, .int x1)] [] (pc' := 77) rfl rfl rfl ?_
      refine g_goto (t := 7) rfl ?_
      cases h
      exact r_lv (k1 (x1, (x2 + 1), hp) hK) rfl ⟨rfl, rfl, rfl, trivial⟩
    · refine g_ifn (t := 74) rfl (m_gtF c4) ?_
      refine g_in eF10_workOnOrders_60 mx2002 ?_
      refine g_ch [(3, .int s0), (0, .ref x0), (1, .int x1), (2, .int x2)] [.int 2, .int x2, .ref x0, .int x1] (pc' := 64) rfl rfl rfl ?_
      obtain ⟨v6, e5, h⟩ := m_bd h
      refine g_call (v := some (.int v6)) (h := hp) (st' := [.int v6, .int x1]) (D1 := 2) (as := [.ref x0, .int x2, .int 2]) (Or.inr (Or.inl rfl)) q10_m65 (m_cv (as := [.int 2, .int x2]) (rest := [.int x1]) (Or.inl rfl) q10_m65 jv619 (OF3_needOfAll e5) rfl rfl rfl rfl) (by decide) (SF3_needOfAll e5) rfl ?_
      refine g_ch [(1, .int (x1 - v6)), (3, .int s0), (0, .ref x0), (2, .int x2)] [.int x2, .ref x0] (pc' := 71) rfl rfl rfl ?_
      obtain ⟨h8, e7, h⟩ := m_bd h
      refine g_call (v := none) (h := h8) (st' := []) (D1 := 3) (as := [.ref x0, .int x2]) (Or.inl rfl) q10_m80 (m_cs (as := [.int x2, .ref x0]) (rest := []) q10_m80 jv2003 rfl rfl rfl rfl rfl) (by decide) (SF10_workOn e7) rfl ?_
      refine g_end ?_
      refine g_in eF10_workOnOrders_74 mx2002 ?_
      refine g_ch [(2, .int (x2 + 1)), (1, .int (x1 - v6)), (3, .int s0), (0, .ref x0)] [] (pc' := 77) rfl rfl rfl ?_
      refine g_goto (t := 7) rfl ?_
      cases h
      exact r_lv (k1 ((x1 - v6), (x2 + 1), h8) hK) rfl ⟨rfl, rfl, rfl, trivial⟩
theorem SF10_workOnOrders_44 {xs : Nat → Int32} {L : Nat} (x0 : Nat) (x1 : Int32) (x2 : Int32) (hp : m_H) {r : m_O × m_H} {K : ((Int32 × Int32 × m_H) ⊕ m_H) → Prop} (k0 : ∀ x, K (.inr x) → r = (.inl none, x)) (k1 : ∀ s, K (.inl s) → m_Rn xs L 4 2002 7 [(0, .ref x0), (1, .int s.1), (2, .int s.2.1)] [] s.2.2 r) {t : (Int32 × Int32 × m_H) ⊕ m_H} (h : F10_workOnOrders_44 x0 x1 x2 hp = some t) (hK : K t) : m_Rn xs L 4 2002 44 [(0, .ref x0), (1, .int x1), (2, .int x2)] [] hp r := by
  unfold F10_workOnOrders_44 at h
  refine g_in eF10_workOnOrders_44 mx2002 ?_
  refine g_ch [(0, .ref x0), (1, .int x1), (2, .int x2)] [.int 0] (pc' := 45) rfl rfl rfl ?_
  refine g_end ?_
  exact r_lv (SF10_workOnOrders_45 x0 x1 x2 0 hp (K := K) k0 k1 h hK) rfl ⟨rfl, rfl, rfl, trivial⟩
theorem SF10_workOnOrders_7b {xs : Nat → Int32} {L : Nat} (x0 : Nat) (s : Int32 × Int32 × m_H) {r : m_O × m_H} {K : ((Int32 × Int32 × m_H) ⊕ m_H) → Prop} (k0 : ∀ x, K (.inr x) → r = (.inl none, x)) (k1 : ∀ s, K (.inl s) → m_Rn xs L 4 2002 7 [(0, .ref x0), (1, .int s.1), (2, .int s.2.1)] [] s.2.2 r) {t : (Int32 × Int32 × m_H) ⊕ m_H} (h : F10_workOnOrders_7b x0 s = some t) (hK : K t) : m_Rn xs L 4 2002 7 [(0, .ref x0), (1, .int s.1), (2, .int s.2.1)] [] s.2.2 r := by
  unfold F10_workOnOrders_7b at h
  refine g_in eF10_workOnOrders_7 mx2002 ?_
  refine g_ch [(0, .ref x0), (1, .int s.1), (2, .int s.2.1)] [.ref x0, .int s.2.1] (pc' := 9) rfl rfl rfl ?_
  obtain ⟨v1, e2, h⟩ := m_bd h
  refine g_gr q10_f58 e2 ?_
  obtain ⟨v3, e4, h⟩ := m_bd h
  refine g_gi q10_f32 e4 ?_
  rcases m_ifd h with ⟨c5, h⟩ | ⟨c5, h⟩
  · refine g_if (t := 80) rfl (m_geT c5) ?_
    refine g_in eF10_workOnOrders_80 mx2002 ?_
    cases h
    rw [k0 _ hK]
    exact g_vret rfl
  · refine g_ifn (t := 80) rfl (m_geF c5) ?_
    refine g_in eF10_workOnOrders_18 mx2002 ?_
    refine g_ch [(0, .ref x0), (1, .int s.1), (2, .int s.2.1)] [.int 0, .int s.2.1, .ref x0] (pc' := 21) rfl rfl rfl ?_
    obtain ⟨v7, e6, h⟩ := m_bd h
    refine g_call (v := some (.int v7)) (h := s.2.2) (st' := [.int v7]) (D1 := 2) (as := [.ref x0, .int s.2.1, .int 0]) (Or.inr (Or.inl rfl)) q10_m77 (m_cv (as := [.int 0, .int s.2.1]) (rest := []) (Or.inl rfl) q10_m77 jv616 (OF3_crates e6) rfl rfl rfl rfl) (by decide) (SF3_crates e6) rfl ?_
    rcases m_ifd h with ⟨c8, h⟩ | ⟨c8, h⟩
    · refine g_ifc (t := 44) rfl (m_leT c8) ?_
      exact r_lv (SF10_workOnOrders_44 x0 s.1 s.2.1 s.2.2 (K := K) k0 k1 h hK) rfl ⟨rfl, rfl, rfl, trivial⟩
    · refine g_ifcn (t := 44) rfl (m_leF c8) ?_
      refine g_in eF10_workOnOrders_27 mx2002 ?_
      refine g_ch [(0, .ref x0), (1, .int s.1), (2, .int s.2.1)] [.ref x0] (pc' := 28) rfl rfl rfl ?_
      obtain ⟨v9, e10, h⟩ := m_bd h
      refine g_gr q10_f58 e10 ?_
      refine g_ch [(0, .ref x0), (1, .int s.1), (2, .int s.2.1)] [.int 5, .int s.2.1, .ref v9] (pc' := 33) rfl rfl rfl ?_
      obtain ⟨v12, e11, h⟩ := m_bd h
      refine g_call (v := some (.int v12)) (h := s.2.2) (st' := [.int v12]) (D1 := 1) (as := [.ref v9, .int s.2.1, .int 5]) (Or.inr (Or.inl rfl)) q10_m37 (m_cv (as := [.int 5, .int s.2.1]) (rest := []) (Or.inl rfl) q10_m37 jv1604 (OF8_get e11) rfl rfl rfl rfl) (by decide) (SF8_get e11) rfl ?_
      refine g_ch [(0, .ref x0), (1, .int s.1), (2, .int s.2.1)] [.int 1, .int v12] (pc' := 37) rfl rfl rfl ?_
      rcases m_ifd h with ⟨c13, h⟩ | ⟨c13, h⟩
      · refine g_ifn (t := 44) rfl (m_neF c13) ?_
        refine g_in eF10_workOnOrders_40 mx2002 ?_
        refine g_ch [(0, .ref x0), (1, .int s.1), (2, .int s.2.1)] [.int 1] (pc' := 41) rfl rfl rfl ?_
        refine g_goto (t := 45) rfl ?_
        exact r_lv (SF10_workOnOrders_45 x0 s.1 s.2.1 1 s.2.2 (K := K) k0 k1 h hK) rfl ⟨rfl, rfl, rfl, trivial⟩
      · refine g_if (t := 44) rfl (m_neT c13) ?_
        exact r_lv (SF10_workOnOrders_44 x0 s.1 s.2.1 s.2.2 (K := K) k0 k1 h hK) rfl ⟨rfl, rfl, rfl, trivial⟩
theorem SF10_workOnOrders_7 {xs : Nat → Int32} {L : Nat} (x0 : Nat) (x1 : Int32) (x2 : Int32) (hp : m_H) {r : m_O × m_H} {K : m_H → Prop} (k0 : ∀ x, K x → r = (.inl none, x)) {t : m_H} (h : F10_workOnOrders_7 x0 x1 x2 hp = some t) (hK : K t) : m_Rn xs L 4 2002 7 [(0, .ref x0), (1, .int x1), (2, .int x2)] [] hp r :=
  m_wh_ok (P := fun s => m_Rn xs L 4 2002 7 [(0, .ref x0), (1, .int s.1), (2, .int s.2.1)] [] s.2.2 r) (Q := K) (fun s t hb hK => SF10_workOnOrders_7b x0 s (K := m_KK (fun s => m_Rn xs L 4 2002 7 [(0, .ref x0), (1, .int s.1), (2, .int s.2.1)] [] s.2.2 r) K) k0 (fun _ q => q) hb hK) m_N _ _ h hK
theorem SF10_workOnOrders_0 {xs : Nat → Int32} {L : Nat} (x0 : Nat) (hp : m_H) {r : m_O × m_H} {K : m_H → Prop} (k0 : ∀ x, K x → r = (.inl none, x)) {t : m_H} (h : F10_workOnOrders_0 x0 hp = some t) (hK : K t) : m_Rn xs L 4 2002 0 [(0, .ref x0)] [] hp r := by
  unfold F10_workOnOrders_0 at h
  refine g_in eF10_workOnOrders_0 mx2002 ?_
  refine g_ch [(0, .ref x0)] [.ref x0] (pc' := 1) rfl rfl rfl ?_
  obtain ⟨v1, e2, h⟩ := m_bd h
  refine g_gi q10_f74 e2 ?_
  refine g_ch [(2, .int 0), (1, .int v1), (0, .ref x0)] [] (pc' := 7) rfl rfl rfl ?_
  refine g_end ?_
  exact r_lv (SF10_workOnOrders_7 x0 v1 0 hp (K := K) k0 h hK) rfl ⟨rfl, rfl, rfl, trivial⟩
theorem SF10_workOnOrders {xs : Nat → Int32} {L : Nat} {x0 : Nat} {hp : m_H} {x : m_H} (h : F10_workOnOrders x0 hp = some x) : m_Rn xs L 4 2002 0 (lv_args 0 [.ref x0]) [] hp (.inl none, x) :=
  r_lv (SF10_workOnOrders_0 x0 hp (K := fun y => y = x) (fun y e => by rw [e]) h rfl) rfl ⟨rfl, trivial⟩
-- F10_unload: LendHouse$Turn.unload(LLendHouse$House;II)V
theorem eF10_unload_0 : m_Fe mi10_8 0 (m_ap [(.iconst 0, 1), (.istore_n 3, 1)] ([])) := m_Fe_of nd2008 0 2 rfl
theorem eF10_unload_2 : m_Fe mi10_8 2 (m_ap [(.iload_n 3, 1), (.aload_n 0, 1)] ((.getfield 28, 3) :: (m_ap [(.iload_n 1, 1), (.bipush 6, 2)] ((.invokevirtual 37, 3) :: ([(.if_icmp .ge 33, 3)]))))) := m_Fe_of nd2008 2 7 rfl
theorem eF10_unload_16 : m_Fe mi10_8 16 (m_ap [(.iload_n 3, 1), (.bipush 8, 2)] ([(.if_icmp .ge 27, 3)])) := m_Fe_of nd2008 9 3 rfl
theorem eF10_unload_22 : m_Fe mi10_8 22 (m_ap [(.aload_n 0, 1), (.aload_n 0, 1), (.iload_n 1, 1), (.iload_n 3, 1)] ((.invokevirtual 106, 3) :: (m_ap [(.aload_n 0, 1), (.iload_n 1, 1), (.iload_n 3, 1)] ((.invokevirtual 115, 3) :: (m_ap [(.iconst 2, 1), (.iload_n 2, 1)] ((.invokevirtual 86, 3) :: (m_ap [(.iinc 3 1, 3)] ([(.goto (-41), 3)])))))))) := m_Fe_of nd2008 12 14 rfl
theorem eF10_unload_46 : m_Fe mi10_8 46 (m_ap [(.aload_n 0, 1)] ((.getfield 28, 3) :: (m_ap [(.iload_n 1, 1), (.bipush 6, 2), (.iconst 0, 1)] ((.invokevirtual 71, 3) :: ([(.return_, 1)]))))) := m_Fe_of nd2008 26 7 rfl
theorem SF10_unload_46 {xs : Nat → Int32} {L : Nat} (x0 : Nat) (x1 : Int32) (hp : m_H) {r : m_O × m_H} {K : m_H → Prop} (k0 : ∀ x, K x → r = (.inl none, x)) {t : m_H} (h : F10_unload_46 x0 x1 hp = some t) (hK : K t) : m_Rn xs L 3 2008 46 [(0, .ref x0), (1, .int x1)] [] hp r := by
  unfold F10_unload_46 at h
  refine g_in eF10_unload_46 mx2008 ?_
  refine g_ch [(0, .ref x0), (1, .int x1)] [.ref x0] (pc' := 47) rfl rfl rfl ?_
  obtain ⟨v1, e2, h⟩ := m_bd h
  refine g_gr q10_f28 e2 ?_
  refine g_ch [(0, .ref x0), (1, .int x1)] [.int 0, .int 6, .int x1, .ref v1] (pc' := 54) rfl rfl rfl ?_
  obtain ⟨h4, e3, h⟩ := m_bd h
  refine g_call (v := none) (h := h4) (st' := []) (D1 := 1) (as := [.ref v1, .int x1, .int 6, .int 0]) (Or.inr (Or.inl rfl)) q10_m71 (m_cv (as := [.int 0, .int 6, .int x1]) (rest := []) (Or.inl rfl) q10_m71 jv1605 (OF8_set e3) rfl rfl rfl rfl) (by decide) (SF8_set e3) rfl ?_
  cases h
  rw [k0 _ hK]
  exact g_vret rfl
theorem SF10_unload_2b {xs : Nat → Int32} {L : Nat} (x0 : Nat) (x1 : Int32) (x2 : Int32) (s : Int32 × m_H) {r : m_O × m_H} {K : ((Int32 × m_H) ⊕ m_H) → Prop} (k0 : ∀ x, K (.inr x) → r = (.inl none, x)) (k1 : ∀ s, K (.inl s) → m_Rn xs L 3 2008 2 [(0, .ref x0), (1, .int x1), (2, .int x2), (3, .int s.1)] [] s.2 r) {t : (Int32 × m_H) ⊕ m_H} (h : F10_unload_2b x0 x1 x2 s = some t) (hK : K t) : m_Rn xs L 3 2008 2 [(0, .ref x0), (1, .int x1), (2, .int x2), (3, .int s.1)] [] s.2 r := by
  unfold F10_unload_2b at h
  refine g_in eF10_unload_2 mx2008 ?_
  refine g_ch [(0, .ref x0), (1, .int x1), (2, .int x2), (3, .int s.1)] [.ref x0, .int s.1] (pc' := 4) rfl rfl rfl ?_
  obtain ⟨v1, e2, h⟩ := m_bd h
  refine g_gr q10_f28 e2 ?_
  refine g_ch [(0, .ref x0), (1, .int x1), (2, .int x2), (3, .int s.1)] [.int 6, .int x1, .ref v1, .int s.1] (pc' := 10) rfl rfl rfl ?_
  obtain ⟨v4, e3, h⟩ := m_bd h
  refine g_call (v := some (.int v4)) (h := s.2) (st' := [.int v4, .int s.1]) (D1 := 1) (as := [.ref v1, .int x1, .int 6]) (Or.inr (Or.inl rfl)) q10_m37 (m_cv (as := [.int 6, .int x1]) (rest := [.int s.1]) (Or.inl rfl) q10_m37 jv1604 (OF8_get e3) rfl rfl rfl rfl) (by decide) (SF8_get e3) rfl ?_
  rcases m_ifd h with ⟨c5, h⟩ | ⟨c5, h⟩
  · refine g_if (t := 46) rfl (m_geT c5) ?_
    obtain ⟨t', h2, rfl⟩ := Option.map_eq_some_iff.mp h
    exact r_lv (SF10_unload_46 x0 x1 s.2 (K := fun t => K (.inr t)) k0 h2 hK) rfl ⟨rfl, rfl, trivial⟩
  · refine g_ifn (t := 46) rfl (m_geF c5) ?_
    refine g_in eF10_unload_16 mx2008 ?_
    refine g_ch [(0, .ref x0), (1, .int x1), (2, .int x2), (3, .int s.1)] [.int 8, .int s.1] (pc' := 19) rfl rfl rfl ?_
    rcases m_ifd h with ⟨c6, h⟩ | ⟨c6, h⟩
    · refine g_if (t := 46) rfl (m_geT c6) ?_
      obtain ⟨t', h2, rfl⟩ := Option.map_eq_some_iff.mp h
      exact r_lv (SF10_unload_46 x0 x1 s.2 (K := fun t => K (.inr t)) k0 h2 hK) rfl ⟨rfl, rfl, trivial⟩
    · refine g_ifn (t := 46) rfl (m_geF c6) ?_
      refine g_in eF10_unload_22 mx2008 ?_
      refine g_ch [(0, .ref x0), (1, .int x1), (2, .int x2), (3, .int s.1)] [.int s.1, .int x1, .ref x0, .ref x0] (pc' := 26) rfl rfl rfl ?_
      obtain ⟨v8, e7, h⟩ := m_bd h
      refine g_call (v := some (.int v8)) (h := s.2) (st' := [.int v8, .ref x0]) (D1 := 2) (as := [.ref x0, .int x1, .int s.1]) (Or.inr (Or.inl rfl)) q10_m106 (m_cv (as := [.int s.1, .int x1]) (rest := [.ref x0]) (Or.inl rfl) q10_m106 jv628 (OF3_cargoLot e7) rfl rfl rfl rfl) (by decide) (SF3_cargoLot e7) rfl ?_
      refine g_ch [(0, .ref x0), (1, .int x1), (2, .int x2), (3, .int s.1)] [.int s.1, .int x1, .ref x0, .int v8, .ref x0] (pc' := 32) rfl rfl rfl ?_
      obtain ⟨v10, e9, h⟩ := m_bd h
      refine g_call (v := some (.int v10)) (h := s.2) (st' := [.int v10, .int v8, .ref x0]) (D1 := 2) (as := [.ref x0, .int x1, .int s.1]) (Or.inr (Or.inl rfl)) q10_m115 (m_cv (as := [.int s.1, .int x1]) (rest := [.int v8, .ref x0]) (Or.inl rfl) q10_m115 jv629 (OF3_cargoCrates e9) rfl rfl rfl rfl) (by decide) (SF3_cargoCrates e9) rfl ?_
      refine g_ch [(0, .ref x0), (1, .int x1), (2, .int x2), (3, .int s.1)] [.int x2, .int 2, .int v10, .int v8, .ref x0] (pc' := 37) rfl rfl rfl ?_
      obtain ⟨h12, e11, h⟩ := m_bd h
      refine g_call (v := none) (h := h12) (st' := []) (D1 := 2) (as := [.ref x0, .int v8, .int v10, .int 2, .int x2]) (Or.inr (Or.inl rfl)) q10_m86 (m_cv (as := [.int x2, .int 2, .int v10, .int v8]) (rest := []) (Or.inl rfl) q10_m86 jv617 (OF3_move e11) rfl rfl rfl rfl) (by decide) (SF3_move e11) rfl ?_
      refine g_ch [(3, .int (s.1 + 1)), (0, .ref x0), (1, .int x1), (2, .int x2)] [] (pc' := 43) rfl rfl rfl ?_
      refine g_goto (t := 2) rfl ?_
      cases h
      exact r_lv (k1 ((s.1 + 1), h12) hK) rfl ⟨rfl, rfl, rfl, rfl, trivial⟩
theorem SF10_unload_2 {xs : Nat → Int32} {L : Nat} (x0 : Nat) (x1 : Int32) (x2 : Int32) (x3 : Int32) (hp : m_H) {r : m_O × m_H} {K : m_H → Prop} (k0 : ∀ x, K x → r = (.inl none, x)) {t : m_H} (h : F10_unload_2 x0 x1 x2 x3 hp = some t) (hK : K t) : m_Rn xs L 3 2008 2 [(0, .ref x0), (1, .int x1), (2, .int x2), (3, .int x3)] [] hp r :=
  m_wh_ok (P := fun s => m_Rn xs L 3 2008 2 [(0, .ref x0), (1, .int x1), (2, .int x2), (3, .int s.1)] [] s.2 r) (Q := K) (fun s t hb hK => SF10_unload_2b x0 x1 x2 s (K := m_KK (fun s => m_Rn xs L 3 2008 2 [(0, .ref x0), (1, .int x1), (2, .int x2), (3, .int s.1)] [] s.2 r) K) k0 (fun _ q => q) hb hK) m_N _ _ h hK
theorem SF10_unload_0 {xs : Nat → Int32} {L : Nat} (x0 : Nat) (x1 : Int32) (x2 : Int32) (hp : m_H) {r : m_O × m_H} {K : m_H → Prop} (k0 : ∀ x, K x → r = (.inl none, x)) {t : m_H} (h : F10_unload_0 x0 x1 x2 hp = some t) (hK : K t) : m_Rn xs L 3 2008 0 [(0, .ref x0), (1, .int x1), (2, .int x2)] [] hp r := by
  unfold F10_unload_0 at h
  refine g_in eF10_unload_0 mx2008 ?_
  refine g_ch [(3, .int 0), (0, .ref x0), (1, .int x1), (2, .int x2)] [] (pc' := 2) rfl rfl rfl ?_
  refine g_end ?_
  exact r_lv (SF10_unload_2 x0 x1 x2 0 hp (K := K) k0 h hK) rfl ⟨rfl, rfl, rfl, rfl, trivial⟩
theorem SF10_unload {xs : Nat → Int32} {L : Nat} {x0 : Nat} {x1 : Int32} {x2 : Int32} {hp : m_H} {x : m_H} (h : F10_unload x0 x1 x2 hp = some x) : m_Rn xs L 3 2008 0 (lv_args 0 [.ref x0, .int x1, .int x2]) [] hp (.inl none, x) :=
  r_lv (SF10_unload_0 x0 x1 x2 hp (K := fun y => y = x) (fun y e => by rw [e]) h rfl) rfl ⟨rfl, rfl, rfl, trivial⟩
-- F10_sink: LendHouse$Turn.sink(LLendHouse$House;I)V
theorem eF10_sink_0 : m_Fe mi10_5 0 (m_ap [(.aload_n 0, 1), (.iload_n 1, 1), (.bipush 6, 2)] ((.invokestatic 102, 3) :: (m_ap [(.aload_n 0, 1)] ((.getfield 28, 3) :: (m_ap [(.iload_n 1, 1), (.iconst 2, 1), (.iconst 4, 1)] ((.invokevirtual 71, 3) :: (m_ap [(.aload_n 0, 1)] ((.getfield 28, 3) :: (m_ap [(.iload_n 1, 1), (.iconst 4, 1), (.iconst 0, 1)] ((.invokevirtual 71, 3) :: (m_ap [(.aload_n 0, 1)] ((.getfield 28, 3) :: (m_ap [(.iload_n 1, 1), (.iconst 5, 1), (.aload_n 0, 1)] ((.getfield 9, 3) :: ((.invokevirtual 71, 3) :: ([(.return_, 1)])))))))))))))))) := m_Fe_of nd2005 0 24 rfl
theorem SF10_sink_0 {xs : Nat → Int32} {L : Nat} (x0 : Nat) (x1 : Int32) (hp : m_H) {r : m_O × m_H} {K : m_H → Prop} (k0 : ∀ x, K x → r = (.inl none, x)) {t : m_H} (h : F10_sink_0 x0 x1 hp = some t) (hK : K t) : m_Rn xs L 4 2005 0 [(0, .ref x0), (1, .int x1)] [] hp r := by
  unfold F10_sink_0 at h
  refine g_in eF10_sink_0 mx2005 ?_
  refine g_ch [(0, .ref x0), (1, .int x1)] [.int 6, .int x1, .ref x0] (pc' := 4) rfl rfl rfl ?_
  obtain ⟨h2, e1, h⟩ := m_bd h
  refine g_call (v := none) (h := h2) (st' := []) (D1 := 3) (as := [.ref x0, .int x1, .int 6]) (Or.inl rfl) q10_m102 (m_cs (as := [.int 6, .int x1, .ref x0]) (rest := []) q10_m102 jv2008 rfl rfl rfl rfl rfl) (by decide) (SF10_unload e1) rfl ?_
  refine g_ch [(0, .ref x0), (1, .int x1)] [.ref x0] (pc' := 8) rfl rfl rfl ?_
  obtain ⟨v3, e4, h⟩ := m_bd h
  refine g_gr q10_f28 e4 ?_
  refine g_ch [(0, .ref x0), (1, .int x1)] [.int 4, .int 2, .int x1, .ref v3] (pc' := 14) rfl rfl rfl ?_
  obtain ⟨h6, e5, h⟩ := m_bd h
  refine g_call (v := none) (h := h6) (st' := []) (D1 := 1) (as := [.ref v3, .int x1, .int 2, .int 4]) (Or.inr (Or.inl rfl)) q10_m71 (m_cv (as := [.int 4, .int 2, .int x1]) (rest := []) (Or.inl rfl) q10_m71 jv1605 (OF8_set e5) rfl rfl rfl rfl) (by decide) (SF8_set e5) rfl ?_
  refine g_ch [(0, .ref x0), (1, .int x1)] [.ref x0] (pc' := 18) rfl rfl rfl ?_
  obtain ⟨v7, e8, h⟩ := m_bd h
  refine g_gr q10_f28 e8 ?_
  refine g_ch [(0, .ref x0), (1, .int x1)] [.int 0, .int 4, .int x1, .ref v7] (pc' := 24) rfl rfl rfl ?_
  obtain ⟨h10, e9, h⟩ := m_bd h
  refine g_call (v := none) (h := h10) (st' := []) (D1 := 1) (as := [.ref v7, .int x1, .int 4, .int 0]) (Or.inr (Or.inl rfl)) q10_m71 (m_cv (as := [.int 0, .int 4, .int x1]) (rest := []) (Or.inl rfl) q10_m71 jv1605 (OF8_set e9) rfl rfl rfl rfl) (by decide) (SF8_set e9) rfl ?_
  refine g_ch [(0, .ref x0), (1, .int x1)] [.ref x0] (pc' := 28) rfl rfl rfl ?_
  obtain ⟨v11, e12, h⟩ := m_bd h
  refine g_gr q10_f28 e12 ?_
  refine g_ch [(0, .ref x0), (1, .int x1)] [.ref x0, .int 5, .int x1, .ref v11] (pc' := 34) rfl rfl rfl ?_
  obtain ⟨v13, e14, h⟩ := m_bd h
  refine g_gi q10_f9 e14 ?_
  obtain ⟨h16, e15, h⟩ := m_bd h
  refine g_call (v := none) (h := h16) (st' := []) (D1 := 1) (as := [.ref v11, .int x1, .int 5, .int v13]) (Or.inr (Or.inl rfl)) q10_m71 (m_cv (as := [.int v13, .int 5, .int x1]) (rest := []) (Or.inl rfl) q10_m71 jv1605 (OF8_set e15) rfl rfl rfl rfl) (by decide) (SF8_set e15) rfl ?_
  cases h
  rw [k0 _ hK]
  exact g_vret rfl
theorem SF10_sink {xs : Nat → Int32} {L : Nat} {x0 : Nat} {x1 : Int32} {hp : m_H} {x : m_H} (h : F10_sink x0 x1 hp = some x) : m_Rn xs L 4 2005 0 (lv_args 0 [.ref x0, .int x1]) [] hp (.inl none, x) :=
  r_lv (SF10_sink_0 x0 x1 hp (K := fun y => y = x) (fun y e => by rw [e]) h rfl) rfl ⟨rfl, rfl, trivial⟩
-- F10_arriveAbroad: LendHouse$Turn.arriveAbroad(LLendHouse$House;I)V
theorem eF10_arriveAbroad_0 : m_Fe mi10_6 0 (m_ap [(.aload_n 0, 1)] ((.getfield 28, 3) :: (m_ap [(.iload_n 1, 1), (.iconst 3, 1)] ((.invokevirtual 37, 3) :: (m_ap [(.istore_n 2, 1), (.iconst 0, 1), (.istore_n 3, 1)] ([])))))) := m_Fe_of nd2006 0 8 rfl
theorem eF10_arriveAbroad_12 : m_Fe mi10_6 12 (m_ap [(.iload_n 3, 1), (.aload_n 0, 1)] ((.getfield 28, 3) :: (m_ap [(.iload_n 1, 1), (.bipush 6, 2)] ((.invokevirtual 37, 3) :: ([(.if_icmp .ge 94, 3)]))))) := m_Fe_of nd2006 8 7 rfl
theorem eF10_arriveAbroad_26 : m_Fe mi10_6 26 (m_ap [(.iload_n 3, 1), (.bipush 8, 2)] ([(.if_icmp .ge 88, 3)])) := m_Fe_of nd2006 15 3 rfl
theorem eF10_arriveAbroad_32 : m_Fe mi10_6 32 (m_ap [(.aload_n 0, 1), (.iload_n 1, 1), (.iload_n 3, 1)] ((.invokevirtual 106, 3) :: (m_ap [(.istore 4, 2), (.aload_n 0, 1)] ((.getfield 58, 3) :: (m_ap [(.iload 4, 2), (.iconst 0, 1)] ((.invokevirtual 37, 3) :: (m_ap [(.istore 5, 2), (.aload_n 0, 1)] ((.getfield 109, 3) :: (m_ap [(.iload_n 2, 1), (.iload 5, 2)] ((.invokestatic 112, 3) :: (m_ap [(.iconst 1, 1), (.aload_n 0, 1), (.iload_n 1, 1), (.iload_n 3, 1)] ((.invokevirtual 115, 3) :: ((.invokevirtual 51, 3) :: (m_ap [(.aload_n 0, 1)] ((.getfield 48, 3) :: (m_ap [(.iload_n 2, 1), (.iconst 1, 1)] ((.invokevirtual 37, 3) :: (m_ap [(.aload_n 0, 1)] ((.getfield 58, 3) :: (m_ap [(.iload 4, 2), (.bipush 7, 2)] ((.invokevirtual 37, 3) :: (m_ap [(.isub, 1), (.istore 6, 2), (.aload_n 0, 1)] ((.getfield 48, 3) :: (m_ap [(.iload_n 2, 1), (.iconst 1, 1), (.bipush (-100), 2), (.iload 6, 2)] ((.invokestatic 118, 3) :: ((.invokevirtual 71, 3) :: (m_ap [(.iinc 3 1, 3)] ([(.goto (-102), 3)])))))))))))))))))))))))))))) := m_Fe_of nd2006 18 44 rfl
theorem eF10_arriveAbroad_117 : m_Fe mi10_6 117 (m_ap [(.aload_n 0, 1), (.iload_n 1, 1), (.iconst 3, 1)] ((.invokestatic 102, 3) :: (m_ap [(.aload_n 0, 1)] ((.getfield 28, 3) :: (m_ap [(.iload_n 1, 1), (.iconst 2, 1), (.iconst 2, 1)] ((.invokevirtual 71, 3) :: ([(.return_, 1)]))))))) := m_Fe_of nd2006 62 11 rfl
theorem SF10_arriveAbroad_117 {xs : Nat → Int32} {L : Nat} (x0 : Nat) (x1 : Int32) (hp : m_H) {r : m_O × m_H} {K : m_H → Prop} (k0 : ∀ x, K x → r = (.inl none, x)) {t : m_H} (h : F10_arriveAbroad_117 x0 x1 hp = some t) (hK : K t) : m_Rn xs L 7 2006 117 [(0, .ref x0), (1, .int x1)] [] hp r := by
  unfold F10_arriveAbroad_117 at h
  refine g_in eF10_arriveAbroad_117 mx2006 ?_
  refine g_ch [(0, .ref x0), (1, .int x1)] [.int 3, .int x1, .ref x0] (pc' := 120) rfl rfl rfl ?_
  obtain ⟨h2, e1, h⟩ := m_bd h
  refine g_call (v := none) (h := h2) (st' := []) (D1 := 3) (as := [.ref x0, .int x1, .int 3]) (Or.inl rfl) q10_m102 (m_cs (as := [.int 3, .int x1, .ref x0]) (rest := []) q10_m102 jv2008 rfl rfl rfl rfl rfl) (by decide) (SF10_unload e1) rfl ?_
  refine g_ch [(0, .ref x0), (1, .int x1)] [.ref x0] (pc' := 124) rfl rfl rfl ?_
  obtain ⟨v3, e4, h⟩ := m_bd h
  refine g_gr q10_f28 e4 ?_
  refine g_ch [(0, .ref x0), (1, .int x1)] [.int 2, .int 2, .int x1, .ref v3] (pc' := 130) rfl rfl rfl ?_
  obtain ⟨h6, e5, h⟩ := m_bd h
  refine g_call (v := none) (h := h6) (st' := []) (D1 := 1) (as := [.ref v3, .int x1, .int 2, .int 2]) (Or.inr (Or.inl rfl)) q10_m71 (m_cv (as := [.int 2, .int 2, .int x1]) (rest := []) (Or.inl rfl) q10_m71 jv1605 (OF8_set e5) rfl rfl rfl rfl) (by decide) (SF8_set e5) rfl ?_
  cases h
  rw [k0 _ hK]
  exact g_vret rfl
theorem SF10_arriveAbroad_12b {xs : Nat → Int32} {L : Nat} (x0 : Nat) (x1 : Int32) (x2 : Int32) (s : Int32 × m_H) {r : m_O × m_H} {K : ((Int32 × m_H) ⊕ m_H) → Prop} (k0 : ∀ x, K (.inr x) → r = (.inl none, x)) (k1 : ∀ s, K (.inl s) → m_Rn xs L 7 2006 12 [(0, .ref x0), (1, .int x1), (2, .int x2), (3, .int s.1)] [] s.2 r) {t : (Int32 × m_H) ⊕ m_H} (h : F10_arriveAbroad_12b x0 x1 x2 s = some t) (hK : K t) : m_Rn xs L 7 2006 12 [(0, .ref x0), (1, .int x1), (2, .int x2), (3, .int s.1)] [] s.2 r := by
  unfold F10_arriveAbroad_12b at h
  refine g_in eF10_arriveAbroad_12 mx2006 ?_
  refine g_ch [(0, .ref x0), (1, .int x1), (2, .int x2), (3, .int s.1)] [.ref x0, .int s.1] (pc' := 14) rfl rfl rfl ?_
  obtain ⟨v1, e2, h⟩ := m_bd h
  refine g_gr q10_f28 e2 ?_
  refine g_ch [(0, .ref x0), (1, .int x1), (2, .int x2), (3, .int s.1)] [.int 6, .int x1, .ref v1, .int s.1] (pc' := 20) rfl rfl rfl ?_
  obtain ⟨v4, e3, h⟩ := m_bd h
  refine g_call (v := some (.int v4)) (h := s.2) (st' := [.int v4, .int s.1]) (D1 := 1) (as := [.ref v1, .int x1, .int 6]) (Or.inr (Or.inl rfl)) q10_m37 (m_cv (as := [.int 6, .int x1]) (rest := [.int s.1]) (Or.inl rfl) q10_m37 jv1604 (OF8_get e3) rfl rfl rfl rfl) (by decide) (SF8_get e3) rfl ?_
  rcases m_ifd h with ⟨c5, h⟩ | ⟨c5, h⟩
  · refine g_if (t := 117) rfl (m_geT c5) ?_
    obtain ⟨t', h2, rfl⟩ := Option.map_eq_some_iff.mp h
    exact r_lv (SF10_arriveAbroad_117 x0 x1 s.2 (K := fun t => K (.inr t)) k0 h2 hK) rfl ⟨rfl, rfl, trivial⟩
  · refine g_ifn (t := 117) rfl (m_geF c5) ?_
    refine g_in eF10_arriveAbroad_26 mx2006 ?_
    refine g_ch [(0, .ref x0), (1, .int x1), (2, .int x2), (3, .int s.1)] [.int 8, .int s.1] (pc' := 29) rfl rfl rfl ?_
    rcases m_ifd h with ⟨c6, h⟩ | ⟨c6, h⟩
    · refine g_if (t := 117) rfl (m_geT c6) ?_
      obtain ⟨t', h2, rfl⟩ := Option.map_eq_some_iff.mp h
      exact r_lv (SF10_arriveAbroad_117 x0 x1 s.2 (K := fun t => K (.inr t)) k0 h2 hK) rfl ⟨rfl, rfl, trivial⟩
    · refine g_ifn (t := 117) rfl (m_geF c6) ?_
      refine g_in eF10_arriveAbroad_32 mx2006 ?_
      refine g_ch [(0, .ref x0), (1, .int x1), (2, .int x2), (3, .int s.1)] [.int s.1, .int x1, .ref x0] (pc' := 35) rfl rfl rfl ?_
      obtain ⟨v8, e7, h⟩ := m_bd h
      refine g_call (v := some (.int v8)) (h := s.2) (st' := [.int v8]) (D1 := 2) (as := [.ref x0, .int x1, .int s.1]) (Or.inr (Or.inl rfl)) q10_m106 (m_cv (as := [.int s.1, .int x1]) (rest := []) (Or.inl rfl) q10_m106 jv628 (OF3_cargoLot e7) rfl rfl rfl rfl) (by decide) (SF3_cargoLot e7) rfl ?_
      refine g_ch [(4, .int v8), (0, .ref x0), (1, .int x1), (2, .int x2), (3, .int s.1)] [.ref x0] (pc' := 41) rfl rfl rfl ?_
      obtain ⟨v9, e10, h⟩ := m_bd h
      refine g_gr q10_f58 e10 ?_
      refine g_ch [(4, .int v8), (0, .ref x0), (1, .int x1), (2, .int x2), (3, .int s.1)] [.int 0, .int v8, .ref v9] (pc' := 47) rfl rfl rfl ?_
      obtain ⟨v12, e11, h⟩ := m_bd h
      refine g_call (v := some (.int v12)) (h := s.2) (st' := [.int v12]) (D1 := 1) (as := [.ref v9, .int v8, .int 0]) (Or.inr (Or.inl rfl)) q10_m37 (m_cv (as := [.int 0, .int v8]) (rest := []) (Or.inl rfl) q10_m37 jv1604 (OF8_get e11) rfl rfl rfl rfl) (by decide) (SF8_get e11) rfl ?_
      refine g_ch [(5, .int v12), (4, .int v8), (0, .ref x0), (1, .int x1), (2, .int x2), (3, .int s.1)] [.ref x0] (pc' := 53) rfl rfl rfl ?_
      obtain ⟨v13, e14, h⟩ := m_bd h
      refine g_gr q10_f109 e14 ?_
      refine g_ch [(5, .int v12), (4, .int v8), (0, .ref x0), (1, .int x1), (2, .int x2), (3, .int s.1)] [.int v12, .int x2, .ref v13] (pc' := 59) rfl rfl rfl ?_
      obtain ⟨v16, e15, h⟩ := m_bd h
      refine g_call (v := some (.int v16)) (h := s.2) (st' := [.int v16, .ref v13]) (D1 := 0) (as := [.int x2, .int v12]) (Or.inl rfl) q10_m112 (m_cs (as := [.int v12, .int x2]) (rest := [.ref v13]) q10_m112 jv603 rfl rfl rfl rfl rfl) (by decide) (SF3_tradeRow e15) rfl ?_
      refine g_ch [(5, .int v12), (4, .int v8), (0, .ref x0), (1, .int x1), (2, .int x2), (3, .int s.1)] [.int s.1, .int x1, .ref x0, .int 1, .int v16, .ref v13] (pc' := 66) rfl rfl rfl ?_
      obtain ⟨v18, e17, h⟩ := m_bd h
      refine g_call (v := some (.int v18)) (h := s.2) (st' := [.int v18, .int 1, .int v16, .ref v13]) (D1 := 2) (as := [.ref x0, .int x1, .int s.1]) (Or.inr (Or.inl rfl)) q10_m115 (m_cv (as := [.int s.1, .int x1]) (rest := [.int 1, .int v16, .ref v13]) (Or.inl rfl) q10_m115 jv629 (OF3_cargoCrates e17) rfl rfl rfl rfl) (by decide) (SF3_cargoCrates e17) rfl ?_
      obtain ⟨h20, e19, h⟩ := m_bd h
      refine g_call (v := none) (h := h20) (st' := []) (D1 := 1) (as := [.ref v13, .int v16, .int 1, .int v18]) (Or.inr (Or.inl rfl)) q10_m51 (m_cv (as := [.int v18, .int 1, .int v16]) (rest := []) (Or.inl rfl) q10_m51 jv1606 (OF8_raise e19) rfl rfl rfl rfl) (by decide) (SF8_raise e19) rfl ?_
      refine g_ch [(5, .int v12), (4, .int v8), (0, .ref x0), (1, .int x1), (2, .int x2), (3, .int s.1)] [.ref x0] (pc' := 73) rfl rfl rfl ?_
      obtain ⟨v21, e22, h⟩ := m_bd h
      refine g_gr q10_f48 e22 ?_
      refine g_ch [(5, .int v12), (4, .int v8), (0, .ref x0), (1, .int x1), (2, .int x2), (3, .int s.1)] [.int 1, .int x2, .ref v21] (pc' := 78) rfl rfl rfl ?_
      obtain ⟨v24, e23, h⟩ := m_bd h
      refine g_call (v := some (.int v24)) (h := h20) (st' := [.int v24]) (D1 := 1) (as := [.ref v21, .int x2, .int 1]) (Or.inr (Or.inl rfl)) q10_m37 (m_cv (as := [.int 1, .int x2]) (rest := []) (Or.inl rfl) q10_m37 jv1604 (OF8_get e23) rfl rfl rfl rfl) (by decide) (SF8_get e23) rfl ?_
      refine g_ch [(5, .int v12), (4, .int v8), (0, .ref x0), (1, .int x1), (2, .int x2), (3, .int s.1)] [.ref x0, .int v24] (pc' := 82) rfl rfl rfl ?_
      obtain ⟨v25, e26, h⟩ := m_bd h
      refine g_gr q10_f58 e26 ?_
      refine g_ch [(5, .int v12), (4, .int v8), (0, .ref x0), (1, .int x1), (2, .int x2), (3, .int s.1)] [.int 7, .int v8, .ref v25, .int v24] (pc' := 89) rfl rfl rfl ?_
      obtain ⟨v28, e27, h⟩ := m_bd h
      refine g_call (v := some (.int v28)) (h := h20) (st' := [.int v28, .int v24]) (D1 := 1) (as := [.ref v25, .int v8, .int 7]) (Or.inr (Or.inl rfl)) q10_m37 (m_cv (as := [.int 7, .int v8]) (rest := [.int v24]) (Or.inl rfl) q10_m37 jv1604 (OF8_get e27) rfl rfl rfl rfl) (by decide) (SF8_get e27) rfl ?_
      refine g_ch [(6, .int (v24 - v28)), (5, .int v12), (4, .int v8), (0, .ref x0), (1, .int x1), (2, .int x2), (3, .int s.1)] [.ref x0] (pc' := 96) rfl rfl rfl ?_
      obtain ⟨v29, e30, h⟩ := m_bd h
      refine g_gr q10_f48 e30 ?_
      refine g_ch [(6, .int (v24 - v28)), (5, .int v12), (4, .int v8), (0, .ref x0), (1, .int x1), (2, .int x2), (3, .int s.1)] [.int (v24 - v28), .int (-100), .int 1, .int x2, .ref v29] (pc' := 105) rfl rfl rfl ?_
      refine g_nat (Or.inl rfl) q10_m118 rfl (z := ([.int (m_max (-100) (v24 - v28)), .int 1, .int x2, .ref v29], h20)) rfl (by decide) ?_
      obtain ⟨h32, e31, h⟩ := m_bd h
      refine g_call (v := none) (h := h32) (st' := []) (D1 := 1) (as := [.ref v29, .int x2, .int 1, .int (m_max (-100) (v24 - v28))]) (Or.inr (Or.inl rfl)) q10_m71 (m_cv (as := [.int (m_max (-100) (v24 - v28)), .int 1, .int x2]) (rest := []) (Or.inl rfl) q10_m71 jv1605 (OF8_set e31) rfl rfl rfl rfl) (by decide) (SF8_set e31) rfl ?_
      refine g_ch [(3, .int (s.1 + 1)), (6, .int (v24 - v28)), (5, .int v12), (4, .int v8), (0, .ref x0), (1, .int x1), (2, .int x2)] [] (pc' := 114) rfl rfl rfl ?_
      refine g_goto (t := 12) rfl ?_
      cases h
      exact r_lv (k1 ((s.1 + 1), h32) hK) rfl ⟨rfl, rfl, rfl, rfl, trivial⟩
theorem SF10_arriveAbroad_12 {xs : Nat → Int32} {L : Nat} (x0 : Nat) (x1 : Int32) (x2 : Int32) (x3 : Int32) (hp : m_H) {r : m_O × m_H} {K : m_H → Prop} (k0 : ∀ x, K x → r = (.inl none, x)) {t : m_H} (h : F10_arriveAbroad_12 x0 x1 x2 x3 hp = some t) (hK : K t) : m_Rn xs L 7 2006 12 [(0, .ref x0), (1, .int x1), (2, .int x2), (3, .int x3)] [] hp r :=
  m_wh_ok (P := fun s => m_Rn xs L 7 2006 12 [(0, .ref x0), (1, .int x1), (2, .int x2), (3, .int s.1)] [] s.2 r) (Q := K) (fun s t hb hK => SF10_arriveAbroad_12b x0 x1 x2 s (K := m_KK (fun s => m_Rn xs L 7 2006 12 [(0, .ref x0), (1, .int x1), (2, .int x2), (3, .int s.1)] [] s.2 r) K) k0 (fun _ q => q) hb hK) m_N _ _ h hK
theorem SF10_arriveAbroad_0 {xs : Nat → Int32} {L : Nat} (x0 : Nat) (x1 : Int32) (hp : m_H) {r : m_O × m_H} {K : m_H → Prop} (k0 : ∀ x, K x → r = (.inl none, x)) {t : m_H} (h : F10_arriveAbroad_0 x0 x1 hp = some t) (hK : K t) : m_Rn xs L 7 2006 0 [(0, .ref x0), (1, .int x1)] [] hp r := by
  unfold F10_arriveAbroad_0 at h
  refine g_in eF10_arriveAbroad_0 mx2006 ?_
  refine g_ch [(0, .ref x0), (1, .int x1)] [.ref x0] (pc' := 1) rfl rfl rfl ?_
  obtain ⟨v1, e2, h⟩ := m_bd h
  refine g_gr q10_f28 e2 ?_
  refine g_ch [(0, .ref x0), (1, .int x1)] [.int 3, .int x1, .ref v1] (pc' := 6) rfl rfl rfl ?_
  obtain ⟨v4, e3, h⟩ := m_bd h
  refine g_call (v := some (.int v4)) (h := hp) (st' := [.int v4]) (D1 := 1) (as := [.ref v1, .int x1, .int 3]) (Or.inr (Or.inl rfl)) q10_m37 (m_cv (as := [.int 3, .int x1]) (rest := []) (Or.inl rfl) q10_m37 jv1604 (OF8_get e3) rfl rfl rfl rfl) (by decide) (SF8_get e3) rfl ?_
  refine g_ch [(3, .int 0), (2, .int v4), (0, .ref x0), (1, .int x1)] [] (pc' := 12) rfl rfl rfl ?_
  refine g_end ?_
  exact r_lv (SF10_arriveAbroad_12 x0 x1 v4 0 hp (K := K) k0 h hK) rfl ⟨rfl, rfl, rfl, rfl, trivial⟩
theorem SF10_arriveAbroad {xs : Nat → Int32} {L : Nat} {x0 : Nat} {x1 : Int32} {hp : m_H} {x : m_H} (h : F10_arriveAbroad x0 x1 hp = some x) : m_Rn xs L 7 2006 0 (lv_args 0 [.ref x0, .int x1]) [] hp (.inl none, x) :=
  r_lv (SF10_arriveAbroad_0 x0 x1 hp (K := fun y => y = x) (fun y e => by rw [e]) h rfl) rfl ⟨rfl, rfl, trivial⟩
-- F10_arriveHome: LendHouse$Turn.arriveHome(LLendHouse$House;I)V
theorem eF10_arriveHome_0 : m_Fe mi10_7 0 (m_ap [(.aload_n 0, 1), (.iload_n 1, 1), (.bipush 7, 2)] ((.invokestatic 102, 3) :: (m_ap [(.aload_n 0, 1)] ((.getfield 28, 3) :: (m_ap [(.iload_n 1, 1), (.iconst 2, 1), (.iconst 0, 1)] ((.invokevirtual 71, 3) :: (m_ap [(.aload_n 0, 1)] ((.getfield 28, 3) :: (m_ap [(.iload_n 1, 1), (.iconst 3, 1), (.iconst 0, 1)] ((.invokevirtual 71, 3) :: ([(.return_, 1)]))))))))))) := m_Fe_of nd2007 0 17 rfl
theorem SF10_arriveHome_0 {xs : Nat → Int32} {L : Nat} (x0 : Nat) (x1 : Int32) (hp : m_H) {r : m_O × m_H} {K : m_H → Prop} (k0 : ∀ x, K x → r = (.inl none, x)) {t : m_H} (h : F10_arriveHome_0 x0 x1 hp = some t) (hK : K t) : m_Rn xs L 4 2007 0 [(0, .ref x0), (1, .int x1)] [] hp r := by
  unfold F10_arriveHome_0 at h
  refine g_in eF10_arriveHome_0 mx2007 ?_
  refine g_ch [(0, .ref x0), (1, .int x1)] [.int 7, .int x1, .ref x0] (pc' := 4) rfl rfl rfl ?_
  obtain ⟨h2, e1, h⟩ := m_bd h
  refine g_call (v := none) (h := h2) (st' := []) (D1 := 3) (as := [.ref x0, .int x1, .int 7]) (Or.inl rfl) q10_m102 (m_cs (as := [.int 7, .int x1, .ref x0]) (rest := []) q10_m102 jv2008 rfl rfl rfl rfl rfl) (by decide) (SF10_unload e1) rfl ?_
  refine g_ch [(0, .ref x0), (1, .int x1)] [.ref x0] (pc' := 8) rfl rfl rfl ?_
  obtain ⟨v3, e4, h⟩ := m_bd h
  refine g_gr q10_f28 e4 ?_
  refine g_ch [(0, .ref x0), (1, .int x1)] [.int 0, .int 2, .int x1, .ref v3] (pc' := 14) rfl rfl rfl ?_
  obtain ⟨h6, e5, h⟩ := m_bd h
  refine g_call (v := none) (h := h6) (st' := []) (D1 := 1) (as := [.ref v3, .int x1, .int 2, .int 0]) (Or.inr (Or.inl rfl)) q10_m71 (m_cv (as := [.int 0, .int 2, .int x1]) (rest := []) (Or.inl rfl) q10_m71 jv1605 (OF8_set e5) rfl rfl rfl rfl) (by decide) (SF8_set e5) rfl ?_
  refine g_ch [(0, .ref x0), (1, .int x1)] [.ref x0] (pc' := 18) rfl rfl rfl ?_
  obtain ⟨v7, e8, h⟩ := m_bd h
  refine g_gr q10_f28 e8 ?_
  refine g_ch [(0, .ref x0), (1, .int x1)] [.int 0, .int 3, .int x1, .ref v7] (pc' := 24) rfl rfl rfl ?_
  obtain ⟨h10, e9, h⟩ := m_bd h
  refine g_call (v := none) (h := h10) (st' := []) (D1 := 1) (as := [.ref v7, .int x1, .int 3, .int 0]) (Or.inr (Or.inl rfl)) q10_m71 (m_cv (as := [.int 0, .int 3, .int x1]) (rest := []) (Or.inl rfl) q10_m71 jv1605 (OF8_set e9) rfl rfl rfl rfl) (by decide) (SF8_set e9) rfl ?_
  cases h
  rw [k0 _ hK]
  exact g_vret rfl
theorem SF10_arriveHome {xs : Nat → Int32} {L : Nat} {x0 : Nat} {x1 : Int32} {hp : m_H} {x : m_H} (h : F10_arriveHome x0 x1 hp = some x) : m_Rn xs L 4 2007 0 (lv_args 0 [.ref x0, .int x1]) [] hp (.inl none, x) :=
  r_lv (SF10_arriveHome_0 x0 x1 hp (K := fun y => y = x) (fun y e => by rw [e]) h rfl) rfl ⟨rfl, rfl, trivial⟩
-- F10_goBySea: LendHouse$Turn.goBySea(LLendHouse$House;I)V
theorem eF10_goBySea_0 : m_Fe mi10_4 0 (m_ap [(.aload_n 0, 1)] ((.getfield 28, 3) :: (m_ap [(.iload_n 1, 1), (.iconst 3, 1)] ((.invokevirtual 37, 3) :: (m_ap [(.istore_n 2, 1), (.aload_n 0, 1)] ((.getfield 28, 3) :: (m_ap [(.iload_n 1, 1), (.iconst 1, 1)] ((.invokevirtual 37, 3) :: (m_ap [(.bipush 37, 2), (.aload_n 0, 1)] ((.getfield 9, 3) :: (m_ap [(.imul, 1), (.iadd, 1), (.bipush 100, 2)] ((.irem, 1) :: (m_ap [(.istore_n 3, 1), (.iload_n 3, 1), (.aload_n 0, 1), (.iload_n 2, 1), (.aload_n 0, 1)] ((.getfield 9, 3) :: ((.invokevirtual 90, 3) :: ([(.if_icmp .ge 9, 3)])))))))))))))))) := m_Fe_of nd2004 0 26 rfl
theorem eF10_goBySea_50 : m_Fe mi10_4 50 (m_ap [(.aload_n 0, 1)] ((.getfield 28, 3) :: (m_ap [(.iload_n 1, 1), (.iconst 4, 1), (.iconst (-1), 1)] ((.invokevirtual 51, 3) :: (m_ap [(.aload_n 0, 1)] ((.getfield 28, 3) :: (m_ap [(.iload_n 1, 1), (.iconst 4, 1)] ((.invokevirtual 37, 3) :: ([(.ifCond .le 4, 3)]))))))))) := m_Fe_of nd2004 30 12 rfl
theorem eF10_goBySea_73 : m_Fe mi10_4 73 (m_ap [(.aload_n 0, 1)] ((.getfield 28, 3) :: (m_ap [(.iload_n 1, 1), (.iconst 2, 1)] ((.invokevirtual 37, 3) :: (m_ap [(.iconst 1, 1)] ([(.if_icmp .ne 11, 3)])))))) := m_Fe_of nd2004 43 7 rfl
theorem eF10_goBySea_94 : m_Fe mi10_4 94 (m_ap [(.aload_n 0, 1), (.iload_n 1, 1)] ([(.invokestatic 99, 3)])) := m_Fe_of nd2004 54 3 rfl
theorem eF10_goBySea_99 : m_Fe mi10_4 99 ([(.return_, 1)]) := m_Fe_of nd2004 57 1 rfl
theorem eF10_goBySea_86 : m_Fe mi10_4 86 (m_ap [(.aload_n 0, 1), (.iload_n 1, 1)] ((.invokestatic 96, 3) :: ([(.goto 8, 3)]))) := m_Fe_of nd2004 50 4 rfl
theorem eF10_goBySea_72 : m_Fe mi10_4 72 ([(.return_, 1)]) := m_Fe_of nd2004 42 1 rfl
theorem eF10_goBySea_44 : m_Fe mi10_4 44 (m_ap [(.aload_n 0, 1), (.iload_n 1, 1)] ((.invokestatic 93, 3) :: ([(.return_, 1)]))) := m_Fe_of nd2004 26 4 rfl
theorem SF10_goBySea_0 {xs : Nat → Int32} {L : Nat} (x0 : Nat) (x1 : Int32) (hp : m_H) {r : m_O × m_H} {K : m_H → Prop} (k0 : ∀ x, K x → r = (.inl none, x)) {t : m_H} (h : F10_goBySea_0 x0 x1 hp = some t) (hK : K t) : m_Rn xs L 8 2004 0 [(0, .ref x0), (1, .int x1)] [] hp r := by
  unfold F10_goBySea_0 at h
  refine g_in eF10_goBySea_0 mx2004 ?_
  refine g_ch [(0, .ref x0), (1, .int x1)] [.ref x0] (pc' := 1) rfl rfl rfl ?_
  obtain ⟨v1, e2, h⟩ := m_bd h
  refine g_gr q10_f28 e2 ?_
  refine g_ch [(0, .ref x0), (1, .int x1)] [.int 3, .int x1, .ref v1] (pc' := 6) rfl rfl rfl ?_
  obtain ⟨v4, e3, h⟩ := m_bd h
  refine g_call (v := some (.int v4)) (h := hp) (st' := [.int v4]) (D1 := 1) (as := [.ref v1, .int x1, .int 3]) (Or.inr (Or.inl rfl)) q10_m37 (m_cv (as := [.int 3, .int x1]) (rest := []) (Or.inl rfl) q10_m37 jv1604 (OF8_get e3) rfl rfl rfl rfl) (by decide) (SF8_get e3) rfl ?_
  refine g_ch [(2, .int v4), (0, .ref x0), (1, .int x1)] [.ref x0] (pc' := 11) rfl rfl rfl ?_
  obtain ⟨v5, e6, h⟩ := m_bd h
  refine g_gr q10_f28 e6 ?_
  refine g_ch [(2, .int v4), (0, .ref x0), (1, .int x1)] [.int 1, .int x1, .ref v5] (pc' := 16) rfl rfl rfl ?_
  obtain ⟨v8, e7, h⟩ := m_bd h
  refine g_call (v := some (.int v8)) (h := hp) (st' := [.int v8]) (D1 := 1) (as := [.ref v5, .int x1, .int 1]) (Or.inr (Or.inl rfl)) q10_m37 (m_cv (as := [.int 1, .int x1]) (rest := []) (Or.inl rfl) q10_m37 jv1604 (OF8_get e7) rfl rfl rfl rfl) (by decide) (SF8_get e7) rfl ?_
  refine g_ch [(2, .int v4), (0, .ref x0), (1, .int x1)] [.ref x0, .int 37, .int v8] (pc' := 22) rfl rfl rfl ?_
  obtain ⟨v9, e10, h⟩ := m_bd h
  refine g_gi q10_f9 e10 ?_
  refine g_ch [(2, .int v4), (0, .ref x0), (1, .int x1)] [.int 100, .int (v8 + (37 * v9))] (pc' := 29) rfl rfl rfl ?_
  obtain ⟨v11, e12, h⟩ := m_bd h
  refine g_rm e12 ?_
  refine g_ch [(3, .int v11), (2, .int v4), (0, .ref x0), (1, .int x1)] [.ref x0, .int v4, .ref x0, .int v11] (pc' := 35) rfl rfl rfl ?_
  obtain ⟨v13, e14, h⟩ := m_bd h
  refine g_gi q10_f9 e14 ?_
  obtain ⟨v16, e15, h⟩ := m_bd h
  refine g_call (v := some (.int v16)) (h := hp) (st' := [.int v16, .int v11]) (D1 := 3) (as := [.ref x0, .int v4, .int v13]) (Or.inr (Or.inl rfl)) q10_m90 (m_cv (as := [.int v13, .int v4]) (rest := [.int v11]) (Or.inl rfl) q10_m90 jv607 (OF3_riskIn e15) rfl rfl rfl rfl) (by decide) (SF3_riskIn e15) rfl ?_
  rcases m_ifd h with ⟨c17, h⟩ | ⟨c17, h⟩
  · refine g_if (t := 50) rfl (m_geT c17) ?_
    refine g_in eF10_goBySea_50 mx2004 ?_
    refine g_ch [(3, .int v11), (2, .int v4), (0, .ref x0), (1, .int x1)] [.ref x0] (pc' := 51) rfl rfl rfl ?_
    obtain ⟨v18, e19, h⟩ := m_bd h
    refine g_gr q10_f28 e19 ?_
    refine g_ch [(3, .int v11), (2, .int v4), (0, .ref x0), (1, .int x1)] [.int (-1), .int 4, .int x1, .ref v18] (pc' := 57) rfl rfl rfl ?_
    obtain ⟨h21, e20, h⟩ := m_bd h
    refine g_call (v := none) (h := h21) (st' := []) (D1 := 1) (as := [.ref v18, .int x1, .int 4, .int (-1)]) (Or.inr (Or.inl rfl)) q10_m51 (m_cv (as := [.int (-1), .int 4, .int x1]) (rest := []) (Or.inl rfl) q10_m51 jv1606 (OF8_raise e20) rfl rfl rfl rfl) (by decide) (SF8_raise e20) rfl ?_
    refine g_ch [(3, .int v11), (2, .int v4), (0, .ref x0), (1, .int x1)] [.ref x0] (pc' := 61) rfl rfl rfl ?_
    obtain ⟨v22, e23, h⟩ := m_bd h
    refine g_gr q10_f28 e23 ?_
    refine g_ch [(3, .int v11), (2, .int v4), (0, .ref x0), (1, .int x1)] [.int 4, .int x1, .ref v22] (pc' := 66) rfl rfl rfl ?_
    obtain ⟨v25, e24, h⟩ := m_bd h
    refine g_call (v := some (.int v25)) (h := h21) (st' := [.int v25]) (D1 := 1) (as := [.ref v22, .int x1, .int 4]) (Or.inr (Or.inl rfl)) q10_m37 (m_cv (as := [.int 4, .int x1]) (rest := []) (Or.inl rfl) q10_m37 jv1604 (OF8_get e24) rfl rfl rfl rfl) (by decide) (SF8_get e24) rfl ?_
    rcases m_ifd h with ⟨c26, h⟩ | ⟨c26, h⟩
    · refine g_ifc (t := 73) rfl (m_leT c26) ?_
      refine g_in eF10_goBySea_73 mx2004 ?_
      refine g_ch [(3, .int v11), (2, .int v4), (0, .ref x0), (1, .int x1)] [.ref x0] (pc' := 74) rfl rfl rfl ?_
      obtain ⟨v27, e28, h⟩ := m_bd h
      refine g_gr q10_f28 e28 ?_
      refine g_ch [(3, .int v11), (2, .int v4), (0, .ref x0), (1, .int x1)] [.int 2, .int x1, .ref v27] (pc' := 79) rfl rfl rfl ?_
      obtain ⟨v30, e29, h⟩ := m_bd h
      refine g_call (v := some (.int v30)) (h := h21) (st' := [.int v30]) (D1 := 1) (as := [.ref v27, .int x1, .int 2]) (Or.inr (Or.inl rfl)) q10_m37 (m_cv (as := [.int 2, .int x1]) (rest := []) (Or.inl rfl) q10_m37 jv1604 (OF8_get e29) rfl rfl rfl rfl) (by decide) (SF8_get e29) rfl ?_
      refine g_ch [(3, .int v11), (2, .int v4), (0, .ref x0), (1, .int x1)] [.int 1, .int v30] (pc' := 83) rfl rfl rfl ?_
      rcases m_ifd h with ⟨c31, h⟩ | ⟨c31, h⟩
      · refine g_ifn (t := 94) rfl (m_neF c31) ?_
        refine g_in eF10_goBySea_86 mx2004 ?_
        refine g_ch [(3, .int v11), (2, .int v4), (0, .ref x0), (1, .int x1)] [.int x1, .ref x0] (pc' := 88) rfl rfl rfl ?_
        obtain ⟨h35, e34, h⟩ := m_bd h
        refine g_call (v := none) (h := h35) (st' := []) (D1 := 7) (as := [.ref x0, .int x1]) (Or.inl rfl) q10_m96 (m_cs (as := [.int x1, .ref x0]) (rest := []) q10_m96 jv2006 rfl rfl rfl rfl rfl) (by decide) (SF10_arriveAbroad e34) rfl ?_
        refine g_goto (t := 99) rfl ?_
        refine g_in eF10_goBySea_99 mx2004 ?_
        cases h
        rw [k0 _ hK]
        exact g_vret rfl
      · refine g_if (t := 94) rfl (m_neT c31) ?_
        refine g_in eF10_goBySea_94 mx2004 ?_
        refine g_ch [(3, .int v11), (2, .int v4), (0, .ref x0), (1, .int x1)] [.int x1, .ref x0] (pc' := 96) rfl rfl rfl ?_
        obtain ⟨h33, e32, h⟩ := m_bd h
        refine g_call (v := none) (h := h33) (st' := []) (D1 := 4) (as := [.ref x0, .int x1]) (Or.inl rfl) q10_m99 (m_cs (as := [.int x1, .ref x0]) (rest := []) q10_m99 jv2007 rfl rfl rfl rfl rfl) (by decide) (SF10_arriveHome e32) rfl ?_
        refine g_end ?_
        refine g_in eF10_goBySea_99 mx2004 ?_
        cases h
        rw [k0 _ hK]
        exact g_vret rfl
    · refine g_ifcn (t := 73) rfl (m_leF c26) ?_
      refine g_in eF10_goBySea_72 mx2004 ?_
      cases h
      rw [k0 _ hK]
      exact g_vret rfl
  · refine g_ifn (t := 50) rfl (m_geF c17) ?_
    refine g_in eF10_goBySea_44 mx2004 ?_
    refine g_ch [(3, .int v11), (2, .int v4), (0, .ref x0), (1, .int x1)] [.int x1, .ref x0] (pc' := 46) rfl rfl rfl ?_
    obtain ⟨h37, e36, h⟩ := m_bd h
    refine g_call (v := none) (h := h37) (st' := []) (D1 := 4) (as := [.ref x0, .int x1]) (Or.inl rfl) q10_m93 (m_cs (as := [.int x1, .ref x0]) (rest := []) q10_m93 jv2005 rfl rfl rfl rfl rfl) (by decide) (SF10_sink e36) rfl ?_
    cases h
    rw [k0 _ hK]
    exact g_vret rfl
theorem SF10_goBySea {xs : Nat → Int32} {L : Nat} {x0 : Nat} {x1 : Int32} {hp : m_H} {x : m_H} (h : F10_goBySea x0 x1 hp = some x) : m_Rn xs L 8 2004 0 (lv_args 0 [.ref x0, .int x1]) [] hp (.inl none, x) :=
  r_lv (SF10_goBySea_0 x0 x1 hp (K := fun y => y = x) (fun y e => by rw [e]) h rfl) rfl ⟨rfl, rfl, trivial⟩
-- F10_useSort: LendHouse$Turn.useSort(LLendHouse$House;III)I
theorem eF10_useSort_0 : m_Fe mi10_10 0 (m_ap [(.iconst 0, 1), (.istore 4, 2), (.iconst 0, 1), (.istore 5, 2)] ([])) := m_Fe_of nd2010 0 4 rfl
theorem eF10_useSort_6 : m_Fe mi10_10 6 (m_ap [(.iload 5, 2), (.aload_n 0, 1)] ((.getfield 58, 3) :: ((.getfield 32, 3) :: ([(.if_icmp .ge 95, 3)])))) := m_Fe_of nd2010 4 5 rfl
theorem eF10_useSort_110 : m_Fe mi10_10 110 (m_ap [(.iload 4, 2)] ([(.ireturn, 1)])) := m_Fe_of nd2010 56 2 rfl
theorem eF10_useSort_18 : m_Fe mi10_10 18 (m_ap [(.iload 4, 2), (.iload_n 3, 1)] ([(.if_icmp .ge 89, 3)])) := m_Fe_of nd2010 9 3 rfl
theorem eF10_useSort_24 : m_Fe mi10_10 24 (m_ap [(.aload_n 0, 1), (.iload 5, 2), (.iconst 3, 1)] ((.invokevirtual 77, 3) :: ([(.ifCond .le 73, 3)]))) := m_Fe_of nd2010 12 5 rfl
theorem eF10_useSort_104 : m_Fe mi10_10 104 (m_ap [(.iinc 5 1, 3)] ([(.goto (-101), 3)])) := m_Fe_of nd2010 54 2 rfl
theorem eF10_useSort_34 : m_Fe mi10_10 34 (m_ap [(.aload_n 0, 1)] ((.getfield 58, 3) :: (m_ap [(.iload 5, 2), (.iconst 2, 1)] ((.invokevirtual 37, 3) :: (m_ap [(.iload_n 1, 1)] ([(.if_icmp .ne 59, 3)])))))) := m_Fe_of nd2010 17 7 rfl
theorem eF10_useSort_48 : m_Fe mi10_10 48 (m_ap [(.aload_n 0, 1)] ((.getfield 58, 3) :: (m_ap [(.iload 5, 2), (.iconst 0, 1)] ((.invokevirtual 37, 3) :: (m_ap [(.iload_n 2, 1)] ([(.if_icmp .ne 45, 3)])))))) := m_Fe_of nd2010 24 7 rfl
theorem eF10_useSort_62 : m_Fe mi10_10 62 (m_ap [(.aload_n 0, 1), (.iload 5, 2)] ((.invokevirtual 127, 3) :: ([(.ifCond .eq 36, 3)]))) := m_Fe_of nd2010 31 4 rfl
theorem eF10_useSort_71 : m_Fe mi10_10 71 (m_ap [(.iload_n 3, 1), (.iload 4, 2), (.isub, 1), (.aload_n 0, 1), (.iload 5, 2), (.iconst 3, 1)] ((.invokevirtual 77, 3) :: ((.invokestatic 130, 3) :: (m_ap [(.istore 6, 2), (.aload_n 0, 1), (.iload 5, 2), (.iload 6, 2), (.iconst 3, 1), (.iconst 4, 1)] ((.invokevirtual 86, 3) :: (m_ap [(.iload 4, 2), (.iload 6, 2), (.iadd, 1), (.istore 4, 2)] ([]))))))) := m_Fe_of nd2010 35 19 rfl
theorem SF10_useSort_6b {xs : Nat → Int32} {L : Nat} (x0 : Nat) (x1 : Int32) (x2 : Int32) (x3 : Int32) (s : Int32 × Int32 × m_H) {r : m_O × m_H} {K : ((Int32 × Int32 × m_H) ⊕ (Int32 × m_H)) → Prop} (k0 : ∀ x, K (.inr x) → r = (.inl (some (.int x.1)), x.2)) (k1 : ∀ s, K (.inl s) → m_Rn xs L 7 2010 6 [(0, .ref x0), (1, .int x1), (2, .int x2), (3, .int x3), (4, .int s.1), (5, .int s.2.1)] [] s.2.2 r) {t : (Int32 × Int32 × m_H) ⊕ (Int32 × m_H)} (h : F10_useSort_6b x0 x1 x2 x3 s = some t) (hK : K t) : m_Rn xs L 7 2010 6 [(0, .ref x0), (1, .int x1), (2, .int x2), (3, .int x3), (4, .int s.1), (5, .int s.2.1)] [] s.2.2 r := by
  unfold F10_useSort_6b at h
  refine g_in eF10_useSort_6 mx2010 ?_
  refine g_ch [(0, .ref x0), (1, .int x1), (2, .int x2), (3, .int x3), (4, .int s.1), (5, .int s.2.1)] [.ref x0, .int s.2.1] (pc' := 9) rfl rfl rfl ?_
  obtain ⟨v1, e2, h⟩ := m_bd h
  refine g_gr q10_f58 e2 ?_
  obtain ⟨v3, e4, h⟩ := m_bd h
  refine g_gi q10_f32 e4 ?_
  rcases m_ifd h with ⟨c5, h⟩ | ⟨c5, h⟩
  · refine g_if (t := 110) rfl (m_geT c5) ?_
    refine g_in eF10_useSort_110 mx2010 ?_
    refine g_ch [(0, .ref x0), (1, .int x1), (2, .int x2), (3, .int x3), (4, .int s.1), (5, .int s.2.1)] [.int s.1] (pc' := 112) rfl rfl rfl ?_
    cases h
    rw [k0 _ hK]
    exact g_iret rfl rfl
  · refine g_ifn (t := 110) rfl (m_geF c5) ?_
    refine g_in eF10_useSort_18 mx2010 ?_
    refine g_ch [(0, .ref x0), (1, .int x1), (2, .int x2), (3, .int x3), (4, .int s.1), (5, .int s.2.1)] [.int x3, .int s.1] (pc' := 21) rfl rfl rfl ?_
    rcases m_ifd h with ⟨c6, h⟩ | ⟨c6, h⟩
    · refine g_if (t := 110) rfl (m_geT c6) ?_
      refine g_in eF10_useSort_110 mx2010 ?_
      refine g_ch [(0, .ref x0), (1, .int x1), (2, .int x2), (3, .int x3), (4, .int s.1), (5, .int s.2.1)] [.int s.1] (pc' := 112) rfl rfl rfl ?_
      cases h
      rw [k0 _ hK]
      exact g_iret rfl rfl
    · refine g_ifn (t := 110) rfl (m_geF c6) ?_
      refine g_in eF10_useSort_24 mx2010 ?_
      refine g_ch [(0, .ref x0), (1, .int x1), (2, .int x2), (3, .int x3), (4, .int s.1), (5, .int s.2.1)] [.int 3, .int s.2.1, .ref x0] (pc' := 28) rfl rfl rfl ?_
      obtain ⟨v8, e7, h⟩ := m_bd h
      refine g_call (v := some (.int v8)) (h := s.2.2) (st' := [.int v8]) (D1 := 2) (as := [.ref x0, .int s.2.1, .int 3]) (Or.inr (Or.inl rfl)) q10_m77 (m_cv (as := [.int 3, .int s.2.1]) (rest := []) (Or.inl rfl) q10_m77 jv616 (OF3_crates e7) rfl rfl rfl rfl) (by decide) (SF3_crates e7) rfl ?_
      rcases m_ifd h with ⟨c9, h⟩ | ⟨c9, h⟩
      · refine g_ifc (t := 104) rfl (m_leT c9) ?_
        refine g_in eF10_useSort_104 mx2010 ?_
        refine g_ch [(5, .int (s.2.1 + 1)), (0, .ref x0), (1, .int x1), (2, .int x2), (3, .int x3), (4, .int s.1)] [] (pc' := 107) rfl rfl rfl ?_
        refine g_goto (t := 6) rfl ?_
        cases h
        exact r_lv (k1 (s.1, (s.2.1 + 1), s.2.2) hK) rfl ⟨rfl, rfl, rfl, rfl, rfl, rfl, trivial⟩
      · refine g_ifcn (t := 104) rfl (m_leF c9) ?_
        refine g_in eF10_useSort_34 mx2010 ?_
        refine g_ch [(0, .ref x0), (1, .int x1), (2, .int x2), (3, .int x3), (4, .int s.1), (5, .int s.2.1)] [.ref x0] (pc' := 35) rfl rfl rfl ?_
        obtain ⟨v10, e11, h⟩ := m_bd h
        refine g_gr q10_f58 e11 ?_
        refine g_ch [(0, .ref x0), (1, .int x1), (2, .int x2), (3, .int x3), (4, .int s.1), (5, .int s.2.1)] [.int 2, .int s.2.1, .ref v10] (pc' := 41) rfl rfl rfl ?_
        obtain ⟨v13, e12, h⟩ := m_bd h
        refine g_call (v := some (.int v13)) (h := s.2.2) (st' := [.int v13]) (D1 := 1) (as := [.ref v10, .int s.2.1, .int 2]) (Or.inr (Or.inl rfl)) q10_m37 (m_cv (as := [.int 2, .int s.2.1]) (rest := []) (Or.inl rfl) q10_m37 jv1604 (OF8_get e12) rfl rfl rfl rfl) (by decide) (SF8_get e12) rfl ?_
        refine g_ch [(0, .ref x0), (1, .int x1), (2, .int x2), (3, .int x3), (4, .int s.1), (5, .int s.2.1)] [.int x1, .int v13] (pc' := 45) rfl rfl rfl ?_
        rcases m_ifd h with ⟨c14, h⟩ | ⟨c14, h⟩
        · refine g_ifn (t := 104) rfl (m_neF c14) ?_
          refine g_in eF10_useSort_48 mx2010 ?_
          refine g_ch [(0, .ref x0), (1, .int x1), (2, .int x2), (3, .int x3), (4, .int s.1), (5, .int s.2.1)] [.ref x0] (pc' := 49) rfl rfl rfl ?_
          obtain ⟨v15, e16, h⟩ := m_bd h
          refine g_gr q10_f58 e16 ?_
          refine g_ch [(0, .ref x0), (1, .int x1), (2, .int x2), (3, .int x3), (4, .int s.1), (5, .int s.2.1)] [.int 0, .int s.2.1, .ref v15] (pc' := 55) rfl rfl rfl ?_
          obtain ⟨v18, e17, h⟩ := m_bd h
          refine g_call (v := some (.int v18)) (h := s.2.2) (st' := [.int v18]) (D1 := 1) (as := [.ref v15, .int s.2.1, .int 0]) (Or.inr (Or.inl rfl)) q10_m37 (m_cv (as := [.int 0, .int s.2.1]) (rest := []) (Or.inl rfl) q10_m37 jv1604 (OF8_get e17) rfl rfl rfl rfl) (by decide) (SF8_get e17) rfl ?_
          refine g_ch [(0, .ref x0), (1, .int x1), (2, .int x2), (3, .int x3), (4, .int s.1), (5, .int s.2.1)] [.int x2, .int v18] (pc' := 59) rfl rfl rfl ?_
          rcases m_ifd h with ⟨c19, h⟩ | ⟨c19, h⟩
          · refine g_ifn (t := 104) rfl (m_neF c19) ?_
            refine g_in eF10_useSort_62 mx2010 ?_
            refine g_ch [(0, .ref x0), (1, .int x1), (2, .int x2), (3, .int x3), (4, .int s.1), (5, .int s.2.1)] [.int s.2.1, .ref x0] (pc' := 65) rfl rfl rfl ?_
            obtain ⟨v21, e20, h⟩ := m_bd h
            refine g_call (v := some (.int v21)) (h := s.2.2) (st' := [.int v21]) (D1 := 2) (as := [.ref x0, .int s.2.1]) (Or.inr (Or.inl rfl)) q10_m127 (m_cv (as := [.int s.2.1]) (rest := []) (Or.inl rfl) q10_m127 jv614 (OF3_isLent e20) rfl rfl rfl rfl) (by decide) (SF3_isLent e20) rfl ?_
            rcases m_ifd h with ⟨c22, h⟩ | ⟨c22, h⟩
            · refine g_ifc (t := 104) rfl (m_eqT c22) ?_
              refine g_in eF10_useSort_104 mx2010 ?_
              refine g_ch [(5, .int (s.2.1 + 1)), (0, .ref x0), (1, .int x1), (2, .int x2), (3, .int x3), (4, .int s.1)] [] (pc' := 107) rfl rfl rfl ?_
              refine g_goto (t := 6) rfl ?_
              cases h
              exact r_lv (k1 (s.1, (s.2.1 + 1), s.2.2) hK) rfl ⟨rfl, rfl, rfl, rfl, rfl, rfl, trivial⟩
            · refine g_ifcn (t := 104) rfl (m_eqF c22) ?_
              refine g_in eF10_useSort_71 mx2010 ?_
              refine g_ch [(0, .ref x0), (1, .int x1), (2, .int x2), (3, .int x3), (4, .int s.1), (5, .int s.2.1)] [.int 3, .int s.2.1, .ref x0, .int (x3 - s.1)] (pc' := 79) rfl rfl rfl ?_
              obtain ⟨v24, e23, h⟩ := m_bd h
              refine g_call (v := some (.int v24)) (h := s.2.2) (st' := [.int v24, .int (x3 - s.1)]) (D1 := 2) (as := [.ref x0, .int s.2.1, .int 3]) (Or.inr (Or.inl rfl)) q10_m77 (m_cv (as := [.int 3, .int s.2.1]) (rest := [.int (x3 - s.1)]) (Or.inl rfl) q10_m77 jv616 (OF3_crates e23) rfl rfl rfl rfl) (by decide) (SF3_crates e23) rfl ?_
              refine g_nat (Or.inl rfl) q10_m130 rfl (z := ([.int (m_min (x3 - s.1) v24)], s.2.2)) rfl (by decide) ?_
              refine g_ch [(6, .int (m_min (x3 - s.1) v24)), (0, .ref x0), (1, .int x1), (2, .int x2), (3, .int x3), (4, .int s.1), (5, .int s.2.1)] [.int 4, .int 3, .int (m_min (x3 - s.1) v24), .int s.2.1, .ref x0] (pc' := 94) rfl rfl rfl ?_
              obtain ⟨h26, e25, h⟩ := m_bd h
              refine g_call (v := none) (h := h26) (st' := []) (D1 := 2) (as := [.ref x0, .int s.2.1, .int (m_min (x3 - s.1) v24), .int 3, .int 4]) (Or.inr (Or.inl rfl)) q10_m86 (m_cv (as := [.int 4, .int 3, .int (m_min (x3 - s.1) v24), .int s.2.1]) (rest := []) (Or.inl rfl) q10_m86 jv617 (OF3_move e25) rfl rfl rfl rfl) (by decide) (SF3_move e25) rfl ?_
              refine g_ch [(4, .int (s.1 + (m_min (x3 - s.1) v24))), (6, .int (m_min (x3 - s.1) v24)), (0, .ref x0), (1, .int x1), (2, .int x2), (3, .int x3), (5, .int s.2.1)] [] (pc' := 104) rfl rfl rfl ?_
              refine g_end ?_
              refine g_in eF10_useSort_104 mx2010 ?_
              refine g_ch [(5, .int (s.2.1 + 1)), (4, .int (s.1 + (m_min (x3 - s.1) v24))), (6, .int (m_min (x3 - s.1) v24)), (0, .ref x0), (1, .int x1), (2, .int x2), (3, .int x3)] [] (pc' := 107) rfl rfl rfl ?_
              refine g_goto (t := 6) rfl ?_
              cases h
              exact r_lv (k1 ((s.1 + (m_min (x3 - s.1) v24)), (s.2.1 + 1), h26) hK) rfl ⟨rfl, rfl, rfl, rfl, rfl, rfl, trivial⟩
          · refine g_if (t := 104) rfl (m_neT c19) ?_
            refine g_in eF10_useSort_104 mx2010 ?_
            refine g_ch [(5, .int (s.2.1 + 1)), (0, .ref x0), (1, .int x1), (2, .int x2), (3, .int x3), (4, .int s.1)] [] (pc' := 107) rfl rfl rfl ?_
            refine g_goto (t := 6) rfl ?_
            cases h
            exact r_lv (k1 (s.1, (s.2.1 + 1), s.2.2) hK) rfl ⟨rfl, rfl, rfl, rfl, rfl, rfl, trivial⟩
        · refine g_if (t := 104) rfl (m_neT c14) ?_
          refine g_in eF10_useSort_104 mx2010 ?_
          refine g_ch [(5, .int (s.2.1 + 1)), (0, .ref x0), (1, .int x1), (2, .int x2), (3, .int x3), (4, .int s.1)] [] (pc' := 107) rfl rfl rfl ?_
          refine g_goto (t := 6) rfl ?_
          cases h
          exact r_lv (k1 (s.1, (s.2.1 + 1), s.2.2) hK) rfl ⟨rfl, rfl, rfl, rfl, rfl, rfl, trivial⟩
theorem SF10_useSort_6 {xs : Nat → Int32} {L : Nat} (x0 : Nat) (x1 : Int32) (x2 : Int32) (x3 : Int32) (x4 : Int32) (x5 : Int32) (hp : m_H) {r : m_O × m_H} {K : Int32 × m_H → Prop} (k0 : ∀ x, K x → r = (.inl (some (.int x.1)), x.2)) {t : Int32 × m_H} (h : F10_useSort_6 x0 x1 x2 x3 x4 x5 hp = some t) (hK : K t) : m_Rn xs L 7 2010 6 [(0, .ref x0), (1, .int x1), (2, .int x2), (3, .int x3), (4, .int x4), (5, .int x5)] [] hp r :=
  m_wh_ok (P := fun s => m_Rn xs L 7 2010 6 [(0, .ref x0), (1, .int x1), (2, .int x2), (3, .int x3), (4, .int s.1), (5, .int s.2.1)] [] s.2.2 r) (Q := K) (fun s t hb hK => SF10_useSort_6b x0 x1 x2 x3 s (K := m_KK (fun s => m_Rn xs L 7 2010 6 [(0, .ref x0), (1, .int x1), (2, .int x2), (3, .int x3), (4, .int s.1), (5, .int s.2.1)] [] s.2.2 r) K) k0 (fun _ q => q) hb hK) m_N _ _ h hK
theorem SF10_useSort_0 {xs : Nat → Int32} {L : Nat} (x0 : Nat) (x1 : Int32) (x2 : Int32) (x3 : Int32) (hp : m_H) {r : m_O × m_H} {K : (Int32 × m_H) → Prop} (k0 : ∀ x, K x → r = (.inl (some (.int x.1)), x.2)) {t : Int32 × m_H} (h : F10_useSort_0 x0 x1 x2 x3 hp = some t) (hK : K t) : m_Rn xs L 7 2010 0 [(0, .ref x0), (1, .int x1), (2, .int x2), (3, .int x3)] [] hp r := by
  unfold F10_useSort_0 at h
  refine g_in eF10_useSort_0 mx2010 ?_
  refine g_ch [(5, .int 0), (4, .int 0), (0, .ref x0), (1, .int x1), (2, .int x2), (3, .int x3)] [] (pc' := 6) rfl rfl rfl ?_
  refine g_end ?_
  exact r_lv (SF10_useSort_6 x0 x1 x2 x3 0 0 hp (K := K) k0 h hK) rfl ⟨rfl, rfl, rfl, rfl, rfl, rfl, trivial⟩
theorem SF10_useSort {xs : Nat → Int32} {L : Nat} {x0 : Nat} {x1 : Int32} {x2 : Int32} {x3 : Int32} {hp : m_H} {x : Int32 × m_H} (h : F10_useSort x0 x1 x2 x3 hp = some x) : m_Rn xs L 7 2010 0 (lv_args 0 [.ref x0, .int x1, .int x2, .int x3]) [] hp (.inl (some (.int x.1)), x.2) :=
  r_lv (SF10_useSort_0 x0 x1 x2 x3 hp (K := fun y => y = x) (fun y e => by rw [e]) h rfl) rfl ⟨rfl, rfl, rfl, rfl, trivial⟩
-- F10_useGoods: LendHouse$Turn.useGoods(LLendHouse$House;I)V
theorem eF10_useGoods_0 : m_Fe mi10_9 0 (m_ap [(.aload_n 0, 1)] ((.getfield 48, 3) :: (m_ap [(.iload_n 1, 1), (.iconst 1, 1)] ((.invokevirtual 37, 3) :: ([(.ifCond .ge 7, 3)]))))) := m_Fe_of nd2009 0 6 rfl
theorem eF10_useGoods_16 : m_Fe mi10_9 16 (m_ap [(.iconst 0, 1)] ([])) := m_Fe_of nd2009 8 1 rfl
theorem eF10_useGoods_12 : m_Fe mi10_9 12 (m_ap [(.iconst 1, 1)] ([(.goto 4, 3)])) := m_Fe_of nd2009 6 2 rfl
theorem eF10_useGoods_17 : m_Fe mi10_9 17 (m_ap [(.istore_n 2, 1), (.iconst 0, 1), (.istore_n 3, 1)] ([])) := m_Fe_of nd2009 9 3 rfl
theorem eF10_useGoods_20 : m_Fe mi10_9 20 (m_ap [(.iload_n 3, 1), (.bipush 8, 2)] ([(.if_icmp .ge 64, 3)])) := m_Fe_of nd2009 12 3 rfl
theorem eF10_useGoods_87 : m_Fe mi10_9 87 ([(.return_, 1)]) := m_Fe_of nd2009 47 1 rfl
theorem eF10_useGoods_26 : m_Fe mi10_9 26 (m_ap [(.aload_n 0, 1)] ((.getfield 109, 3) :: (m_ap [(.iload_n 1, 1), (.iload_n 3, 1)] ((.invokestatic 112, 3) :: (m_ap [(.iconst 0, 1)] ((.invokevirtual 37, 3) :: (m_ap [(.istore 4, 2), (.iload 4, 2)] ([(.ifCond .le 38, 3)])))))))) := m_Fe_of nd2009 15 10 rfl
theorem eF10_useGoods_81 : m_Fe mi10_9 81 (m_ap [(.iinc 3 1, 3)] ([(.goto (-64), 3)])) := m_Fe_of nd2009 45 2 rfl
theorem eF10_useGoods_46 : m_Fe mi10_9 46 (m_ap [(.aload_n 0, 1), (.iload_n 1, 1), (.iload_n 3, 1), (.iload_n 2, 1)] ([(.ifCond .eq 10, 3)])) := m_Fe_of nd2009 25 5 rfl
theorem eF10_useGoods_60 : m_Fe mi10_9 60 (m_ap [(.iload 4, 2)] ([])) := m_Fe_of nd2009 34 1 rfl
theorem eF10_useGoods_53 : m_Fe mi10_9 53 (m_ap [(.iload 4, 2), (.iconst 2, 1)] ((.idiv, 1) :: ([(.goto 5, 3)]))) := m_Fe_of nd2009 30 4 rfl
theorem eF10_useGoods_62 : m_Fe mi10_9 62 ((.invokestatic 123, 3) :: (m_ap [(.istore 5, 2), (.aload_n 0, 1)] ((.getfield 48, 3) :: (m_ap [(.iload_n 1, 1), (.iconst 0, 1), (.iload 4, 2), (.iload 5, 2), (.isub, 1)] ([(.invokevirtual 51, 3)]))))) := m_Fe_of nd2009 35 10 rfl
theorem SF10_useGoods_62 {xs : Nat → Int32} {L : Nat} (x0 : Nat) (x1 : Int32) (x2 : Int32) (x3 : Int32) (x4 : Int32) (s0 : Int32) (s1 : Int32) (s2 : Int32) (s3 : Nat) (hp : m_H) {r : m_O × m_H} {K : ((Int32 × m_H) ⊕ m_H) → Prop} (k0 : ∀ x, K (.inr x) → r = (.inl none, x)) (k1 : ∀ s, K (.inl s) → m_Rn xs L 8 2009 20 [(0, .ref x0), (1, .int x1), (2, .int x2), (3, .int s.1)] [] s.2 r) {t : (Int32 × m_H) ⊕ m_H} (h : F10_useGoods_62 x0 x1 x2 x3 x4 s0 s1 s2 s3 hp = some t) (hK : K t) : m_Rn xs L 8 2009 62 [(0, .ref x0), (1, .int x1), (2, .int x2), (3, .int x3), (4, .int x4)] [.int s0, .int s1, .int s2, .ref s3] hp r := by
  unfold F10_useGoods_62 at h
  refine g_in eF10_useGoods_62 mx2009 ?_
  obtain ⟨z2, e1, h⟩ := m_bd h
  refine g_call (v := some (.int z2.1)) (h := z2.2) (st' := [.int z2.1]) (D1 := 7) (as := [.ref s3, .int s2, .int s1, .int s0]) (Or.inl rfl) q10_m123 (m_cs (as := [.int s0, .int s1, .int s2, .ref s3]) (rest := []) q10_m123 jv2010 rfl rfl rfl rfl rfl) (by decide) (SF10_useSort e1) rfl ?_
  refine g_ch [(5, .int z2.1), (0, .ref x0), (1, .int x1), (2, .int x2), (3, .int x3), (4, .int x4)] [.ref x0] (pc' := 68) rfl rfl rfl ?_
  obtain ⟨v3, e4, h⟩ := m_bd h
  refine g_gr q10_f48 e4 ?_
  refine g_ch [(5, .int z2.1), (0, .ref x0), (1, .int x1), (2, .int x2), (3, .int x3), (4, .int x4)] [.int (x4 - z2.1), .int 0, .int x1, .ref v3] (pc' := 78) rfl rfl rfl ?_
  obtain ⟨h6, e5, h⟩ := m_bd h
  refine g_call (v := none) (h := h6) (st' := []) (D1 := 1) (as := [.ref v3, .int x1, .int 0, .int (x4 - z2.1)]) (Or.inr (Or.inl rfl)) q10_m51 (m_cv (as := [.int (x4 - z2.1), .int 0, .int x1]) (rest := []) (Or.inl rfl) q10_m51 jv1606 (OF8_raise e5) rfl rfl rfl rfl) (by decide) (SF8_raise e5) rfl ?_
  refine g_end ?_
  refine g_in eF10_useGoods_81 mx2009 ?_
  refine g_ch [(3, .int (x3 + 1)), (5, .int z2.1), (0, .ref x0), (1, .int x1), (2, .int x2), (4, .int x4)] [] (pc' := 84) rfl rfl rfl ?_
  refine g_goto (t := 20) rfl ?_
  cases h
  exact r_lv (k1 ((x3 + 1), h6) hK) rfl ⟨rfl, rfl, rfl, rfl, trivial⟩
theorem SF10_useGoods_20b {xs : Nat → Int32} {L : Nat} (x0 : Nat) (x1 : Int32) (x2 : Int32) (s : Int32 × m_H) {r : m_O × m_H} {K : ((Int32 × m_H) ⊕ m_H) → Prop} (k0 : ∀ x, K (.inr x) → r = (.inl none, x)) (k1 : ∀ s, K (.inl s) → m_Rn xs L 8 2009 20 [(0, .ref x0), (1, .int x1), (2, .int x2), (3, .int s.1)] [] s.2 r) {t : (Int32 × m_H) ⊕ m_H} (h : F10_useGoods_20b x0 x1 x2 s = some t) (hK : K t) : m_Rn xs L 8 2009 20 [(0, .ref x0), (1, .int x1), (2, .int x2), (3, .int s.1)] [] s.2 r := by
  unfold F10_useGoods_20b at h
  refine g_in eF10_useGoods_20 mx2009 ?_
  refine g_ch [(0, .ref x0), (1, .int x1), (2, .int x2), (3, .int s.1)] [.int 8, .int s.1] (pc' := 23) rfl rfl rfl ?_
  rcases m_ifd h with ⟨c1, h⟩ | ⟨c1, h⟩
  · refine g_if (t := 87) rfl (m_geT c1) ?_
    refine g_in eF10_useGoods_87 mx2009 ?_
    cases h
    rw [k0 _ hK]
    exact g_vret rfl
  · refine g_ifn (t := 87) rfl (m_geF c1) ?_
    refine g_in eF10_useGoods_26 mx2009 ?_
    refine g_ch [(0, .ref x0), (1, .int x1), (2, .int x2), (3, .int s.1)] [.ref x0] (pc' := 27) rfl rfl rfl ?_
    obtain ⟨v2, e3, h⟩ := m_bd h
    refine g_gr q10_f109 e3 ?_
    refine g_ch [(0, .ref x0), (1, .int x1), (2, .int x2), (3, .int s.1)] [.int s.1, .int x1, .ref v2] (pc' := 32) rfl rfl rfl ?_
    obtain ⟨v5, e4, h⟩ := m_bd h
    refine g_call (v := some (.int v5)) (h := s.2) (st' := [.int v5, .ref v2]) (D1 := 0) (as := [.int x1, .int s.1]) (Or.inl rfl) q10_m112 (m_cs (as := [.int s.1, .int x1]) (rest := [.ref v2]) q10_m112 jv603 rfl rfl rfl rfl rfl) (by decide) (SF3_tradeRow e4) rfl ?_
    refine g_ch [(0, .ref x0), (1, .int x1), (2, .int x2), (3, .int s.1)] [.int 0, .int v5, .ref v2] (pc' := 36) rfl rfl rfl ?_
    obtain ⟨v7, e6, h⟩ := m_bd h
    refine g_call (v := some (.int v7)) (h := s.2) (st' := [.int v7]) (D1 := 1) (as := [.ref v2, .int v5, .int 0]) (Or.inr (Or.inl rfl)) q10_m37 (m_cv (as := [.int 0, .int v5]) (rest := []) (Or.inl rfl) q10_m37 jv1604 (OF8_get e6) rfl rfl rfl rfl) (by decide) (SF8_get e6) rfl ?_
    refine g_ch [(4, .int v7), (0, .ref x0), (1, .int x1), (2, .int x2), (3, .int s.1)] [.int v7] (pc' := 43) rfl rfl rfl ?_
    rcases m_ifd h with ⟨c8, h⟩ | ⟨c8, h⟩
    · refine g_ifc (t := 81) rfl (m_leT c8) ?_
      refine g_in eF10_useGoods_81 mx2009 ?_
      refine g_ch [(3, .int (s.1 + 1)), (4, .int v7), (0, .ref x0), (1, .int x1), (2, .int x2)] [] (pc' := 84) rfl rfl rfl ?_
      refine g_goto (t := 20) rfl ?_
      cases h
      exact r_lv (k1 ((s.1 + 1), s.2) hK) rfl ⟨rfl, rfl, rfl, rfl, trivial⟩
    · refine g_ifcn (t := 81) rfl (m_leF c8) ?_
      refine g_in eF10_useGoods_46 mx2009 ?_
      refine g_ch [(4, .int v7), (0, .ref x0), (1, .int x1), (2, .int x2), (3, .int s.1)] [.int x2, .int s.1, .int x1, .ref x0] (pc' := 50) rfl rfl rfl ?_
      rcases m_ifd h with ⟨c9, h⟩ | ⟨c9, h⟩
      · refine g_ifc (t := 60) rfl (m_eqT c9) ?_
        refine g_in eF10_useGoods_60 mx2009 ?_
        refine g_ch [(4, .int v7), (0, .ref x0), (1, .int x1), (2, .int x2), (3, .int s.1)] [.int v7, .int s.1, .int x1, .ref x0] (pc' := 62) rfl rfl rfl ?_
        refine g_end ?_
        exact r_lv (SF10_useGoods_62 x0 x1 x2 s.1 v7 v7 s.1 x1 x0 s.2 (K := K) k0 k1 h hK) rfl ⟨rfl, rfl, rfl, rfl, rfl, trivial⟩
      · refine g_ifcn (t := 60) rfl (m_eqF c9) ?_
        refine g_in eF10_useGoods_53 mx2009 ?_
        refine g_ch [(4, .int v7), (0, .ref x0), (1, .int x1), (2, .int x2), (3, .int s.1)] [.int 2, .int v7, .int s.1, .int x1, .ref x0] (pc' := 56) rfl rfl rfl ?_
        obtain ⟨v10, e11, h⟩ := m_bd h
        refine g_dv e11 ?_
        refine g_goto (t := 62) rfl ?_
        exact r_lv (SF10_useGoods_62 x0 x1 x2 s.1 v7 v10 s.1 x1 x0 s.2 (K := K) k0 k1 h hK) rfl ⟨rfl, rfl, rfl, rfl, rfl, trivial⟩
theorem SF10_useGoods_20 {xs : Nat → Int32} {L : Nat} (x0 : Nat) (x1 : Int32) (x2 : Int32) (x3 : Int32) (hp : m_H) {r : m_O × m_H} {K : m_H → Prop} (k0 : ∀ x, K x → r = (.inl none, x)) {t : m_H} (h : F10_useGoods_20 x0 x1 x2 x3 hp = some t) (hK : K t) : m_Rn xs L 8 2009 20 [(0, .ref x0), (1, .int x1), (2, .int x2), (3, .int x3)] [] hp r :=
  m_wh_ok (P := fun s => m_Rn xs L 8 2009 20 [(0, .ref x0), (1, .int x1), (2, .int x2), (3, .int s.1)] [] s.2 r) (Q := K) (fun s t hb hK => SF10_useGoods_20b x0 x1 x2 s (K := m_KK (fun s => m_Rn xs L 8 2009 20 [(0, .ref x0), (1, .int x1), (2, .int x2), (3, .int s.1)] [] s.2 r) K) k0 (fun _ q => q) hb hK) m_N _ _ h hK
theorem SF10_useGoods_17 {xs : Nat → Int32} {L : Nat} (x0 : Nat) (x1 : Int32) (s0 : Int32) (hp : m_H) {r : m_O × m_H} {K : m_H → Prop} (k0 : ∀ x, K x → r = (.inl none, x)) {t : m_H} (h : F10_useGoods_17 x0 x1 s0 hp = some t) (hK : K t) : m_Rn xs L 8 2009 17 [(0, .ref x0), (1, .int x1)] [.int s0] hp r := by
  unfold F10_useGoods_17 at h
  refine g_in eF10_useGoods_17 mx2009 ?_
  refine g_ch [(3, .int 0), (2, .int s0), (0, .ref x0), (1, .int x1)] [] (pc' := 20) rfl rfl rfl ?_
  refine g_end ?_
  exact r_lv (SF10_useGoods_20 x0 x1 s0 0 hp (K := K) k0 h hK) rfl ⟨rfl, rfl, rfl, rfl, trivial⟩
theorem SF10_useGoods_0 {xs : Nat → Int32} {L : Nat} (x0 : Nat) (x1 : Int32) (hp : m_H) {r : m_O × m_H} {K : m_H → Prop} (k0 : ∀ x, K x → r = (.inl none, x)) {t : m_H} (h : F10_useGoods_0 x0 x1 hp = some t) (hK : K t) : m_Rn xs L 8 2009 0 [(0, .ref x0), (1, .int x1)] [] hp r := by
  unfold F10_useGoods_0 at h
  refine g_in eF10_useGoods_0 mx2009 ?_
  refine g_ch [(0, .ref x0), (1, .int x1)] [.ref x0] (pc' := 1) rfl rfl rfl ?_
  obtain ⟨v1, e2, h⟩ := m_bd h
  refine g_gr q10_f48 e2 ?_
  refine g_ch [(0, .ref x0), (1, .int x1)] [.int 1, .int x1, .ref v1] (pc' := 6) rfl rfl rfl ?_
  obtain ⟨v4, e3, h⟩ := m_bd h
  refine g_call (v := some (.int v4)) (h := hp) (st' := [.int v4]) (D1 := 1) (as := [.ref v1, .int x1, .int 1]) (Or.inr (Or.inl rfl)) q10_m37 (m_cv (as := [.int 1, .int x1]) (rest := []) (Or.inl rfl) q10_m37 jv1604 (OF8_get e3) rfl rfl rfl rfl) (by decide) (SF8_get e3) rfl ?_
  rcases m_ifd h with ⟨c5, h⟩ | ⟨c5, h⟩
  · refine g_ifc (t := 16) rfl (m_geT c5) ?_
    refine g_in eF10_useGoods_16 mx2009 ?_
    refine g_ch [(0, .ref x0), (1, .int x1)] [.int 0] (pc' := 17) rfl rfl rfl ?_
    refine g_end ?_
    exact r_lv (SF10_useGoods_17 x0 x1 0 hp (K := K) k0 h hK) rfl ⟨rfl, rfl, trivial⟩
  · refine g_ifcn (t := 16) rfl (m_geF c5) ?_
    refine g_in eF10_useGoods_12 mx2009 ?_
    refine g_ch [(0, .ref x0), (1, .int x1)] [.int 1] (pc' := 13) rfl rfl rfl ?_
    refine g_goto (t := 17) rfl ?_
    exact r_lv (SF10_useGoods_17 x0 x1 1 hp (K := K) k0 h hK) rfl ⟨rfl, rfl, trivial⟩
theorem SF10_useGoods {xs : Nat → Int32} {L : Nat} {x0 : Nat} {x1 : Int32} {hp : m_H} {x : m_H} (h : F10_useGoods x0 x1 hp = some x) : m_Rn xs L 8 2009 0 (lv_args 0 [.ref x0, .int x1]) [] hp (.inl none, x) :=
  r_lv (SF10_useGoods_0 x0 x1 hp (K := fun y => y = x) (fun y e => by rw [e]) h rfl) rfl ⟨rfl, rfl, trivial⟩
-- F10_collectYields: LendHouse$Turn.collectYields(LLendHouse$House;)V
theorem eF10_collectYields_0 : m_Fe mi10_11 0 (m_ap [(.iconst 0, 1), (.istore_n 1, 1)] ([])) := m_Fe_of nd2011 0 2 rfl
theorem eF10_collectYields_2 : m_Fe mi10_11 2 (m_ap [(.iload_n 1, 1), (.aload_n 0, 1)] ((.getfield 133, 3) :: ((.getfield 32, 3) :: ([(.if_icmp .ge 55, 3)])))) := m_Fe_of nd2011 2 5 rfl
theorem eF10_collectYields_65 : m_Fe mi10_11 65 ([(.return_, 1)]) := m_Fe_of nd2011 35 1 rfl
theorem eF10_collectYields_13 : m_Fe mi10_11 13 (m_ap [(.aload_n 0, 1)] ((.getfield 9, 3) :: (m_ap [(.aload_n 0, 1)] ((.getfield 133, 3) :: (m_ap [(.iload_n 1, 1), (.iconst 1, 1)] ((.invokevirtual 37, 3) :: (m_ap [(.isub, 1), (.istore_n 2, 1), (.iload_n 2, 1), (.aload_n 0, 1)] ((.getfield 133, 3) :: (m_ap [(.iload_n 1, 1), (.iconst 2, 1)] ((.invokevirtual 37, 3) :: ([(.if_icmp .gt 21, 3)]))))))))))) := m_Fe_of nd2011 7 16 rfl
theorem eF10_collectYields_59 : m_Fe mi10_11 59 (m_ap [(.iinc 1 1, 3)] ([(.goto (-60), 3)])) := m_Fe_of nd2011 33 2 rfl
theorem eF10_collectYields_41 : m_Fe mi10_11 41 (m_ap [(.aload_n 0, 1)] ((.getfield 133, 3) :: (m_ap [(.iload_n 1, 1), (.iconst 5, 1), (.aload_n 0, 1)] ((.getfield 133, 3) :: (m_ap [(.iload_n 1, 1), (.iconst 4, 1)] ((.invokevirtual 37, 3) :: ([(.invokevirtual 51, 3)]))))))) := m_Fe_of nd2011 23 10 rfl
theorem SF10_collectYields_2b {xs : Nat → Int32} {L : Nat} (x0 : Nat) (s : Int32 × m_H) {r : m_O × m_H} {K : ((Int32 × m_H) ⊕ m_H) → Prop} (k0 : ∀ x, K (.inr x) → r = (.inl none, x)) (k1 : ∀ s, K (.inl s) → m_Rn xs L 2 2011 2 [(0, .ref x0), (1, .int s.1)] [] s.2 r) {t : (Int32 × m_H) ⊕ m_H} (h : F10_collectYields_2b x0 s = some t) (hK : K t) : m_Rn xs L 2 2011 2 [(0, .ref x0), (1, .int s.1)] [] s.2 r := by
  unfold F10_collectYields_2b at h
  refine g_in eF10_collectYields_2 mx2011 ?_
  refine g_ch [(0, .ref x0), (1, .int s.1)] [.ref x0, .int s.1] (pc' := 4) rfl rfl rfl ?_
  obtain ⟨v1, e2, h⟩ := m_bd h
  refine g_gr q10_f133 e2 ?_
  obtain ⟨v3, e4, h⟩ := m_bd h
  refine g_gi q10_f32 e4 ?_
  rcases m_ifd h with ⟨c5, h⟩ | ⟨c5, h⟩
  · refine g_if (t := 65) rfl (m_geT c5) ?_
    refine g_in eF10_collectYields_65 mx2011 ?_
    cases h
    rw [k0 _ hK]
    exact g_vret rfl
  · refine g_ifn (t := 65) rfl (m_geF c5) ?_
    refine g_in eF10_collectYields_13 mx2011 ?_
    refine g_ch [(0, .ref x0), (1, .int s.1)] [.ref x0] (pc' := 14) rfl rfl rfl ?_
    obtain ⟨v6, e7, h⟩ := m_bd h
    refine g_gi q10_f9 e7 ?_
    refine g_ch [(0, .ref x0), (1, .int s.1)] [.ref x0, .int v6] (pc' := 18) rfl rfl rfl ?_
    obtain ⟨v8, e9, h⟩ := m_bd h
    refine g_gr q10_f133 e9 ?_
    refine g_ch [(0, .ref x0), (1, .int s.1)] [.int 1, .int s.1, .ref v8, .int v6] (pc' := 23) rfl rfl rfl ?_
    obtain ⟨v11, e10, h⟩ := m_bd h
    refine g_call (v := some (.int v11)) (h := s.2) (st' := [.int v11, .int v6]) (D1 := 1) (as := [.ref v8, .int s.1, .int 1]) (Or.inr (Or.inl rfl)) q10_m37 (m_cv (as := [.int 1, .int s.1]) (rest := [.int v6]) (Or.inl rfl) q10_m37 jv1604 (OF8_get e10) rfl rfl rfl rfl) (by decide) (SF8_get e10) rfl ?_
    refine g_ch [(2, .int (v6 - v11)), (0, .ref x0), (1, .int s.1)] [.ref x0, .int (v6 - v11)] (pc' := 30) rfl rfl rfl ?_
    obtain ⟨v12, e13, h⟩ := m_bd h
    refine g_gr q10_f133 e13 ?_
    refine g_ch [(2, .int (v6 - v11)), (0, .ref x0), (1, .int s.1)] [.int 2, .int s.1, .ref v12, .int (v6 - v11)] (pc' := 35) rfl rfl rfl ?_
    obtain ⟨v15, e14, h⟩ := m_bd h
    refine g_call (v := some (.int v15)) (h := s.2) (st' := [.int v15, .int (v6 - v11)]) (D1 := 1) (as := [.ref v12, .int s.1, .int 2]) (Or.inr (Or.inl rfl)) q10_m37 (m_cv (as := [.int 2, .int s.1]) (rest := [.int (v6 - v11)]) (Or.inl rfl) q10_m37 jv1604 (OF8_get e14) rfl rfl rfl rfl) (by decide) (SF8_get e14) rfl ?_
    rcases m_ifd h with ⟨c16, h⟩ | ⟨c16, h⟩
    · refine g_if (t := 59) rfl (m_gtT c16) ?_
      refine g_in eF10_collectYields_59 mx2011 ?_
      refine g_ch [(1, .int (s.1 + 1)), (2, .int (v6 - v11)), (0, .ref x0)] [] (pc' := 62) rfl rfl rfl ?_
      refine g_goto (t := 2) rfl ?_
      cases h
      exact r_lv (k1 ((s.1 + 1), s.2) hK) rfl ⟨rfl, rfl, trivial⟩
    · refine g_ifn (t := 59) rfl (m_gtF c16) ?_
      refine g_in eF10_collectYields_41 mx2011 ?_
      refine g_ch [(2, .int (v6 - v11)), (0, .ref x0), (1, .int s.1)] [.ref x0] (pc' := 42) rfl rfl rfl ?_
      obtain ⟨v17, e18, h⟩ := m_bd h
      refine g_gr q10_f133 e18 ?_
      refine g_ch [(2, .int (v6 - v11)), (0, .ref x0), (1, .int s.1)] [.ref x0, .int 5, .int s.1, .ref v17] (pc' := 48) rfl rfl rfl ?_
      obtain ⟨v19, e20, h⟩ := m_bd h
      refine g_gr q10_f133 e20 ?_
      refine g_ch [(2, .int (v6 - v11)), (0, .ref x0), (1, .int s.1)] [.int 4, .int s.1, .ref v19, .int 5, .int s.1, .ref v17] (pc' := 53) rfl rfl rfl ?_
      obtain ⟨v22, e21, h⟩ := m_bd h
      refine g_call (v := some (.int v22)) (h := s.2) (st' := [.int v22, .int 5, .int s.1, .ref v17]) (D1 := 1) (as := [.ref v19, .int s.1, .int 4]) (Or.inr (Or.inl rfl)) q10_m37 (m_cv (as := [.int 4, .int s.1]) (rest := [.int 5, .int s.1, .ref v17]) (Or.inl rfl) q10_m37 jv1604 (OF8_get e21) rfl rfl rfl rfl) (by decide) (SF8_get e21) rfl ?_
      obtain ⟨h24, e23, h⟩ := m_bd h
      refine g_call (v := none) (h := h24) (st' := []) (D1 := 1) (as := [.ref v17, .int s.1, .int 5, .int v22]) (Or.inr (Or.inl rfl)) q10_m51 (m_cv (as := [.int v22, .int 5, .int s.1]) (rest := []) (Or.inl rfl) q10_m51 jv1606 (OF8_raise e23) rfl rfl rfl rfl) (by decide) (SF8_raise e23) rfl ?_
      refine g_end ?_
      refine g_in eF10_collectYields_59 mx2011 ?_
      refine g_ch [(1, .int (s.1 + 1)), (2, .int (v6 - v11)), (0, .ref x0)] [] (pc' := 62) rfl rfl rfl ?_
      refine g_goto (t := 2) rfl ?_
      cases h
      exact r_lv (k1 ((s.1 + 1), h24) hK) rfl ⟨rfl, rfl, trivial⟩
theorem SF10_collectYields_2 {xs : Nat → Int32} {L : Nat} (x0 : Nat) (x1 : Int32) (hp : m_H) {r : m_O × m_H} {K : m_H → Prop} (k0 : ∀ x, K x → r = (.inl none, x)) {t : m_H} (h : F10_collectYields_2 x0 x1 hp = some t) (hK : K t) : m_Rn xs L 2 2011 2 [(0, .ref x0), (1, .int x1)] [] hp r :=
  m_wh_ok (P := fun s => m_Rn xs L 2 2011 2 [(0, .ref x0), (1, .int s.1)] [] s.2 r) (Q := K) (fun s t hb hK => SF10_collectYields_2b x0 s (K := m_KK (fun s => m_Rn xs L 2 2011 2 [(0, .ref x0), (1, .int s.1)] [] s.2 r) K) k0 (fun _ q => q) hb hK) m_N _ _ h hK
theorem SF10_collectYields_0 {xs : Nat → Int32} {L : Nat} (x0 : Nat) (hp : m_H) {r : m_O × m_H} {K : m_H → Prop} (k0 : ∀ x, K x → r = (.inl none, x)) {t : m_H} (h : F10_collectYields_0 x0 hp = some t) (hK : K t) : m_Rn xs L 2 2011 0 [(0, .ref x0)] [] hp r := by
  unfold F10_collectYields_0 at h
  refine g_in eF10_collectYields_0 mx2011 ?_
  refine g_ch [(1, .int 0), (0, .ref x0)] [] (pc' := 2) rfl rfl rfl ?_
  refine g_end ?_
  exact r_lv (SF10_collectYields_2 x0 0 hp (K := K) k0 h hK) rfl ⟨rfl, rfl, trivial⟩
theorem SF10_collectYields {xs : Nat → Int32} {L : Nat} {x0 : Nat} {hp : m_H} {x : m_H} (h : F10_collectYields x0 hp = some x) : m_Rn xs L 2 2011 0 (lv_args 0 [.ref x0]) [] hp (.inl none, x) :=
  r_lv (SF10_collectYields_0 x0 hp (K := fun y => y = x) (fun y e => by rw [e]) h rfl) rfl ⟨rfl, trivial⟩
-- F10_pass: LendHouse$Turn.pass(LLendHouse$House;)V
theorem eF10_pass_0 : m_Fe mi10_0 0 (m_ap [(.aload_n 0, 1), (.dup, 1)] ((.getfield 9, 3) :: (m_ap [(.iconst 1, 1), (.iadd, 1)] ((.putfield 9, 3) :: (m_ap [(.aload_n 0, 1)] ((.getfield 15, 3) :: ([(.ifCond .eq 4, 3)]))))))) := m_Fe_of nd2000 0 9 rfl
theorem eF10_pass_18 : m_Fe mi10_0 18 (m_ap [(.aload_n 0, 1)] ((.invokestatic 19, 3) :: (m_ap [(.aload_n 0, 1)] ((.invokestatic 25, 3) :: (m_ap [(.iconst 0, 1), (.istore_n 1, 1)] ([])))))) := m_Fe_of nd2000 10 6 rfl
theorem eF10_pass_17 : m_Fe mi10_0 17 ([(.return_, 1)]) := m_Fe_of nd2000 9 1 rfl
theorem eF10_pass_28 : m_Fe mi10_0 28 (m_ap [(.iload_n 1, 1), (.aload_n 0, 1)] ((.getfield 28, 3) :: ((.getfield 32, 3) :: ([(.if_icmp .ge 34, 3)])))) := m_Fe_of nd2000 16 5 rfl
theorem eF10_pass_70 : m_Fe mi10_0 70 (m_ap [(.iconst 1, 1), (.istore_n 1, 1)] ([])) := m_Fe_of nd2000 38 2 rfl
theorem eF10_pass_39 : m_Fe mi10_0 39 (m_ap [(.aload_n 0, 1)] ((.getfield 28, 3) :: (m_ap [(.iload_n 1, 1), (.iconst 2, 1)] ((.invokevirtual 37, 3) :: (m_ap [(.istore_n 2, 1), (.iload_n 2, 1), (.iconst 1, 1)] ([(.if_icmp .eq 8, 3)])))))) := m_Fe_of nd2000 21 9 rfl
theorem eF10_pass_59 : m_Fe mi10_0 59 (m_ap [(.aload_n 0, 1), (.iload_n 1, 1)] ([(.invokestatic 41, 3)])) := m_Fe_of nd2000 33 3 rfl
theorem eF10_pass_64 : m_Fe mi10_0 64 (m_ap [(.iinc 1 1, 3)] ([(.goto (-39), 3)])) := m_Fe_of nd2000 36 2 rfl
theorem eF10_pass_54 : m_Fe mi10_0 54 (m_ap [(.iload_n 2, 1), (.iconst 3, 1)] ([(.if_icmp .ne 8, 3)])) := m_Fe_of nd2000 30 3 rfl
theorem eF10_pass_72 : m_Fe mi10_0 72 (m_ap [(.iload_n 1, 1), (.bipush 6, 2)] ([(.if_icmp .ge 14, 3)])) := m_Fe_of nd2000 40 3 rfl
theorem eF10_pass_89 : m_Fe mi10_0 89 (m_ap [(.iconst 1, 1), (.istore_n 1, 1)] ([])) := m_Fe_of nd2000 48 2 rfl
theorem eF10_pass_78 : m_Fe mi10_0 78 (m_ap [(.aload_n 0, 1), (.iload_n 1, 1)] ((.invokestatic 45, 3) :: (m_ap [(.iinc 1 1, 3)] ([(.goto (-14), 3)])))) := m_Fe_of nd2000 43 5 rfl
theorem eF10_pass_91 : m_Fe mi10_0 91 (m_ap [(.iload_n 1, 1), (.bipush 6, 2)] ([(.if_icmp .ge 31, 3)])) := m_Fe_of nd2000 50 3 rfl
theorem eF10_pass_125 : m_Fe mi10_0 125 (m_ap [(.aload_n 0, 1)] ((.invokestatic 55, 3) :: ([(.return_, 1)]))) := m_Fe_of nd2000 67 3 rfl
theorem eF10_pass_97 : m_Fe mi10_0 97 (m_ap [(.aload_n 0, 1)] ((.getfield 48, 3) :: (m_ap [(.iload_n 1, 1), (.iconst 1, 1)] ((.invokevirtual 37, 3) :: ([(.ifCond .ge 13, 3)]))))) := m_Fe_of nd2000 53 6 rfl
theorem eF10_pass_119 : m_Fe mi10_0 119 (m_ap [(.iinc 1 1, 3)] ([(.goto (-31), 3)])) := m_Fe_of nd2000 65 2 rfl
theorem eF10_pass_109 : m_Fe mi10_0 109 (m_ap [(.aload_n 0, 1)] ((.getfield 48, 3) :: (m_ap [(.iload_n 1, 1), (.iconst 1, 1), (.iconst 1, 1)] ([(.invokevirtual 51, 3)])))) := m_Fe_of nd2000 59 6 rfl
theorem SF10_pass_91b {xs : Nat → Int32} {L : Nat} (x0 : Nat) (s : Int32 × m_H) {r : m_O × m_H} {K : ((Int32 × m_H) ⊕ m_H) → Prop} (k0 : ∀ x, K (.inr x) → r = (.inl none, x)) (k1 : ∀ s, K (.inl s) → m_Rn xs L 9 2000 91 [(0, .ref x0), (1, .int s.1)] [] s.2 r) {t : (Int32 × m_H) ⊕ m_H} (h : F10_pass_91b x0 s = some t) (hK : K t) : m_Rn xs L 9 2000 91 [(0, .ref x0), (1, .int s.1)] [] s.2 r := by
  unfold F10_pass_91b at h
  refine g_in eF10_pass_91 mx2000 ?_
  refine g_ch [(0, .ref x0), (1, .int s.1)] [.int 6, .int s.1] (pc' := 94) rfl rfl rfl ?_
  rcases m_ifd h with ⟨c1, h⟩ | ⟨c1, h⟩
  · refine g_if (t := 125) rfl (m_geT c1) ?_
    refine g_in eF10_pass_125 mx2000 ?_
    refine g_ch [(0, .ref x0), (1, .int s.1)] [.ref x0] (pc' := 126) rfl rfl rfl ?_
    obtain ⟨h3, e2, h⟩ := m_bd h
    refine g_call (v := none) (h := h3) (st' := []) (D1 := 2) (as := [.ref x0]) (Or.inl rfl) q10_m55 (m_cs (as := [.ref x0]) (rest := []) q10_m55 jv2011 rfl rfl rfl rfl rfl) (by decide) (SF10_collectYields e2) rfl ?_
    cases h
    rw [k0 _ hK]
    exact g_vret rfl
  · refine g_ifn (t := 125) rfl (m_geF c1) ?_
    refine g_in eF10_pass_97 mx2000 ?_
    refine g_ch [(0, .ref x0), (1, .int s.1)] [.ref x0] (pc' := 98) rfl rfl rfl ?_
    obtain ⟨v4, e5, h⟩ := m_bd h
    refine g_gr q10_f48 e5 ?_
    refine g_ch [(0, .ref x0), (1, .int s.1)] [.int 1, .int s.1, .ref v4] (pc' := 103) rfl rfl rfl ?_
    obtain ⟨v7, e6, h⟩ := m_bd h
    refine g_call (v := some (.int v7)) (h := s.2) (st' := [.int v7]) (D1 := 1) (as := [.ref v4, .int s.1, .int 1]) (Or.inr (Or.inl rfl)) q10_m37 (m_cv (as := [.int 1, .int s.1]) (rest := []) (Or.inl rfl) q10_m37 jv1604 (OF8_get e6) rfl rfl rfl rfl) (by decide) (SF8_get e6) rfl ?_
    rcases m_ifd h with ⟨c8, h⟩ | ⟨c8, h⟩
    · refine g_ifc (t := 119) rfl (m_geT c8) ?_
      refine g_in eF10_pass_119 mx2000 ?_
      refine g_ch [(1, .int (s.1 + 1)), (0, .ref x0)] [] (pc' := 122) rfl rfl rfl ?_
      refine g_goto (t := 91) rfl ?_
      cases h
      exact r_lv (k1 ((s.1 + 1), s.2) hK) rfl ⟨rfl, rfl, trivial⟩
    · refine g_ifcn (t := 119) rfl (m_geF c8) ?_
      refine g_in eF10_pass_109 mx2000 ?_
      refine g_ch [(0, .ref x0), (1, .int s.1)] [.ref x0] (pc' := 110) rfl rfl rfl ?_
      obtain ⟨v9, e10, h⟩ := m_bd h
      refine g_gr q10_f48 e10 ?_
      refine g_ch [(0, .ref x0), (1, .int s.1)] [.int 1, .int 1, .int s.1, .ref v9] (pc' := 116) rfl rfl rfl ?_
      obtain ⟨h12, e11, h⟩ := m_bd h
      refine g_call (v := none) (h := h12) (st' := []) (D1 := 1) (as := [.ref v9, .int s.1, .int 1, .int 1]) (Or.inr (Or.inl rfl)) q10_m51 (m_cv (as := [.int 1, .int 1, .int s.1]) (rest := []) (Or.inl rfl) q10_m51 jv1606 (OF8_raise e11) rfl rfl rfl rfl) (by decide) (SF8_raise e11) rfl ?_
      refine g_end ?_
      refine g_in eF10_pass_119 mx2000 ?_
      refine g_ch [(1, .int (s.1 + 1)), (0, .ref x0)] [] (pc' := 122) rfl rfl rfl ?_
      refine g_goto (t := 91) rfl ?_
      cases h
      exact r_lv (k1 ((s.1 + 1), h12) hK) rfl ⟨rfl, rfl, trivial⟩
theorem SF10_pass_91 {xs : Nat → Int32} {L : Nat} (x0 : Nat) (x1 : Int32) (hp : m_H) {r : m_O × m_H} {K : m_H → Prop} (k0 : ∀ x, K x → r = (.inl none, x)) {t : m_H} (h : F10_pass_91 x0 x1 hp = some t) (hK : K t) : m_Rn xs L 9 2000 91 [(0, .ref x0), (1, .int x1)] [] hp r :=
  m_wh_ok (P := fun s => m_Rn xs L 9 2000 91 [(0, .ref x0), (1, .int s.1)] [] s.2 r) (Q := K) (fun s t hb hK => SF10_pass_91b x0 s (K := m_KK (fun s => m_Rn xs L 9 2000 91 [(0, .ref x0), (1, .int s.1)] [] s.2 r) K) k0 (fun _ q => q) hb hK) m_N _ _ h hK
theorem SF10_pass_72b {xs : Nat → Int32} {L : Nat} (x0 : Nat) (s : Int32 × m_H) {r : m_O × m_H} {K : ((Int32 × m_H) ⊕ m_H) → Prop} (k0 : ∀ x, K (.inr x) → r = (.inl none, x)) (k1 : ∀ s, K (.inl s) → m_Rn xs L 9 2000 72 [(0, .ref x0), (1, .int s.1)] [] s.2 r) {t : (Int32 × m_H) ⊕ m_H} (h : F10_pass_72b x0 s = some t) (hK : K t) : m_Rn xs L 9 2000 72 [(0, .ref x0), (1, .int s.1)] [] s.2 r := by
  unfold F10_pass_72b at h
  refine g_in eF10_pass_72 mx2000 ?_
  refine g_ch [(0, .ref x0), (1, .int s.1)] [.int 6, .int s.1] (pc' := 75) rfl rfl rfl ?_
  rcases m_ifd h with ⟨c1, h⟩ | ⟨c1, h⟩
  · refine g_if (t := 89) rfl (m_geT c1) ?_
    refine g_in eF10_pass_89 mx2000 ?_
    refine g_ch [(1, .int 1), (0, .ref x0)] [] (pc' := 91) rfl rfl rfl ?_
    refine g_end ?_
    obtain ⟨t', h2, rfl⟩ := Option.map_eq_some_iff.mp h
    exact r_lv (SF10_pass_91 x0 1 s.2 (K := fun t => K (.inr t)) k0 h2 hK) rfl ⟨rfl, rfl, trivial⟩
  · refine g_ifn (t := 89) rfl (m_geF c1) ?_
    refine g_in eF10_pass_78 mx2000 ?_
    refine g_ch [(0, .ref x0), (1, .int s.1)] [.int s.1, .ref x0] (pc' := 80) rfl rfl rfl ?_
    obtain ⟨h3, e2, h⟩ := m_bd h
    refine g_call (v := none) (h := h3) (st' := []) (D1 := 8) (as := [.ref x0, .int s.1]) (Or.inl rfl) q10_m45 (m_cs (as := [.int s.1, .ref x0]) (rest := []) q10_m45 jv2009 rfl rfl rfl rfl rfl) (by decide) (SF10_useGoods e2) rfl ?_
    refine g_ch [(1, .int (s.1 + 1)), (0, .ref x0)] [] (pc' := 86) rfl rfl rfl ?_
    refine g_goto (t := 72) rfl ?_
    cases h
    exact r_lv (k1 ((s.1 + 1), h3) hK) rfl ⟨rfl, rfl, trivial⟩
theorem SF10_pass_72 {xs : Nat → Int32} {L : Nat} (x0 : Nat) (x1 : Int32) (hp : m_H) {r : m_O × m_H} {K : m_H → Prop} (k0 : ∀ x, K x → r = (.inl none, x)) {t : m_H} (h : F10_pass_72 x0 x1 hp = some t) (hK : K t) : m_Rn xs L 9 2000 72 [(0, .ref x0), (1, .int x1)] [] hp r :=
  m_wh_ok (P := fun s => m_Rn xs L 9 2000 72 [(0, .ref x0), (1, .int s.1)] [] s.2 r) (Q := K) (fun s t hb hK => SF10_pass_72b x0 s (K := m_KK (fun s => m_Rn xs L 9 2000 72 [(0, .ref x0), (1, .int s.1)] [] s.2 r) K) k0 (fun _ q => q) hb hK) m_N _ _ h hK
theorem SF10_pass_28b {xs : Nat → Int32} {L : Nat} (x0 : Nat) (s : Int32 × m_H) {r : m_O × m_H} {K : ((Int32 × m_H) ⊕ m_H) → Prop} (k0 : ∀ x, K (.inr x) → r = (.inl none, x)) (k1 : ∀ s, K (.inl s) → m_Rn xs L 9 2000 28 [(0, .ref x0), (1, .int s.1)] [] s.2 r) {t : (Int32 × m_H) ⊕ m_H} (h : F10_pass_28b x0 s = some t) (hK : K t) : m_Rn xs L 9 2000 28 [(0, .ref x0), (1, .int s.1)] [] s.2 r := by
  unfold F10_pass_28b at h
  refine g_in eF10_pass_28 mx2000 ?_
  refine g_ch [(0, .ref x0), (1, .int s.1)] [.ref x0, .int s.1] (pc' := 30) rfl rfl rfl ?_
  obtain ⟨v1, e2, h⟩ := m_bd h
  refine g_gr q10_f28 e2 ?_
  obtain ⟨v3, e4, h⟩ := m_bd h
  refine g_gi q10_f32 e4 ?_
  rcases m_ifd h with ⟨c5, h⟩ | ⟨c5, h⟩
  · refine g_if (t := 70) rfl (m_geT c5) ?_
    refine g_in eF10_pass_70 mx2000 ?_
    refine g_ch [(1, .int 1), (0, .ref x0)] [] (pc' := 72) rfl rfl rfl ?_
    refine g_end ?_
    obtain ⟨t', h2, rfl⟩ := Option.map_eq_some_iff.mp h
    exact r_lv (SF10_pass_72 x0 1 s.2 (K := fun t => K (.inr t)) k0 h2 hK) rfl ⟨rfl, rfl, trivial⟩
  · refine g_ifn (t := 70) rfl (m_geF c5) ?_
    refine g_in eF10_pass_39 mx2000 ?_
    refine g_ch [(0, .ref x0), (1, .int s.1)] [.ref x0] (pc' := 40) rfl rfl rfl ?_
    obtain ⟨v6, e7, h⟩ := m_bd h
    refine g_gr q10_f28 e7 ?_
    refine g_ch [(0, .ref x0), (1, .int s.1)] [.int 2, .int s.1, .ref v6] (pc' := 45) rfl rfl rfl ?_
    obtain ⟨v9, e8, h⟩ := m_bd h
    refine g_call (v := some (.int v9)) (h := s.2) (st' := [.int v9]) (D1 := 1) (as := [.ref v6, .int s.1, .int 2]) (Or.inr (Or.inl rfl)) q10_m37 (m_cv (as := [.int 2, .int s.1]) (rest := []) (Or.inl rfl) q10_m37 jv1604 (OF8_get e8) rfl rfl rfl rfl) (by decide) (SF8_get e8) rfl ?_
    refine g_ch [(2, .int v9), (0, .ref x0), (1, .int s.1)] [.int 1, .int v9] (pc' := 51) rfl rfl rfl ?_
    rcases m_ifd h with ⟨c10, h⟩ | ⟨c10, h⟩
    · refine g_if (t := 59) rfl (m_eqT c10) ?_
      refine g_in eF10_pass_59 mx2000 ?_
      refine g_ch [(2, .int v9), (0, .ref x0), (1, .int s.1)] [.int s.1, .ref x0] (pc' := 61) rfl rfl rfl ?_
      obtain ⟨h12, e11, h⟩ := m_bd h
      refine g_call (v := none) (h := h12) (st' := []) (D1 := 8) (as := [.ref x0, .int s.1]) (Or.inl rfl) q10_m41 (m_cs (as := [.int s.1, .ref x0]) (rest := []) q10_m41 jv2004 rfl rfl rfl rfl rfl) (by decide) (SF10_goBySea e11) rfl ?_
      refine g_end ?_
      refine g_in eF10_pass_64 mx2000 ?_
      refine g_ch [(1, .int (s.1 + 1)), (2, .int v9), (0, .ref x0)] [] (pc' := 67) rfl rfl rfl ?_
      refine g_goto (t := 28) rfl ?_
      cases h
      exact r_lv (k1 ((s.1 + 1), h12) hK) rfl ⟨rfl, rfl, trivial⟩
    · refine g_ifn (t := 59) rfl (m_eqF c10) ?_
      refine g_in eF10_pass_54 mx2000 ?_
      refine g_ch [(2, .int v9), (0, .ref x0), (1, .int s.1)] [.int 3, .int v9] (pc' := 56) rfl rfl rfl ?_
      rcases m_ifd h with ⟨c13, h⟩ | ⟨c13, h⟩
      · refine g_ifn (t := 64) rfl (m_neF c13) ?_
        refine g_in eF10_pass_59 mx2000 ?_
        refine g_ch [(2, .int v9), (0, .ref x0), (1, .int s.1)] [.int s.1, .ref x0] (pc' := 61) rfl rfl rfl ?_
        obtain ⟨h15, e14, h⟩ := m_bd h
        refine g_call (v := none) (h := h15) (st' := []) (D1 := 8) (as := [.ref x0, .int s.1]) (Or.inl rfl) q10_m41 (m_cs (as := [.int s.1, .ref x0]) (rest := []) q10_m41 jv2004 rfl rfl rfl rfl rfl) (by decide) (SF10_goBySea e14) rfl ?_
        refine g_end ?_
        refine g_in eF10_pass_64 mx2000 ?_
        refine g_ch [(1, .int (s.1 + 1)), (2, .int v9), (0, .ref x0)] [] (pc' := 67) rfl rfl rfl ?_
        refine g_goto (t := 28) rfl ?_
        cases h
        exact r_lv (k1 ((s.1 + 1), h15) hK) rfl ⟨rfl, rfl, trivial⟩
      · refine g_if (t := 64) rfl (m_neT c13) ?_
        refine g_in eF10_pass_64 mx2000 ?_
        refine g_ch [(1, .int (s.1 + 1)), (2, .int v9), (0, .ref x0)] [] (pc' := 67) rfl rfl rfl ?_
        refine g_goto (t := 28) rfl ?_
        cases h
        exact r_lv (k1 ((s.1 + 1), s.2) hK) rfl ⟨rfl, rfl, trivial⟩
theorem SF10_pass_28 {xs : Nat → Int32} {L : Nat} (x0 : Nat) (x1 : Int32) (hp : m_H) {r : m_O × m_H} {K : m_H → Prop} (k0 : ∀ x, K x → r = (.inl none, x)) {t : m_H} (h : F10_pass_28 x0 x1 hp = some t) (hK : K t) : m_Rn xs L 9 2000 28 [(0, .ref x0), (1, .int x1)] [] hp r :=
  m_wh_ok (P := fun s => m_Rn xs L 9 2000 28 [(0, .ref x0), (1, .int s.1)] [] s.2 r) (Q := K) (fun s t hb hK => SF10_pass_28b x0 s (K := m_KK (fun s => m_Rn xs L 9 2000 28 [(0, .ref x0), (1, .int s.1)] [] s.2 r) K) k0 (fun _ q => q) hb hK) m_N _ _ h hK
theorem SF10_pass_0 {xs : Nat → Int32} {L : Nat} (x0 : Nat) (hp : m_H) {r : m_O × m_H} {K : m_H → Prop} (k0 : ∀ x, K x → r = (.inl none, x)) {t : m_H} (h : F10_pass_0 x0 hp = some t) (hK : K t) : m_Rn xs L 9 2000 0 [(0, .ref x0)] [] hp r := by
  unfold F10_pass_0 at h
  refine g_in eF10_pass_0 mx2000 ?_
  refine g_ch [(0, .ref x0)] [.ref x0, .ref x0] (pc' := 2) rfl rfl rfl ?_
  obtain ⟨v1, e2, h⟩ := m_bd h
  refine g_gi q10_f9 e2 ?_
  refine g_ch [(0, .ref x0)] [.int (v1 + 1), .ref x0] (pc' := 7) rfl rfl rfl ?_
  obtain ⟨h3, e4, h⟩ := m_bd h
  refine g_pf q10_f9 e4 ?_
  refine g_ch [(0, .ref x0)] [.ref x0] (pc' := 11) rfl rfl rfl ?_
  obtain ⟨v5, e6, h⟩ := m_bd h
  refine g_gi q10_f15 e6 ?_
  rcases m_ifd h with ⟨c7, h⟩ | ⟨c7, h⟩
  · refine g_ifc (t := 18) rfl (m_eqT c7) ?_
    refine g_in eF10_pass_18 mx2000 ?_
    refine g_ch [(0, .ref x0)] [.ref x0] (pc' := 19) rfl rfl rfl ?_
    obtain ⟨h9, e8, h⟩ := m_bd h
    refine g_call (v := none) (h := h9) (st' := []) (D1 := 4) (as := [.ref x0]) (Or.inl rfl) q10_m19 (m_cs (as := [.ref x0]) (rest := []) q10_m19 jv2001 rfl rfl rfl rfl rfl) (by decide) (SF10_beginOrders e8) rfl ?_
    refine g_ch [(0, .ref x0)] [.ref x0] (pc' := 23) rfl rfl rfl ?_
    obtain ⟨h11, e10, h⟩ := m_bd h
    refine g_call (v := none) (h := h11) (st' := []) (D1 := 4) (as := [.ref x0]) (Or.inl rfl) q10_m25 (m_cs (as := [.ref x0]) (rest := []) q10_m25 jv2002 rfl rfl rfl rfl rfl) (by decide) (SF10_workOnOrders e10) rfl ?_
    refine g_ch [(1, .int 0), (0, .ref x0)] [] (pc' := 28) rfl rfl rfl ?_
    refine g_end ?_
    exact r_lv (SF10_pass_28 x0 0 h11 (K := K) k0 h hK) rfl ⟨rfl, rfl, trivial⟩
  · refine g_ifcn (t := 18) rfl (m_eqF c7) ?_
    refine g_in eF10_pass_17 mx2000 ?_
    cases h
    rw [k0 _ hK]
    exact g_vret rfl
theorem SF10_pass {xs : Nat → Int32} {L : Nat} {x0 : Nat} {hp : m_H} {x : m_H} (h : F10_pass x0 hp = some x) : m_Rn xs L 9 2000 0 (lv_args 0 [.ref x0]) [] hp (.inl none, x) :=
  r_lv (SF10_pass_0 x0 hp (K := fun y => y = x) (fun y e => by rw [e]) h rfl) rfl ⟨rfl, trivial⟩
-- F11_init: LendHouse.<init>()V
theorem eF11_init_0 : m_Fe mi11_0 0 (m_ap [(.aload_n 0, 1)] ((.invokespecial 3, 3) :: (m_ap [(.aload_n 0, 1)] ((.new 9, 3) :: (m_ap [(.dup, 1)] ((.invokespecial 11, 3) :: ((.putfield 12, 3) :: (m_ap [(.aload_n 0, 1)] ((.new 16, 3) :: (m_ap [(.dup, 1), (.aload_n 0, 1)] ((.getfield 12, 3) :: ((.invokespecial 18, 3) :: ((.putfield 21, 3) :: (m_ap [(.aload_n 0, 1)] ((.new 25, 3) :: (m_ap [(.dup, 1)] ((.invokespecial 27, 3) :: ((.putfield 28, 3) :: (m_ap [(.aload_n 0, 1)] ((.new 32, 3) :: (m_ap [(.dup, 1)] ((.invokespecial 34, 3) :: ((.putfield 35, 3) :: (m_ap [(.aload_n 0, 1)] ((.new 39, 3) :: (m_ap [(.dup, 1)] ((.invokespecial 41, 3) :: ((.putfield 42, 3) :: (m_ap [(.aload_n 0, 1)] ((.new 39, 3) :: (m_ap [(.dup, 1)] ((.invokespecial 41, 3) :: ((.putfield 46, 3) :: (m_ap [(.aload_n 0, 1)] ((.new 39, 3) :: (m_ap [(.dup, 1)] ((.invokespecial 41, 3) :: ((.putfield 49, 3) :: (m_ap [(.aload_n 0, 1)] ((.new 52, 3) :: (m_ap [(.dup, 1)] ((.invokespecial 54, 3) :: ((.putfield 55, 3) :: (m_ap [(.aload_n 0, 1)] ((.new 52, 3) :: (m_ap [(.dup, 1)] ((.invokespecial 54, 3) :: ((.putfield 59, 3) :: (m_ap [(.aload_n 0, 1), (.iconst (-1), 1)] ((.putfield 62, 3) :: ([(.return_, 1)]))))))))))))))))))))))))))))))))))))))))))))))))))) := m_Fe_of nd2200 0 53 rfl
theorem SF11_init_0 {xs : Nat → Int32} {L : Nat} (x0 : Nat) (hp : m_H) {r : m_O × m_H} {K : m_H → Prop} (k0 : ∀ x, K x → r = (.inl none, x)) {t : m_H} (h : F11_init_0 x0 hp = some t) (hK : K t) : m_Rn xs L 9 2200 0 [(0, .ref x0)] [] hp r := by
  unfold F11_init_0 at h
  refine g_in eF11_init_0 mx2200 ?_
  refine g_ch [(0, .ref x0)] [.ref x0] (pc' := 1) rfl rfl rfl ?_
  refine g_nat (Or.inr (Or.inr rfl)) q11_m3 rfl (z := ([], hp)) rfl (by decide) ?_
  refine g_ch [(0, .ref x0)] [.ref x0] (pc' := 5) rfl rfl rfl ?_
  obtain ⟨h1, e2, h⟩ := m_bd h
  refine g_newo (by decide +kernel) (by decide +kernel) e2 ?_
  refine g_ch [(0, .ref x0)] [.ref (m_id hp), .ref (m_id hp), .ref x0] (pc' := 9) rfl rfl rfl ?_
  obtain ⟨h4, e3, h⟩ := m_bd h
  refine g_call (v := none) (h := h4) (st' := [.ref (m_id hp), .ref x0]) (D1 := 7) (as := [.ref (m_id hp)]) (Or.inr (Or.inr rfl)) q11_m11 (m_cv (as := []) (rest := [.ref (m_id hp), .ref x0]) (Or.inr rfl) q11_m11 jv1800 (OF9_init e3) rfl rfl rfl rfl) (by decide) (SF9_init e3) rfl ?_
  obtain ⟨h5, e6, h⟩ := m_bd h
  refine g_pf q11_f12 e6 ?_
  refine g_ch [(0, .ref x0)] [.ref x0] (pc' := 16) rfl rfl rfl ?_
  obtain ⟨h7, e8, h⟩ := m_bd h
  refine g_newo (by decide +kernel) (by decide +kernel) e8 ?_
  refine g_ch [(0, .ref x0)] [.ref x0, .ref (m_id h5), .ref (m_id h5), .ref x0] (pc' := 21) rfl rfl rfl ?_
  obtain ⟨v9, e10, h⟩ := m_bd h
  refine g_gr q11_f12 e10 ?_
  obtain ⟨h12, e11, h⟩ := m_bd h
  refine g_call (v := none) (h := h12) (st' := [.ref (m_id h5), .ref x0]) (D1 := 7) (as := [.ref (m_id h5), .ref v9]) (Or.inr (Or.inr rfl)) q11_m18 (m_cv (as := [.ref v9]) (rest := [.ref (m_id h5), .ref x0]) (Or.inr rfl) q11_m18 jv1400 (OF7_init e11) rfl rfl rfl rfl) (by decide) (SF7_init e11) rfl ?_
  obtain ⟨h13, e14, h⟩ := m_bd h
  refine g_pf q11_f21 e14 ?_
  refine g_ch [(0, .ref x0)] [.ref x0] (pc' := 31) rfl rfl rfl ?_
  obtain ⟨h15, e16, h⟩ := m_bd h
  refine g_newo (by decide +kernel) (by decide +kernel) e16 ?_
  refine g_ch [(0, .ref x0)] [.ref (m_id h13), .ref (m_id h13), .ref x0] (pc' := 35) rfl rfl rfl ?_
  obtain ⟨h18, e17, h⟩ := m_bd h
  refine g_call (v := none) (h := h18) (st' := [.ref (m_id h13), .ref x0]) (D1 := 7) (as := [.ref (m_id h13)]) (Or.inr (Or.inr rfl)) q11_m27 (m_cv (as := []) (rest := [.ref (m_id h13), .ref x0]) (Or.inr rfl) q11_m27 jv400 (OF2_init e17) rfl rfl rfl rfl) (by decide) (SF2_init e17) rfl ?_
  obtain ⟨h19, e20, h⟩ := m_bd h
  refine g_pf q11_f28 e20 ?_
  refine g_ch [(0, .ref x0)] [.ref x0] (pc' := 42) rfl rfl rfl ?_
  obtain ⟨h21, e22, h⟩ := m_bd h
  refine g_newo (by decide +kernel) (by decide +kernel) e22 ?_
  refine g_ch [(0, .ref x0)] [.ref (m_id h19), .ref (m_id h19), .ref x0] (pc' := 46) rfl rfl rfl ?_
  obtain ⟨h24, e23, h⟩ := m_bd h
  refine g_call (v := none) (h := h24) (st' := [.ref (m_id h19), .ref x0]) (D1 := 7) (as := [.ref (m_id h19)]) (Or.inr (Or.inr rfl)) q11_m34 (m_cv (as := []) (rest := [.ref (m_id h19), .ref x0]) (Or.inr rfl) q11_m34 jv800 (OF4_init e23) rfl rfl rfl rfl) (by decide) (SF4_init e23) rfl ?_
  obtain ⟨h25, e26, h⟩ := m_bd h
  refine g_pf q11_f35 e26 ?_
  refine g_ch [(0, .ref x0)] [.ref x0] (pc' := 53) rfl rfl rfl ?_
  obtain ⟨h27, e28, h⟩ := m_bd h
  refine g_newo (by decide +kernel) (by decide +kernel) e28 ?_
  refine g_ch [(0, .ref x0)] [.ref (m_id h25), .ref (m_id h25), .ref x0] (pc' := 57) rfl rfl rfl ?_
  obtain ⟨h30, e29, h⟩ := m_bd h
  refine g_call (v := none) (h := h30) (st' := [.ref (m_id h25), .ref x0]) (D1 := 8) (as := [.ref (m_id h25)]) (Or.inr (Or.inr rfl)) q11_m41 (m_cv (as := []) (rest := [.ref (m_id h25), .ref x0]) (Or.inr rfl) q11_m41 jv600 (OF3_init e29) rfl rfl rfl rfl) (by decide) (SF3_init e29) rfl ?_
  obtain ⟨h31, e32, h⟩ := m_bd h
  refine g_pf q11_f42 e32 ?_
  refine g_ch [(0, .ref x0)] [.ref x0] (pc' := 64) rfl rfl rfl ?_
  obtain ⟨h33, e34, h⟩ := m_bd h
  refine g_newo (by decide +kernel) (by decide +kernel) e34 ?_
  refine g_ch [(0, .ref x0)] [.ref (m_id h31), .ref (m_id h31), .ref x0] (pc' := 68) rfl rfl rfl ?_
  obtain ⟨h36, e35, h⟩ := m_bd h
  refine g_call (v := none) (h := h36) (st' := [.ref (m_id h31), .ref x0]) (D1 := 8) (as := [.ref (m_id h31)]) (Or.inr (Or.inr rfl)) q11_m41 (m_cv (as := []) (rest := [.ref (m_id h31), .ref x0]) (Or.inr rfl) q11_m41 jv600 (OF3_init e35) rfl rfl rfl rfl) (by decide) (SF3_init e35) rfl ?_
  obtain ⟨h37, e38, h⟩ := m_bd h
  refine g_pf q11_f46 e38 ?_
  refine g_ch [(0, .ref x0)] [.ref x0] (pc' := 75) rfl rfl rfl ?_
  obtain ⟨h39, e40, h⟩ := m_bd h
  refine g_newo (by decide +kernel) (by decide +kernel) e40 ?_
  refine g_ch [(0, .ref x0)] [.ref (m_id h37), .ref (m_id h37), .ref x0] (pc' := 79) rfl rfl rfl ?_
  obtain ⟨h42, e41, h⟩ := m_bd h
  refine g_call (v := none) (h := h42) (st' := [.ref (m_id h37), .ref x0]) (D1 := 8) (as := [.ref (m_id h37)]) (Or.inr (Or.inr rfl)) q11_m41 (m_cv (as := []) (rest := [.ref (m_id h37), .ref x0]) (Or.inr rfl) q11_m41 jv600 (OF3_init e41) rfl rfl rfl rfl) (by decide) (SF3_init e41) rfl ?_
  obtain ⟨h43, e44, h⟩ := m_bd h
  refine g_pf q11_f49 e44 ?_
  refine g_ch [(0, .ref x0)] [.ref x0] (pc' := 86) rfl rfl rfl ?_
  obtain ⟨h45, e46, h⟩ := m_bd h
  refine g_newo (by decide +kernel) (by decide +kernel) e46 ?_
  refine g_ch [(0, .ref x0)] [.ref (m_id h43), .ref (m_id h43), .ref x0] (pc' := 90) rfl rfl rfl ?_
  obtain ⟨h48, e47, h⟩ := m_bd h
  refine g_call (v := none) (h := h48) (st' := [.ref (m_id h43), .ref x0]) (D1 := 7) (as := [.ref (m_id h43)]) (Or.inr (Or.inr rfl)) q11_m54 (m_cv (as := []) (rest := [.ref (m_id h43), .ref x0]) (Or.inr rfl) q11_m54 jv200 (OF1_init e47) rfl rfl rfl rfl) (by decide) (SF1_init e47) rfl ?_
  obtain ⟨h49, e50, h⟩ := m_bd h
  refine g_pf q11_f55 e50 ?_
  refine g_ch [(0, .ref x0)] [.ref x0] (pc' := 97) rfl rfl rfl ?_
  obtain ⟨h51, e52, h⟩ := m_bd h
  refine g_newo (by decide +kernel) (by decide +kernel) e52 ?_
  refine g_ch [(0, .ref x0)] [.ref (m_id h49), .ref (m_id h49), .ref x0] (pc' := 101) rfl rfl rfl ?_
  obtain ⟨h54, e53, h⟩ := m_bd h
  refine g_call (v := none) (h := h54) (st' := [.ref (m_id h49), .ref x0]) (D1 := 7) (as := [.ref (m_id h49)]) (Or.inr (Or.inr rfl)) q11_m54 (m_cv (as := []) (rest := [.ref (m_id h49), .ref x0]) (Or.inr rfl) q11_m54 jv200 (OF1_init e53) rfl rfl rfl rfl) (by decide) (SF1_init e53) rfl ?_
  obtain ⟨h55, e56, h⟩ := m_bd h
  refine g_pf q11_f59 e56 ?_
  refine g_ch [(0, .ref x0)] [.int (-1), .ref x0] (pc' := 109) rfl rfl rfl ?_
  obtain ⟨h57, e58, h⟩ := m_bd h
  refine g_pf q11_f62 e58 ?_
  cases h
  rw [k0 _ hK]
  exact g_vret rfl
theorem OF11_init {x0 : Nat} {hp : m_H} {x : m_H} (h : F11_init x0 hp = some x) : m_isO hp 8 x0 = true := (m_gdd h).1
theorem SF11_init {xs : Nat → Int32} {L : Nat} {x0 : Nat} {hp : m_H} {x : m_H} (h : F11_init x0 hp = some x) : m_Rn xs L 9 2200 0 (lv_args 0 [.ref x0]) [] hp (.inl none, x) :=
  r_lv (SF11_init_0 x0 hp (K := fun y => y = x) (fun y e => by rw [e]) (m_gdd h).2 rfl) rfl ⟨rfl, trivial⟩
-- F11_feed: LendHouse.feed(IIIII)I
theorem eF11_feed_0 : m_Fe mi11_1 0 (m_ap [(.aload_n 0, 1)] ((.getfield 12, 3) :: ((.getfield 66, 3) :: (m_ap [(.sipush 380, 3)] ([(.if_icmp .le 5, 3)]))))) := m_Fe_of nd2201 0 5 rfl
theorem eF11_feed_15 : m_Fe mi11_1 15 (m_ap [(.aload_n 0, 1)] ((.getfield 12, 3) :: (m_ap [(.iload_n 1, 1)] ((.invokevirtual 69, 3) :: (m_ap [(.aload_n 0, 1)] ((.getfield 12, 3) :: (m_ap [(.iload_n 2, 1)] ((.invokevirtual 69, 3) :: (m_ap [(.aload_n 0, 1)] ((.getfield 12, 3) :: (m_ap [(.iload_n 3, 1)] ((.invokevirtual 69, 3) :: (m_ap [(.aload_n 0, 1)] ((.getfield 12, 3) :: (m_ap [(.iload 4, 2)] ((.invokevirtual 69, 3) :: (m_ap [(.aload_n 0, 1)] ((.getfield 12, 3) :: (m_ap [(.iload 5, 2)] ((.invokevirtual 69, 3) :: (m_ap [(.aload_n 0, 1)] ((.getfield 12, 3) :: ((.getfield 66, 3) :: ([(.ireturn, 1)])))))))))))))))))))))))) := m_Fe_of nd2201 7 24 rfl
theorem eF11_feed_13 : m_Fe mi11_1 13 (m_ap [(.iconst (-1), 1)] ([(.ireturn, 1)])) := m_Fe_of nd2201 5 2 rfl
theorem SF11_feed_0 {xs : Nat → Int32} {L : Nat} (x0 : Nat) (x1 : Int32) (x2 : Int32) (x3 : Int32) (x4 : Int32) (x5 : Int32) (hp : m_H) {r : m_O × m_H} {K : (Int32 × m_H) → Prop} (k0 : ∀ x, K x → r = (.inl (some (.int x.1)), x.2)) {t : Int32 × m_H} (h : F11_feed_0 x0 x1 x2 x3 x4 x5 hp = some t) (hK : K t) : m_Rn xs L 1 2201 0 [(0, .ref x0), (1, .int x1), (2, .int x2), (3, .int x3), (4, .int x4), (5, .int x5)] [] hp r := by
  unfold F11_feed_0 at h
  refine g_in eF11_feed_0 mx2201 ?_
  refine g_ch [(0, .ref x0), (1, .int x1), (2, .int x2), (3, .int x3), (4, .int x4), (5, .int x5)] [.ref x0] (pc' := 1) rfl rfl rfl ?_
  obtain ⟨v1, e2, h⟩ := m_bd h
  refine g_gr q11_f12 e2 ?_
  obtain ⟨v3, e4, h⟩ := m_bd h
  refine g_gi q11_f66 e4 ?_
  refine g_ch [(0, .ref x0), (1, .int x1), (2, .int x2), (3, .int x3), (4, .int x4), (5, .int x5)] [.int 380, .int v3] (pc' := 10) rfl rfl rfl ?_
  rcases m_ifd h with ⟨c5, h⟩ | ⟨c5, h⟩
  · refine g_if (t := 15) rfl (m_leT c5) ?_
    refine g_in eF11_feed_15 mx2201 ?_
    refine g_ch [(0, .ref x0), (1, .int x1), (2, .int x2), (3, .int x3), (4, .int x4), (5, .int x5)] [.ref x0] (pc' := 16) rfl rfl rfl ?_
    obtain ⟨v6, e7, h⟩ := m_bd h
    refine g_gr q11_f12 e7 ?_
    refine g_ch [(0, .ref x0), (1, .int x1), (2, .int x2), (3, .int x3), (4, .int x4), (5, .int x5)] [.int x1, .ref v6] (pc' := 20) rfl rfl rfl ?_
    obtain ⟨h9, e8, h⟩ := m_bd h
    refine g_call (v := none) (h := h9) (st' := []) (D1 := 0) (as := [.ref v6, .int x1]) (Or.inr (Or.inl rfl)) q11_m69 (m_cv (as := [.int x1]) (rest := []) (Or.inl rfl) q11_m69 jv1801 (OF9_put e8) rfl rfl rfl rfl) (by decide) (SF9_put e8) rfl ?_
    refine g_ch [(0, .ref x0), (1, .int x1), (2, .int x2), (3, .int x3), (4, .int x4), (5, .int x5)] [.ref x0] (pc' := 24) rfl rfl rfl ?_
    obtain ⟨v10, e11, h⟩ := m_bd h
    refine g_gr q11_f12 e11 ?_
    refine g_ch [(0, .ref x0), (1, .int x1), (2, .int x2), (3, .int x3), (4, .int x4), (5, .int x5)] [.int x2, .ref v10] (pc' := 28) rfl rfl rfl ?_
    obtain ⟨h13, e12, h⟩ := m_bd h
    refine g_call (v := none) (h := h13) (st' := []) (D1 := 0) (as := [.ref v10, .int x2]) (Or.inr (Or.inl rfl)) q11_m69 (m_cv (as := [.int x2]) (rest := []) (Or.inl rfl) q11_m69 jv1801 (OF9_put e12) rfl rfl rfl rfl) (by decide) (SF9_put e12) rfl ?_
    refine g_ch [(0, .ref x0), (1, .int x1), (2, .int x2), (3, .int x3), (4, .int x4), (5, .int x5)] [.ref x0] (pc' := 32) rfl rfl rfl ?_
    obtain ⟨v14, e15, h⟩ := m_bd h
    refine g_gr q11_f12 e15 ?_
    refine g_ch [(0, .ref x0), (1, .int x1), (2, .int x2), (3, .int x3), (4, .int x4), (5, .int x5)] [.int x3, .ref v14] (pc' := 36) rfl rfl rfl ?_
    obtain ⟨h17, e16, h⟩ := m_bd h
    refine g_call (v := none) (h := h17) (st' := []) (D1 := 0) (as := [.ref v14, .int x3]) (Or.inr (Or.inl rfl)) q11_m69 (m_cv (as := [.int x3]) (rest := []) (Or.inl rfl) q11_m69 jv1801 (OF9_put e16) rfl rfl rfl rfl) (by decide) (SF9_put e16) rfl ?_
    refine g_ch [(0, .ref x0), (1, .int x1), (2, .int x2), (3, .int x3), (4, .int x4), (5, .int x5)] [.ref x0] (pc' := 40) rfl rfl rfl ?_
    obtain ⟨v18, e19, h⟩ := m_bd h
    refine g_gr q11_f12 e19 ?_
    refine g_ch [(0, .ref x0), (1, .int x1), (2, .int x2), (3, .int x3), (4, .int x4), (5, .int x5)] [.int x4, .ref v18] (pc' := 45) rfl rfl rfl ?_
    obtain ⟨h21, e20, h⟩ := m_bd h
    refine g_call (v := none) (h := h21) (st' := []) (D1 := 0) (as := [.ref v18, .int x4]) (Or.inr (Or.inl rfl)) q11_m69 (m_cv (as := [.int x4]) (rest := []) (Or.inl rfl) q11_m69 jv1801 (OF9_put e20) rfl rfl rfl rfl) (by decide) (SF9_put e20) rfl ?_
    refine g_ch [(0, .ref x0), (1, .int x1), (2, .int x2), (3, .int x3), (4, .int x4), (5, .int x5)] [.ref x0] (pc' := 49) rfl rfl rfl ?_
    obtain ⟨v22, e23, h⟩ := m_bd h
    refine g_gr q11_f12 e23 ?_
    refine g_ch [(0, .ref x0), (1, .int x1), (2, .int x2), (3, .int x3), (4, .int x4), (5, .int x5)] [.int x5, .ref v22] (pc' := 54) rfl rfl rfl ?_
    obtain ⟨h25, e24, h⟩ := m_bd h
    refine g_call (v := none) (h := h25) (st' := []) (D1 := 0) (as := [.ref v22, .int x5]) (Or.inr (Or.inl rfl)) q11_m69 (m_cv (as := [.int x5]) (rest := []) (Or.inl rfl) q11_m69 jv1801 (OF9_put e24) rfl rfl rfl rfl) (by decide) (SF9_put e24) rfl ?_
    refine g_ch [(0, .ref x0), (1, .int x1), (2, .int x2), (3, .int x3), (4, .int x4), (5, .int x5)] [.ref x0] (pc' := 58) rfl rfl rfl ?_
    obtain ⟨v26, e27, h⟩ := m_bd h
    refine g_gr q11_f12 e27 ?_
    obtain ⟨v28, e29, h⟩ := m_bd h
    refine g_gi q11_f66 e29 ?_
    cases h
    rw [k0 _ hK]
    exact g_iret rfl rfl
  · refine g_ifn (t := 15) rfl (m_leF c5) ?_
    refine g_in eF11_feed_13 mx2201 ?_
    refine g_ch [(0, .ref x0), (1, .int x1), (2, .int x2), (3, .int x3), (4, .int x4), (5, .int x5)] [.int (-1)] (pc' := 14) rfl rfl rfl ?_
    cases h
    rw [k0 _ hK]
    exact g_iret rfl rfl
theorem OF11_feed {x0 : Nat} {x1 : Int32} {x2 : Int32} {x3 : Int32} {x4 : Int32} {x5 : Int32} {hp : m_H} {x : Int32 × m_H} (h : F11_feed x0 x1 x2 x3 x4 x5 hp = some x) : m_isO hp 8 x0 = true := (m_gdd h).1
theorem SF11_feed {xs : Nat → Int32} {L : Nat} {x0 : Nat} {x1 : Int32} {x2 : Int32} {x3 : Int32} {x4 : Int32} {x5 : Int32} {hp : m_H} {x : Int32 × m_H} (h : F11_feed x0 x1 x2 x3 x4 x5 hp = some x) : m_Rn xs L 1 2201 0 (lv_args 0 [.ref x0, .int x1, .int x2, .int x3, .int x4, .int x5]) [] hp (.inl (some (.int x.1)), x.2) :=
  r_lv (SF11_feed_0 x0 x1 x2 x3 x4 x5 hp (K := fun y => y = x) (fun y e => by rw [e]) (m_gdd h).2 rfl) rfl ⟨rfl, rfl, rfl, rfl, rfl, rfl, trivial⟩
-- F11_end: LendHouse.end(I)Z
theorem eF11_end_0 : m_Fe mi11_2 0 (m_ap [(.iload_n 1, 1)] ([(.ifCond .lt 14, 3)])) := m_Fe_of nd2202 0 2 rfl
theorem eF11_end_15 : m_Fe mi11_2 15 (m_ap [(.iconst 0, 1)] ([(.ireturn, 1)])) := m_Fe_of nd2202 7 2 rfl
theorem eF11_end_4 : m_Fe mi11_2 4 (m_ap [(.iload_n 1, 1), (.aload_n 0, 1)] ((.getfield 12, 3) :: ((.getfield 66, 3) :: ([(.if_icmp .le 5, 3)])))) := m_Fe_of nd2202 2 5 rfl
theorem eF11_end_17 : m_Fe mi11_2 17 (m_ap [(.aload_n 0, 1)] ((.getfield 12, 3) :: (m_ap [(.iload_n 1, 1)] ((.putfield 66, 3) :: (m_ap [(.iconst 1, 1)] ([(.ireturn, 1)])))))) := m_Fe_of nd2202 9 6 rfl
theorem SF11_end_0 {xs : Nat → Int32} {L : Nat} (x0 : Nat) (x1 : Int32) (hp : m_H) {r : m_O × m_H} {K : (Int32 × m_H) → Prop} (k0 : ∀ x, K x → r = (.inl (some (.int x.1)), x.2)) {t : Int32 × m_H} (h : F11_end_0 x0 x1 hp = some t) (hK : K t) : m_Rn xs L 0 2202 0 [(0, .ref x0), (1, .int x1)] [] hp r := by
  unfold F11_end_0 at h
  refine g_in eF11_end_0 mx2202 ?_
  refine g_ch [(0, .ref x0), (1, .int x1)] [.int x1] (pc' := 1) rfl rfl rfl ?_
  rcases m_ifd h with ⟨c1, h⟩ | ⟨c1, h⟩
  · refine g_ifc (t := 15) rfl (m_ltT c1) ?_
    refine g_in eF11_end_15 mx2202 ?_
    refine g_ch [(0, .ref x0), (1, .int x1)] [.int 0] (pc' := 16) rfl rfl rfl ?_
    cases h
    rw [k0 _ hK]
    exact g_iret rfl (by decide +kernel)
  · refine g_ifcn (t := 15) rfl (m_ltF c1) ?_
    refine g_in eF11_end_4 mx2202 ?_
    refine g_ch [(0, .ref x0), (1, .int x1)] [.ref x0, .int x1] (pc' := 6) rfl rfl rfl ?_
    obtain ⟨v2, e3, h⟩ := m_bd h
    refine g_gr q11_f12 e3 ?_
    obtain ⟨v4, e5, h⟩ := m_bd h
    refine g_gi q11_f66 e5 ?_
    rcases m_ifd h with ⟨c6, h⟩ | ⟨c6, h⟩
    · refine g_if (t := 17) rfl (m_leT c6) ?_
      refine g_in eF11_end_17 mx2202 ?_
      refine g_ch [(0, .ref x0), (1, .int x1)] [.ref x0] (pc' := 18) rfl rfl rfl ?_
      obtain ⟨v7, e8, h⟩ := m_bd h
      refine g_gr q11_f12 e8 ?_
      refine g_ch [(0, .ref x0), (1, .int x1)] [.int x1, .ref v7] (pc' := 22) rfl rfl rfl ?_
      obtain ⟨h9, e10, h⟩ := m_bd h
      refine g_pf q11_f66 e10 ?_
      refine g_ch [(0, .ref x0), (1, .int x1)] [.int 1] (pc' := 26) rfl rfl rfl ?_
      cases h
      rw [k0 _ hK]
      exact g_iret rfl (by decide +kernel)
    · refine g_ifn (t := 17) rfl (m_leF c6) ?_
      refine g_in eF11_end_15 mx2202 ?_
      refine g_ch [(0, .ref x0), (1, .int x1)] [.int 0] (pc' := 16) rfl rfl rfl ?_
      cases h
      rw [k0 _ hK]
      exact g_iret rfl (by decide +kernel)
theorem OF11_end {x0 : Nat} {x1 : Int32} {hp : m_H} {x : Int32 × m_H} (h : F11_end x0 x1 hp = some x) : m_isO hp 8 x0 = true := (m_gdd h).1
theorem SF11_end {xs : Nat → Int32} {L : Nat} {x0 : Nat} {x1 : Int32} {hp : m_H} {x : Int32 × m_H} (h : F11_end x0 x1 hp = some x) : m_Rn xs L 0 2202 0 (lv_args 0 [.ref x0, .int x1]) [] hp (.inl (some (.int x.1)), x.2) :=
  r_lv (SF11_end_0 x0 x1 hp (K := fun y => y = x) (fun y e => by rw [e]) (m_gdd h).2 rfl) rfl ⟨rfl, rfl, trivial⟩
-- F11_outside: LendHouse.outside(III)Z
theorem eF11_outside_0 : m_Fe mi11_51 0 (m_ap [(.iload_n 0, 1), (.iload_n 1, 1)] ([(.if_icmp .lt 8, 3)])) := m_Fe_of nd2251 0 3 rfl
theorem eF11_outside_10 : m_Fe mi11_51 10 (m_ap [(.iconst 1, 1)] ([(.goto 4, 3)])) := m_Fe_of nd2251 6 2 rfl
theorem eF11_outside_15 : m_Fe mi11_51 15 ([(.ireturn, 1)]) := m_Fe_of nd2251 9 1 rfl
theorem eF11_outside_5 : m_Fe mi11_51 5 (m_ap [(.iload_n 0, 1), (.iload_n 2, 1)] ([(.if_icmp .le 7, 3)])) := m_Fe_of nd2251 3 3 rfl
theorem eF11_outside_14 : m_Fe mi11_51 14 (m_ap [(.iconst 0, 1)] ([])) := m_Fe_of nd2251 8 1 rfl
theorem SF11_outside_0 {xs : Nat → Int32} {L : Nat} (x0 : Int32) (x1 : Int32) (x2 : Int32) (hp : m_H) {r : m_O × m_H} {K : Int32 → Prop} (k0 : ∀ x, K x → r = (.inl (some (.int x)), hp)) {t : Int32} (h : F11_outside_0 x0 x1 x2 hp = some t) (hK : K t) : m_Rn xs L 0 2251 0 [(0, .int x0), (1, .int x1), (2, .int x2)] [] hp r := by
  unfold F11_outside_0 at h
  refine g_in eF11_outside_0 mx2251 ?_
  refine g_ch [(0, .int x0), (1, .int x1), (2, .int x2)] [.int x1, .int x0] (pc' := 2) rfl rfl rfl ?_
  rcases m_ifd h with ⟨c1, h⟩ | ⟨c1, h⟩
  · refine g_if (t := 10) rfl (m_ltT c1) ?_
    refine g_in eF11_outside_10 mx2251 ?_
    refine g_ch [(0, .int x0), (1, .int x1), (2, .int x2)] [.int 1] (pc' := 11) rfl rfl rfl ?_
    refine g_goto (t := 15) rfl ?_
    refine g_in eF11_outside_15 mx2251 ?_
    cases h
    rw [k0 _ hK]
    exact g_iret rfl (by decide +kernel)
  · refine g_ifn (t := 10) rfl (m_ltF c1) ?_
    refine g_in eF11_outside_5 mx2251 ?_
    refine g_ch [(0, .int x0), (1, .int x1), (2, .int x2)] [.int x2, .int x0] (pc' := 7) rfl rfl rfl ?_
    rcases m_ifd h with ⟨c2, h⟩ | ⟨c2, h⟩
    · refine g_if (t := 14) rfl (m_leT c2) ?_
      refine g_in eF11_outside_14 mx2251 ?_
      refine g_ch [(0, .int x0), (1, .int x1), (2, .int x2)] [.int 0] (pc' := 15) rfl rfl rfl ?_
      refine g_end ?_
      refine g_in eF11_outside_15 mx2251 ?_
      cases h
      rw [k0 _ hK]
      exact g_iret rfl (by decide +kernel)
    · refine g_ifn (t := 14) rfl (m_leF c2) ?_
      refine g_in eF11_outside_10 mx2251 ?_
      refine g_ch [(0, .int x0), (1, .int x1), (2, .int x2)] [.int 1] (pc' := 11) rfl rfl rfl ?_
      refine g_goto (t := 15) rfl ?_
      refine g_in eF11_outside_15 mx2251 ?_
      cases h
      rw [k0 _ hK]
      exact g_iret rfl (by decide +kernel)
theorem SF11_outside {xs : Nat → Int32} {L : Nat} {x0 : Int32} {x1 : Int32} {x2 : Int32} {hp : m_H} {x : Int32} (h : F11_outside x0 x1 x2 hp = some x) : m_Rn xs L 0 2251 0 (lv_args 0 [.int x0, .int x1, .int x2]) [] hp (.inl (some (.int x)), hp) :=
  r_lv (SF11_outside_0 x0 x1 x2 hp (K := fun y => y = x) (fun y e => by rw [e]) h rfl) rfl ⟨rfl, rfl, rfl, trivial⟩
-- F11_act: LendHouse.act(I)I
theorem eF11_act_0 : m_Fe mi11_3 0 (m_ap [(.aload_n 0, 1)] ((.getfield 12, 3) :: ((.invokevirtual 73, 3) :: (m_ap [(.iload_n 1, 1), (.aload_n 0, 1)] ((.getfield 42, 3) :: ((.getfield 76, 3) :: (m_ap [(.sipush 500, 3)] ((.invokestatic 79, 3) :: ([(.ifCond .eq 13, 3)]))))))))) := m_Fe_of nd2203 0 10 rfl
theorem eF11_act_34 : m_Fe mi11_3 34 (m_ap [(.aload_n 0, 1)] ((.getfield 21, 3) :: ((.invokevirtual 90, 3) :: (m_ap [(.aload_n 0, 1), (.aload_n 0, 1)] ((.getfield 21, 3) :: ((.getfield 93, 3) :: ((.putfield 62, 3) :: (m_ap [(.aload_n 0, 1)] ((.getfield 62, 3) :: (m_ap [(.iconst (-1), 1)] ([(.if_icmp .eq 13, 3)]))))))))))) := m_Fe_of nd2203 15 12 rfl
theorem eF11_act_70 : m_Fe mi11_3 70 (m_ap [(.aload_n 0, 1)] ((.getfield 42, 3) :: ((.getfield 98, 3) :: (m_ap [(.bipush 10, 2)] ([(.if_icmp .lt 13, 3)]))))) := m_Fe_of nd2203 32 5 rfl
theorem eF11_act_92 : m_Fe mi11_3 92 ((.new 106, 3) :: (m_ap [(.dup, 1), (.iload_n 1, 1), (.aload_n 0, 1)] ((.getfield 21, 3) :: ((.invokespecial 108, 3) :: (m_ap [(.astore_n 2, 1), (.aload_n 0, 1)] ((.getfield 42, 3) :: (m_ap [(.aload_n 2, 1)] ((.invokevirtual 111, 3) :: (m_ap [(.aload_n 2, 1)] ((.getfield 115, 3) :: ([(.ireturn, 1)]))))))))))) := m_Fe_of nd2203 42 14 rfl
theorem eF11_act_82 : m_Fe mi11_3 82 ([(.new 101, 3)]) := m_Fe_of nd2203 37 1 rfl
theorem eF11_act_60 : m_Fe mi11_3 60 ([(.new 83, 3)]) := m_Fe_of nd2203 27 1 rfl
theorem eF11_act_24 : m_Fe mi11_3 24 ([(.new 83, 3)]) := m_Fe_of nd2203 10 1 rfl
theorem SF11_act_0 {xs : Nat → Int32} {L : Nat} (x0 : Nat) (x1 : Int32) (hp : m_H) {r : m_O × m_H} {K : ((Int32 ⊕ Nat) × m_H) → Prop} (k0 : ∀ x, K x → r = (m_xI x)) {t : (Int32 ⊕ Nat) × m_H} (h : F11_act_0 x0 x1 hp = some t) (hK : K t) : m_Rn xs L 403 2203 0 [(0, .ref x0), (1, .int x1)] [] hp r := by
  unfold F11_act_0 at h
  refine g_in eF11_act_0 mx2203 ?_
  refine g_ch [(0, .ref x0), (1, .int x1)] [.ref x0] (pc' := 1) rfl rfl rfl ?_
  obtain ⟨v1, e2, h⟩ := m_bd h
  refine g_gr q11_f12 e2 ?_
  obtain ⟨h4, e3, h⟩ := m_bd h
  refine g_call (v := none) (h := h4) (st' := []) (D1 := 0) (as := [.ref v1]) (Or.inr (Or.inl rfl)) q11_m73 (m_cv (as := []) (rest := []) (Or.inl rfl) q11_m73 jv1802 (OF9_useUp e3) rfl rfl rfl rfl) (by decide) (SF9_useUp e3) rfl ?_
  refine g_ch [(0, .ref x0), (1, .int x1)] [.ref x0, .int x1] (pc' := 9) rfl rfl rfl ?_
  obtain ⟨v5, e6, h⟩ := m_bd h
  refine g_gr q11_f42 e6 ?_
  obtain ⟨v7, e8, h⟩ := m_bd h
  refine g_gi q11_f76 e8 ?_
  refine g_ch [(0, .ref x0), (1, .int x1)] [.int 500, .int v7, .int x1] (pc' := 18) rfl rfl rfl ?_
  obtain ⟨v10, e9, h⟩ := m_bd h
  refine g_call (v := some (.int v10)) (h := h4) (st' := [.int v10]) (D1 := 0) (as := [.int x1, .int v7, .int 500]) (Or.inl rfl) q11_m79 (m_cs (as := [.int 500, .int v7, .int x1]) (rest := []) q11_m79 jv2251 rfl rfl rfl rfl rfl) (by decide) (SF11_outside e9) rfl ?_
  rcases m_ifd h with ⟨c11, h⟩ | ⟨c11, h⟩
  · refine g_ifc (t := 34) rfl (m_eqT c11) ?_
    refine g_in eF11_act_34 mx2203 ?_
    refine g_ch [(0, .ref x0), (1, .int x1)] [.ref x0] (pc' := 35) rfl rfl rfl ?_
    obtain ⟨v12, e13, h⟩ := m_bd h
    refine g_gr q11_f21 e13 ?_
    obtain ⟨h15, e14, h⟩ := m_bd h
    refine g_call (v := none) (h := h15) (st' := []) (D1 := 402) (as := [.ref v12]) (Or.inr (Or.inl rfl)) q11_m90 (m_cv (as := []) (rest := []) (Or.inl rfl) q11_m90 jv1401 (OF7_read e14) rfl rfl rfl rfl) (by decide) (SF7_read e14) rfl ?_
    refine g_ch [(0, .ref x0), (1, .int x1)] [.ref x0, .ref x0] (pc' := 43) rfl rfl rfl ?_
    obtain ⟨v16, e17, h⟩ := m_bd h
    refine g_gr q11_f21 e17 ?_
    obtain ⟨v18, e19, h⟩ := m_bd h
    refine g_gi q11_f93 e19 ?_
    obtain ⟨h20, e21, h⟩ := m_bd h
    refine g_pf q11_f62 e21 ?_
    refine g_ch [(0, .ref x0), (1, .int x1)] [.ref x0] (pc' := 53) rfl rfl rfl ?_
    obtain ⟨v22, e23, h⟩ := m_bd h
    refine g_gi q11_f62 e23 ?_
    refine g_ch [(0, .ref x0), (1, .int x1)] [.int (-1), .int v22] (pc' := 57) rfl rfl rfl ?_
    rcases m_ifd h with ⟨c24, h⟩ | ⟨c24, h⟩
    · refine g_if (t := 70) rfl (m_eqT c24) ?_
      refine g_in eF11_act_70 mx2203 ?_
      refine g_ch [(0, .ref x0), (1, .int x1)] [.ref x0] (pc' := 71) rfl rfl rfl ?_
      obtain ⟨v25, e26, h⟩ := m_bd h
      refine g_gr q11_f42 e26 ?_
      obtain ⟨v27, e28, h⟩ := m_bd h
      refine g_gi q11_f98 e28 ?_
      refine g_ch [(0, .ref x0), (1, .int x1)] [.int 10, .int v27] (pc' := 79) rfl rfl rfl ?_
      rcases m_ifd h with ⟨c29, h⟩ | ⟨c29, h⟩
      · refine g_if (t := 92) rfl (m_ltT c29) ?_
        refine g_in eF11_act_92 mx2203 ?_
        obtain ⟨h30, e31, h⟩ := m_bd h
        refine g_newo (by decide +kernel) (by decide +kernel) e31 ?_
        refine g_ch [(0, .ref x0), (1, .int x1)] [.ref x0, .int x1, .ref (m_id h20), .ref (m_id h20)] (pc' := 98) rfl rfl rfl ?_
        obtain ⟨v32, e33, h⟩ := m_bd h
        refine g_gr q11_f21 e33 ?_
        obtain ⟨h35, e34, h⟩ := m_bd h
        refine g_call (v := none) (h := h35) (st' := [.ref (m_id h20)]) (D1 := 7) (as := [.ref (m_id h20), .int x1, .ref v32]) (Or.inr (Or.inr rfl)) q11_m108 (m_cv (as := [.ref v32, .int x1]) (rest := [.ref (m_id h20)]) (Or.inr rfl) q11_m108 jv0 (OF0_init e34) rfl rfl rfl rfl) (by decide) (SF0_init e34) rfl ?_
        refine g_ch [(2, .ref (m_id h20)), (0, .ref x0), (1, .int x1)] [.ref x0] (pc' := 106) rfl rfl rfl ?_
        obtain ⟨v36, e37, h⟩ := m_bd h
        refine g_gr q11_f42 e37 ?_
        refine g_ch [(2, .ref (m_id h20)), (0, .ref x0), (1, .int x1)] [.ref (m_id h20), .ref v36] (pc' := 110) rfl rfl rfl ?_
        obtain ⟨h39, e38, h⟩ := m_bd h
        refine g_call (v := none) (h := h39) (st' := []) (D1 := 0) (as := [.ref v36, .ref (m_id h20)]) (Or.inr (Or.inl rfl)) q11_m111 (m_cv (as := [.ref (m_id h20)]) (rest := []) (Or.inl rfl) q11_m111 jv608 (OF3_addAct e38) rfl rfl rfl rfl) (by decide) (SF3_addAct e38) rfl ?_
        refine g_ch [(2, .ref (m_id h20)), (0, .ref x0), (1, .int x1)] [.ref (m_id h20)] (pc' := 114) rfl rfl rfl ?_
        obtain ⟨v40, e41, h⟩ := m_bd h
        refine g_gi q11_f115 e41 ?_
        cases h
        rw [k0 _ hK]
        exact g_iret rfl rfl
      · refine g_ifn (t := 92) rfl (m_ltF c29) ?_
        refine g_in eF11_act_82 mx2203 ?_
        cases h
        rw [k0 _ hK]
        exact g_thr (by decide +kernel) (by decide) rfl
    · refine g_ifn (t := 70) rfl (m_eqF c24) ?_
      refine g_in eF11_act_60 mx2203 ?_
      cases h
      rw [k0 _ hK]
      exact g_thr (by decide +kernel) (by decide) rfl
  · refine g_ifcn (t := 34) rfl (m_eqF c11) ?_
    refine g_in eF11_act_24 mx2203 ?_
    cases h
    rw [k0 _ hK]
    exact g_thr (by decide +kernel) (by decide) rfl
theorem OF11_act {x0 : Nat} {x1 : Int32} {hp : m_H} {x : (Int32 ⊕ Nat) × m_H} (h : F11_act x0 x1 hp = some x) : m_isO hp 8 x0 = true := (m_gdd h).1
theorem SF11_act {xs : Nat → Int32} {L : Nat} {x0 : Nat} {x1 : Int32} {hp : m_H} {x : (Int32 ⊕ Nat) × m_H} (h : F11_act x0 x1 hp = some x) : m_Rn xs L 403 2203 0 (lv_args 0 [.ref x0, .int x1]) [] hp (m_xI x) :=
  r_lv (SF11_act_0 x0 x1 hp (K := fun y => y = x) (fun y e => by rw [e]) (m_gdd h).2 rfl) rfl ⟨rfl, rfl, trivial⟩
-- F11_fault: LendHouse.fault()I
theorem eF11_fault_0 : m_Fe mi11_4 0 (m_ap [(.aload_n 0, 1)] ((.getfield 62, 3) :: ([(.ireturn, 1)]))) := m_Fe_of nd2204 0 3 rfl
theorem SF11_fault_0 {xs : Nat → Int32} {L : Nat} (x0 : Nat) (hp : m_H) {r : m_O × m_H} {K : Int32 → Prop} (k0 : ∀ x, K x → r = (.inl (some (.int x)), hp)) {t : Int32} (h : F11_fault_0 x0 hp = some t) (hK : K t) : m_Rn xs L 0 2204 0 [(0, .ref x0)] [] hp r := by
  unfold F11_fault_0 at h
  refine g_in eF11_fault_0 mx2204 ?_
  refine g_ch [(0, .ref x0)] [.ref x0] (pc' := 1) rfl rfl rfl ?_
  obtain ⟨v1, e2, h⟩ := m_bd h
  refine g_gi q11_f62 e2 ?_
  cases h
  rw [k0 _ hK]
  exact g_iret rfl rfl
theorem OF11_fault {x0 : Nat} {hp : m_H} {x : Int32} (h : F11_fault x0 hp = some x) : m_isO hp 8 x0 = true := (m_gdd h).1
theorem SF11_fault {xs : Nat → Int32} {L : Nat} {x0 : Nat} {hp : m_H} {x : Int32} (h : F11_fault x0 hp = some x) : m_Rn xs L 0 2204 0 (lv_args 0 [.ref x0]) [] hp (.inl (some (.int x)), hp) :=
  r_lv (SF11_fault_0 x0 hp (K := fun y => y = x) (fun y e => by rw [e]) (m_gdd h).2 rfl) rfl ⟨rfl, trivial⟩
-- F11_testSort: LendHouse.testSort(I)V
theorem eF11_testSort_0 : m_Fe mi11_54 0 (m_ap [(.iload_n 0, 1), (.iconst 0, 1), (.bipush 7, 2)] ((.invokestatic 79, 3) :: ([(.ifCond .eq 14, 3)]))) := m_Fe_of nd2254 0 5 rfl
theorem eF11_testSort_21 : m_Fe mi11_54 21 ([(.return_, 1)]) := m_Fe_of nd2254 10 1 rfl
theorem eF11_testSort_10 : m_Fe mi11_54 10 ([(.new 207, 3)]) := m_Fe_of nd2254 5 1 rfl
theorem SF11_testSort_0 {xs : Nat → Int32} {L : Nat} (x0 : Int32) (hp : m_H) {r : m_O × m_H} {K : ((Unit ⊕ Nat) × m_H) → Prop} (k0 : ∀ x, K x → r = (m_xV x)) {t : (Unit ⊕ Nat) × m_H} (h : F11_testSort_0 x0 hp = some t) (hK : K t) : m_Rn xs L 7 2254 0 [(0, .int x0)] [] hp r := by
  unfold F11_testSort_0 at h
  refine g_in eF11_testSort_0 mx2254 ?_
  refine g_ch [(0, .int x0)] [.int 7, .int 0, .int x0] (pc' := 4) rfl rfl rfl ?_
  obtain ⟨v2, e1, h⟩ := m_bd h
  refine g_call (v := some (.int v2)) (h := hp) (st' := [.int v2]) (D1 := 0) (as := [.int x0, .int 0, .int 7]) (Or.inl rfl) q11_m79 (m_cs (as := [.int 7, .int 0, .int x0]) (rest := []) q11_m79 jv2251 rfl rfl rfl rfl rfl) (by decide) (SF11_outside e1) rfl ?_
  rcases m_ifd h with ⟨c3, h⟩ | ⟨c3, h⟩
  · refine g_ifc (t := 21) rfl (m_eqT c3) ?_
    refine g_in eF11_testSort_21 mx2254 ?_
    cases h
    rw [k0 _ hK]
    exact g_vret rfl
  · refine g_ifcn (t := 21) rfl (m_eqF c3) ?_
    refine g_in eF11_testSort_10 mx2254 ?_
    cases h
    rw [k0 _ hK]
    exact g_thr (by decide +kernel) (by decide) rfl
theorem SF11_testSort {xs : Nat → Int32} {L : Nat} {x0 : Int32} {hp : m_H} {x : (Unit ⊕ Nat) × m_H} (h : F11_testSort x0 hp = some x) : m_Rn xs L 7 2254 0 (lv_args 0 [.int x0]) [] hp (m_xV x) :=
  r_lv (SF11_testSort_0 x0 hp (K := fun y => y = x) (fun y e => by rw [e]) h rfl) rfl ⟨rfl, trivial⟩
-- F11_sort: LendHouse.sort(IIIII)V
theorem eF11_sort_0 : m_Fe mi11_5 0 (m_ap [(.iload_n 1, 1)] ((.invokestatic 118, 3) :: (m_ap [(.iload_n 2, 1), (.iconst 1, 1), (.bipush 20, 2)] ((.invokestatic 79, 3) :: ([(.ifCond .ne 35, 3)]))))) := m_Fe_of nd2205 0 7 rfl
theorem eF11_sort_46 : m_Fe mi11_5 46 ([(.new 83, 3)]) := m_Fe_of nd2205 22 1 rfl
theorem eF11_sort_14 : m_Fe mi11_5 14 (m_ap [(.iload_n 3, 1), (.iconst 0, 1), (.bipush 50, 2)] ((.invokestatic 79, 3) :: ([(.ifCond .ne 25, 3)]))) := m_Fe_of nd2205 7 5 rfl
theorem eF11_sort_24 : m_Fe mi11_5 24 (m_ap [(.iload 4, 2), (.iconst 0, 1), (.bipush 50, 2)] ((.invokestatic 79, 3) :: ([(.ifCond .ne 14, 3)]))) := m_Fe_of nd2205 12 5 rfl
theorem eF11_sort_35 : m_Fe mi11_5 35 (m_ap [(.iload 5, 2), (.iconst 1, 1), (.bipush 9, 2)] ((.invokestatic 79, 3) :: ([(.ifCond .eq 13, 3)]))) := m_Fe_of nd2205 17 5 rfl
theorem eF11_sort_56 : m_Fe mi11_5 56 (m_ap [(.aload_n 0, 1)] ((.getfield 42, 3) :: ((.getfield 123, 3) :: (m_ap [(.iload_n 1, 1), (.iconst 0, 1), (.iload_n 2, 1)] ((.invokevirtual 127, 3) :: (m_ap [(.aload_n 0, 1)] ((.getfield 42, 3) :: ((.getfield 123, 3) :: (m_ap [(.iload_n 1, 1), (.iconst 1, 1), (.iload_n 3, 1)] ((.invokevirtual 127, 3) :: (m_ap [(.aload_n 0, 1)] ((.getfield 42, 3) :: ((.getfield 123, 3) :: (m_ap [(.iload_n 1, 1), (.iconst 2, 1), (.iload 4, 2)] ((.invokevirtual 127, 3) :: (m_ap [(.aload_n 0, 1)] ((.getfield 42, 3) :: ((.getfield 123, 3) :: (m_ap [(.iload_n 1, 1), (.iconst 3, 1), (.iload 5, 2)] ((.invokevirtual 127, 3) :: ([(.return_, 1)]))))))))))))))))))))) := m_Fe_of nd2205 27 29 rfl
theorem SF11_sort_0 {xs : Nat → Int32} {L : Nat} (x0 : Nat) (x1 : Int32) (x2 : Int32) (x3 : Int32) (x4 : Int32) (x5 : Int32) (hp : m_H) {r : m_O × m_H} {K : ((Unit ⊕ Nat) × m_H) → Prop} (k0 : ∀ x, K x → r = (m_xV x)) {t : (Unit ⊕ Nat) × m_H} (h : F11_sort_0 x0 x1 x2 x3 x4 x5 hp = some t) (hK : K t) : m_Rn xs L 8 2205 0 [(0, .ref x0), (1, .int x1), (2, .int x2), (3, .int x3), (4, .int x4), (5, .int x5)] [] hp r := by
  unfold F11_sort_0 at h
  refine g_in eF11_sort_0 mx2205 ?_
  refine g_ch [(0, .ref x0), (1, .int x1), (2, .int x2), (3, .int x3), (4, .int x4), (5, .int x5)] [.int x1] (pc' := 1) rfl rfl rfl ?_
  obtain ⟨z2, e1, h⟩ := m_bd h
  rcases m_sxd h with ⟨u42, e3, h⟩ | ⟨E4, e3, h⟩
  · have q5 := (SF11_testSort (xs := xs) (L := L) e1)
    unfold m_xV at q5
    rw [e3] at q5
    refine g_call (v := none) (h := z2.2) (st' := []) (D1 := 7) (as := [.int x1]) (Or.inl rfl) q11_m118 (m_cs (as := [.int x1]) (rest := []) q11_m118 jv2254 rfl rfl rfl rfl rfl) (by decide) q5 rfl ?_
    refine g_ch [(0, .ref x0), (1, .int x1), (2, .int x2), (3, .int x3), (4, .int x4), (5, .int x5)] [.int 20, .int 1, .int x2] (pc' := 8) rfl rfl rfl ?_
    obtain ⟨v7, e6, h⟩ := m_bd h
    refine g_call (v := some (.int v7)) (h := z2.2) (st' := [.int v7]) (D1 := 0) (as := [.int x2, .int 1, .int 20]) (Or.inl rfl) q11_m79 (m_cs (as := [.int 20, .int 1, .int x2]) (rest := []) q11_m79 jv2251 rfl rfl rfl rfl rfl) (by decide) (SF11_outside e6) rfl ?_
    rcases m_ifd h with ⟨c8, h⟩ | ⟨c8, h⟩
    · refine g_ifcn (t := 46) rfl (m_neF c8) ?_
      refine g_in eF11_sort_14 mx2205 ?_
      refine g_ch [(0, .ref x0), (1, .int x1), (2, .int x2), (3, .int x3), (4, .int x4), (5, .int x5)] [.int 50, .int 0, .int x3] (pc' := 18) rfl rfl rfl ?_
      obtain ⟨v10, e9, h⟩ := m_bd h
      refine g_call (v := some (.int v10)) (h := z2.2) (st' := [.int v10]) (D1 := 0) (as := [.int x3, .int 0, .int 50]) (Or.inl rfl) q11_m79 (m_cs (as := [.int 50, .int 0, .int x3]) (rest := []) q11_m79 jv2251 rfl rfl rfl rfl rfl) (by decide) (SF11_outside e9) rfl ?_
      rcases m_ifd h with ⟨c11, h⟩ | ⟨c11, h⟩
      · refine g_ifcn (t := 46) rfl (m_neF c11) ?_
        refine g_in eF11_sort_24 mx2205 ?_
        refine g_ch [(0, .ref x0), (1, .int x1), (2, .int x2), (3, .int x3), (4, .int x4), (5, .int x5)] [.int 50, .int 0, .int x4] (pc' := 29) rfl rfl rfl ?_
        obtain ⟨v13, e12, h⟩ := m_bd h
        refine g_call (v := some (.int v13)) (h := z2.2) (st' := [.int v13]) (D1 := 0) (as := [.int x4, .int 0, .int 50]) (Or.inl rfl) q11_m79 (m_cs (as := [.int 50, .int 0, .int x4]) (rest := []) q11_m79 jv2251 rfl rfl rfl rfl rfl) (by decide) (SF11_outside e12) rfl ?_
        rcases m_ifd h with ⟨c14, h⟩ | ⟨c14, h⟩
        · refine g_ifcn (t := 46) rfl (m_neF c14) ?_
          refine g_in eF11_sort_35 mx2205 ?_
          refine g_ch [(0, .ref x0), (1, .int x1), (2, .int x2), (3, .int x3), (4, .int x4), (5, .int x5)] [.int 9, .int 1, .int x5] (pc' := 40) rfl rfl rfl ?_
          obtain ⟨v16, e15, h⟩ := m_bd h
          refine g_call (v := some (.int v16)) (h := z2.2) (st' := [.int v16]) (D1 := 0) (as := [.int x5, .int 1, .int 9]) (Or.inl rfl) q11_m79 (m_cs (as := [.int 9, .int 1, .int x5]) (rest := []) q11_m79 jv2251 rfl rfl rfl rfl rfl) (by decide) (SF11_outside e15) rfl ?_
          rcases m_ifd h with ⟨c17, h⟩ | ⟨c17, h⟩
          · refine g_ifc (t := 56) rfl (m_eqT c17) ?_
            refine g_in eF11_sort_56 mx2205 ?_
            refine g_ch [(0, .ref x0), (1, .int x1), (2, .int x2), (3, .int x3), (4, .int x4), (5, .int x5)] [.ref x0] (pc' := 57) rfl rfl rfl ?_
            obtain ⟨v18, e19, h⟩ := m_bd h
            refine g_gr q11_f42 e19 ?_
            obtain ⟨v20, e21, h⟩ := m_bd h
            refine g_gr q11_f123 e21 ?_
            refine g_ch [(0, .ref x0), (1, .int x1), (2, .int x2), (3, .int x3), (4, .int x4), (5, .int x5)] [.int x2, .int 0, .int x1, .ref v20] (pc' := 66) rfl rfl rfl ?_
            obtain ⟨h23, e22, h⟩ := m_bd h
            refine g_call (v := none) (h := h23) (st' := []) (D1 := 1) (as := [.ref v20, .int x1, .int 0, .int x2]) (Or.inr (Or.inl rfl)) q11_m127 (m_cv (as := [.int x2, .int 0, .int x1]) (rest := []) (Or.inl rfl) q11_m127 jv1605 (OF8_set e22) rfl rfl rfl rfl) (by decide) (SF8_set e22) rfl ?_
            refine g_ch [(0, .ref x0), (1, .int x1), (2, .int x2), (3, .int x3), (4, .int x4), (5, .int x5)] [.ref x0] (pc' := 70) rfl rfl rfl ?_
            obtain ⟨v24, e25, h⟩ := m_bd h
            refine g_gr q11_f42 e25 ?_
            obtain ⟨v26, e27, h⟩ := m_bd h
            refine g_gr q11_f123 e27 ?_
            refine g_ch [(0, .ref x0), (1, .int x1), (2, .int x2), (3, .int x3), (4, .int x4), (5, .int x5)] [.int x3, .int 1, .int x1, .ref v26] (pc' := 79) rfl rfl rfl ?_
            obtain ⟨h29, e28, h⟩ := m_bd h
            refine g_call (v := none) (h := h29) (st' := []) (D1 := 1) (as := [.ref v26, .int x1, .int 1, .int x3]) (Or.inr (Or.inl rfl)) q11_m127 (m_cv (as := [.int x3, .int 1, .int x1]) (rest := []) (Or.inl rfl) q11_m127 jv1605 (OF8_set e28) rfl rfl rfl rfl) (by decide) (SF8_set e28) rfl ?_
            refine g_ch [(0, .ref x0), (1, .int x1), (2, .int x2), (3, .int x3), (4, .int x4), (5, .int x5)] [.ref x0] (pc' := 83) rfl rfl rfl ?_
            obtain ⟨v30, e31, h⟩ := m_bd h
            refine g_gr q11_f42 e31 ?_
            obtain ⟨v32, e33, h⟩ := m_bd h
            refine g_gr q11_f123 e33 ?_
            refine g_ch [(0, .ref x0), (1, .int x1), (2, .int x2), (3, .int x3), (4, .int x4), (5, .int x5)] [.int x4, .int 2, .int x1, .ref v32] (pc' := 93) rfl rfl rfl ?_
            obtain ⟨h35, e34, h⟩ := m_bd h
            refine g_call (v := none) (h := h35) (st' := []) (D1 := 1) (as := [.ref v32, .int x1, .int 2, .int x4]) (Or.inr (Or.inl rfl)) q11_m127 (m_cv (as := [.int x4, .int 2, .int x1]) (rest := []) (Or.inl rfl) q11_m127 jv1605 (OF8_set e34) rfl rfl rfl rfl) (by decide) (SF8_set e34) rfl ?_
            refine g_ch [(0, .ref x0), (1, .int x1), (2, .int x2), (3, .int x3), (4, .int x4), (5, .int x5)] [.ref x0] (pc' := 97) rfl rfl rfl ?_
            obtain ⟨v36, e37, h⟩ := m_bd h
            refine g_gr q11_f42 e37 ?_
            obtain ⟨v38, e39, h⟩ := m_bd h
            refine g_gr q11_f123 e39 ?_
            refine g_ch [(0, .ref x0), (1, .int x1), (2, .int x2), (3, .int x3), (4, .int x4), (5, .int x5)] [.int x5, .int 3, .int x1, .ref v38] (pc' := 107) rfl rfl rfl ?_
            obtain ⟨h41, e40, h⟩ := m_bd h
            refine g_call (v := none) (h := h41) (st' := []) (D1 := 1) (as := [.ref v38, .int x1, .int 3, .int x5]) (Or.inr (Or.inl rfl)) q11_m127 (m_cv (as := [.int x5, .int 3, .int x1]) (rest := []) (Or.inl rfl) q11_m127 jv1605 (OF8_set e40) rfl rfl rfl rfl) (by decide) (SF8_set e40) rfl ?_
            cases h
            rw [k0 _ hK]
            exact g_vret rfl
          · refine g_ifcn (t := 56) rfl (m_eqF c17) ?_
            refine g_in eF11_sort_46 mx2205 ?_
            cases h
            rw [k0 _ hK]
            exact g_thr (by decide +kernel) (by decide) rfl
        · refine g_ifc (t := 46) rfl (m_neT c14) ?_
          refine g_in eF11_sort_46 mx2205 ?_
          cases h
          rw [k0 _ hK]
          exact g_thr (by decide +kernel) (by decide) rfl
      · refine g_ifc (t := 46) rfl (m_neT c11) ?_
        refine g_in eF11_sort_46 mx2205 ?_
        cases h
        rw [k0 _ hK]
        exact g_thr (by decide +kernel) (by decide) rfl
    · refine g_ifc (t := 46) rfl (m_neT c8) ?_
      refine g_in eF11_sort_46 mx2205 ?_
      cases h
      rw [k0 _ hK]
      exact g_thr (by decide +kernel) (by decide) rfl
  · have q5 := (SF11_testSort (xs := xs) (L := L) e1)
    unfold m_xV at q5
    rw [e3] at q5
    cases h
    rw [k0 _ hK]
    exact g_callX (D1 := 7) (as := [.int x1]) (Or.inl rfl) q11_m118 (m_cs (as := [.int x1]) (rest := []) q11_m118 jv2254 rfl rfl rfl rfl rfl) (by decide) q5 rfl
theorem OF11_sort {x0 : Nat} {x1 : Int32} {x2 : Int32} {x3 : Int32} {x4 : Int32} {x5 : Int32} {hp : m_H} {x : (Unit ⊕ Nat) × m_H} (h : F11_sort x0 x1 x2 x3 x4 x5 hp = some x) : m_isO hp 8 x0 = true := (m_gdd h).1
theorem SF11_sort {xs : Nat → Int32} {L : Nat} {x0 : Nat} {x1 : Int32} {x2 : Int32} {x3 : Int32} {x4 : Int32} {x5 : Int32} {hp : m_H} {x : (Unit ⊕ Nat) × m_H} (h : F11_sort x0 x1 x2 x3 x4 x5 hp = some x) : m_Rn xs L 8 2205 0 (lv_args 0 [.ref x0, .int x1, .int x2, .int x3, .int x4, .int x5]) [] hp (m_xV x) :=
  r_lv (SF11_sort_0 x0 x1 x2 x3 x4 x5 hp (K := fun y => y = x) (fun y e => by rw [e]) (m_gdd h).2 rfl) rfl ⟨rfl, rfl, rfl, rfl, rfl, rfl, trivial⟩
-- F11_price: LendHouse.price(III)I
theorem eF11_price_0 : m_Fe mi11_6 0 (m_ap [(.iload_n 1, 1)] ((.invokestatic 118, 3) :: (m_ap [(.iload_n 2, 1), (.aload_n 0, 1)] ((.getfield 42, 3) :: ((.getfield 76, 3) :: (m_ap [(.sipush 500, 3)] ((.invokestatic 79, 3) :: ([(.ifCond .ne 14, 3)])))))))) := m_Fe_of nd2206 0 9 rfl
theorem eF11_price_32 : m_Fe mi11_6 32 ([(.new 83, 3)]) := m_Fe_of nd2206 14 1 rfl
theorem eF11_price_21 : m_Fe mi11_6 21 (m_ap [(.iload_n 3, 1), (.iconst 0, 1), (.sipush 1000, 3)] ((.invokestatic 79, 3) :: ([(.ifCond .eq 13, 3)]))) := m_Fe_of nd2206 9 5 rfl
theorem eF11_price_42 : m_Fe mi11_6 42 (m_ap [(.aload_n 0, 1)] ((.getfield 42, 3) :: ((.getfield 135, 3) :: (m_ap [(.iload_n 1, 1), (.iload_n 2, 1), (.iload_n 3, 1)] ((.invokestatic 138, 3) :: ([(.ireturn, 1)])))))) := m_Fe_of nd2206 19 8 rfl
theorem SF11_price_0 {xs : Nat → Int32} {L : Nat} (x0 : Nat) (x1 : Int32) (x2 : Int32) (x3 : Int32) (hp : m_H) {r : m_O × m_H} {K : ((Int32 ⊕ Nat) × m_H) → Prop} (k0 : ∀ x, K x → r = (m_xI x)) {t : (Int32 ⊕ Nat) × m_H} (h : F11_price_0 x0 x1 x2 x3 hp = some t) (hK : K t) : m_Rn xs L 8 2206 0 [(0, .ref x0), (1, .int x1), (2, .int x2), (3, .int x3)] [] hp r := by
  unfold F11_price_0 at h
  refine g_in eF11_price_0 mx2206 ?_
  refine g_ch [(0, .ref x0), (1, .int x1), (2, .int x2), (3, .int x3)] [.int x1] (pc' := 1) rfl rfl rfl ?_
  obtain ⟨z2, e1, h⟩ := m_bd h
  rcases m_sxd h with ⟨u22, e3, h⟩ | ⟨E4, e3, h⟩
  · have q5 := (SF11_testSort (xs := xs) (L := L) e1)
    unfold m_xV at q5
    rw [e3] at q5
    refine g_call (v := none) (h := z2.2) (st' := []) (D1 := 7) (as := [.int x1]) (Or.inl rfl) q11_m118 (m_cs (as := [.int x1]) (rest := []) q11_m118 jv2254 rfl rfl rfl rfl rfl) (by decide) q5 rfl ?_
    refine g_ch [(0, .ref x0), (1, .int x1), (2, .int x2), (3, .int x3)] [.ref x0, .int x2] (pc' := 6) rfl rfl rfl ?_
    obtain ⟨v6, e7, h⟩ := m_bd h
    refine g_gr q11_f42 e7 ?_
    obtain ⟨v8, e9, h⟩ := m_bd h
    refine g_gi q11_f76 e9 ?_
    refine g_ch [(0, .ref x0), (1, .int x1), (2, .int x2), (3, .int x3)] [.int 500, .int v8, .int x2] (pc' := 15) rfl rfl rfl ?_
    obtain ⟨v11, e10, h⟩ := m_bd h
    refine g_call (v := some (.int v11)) (h := z2.2) (st' := [.int v11]) (D1 := 0) (as := [.int x2, .int v8, .int 500]) (Or.inl rfl) q11_m79 (m_cs (as := [.int 500, .int v8, .int x2]) (rest := []) q11_m79 jv2251 rfl rfl rfl rfl rfl) (by decide) (SF11_outside e10) rfl ?_
    rcases m_ifd h with ⟨c12, h⟩ | ⟨c12, h⟩
    · refine g_ifcn (t := 32) rfl (m_neF c12) ?_
      refine g_in eF11_price_21 mx2206 ?_
      refine g_ch [(0, .ref x0), (1, .int x1), (2, .int x2), (3, .int x3)] [.int 1000, .int 0, .int x3] (pc' := 26) rfl rfl rfl ?_
      obtain ⟨v14, e13, h⟩ := m_bd h
      refine g_call (v := some (.int v14)) (h := z2.2) (st' := [.int v14]) (D1 := 0) (as := [.int x3, .int 0, .int 1000]) (Or.inl rfl) q11_m79 (m_cs (as := [.int 1000, .int 0, .int x3]) (rest := []) q11_m79 jv2251 rfl rfl rfl rfl rfl) (by decide) (SF11_outside e13) rfl ?_
      rcases m_ifd h with ⟨c15, h⟩ | ⟨c15, h⟩
      · refine g_ifc (t := 42) rfl (m_eqT c15) ?_
        refine g_in eF11_price_42 mx2206 ?_
        refine g_ch [(0, .ref x0), (1, .int x1), (2, .int x2), (3, .int x3)] [.ref x0] (pc' := 43) rfl rfl rfl ?_
        obtain ⟨v16, e17, h⟩ := m_bd h
        refine g_gr q11_f42 e17 ?_
        obtain ⟨v18, e19, h⟩ := m_bd h
        refine g_gr q11_f135 e19 ?_
        refine g_ch [(0, .ref x0), (1, .int x1), (2, .int x2), (3, .int x3)] [.int x3, .int x2, .int x1, .ref v18] (pc' := 52) rfl rfl rfl ?_
        obtain ⟨z21, e20, h⟩ := m_bd h
        refine g_call (v := some (.int z21.1)) (h := z21.2) (st' := [.int z21.1]) (D1 := 3) (as := [.ref v18, .int x1, .int x2, .int x3]) (Or.inl rfl) q11_m138 (m_cs (as := [.int x3, .int x2, .int x1, .ref v18]) (rest := []) q11_m138 jv604 rfl rfl rfl rfl rfl) (by decide) (SF3_tell e20) rfl ?_
        cases h
        rw [k0 _ hK]
        exact g_iret rfl rfl
      · refine g_ifcn (t := 42) rfl (m_eqF c15) ?_
        refine g_in eF11_price_32 mx2206 ?_
        cases h
        rw [k0 _ hK]
        exact g_thr (by decide +kernel) (by decide) rfl
    · refine g_ifc (t := 32) rfl (m_neT c12) ?_
      refine g_in eF11_price_32 mx2206 ?_
      cases h
      rw [k0 _ hK]
      exact g_thr (by decide +kernel) (by decide) rfl
  · have q5 := (SF11_testSort (xs := xs) (L := L) e1)
    unfold m_xV at q5
    rw [e3] at q5
    cases h
    rw [k0 _ hK]
    exact g_callX (D1 := 7) (as := [.int x1]) (Or.inl rfl) q11_m118 (m_cs (as := [.int x1]) (rest := []) q11_m118 jv2254 rfl rfl rfl rfl rfl) (by decide) q5 rfl
theorem OF11_price {x0 : Nat} {x1 : Int32} {x2 : Int32} {x3 : Int32} {hp : m_H} {x : (Int32 ⊕ Nat) × m_H} (h : F11_price x0 x1 x2 x3 hp = some x) : m_isO hp 8 x0 = true := (m_gdd h).1
theorem SF11_price {xs : Nat → Int32} {L : Nat} {x0 : Nat} {x1 : Int32} {x2 : Int32} {x3 : Int32} {hp : m_H} {x : (Int32 ⊕ Nat) × m_H} (h : F11_price x0 x1 x2 x3 hp = some x) : m_Rn xs L 8 2206 0 (lv_args 0 [.ref x0, .int x1, .int x2, .int x3]) [] hp (m_xI x) :=
  r_lv (SF11_price_0 x0 x1 x2 x3 hp (K := fun y => y = x) (fun y e => by rw [e]) (m_gdd h).2 rfl) rfl ⟨rfl, rfl, rfl, rfl, trivial⟩
-- F11_cost: LendHouse.cost(II)I
theorem eF11_cost_0 : m_Fe mi11_7 0 (m_ap [(.iload_n 1, 1)] ((.invokestatic 118, 3) :: (m_ap [(.aload_n 0, 1)] ((.getfield 42, 3) :: (m_ap [(.iload_n 1, 1), (.iload_n 2, 1)] ((.invokevirtual 142, 3) :: ([(.ireturn, 1)]))))))) := m_Fe_of nd2207 0 8 rfl
theorem SF11_cost_0 {xs : Nat → Int32} {L : Nat} (x0 : Nat) (x1 : Int32) (x2 : Int32) (hp : m_H) {r : m_O × m_H} {K : ((Int32 ⊕ Nat) × m_H) → Prop} (k0 : ∀ x, K x → r = (m_xI x)) {t : (Int32 ⊕ Nat) × m_H} (h : F11_cost_0 x0 x1 x2 hp = some t) (hK : K t) : m_Rn xs L 8 2207 0 [(0, .ref x0), (1, .int x1), (2, .int x2)] [] hp r := by
  unfold F11_cost_0 at h
  refine g_in eF11_cost_0 mx2207 ?_
  refine g_ch [(0, .ref x0), (1, .int x1), (2, .int x2)] [.int x1] (pc' := 1) rfl rfl rfl ?_
  obtain ⟨z2, e1, h⟩ := m_bd h
  rcases m_sxd h with ⟨u10, e3, h⟩ | ⟨E4, e3, h⟩
  · have q5 := (SF11_testSort (xs := xs) (L := L) e1)
    unfold m_xV at q5
    rw [e3] at q5
    refine g_call (v := none) (h := z2.2) (st' := []) (D1 := 7) (as := [.int x1]) (Or.inl rfl) q11_m118 (m_cs (as := [.int x1]) (rest := []) q11_m118 jv2254 rfl rfl rfl rfl rfl) (by decide) q5 rfl ?_
    refine g_ch [(0, .ref x0), (1, .int x1), (2, .int x2)] [.ref x0] (pc' := 5) rfl rfl rfl ?_
    obtain ⟨v6, e7, h⟩ := m_bd h
    refine g_gr q11_f42 e7 ?_
    refine g_ch [(0, .ref x0), (1, .int x1), (2, .int x2)] [.int x2, .int x1, .ref v6] (pc' := 10) rfl rfl rfl ?_
    obtain ⟨v9, e8, h⟩ := m_bd h
    refine g_call (v := some (.int v9)) (h := z2.2) (st' := [.int v9]) (D1 := 3) (as := [.ref v6, .int x1, .int x2]) (Or.inr (Or.inl rfl)) q11_m142 (m_cv (as := [.int x2, .int x1]) (rest := []) (Or.inl rfl) q11_m142 jv606 (OF3_priceIn e8) rfl rfl rfl rfl) (by decide) (SF3_priceIn e8) rfl ?_
    cases h
    rw [k0 _ hK]
    exact g_iret rfl rfl
  · have q5 := (SF11_testSort (xs := xs) (L := L) e1)
    unfold m_xV at q5
    rw [e3] at q5
    cases h
    rw [k0 _ hK]
    exact g_callX (D1 := 7) (as := [.int x1]) (Or.inl rfl) q11_m118 (m_cs (as := [.int x1]) (rest := []) q11_m118 jv2254 rfl rfl rfl rfl rfl) (by decide) q5 rfl
theorem OF11_cost {x0 : Nat} {x1 : Int32} {x2 : Int32} {hp : m_H} {x : (Int32 ⊕ Nat) × m_H} (h : F11_cost x0 x1 x2 hp = some x) : m_isO hp 8 x0 = true := (m_gdd h).1
theorem SF11_cost {xs : Nat → Int32} {L : Nat} {x0 : Nat} {x1 : Int32} {x2 : Int32} {hp : m_H} {x : (Int32 ⊕ Nat) × m_H} (h : F11_cost x0 x1 x2 hp = some x) : m_Rn xs L 8 2207 0 (lv_args 0 [.ref x0, .int x1, .int x2]) [] hp (m_xI x) :=
  r_lv (SF11_cost_0 x0 x1 x2 hp (K := fun y => y = x) (fun y e => by rw [e]) (m_gdd h).2 rfl) rfl ⟨rfl, rfl, rfl, trivial⟩
-- F11_works: LendHouse.works(II)I
theorem eF11_works_0 : m_Fe mi11_8 0 (m_ap [(.iload_n 1, 1), (.iconst 0, 1), (.ldc 146, 2), (.aload_n 0, 1)] ((.getfield 42, 3) :: ((.getfield 147, 3) :: (m_ap [(.isub, 1)] ((.invokestatic 79, 3) :: ([(.ifCond .ne 13, 3)])))))) := m_Fe_of nd2208 0 9 rfl
theorem eF11_works_28 : m_Fe mi11_8 28 ([(.new 83, 3)]) := m_Fe_of nd2208 14 1 rfl
theorem eF11_works_18 : m_Fe mi11_8 18 (m_ap [(.iload_n 2, 1), (.iconst 0, 1), (.ldc 146, 2)] ((.invokestatic 79, 3) :: ([(.ifCond .eq 13, 3)]))) := m_Fe_of nd2208 9 5 rfl
theorem eF11_works_38 : m_Fe mi11_8 38 (m_ap [(.aload_n 0, 1)] ((.getfield 42, 3) :: (m_ap [(.dup, 1)] ((.getfield 147, 3) :: (m_ap [(.iload_n 1, 1), (.iadd, 1)] ((.putfield 147, 3) :: (m_ap [(.aload_n 0, 1)] ((.getfield 42, 3) :: (m_ap [(.iload_n 2, 1)] ((.putfield 152, 3) :: (m_ap [(.aload_n 0, 1)] ((.getfield 42, 3) :: ((.getfield 147, 3) :: ([(.ireturn, 1)])))))))))))))) := m_Fe_of nd2208 19 15 rfl
theorem SF11_works_0 {xs : Nat → Int32} {L : Nat} (x0 : Nat) (x1 : Int32) (x2 : Int32) (hp : m_H) {r : m_O × m_H} {K : ((Int32 ⊕ Nat) × m_H) → Prop} (k0 : ∀ x, K x → r = (m_xI x)) {t : (Int32 ⊕ Nat) × m_H} (h : F11_works_0 x0 x1 x2 hp = some t) (hK : K t) : m_Rn xs L 7 2208 0 [(0, .ref x0), (1, .int x1), (2, .int x2)] [] hp r := by
  unfold F11_works_0 at h
  refine g_in eF11_works_0 mx2208 ?_
  refine g_ch [(0, .ref x0), (1, .int x1), (2, .int x2)] [.ref x0, .int 1000000, .int 0, .int x1] (pc' := 5) rfl rfl rfl ?_
  obtain ⟨v1, e2, h⟩ := m_bd h
  refine g_gr q11_f42 e2 ?_
  obtain ⟨v3, e4, h⟩ := m_bd h
  refine g_gi q11_f147 e4 ?_
  refine g_ch [(0, .ref x0), (1, .int x1), (2, .int x2)] [.int (1000000 - v3), .int 0, .int x1] (pc' := 12) rfl rfl rfl ?_
  obtain ⟨v6, e5, h⟩ := m_bd h
  refine g_call (v := some (.int v6)) (h := hp) (st' := [.int v6]) (D1 := 0) (as := [.int x1, .int 0, .int (1000000 - v3)]) (Or.inl rfl) q11_m79 (m_cs (as := [.int (1000000 - v3), .int 0, .int x1]) (rest := []) q11_m79 jv2251 rfl rfl rfl rfl rfl) (by decide) (SF11_outside e5) rfl ?_
  rcases m_ifd h with ⟨c7, h⟩ | ⟨c7, h⟩
  · refine g_ifcn (t := 28) rfl (m_neF c7) ?_
    refine g_in eF11_works_18 mx2208 ?_
    refine g_ch [(0, .ref x0), (1, .int x1), (2, .int x2)] [.int 1000000, .int 0, .int x2] (pc' := 22) rfl rfl rfl ?_
    obtain ⟨v9, e8, h⟩ := m_bd h
    refine g_call (v := some (.int v9)) (h := hp) (st' := [.int v9]) (D1 := 0) (as := [.int x2, .int 0, .int 1000000]) (Or.inl rfl) q11_m79 (m_cs (as := [.int 1000000, .int 0, .int x2]) (rest := []) q11_m79 jv2251 rfl rfl rfl rfl rfl) (by decide) (SF11_outside e8) rfl ?_
    rcases m_ifd h with ⟨c10, h⟩ | ⟨c10, h⟩
    · refine g_ifc (t := 38) rfl (m_eqT c10) ?_
      refine g_in eF11_works_38 mx2208 ?_
      refine g_ch [(0, .ref x0), (1, .int x1), (2, .int x2)] [.ref x0] (pc' := 39) rfl rfl rfl ?_
      obtain ⟨v11, e12, h⟩ := m_bd h
      refine g_gr q11_f42 e12 ?_
      refine g_ch [(0, .ref x0), (1, .int x1), (2, .int x2)] [.ref v11, .ref v11] (pc' := 43) rfl rfl rfl ?_
      obtain ⟨v13, e14, h⟩ := m_bd h
      refine g_gi q11_f147 e14 ?_
      refine g_ch [(0, .ref x0), (1, .int x1), (2, .int x2)] [.int (v13 + x1), .ref v11] (pc' := 48) rfl rfl rfl ?_
      obtain ⟨h15, e16, h⟩ := m_bd h
      refine g_pf q11_f147 e16 ?_
      refine g_ch [(0, .ref x0), (1, .int x1), (2, .int x2)] [.ref x0] (pc' := 52) rfl rfl rfl ?_
      obtain ⟨v17, e18, h⟩ := m_bd h
      refine g_gr q11_f42 e18 ?_
      refine g_ch [(0, .ref x0), (1, .int x1), (2, .int x2)] [.int x2, .ref v17] (pc' := 56) rfl rfl rfl ?_
      obtain ⟨h19, e20, h⟩ := m_bd h
      refine g_pf q11_f152 e20 ?_
      refine g_ch [(0, .ref x0), (1, .int x1), (2, .int x2)] [.ref x0] (pc' := 60) rfl rfl rfl ?_
      obtain ⟨v21, e22, h⟩ := m_bd h
      refine g_gr q11_f42 e22 ?_
      obtain ⟨v23, e24, h⟩ := m_bd h
      refine g_gi q11_f147 e24 ?_
      cases h
      rw [k0 _ hK]
      exact g_iret rfl rfl
    · refine g_ifcn (t := 38) rfl (m_eqF c10) ?_
      refine g_in eF11_works_28 mx2208 ?_
      cases h
      rw [k0 _ hK]
      exact g_thr (by decide +kernel) (by decide) rfl
  · refine g_ifc (t := 28) rfl (m_neT c7) ?_
    refine g_in eF11_works_28 mx2208 ?_
    cases h
    rw [k0 _ hK]
    exact g_thr (by decide +kernel) (by decide) rfl
theorem OF11_works {x0 : Nat} {x1 : Int32} {x2 : Int32} {hp : m_H} {x : (Int32 ⊕ Nat) × m_H} (h : F11_works x0 x1 x2 hp = some x) : m_isO hp 8 x0 = true := (m_gdd h).1
theorem SF11_works {xs : Nat → Int32} {L : Nat} {x0 : Nat} {x1 : Int32} {x2 : Int32} {hp : m_H} {x : (Int32 ⊕ Nat) × m_H} (h : F11_works x0 x1 x2 hp = some x) : m_Rn xs L 7 2208 0 (lv_args 0 [.ref x0, .int x1, .int x2]) [] hp (m_xI x) :=
  r_lv (SF11_works_0 x0 x1 x2 hp (K := fun y => y = x) (fun y e => by rw [e]) (m_gdd h).2 rfl) rfl ⟨rfl, rfl, rfl, trivial⟩
-- F11_testCrates: LendHouse.testCrates(I)V
theorem eF11_testCrates_0 : m_Fe mi11_55 0 (m_ap [(.iload_n 0, 1), (.iconst 1, 1), (.sipush 1000, 3)] ((.invokestatic 79, 3) :: ([(.ifCond .eq 14, 3)]))) := m_Fe_of nd2255 0 5 rfl
theorem eF11_testCrates_22 : m_Fe mi11_55 22 ([(.return_, 1)]) := m_Fe_of nd2255 10 1 rfl
theorem eF11_testCrates_11 : m_Fe mi11_55 11 ([(.new 83, 3)]) := m_Fe_of nd2255 5 1 rfl
theorem SF11_testCrates_0 {xs : Nat → Int32} {L : Nat} (x0 : Int32) (hp : m_H) {r : m_O × m_H} {K : ((Unit ⊕ Nat) × m_H) → Prop} (k0 : ∀ x, K x → r = (m_xV x)) {t : (Unit ⊕ Nat) × m_H} (h : F11_testCrates_0 x0 hp = some t) (hK : K t) : m_Rn xs L 7 2255 0 [(0, .int x0)] [] hp r := by
  unfold F11_testCrates_0 at h
  refine g_in eF11_testCrates_0 mx2255 ?_
  refine g_ch [(0, .int x0)] [.int 1000, .int 1, .int x0] (pc' := 5) rfl rfl rfl ?_
  obtain ⟨v2, e1, h⟩ := m_bd h
  refine g_call (v := some (.int v2)) (h := hp) (st' := [.int v2]) (D1 := 0) (as := [.int x0, .int 1, .int 1000]) (Or.inl rfl) q11_m79 (m_cs (as := [.int 1000, .int 1, .int x0]) (rest := []) q11_m79 jv2251 rfl rfl rfl rfl rfl) (by decide) (SF11_outside e1) rfl ?_
  rcases m_ifd h with ⟨c3, h⟩ | ⟨c3, h⟩
  · refine g_ifc (t := 22) rfl (m_eqT c3) ?_
    refine g_in eF11_testCrates_22 mx2255 ?_
    cases h
    rw [k0 _ hK]
    exact g_vret rfl
  · refine g_ifcn (t := 22) rfl (m_eqF c3) ?_
    refine g_in eF11_testCrates_11 mx2255 ?_
    cases h
    rw [k0 _ hK]
    exact g_thr (by decide +kernel) (by decide) rfl
theorem SF11_testCrates {xs : Nat → Int32} {L : Nat} {x0 : Int32} {hp : m_H} {x : (Unit ⊕ Nat) × m_H} (h : F11_testCrates x0 hp = some x) : m_Rn xs L 7 2255 0 (lv_args 0 [.int x0]) [] hp (m_xV x) :=
  r_lv (SF11_testCrates_0 x0 hp (K := fun y => y = x) (fun y e => by rw [e]) h rfl) rfl ⟨rfl, trivial⟩
-- F11_testRoomForLot: LendHouse.testRoomForLot()V
theorem eF11_testRoomForLot_0 : m_Fe mi11_58 0 (m_ap [(.aload_n 0, 1)] ((.getfield 42, 3) :: ((.getfield 176, 3) :: ((.invokevirtual 193, 3) :: ([(.ifCond .eq 14, 3)]))))) := m_Fe_of nd2258 0 5 rfl
theorem eF11_testRoomForLot_24 : m_Fe mi11_58 24 ([(.return_, 1)]) := m_Fe_of nd2258 10 1 rfl
theorem eF11_testRoomForLot_13 : m_Fe mi11_58 13 ([(.new 101, 3)]) := m_Fe_of nd2258 5 1 rfl
theorem SF11_testRoomForLot_0 {xs : Nat → Int32} {L : Nat} (x0 : Nat) (hp : m_H) {r : m_O × m_H} {K : ((Unit ⊕ Nat) × m_H) → Prop} (k0 : ∀ x, K x → r = (m_xV x)) {t : (Unit ⊕ Nat) × m_H} (h : F11_testRoomForLot_0 x0 hp = some t) (hK : K t) : m_Rn xs L 7 2258 0 [(0, .ref x0)] [] hp r := by
  unfold F11_testRoomForLot_0 at h
  refine g_in eF11_testRoomForLot_0 mx2258 ?_
  refine g_ch [(0, .ref x0)] [.ref x0] (pc' := 1) rfl rfl rfl ?_
  obtain ⟨v1, e2, h⟩ := m_bd h
  refine g_gr q11_f42 e2 ?_
  obtain ⟨v3, e4, h⟩ := m_bd h
  refine g_gr q11_f176 e4 ?_
  obtain ⟨v6, e5, h⟩ := m_bd h
  refine g_call (v := some (.int v6)) (h := hp) (st' := [.int v6]) (D1 := 0) (as := [.ref v3]) (Or.inr (Or.inl rfl)) q11_m193 (m_cv (as := []) (rest := []) (Or.inl rfl) q11_m193 jv1602 (OF8_full e5) rfl rfl rfl rfl) (by decide) (SF8_full e5) rfl ?_
  rcases m_ifd h with ⟨c7, h⟩ | ⟨c7, h⟩
  · refine g_ifc (t := 24) rfl (m_eqT c7) ?_
    refine g_in eF11_testRoomForLot_24 mx2258 ?_
    cases h
    rw [k0 _ hK]
    exact g_vret rfl
  · refine g_ifcn (t := 24) rfl (m_eqF c7) ?_
    refine g_in eF11_testRoomForLot_13 mx2258 ?_
    cases h
    rw [k0 _ hK]
    exact g_thr (by decide +kernel) (by decide) rfl
theorem OF11_testRoomForLot {x0 : Nat} {hp : m_H} {x : (Unit ⊕ Nat) × m_H} (h : F11_testRoomForLot x0 hp = some x) : m_isO hp 8 x0 = true := (m_gdd h).1
theorem SF11_testRoomForLot {xs : Nat → Int32} {L : Nat} {x0 : Nat} {hp : m_H} {x : (Unit ⊕ Nat) × m_H} (h : F11_testRoomForLot x0 hp = some x) : m_Rn xs L 7 2258 0 (lv_args 0 [.ref x0]) [] hp (m_xV x) :=
  r_lv (SF11_testRoomForLot_0 x0 hp (K := fun y => y = x) (fun y e => by rw [e]) (m_gdd h).2 rfl) rfl ⟨rfl, trivial⟩
-- F11_testNotEnded: LendHouse.testNotEnded()V
theorem eF11_testNotEnded_0 : m_Fe mi11_59 0 (m_ap [(.aload_n 0, 1)] ((.getfield 42, 3) :: ((.getfield 358, 3) :: ([(.ifCond .eq 14, 3)])))) := m_Fe_of nd2259 0 4 rfl
theorem eF11_testNotEnded_21 : m_Fe mi11_59 21 ([(.return_, 1)]) := m_Fe_of nd2259 9 1 rfl
theorem eF11_testNotEnded_10 : m_Fe mi11_59 10 ([(.new 484, 3)]) := m_Fe_of nd2259 4 1 rfl
theorem SF11_testNotEnded_0 {xs : Nat → Int32} {L : Nat} (x0 : Nat) (hp : m_H) {r : m_O × m_H} {K : ((Unit ⊕ Nat) × m_H) → Prop} (k0 : ∀ x, K x → r = (m_xV x)) {t : (Unit ⊕ Nat) × m_H} (h : F11_testNotEnded_0 x0 hp = some t) (hK : K t) : m_Rn xs L 7 2259 0 [(0, .ref x0)] [] hp r := by
  unfold F11_testNotEnded_0 at h
  refine g_in eF11_testNotEnded_0 mx2259 ?_
  refine g_ch [(0, .ref x0)] [.ref x0] (pc' := 1) rfl rfl rfl ?_
  obtain ⟨v1, e2, h⟩ := m_bd h
  refine g_gr q11_f42 e2 ?_
  obtain ⟨v3, e4, h⟩ := m_bd h
  refine g_gi q11_f358 e4 ?_
  rcases m_ifd h with ⟨c5, h⟩ | ⟨c5, h⟩
  · refine g_ifc (t := 21) rfl (m_eqT c5) ?_
    refine g_in eF11_testNotEnded_21 mx2259 ?_
    cases h
    rw [k0 _ hK]
    exact g_vret rfl
  · refine g_ifcn (t := 21) rfl (m_eqF c5) ?_
    refine g_in eF11_testNotEnded_10 mx2259 ?_
    cases h
    rw [k0 _ hK]
    exact g_thr (by decide +kernel) (by decide) rfl
theorem OF11_testNotEnded {x0 : Nat} {hp : m_H} {x : (Unit ⊕ Nat) × m_H} (h : F11_testNotEnded x0 hp = some x) : m_isO hp 8 x0 = true := (m_gdd h).1
theorem SF11_testNotEnded {xs : Nat → Int32} {L : Nat} {x0 : Nat} {hp : m_H} {x : (Unit ⊕ Nat) × m_H} (h : F11_testNotEnded x0 hp = some x) : m_Rn xs L 7 2259 0 (lv_args 0 [.ref x0]) [] hp (m_xV x) :=
  r_lv (SF11_testNotEnded_0 x0 hp (K := fun y => y = x) (fun y e => by rw [e]) (m_gdd h).2 rfl) rfl ⟨rfl, trivial⟩
-- F11_order: LendHouse.order(II)I
theorem eF11_order_0 : m_Fe mi11_9 0 (m_ap [(.iload_n 1, 1)] ((.invokestatic 118, 3) :: (m_ap [(.iload_n 2, 1)] ((.invokestatic 155, 3) :: (m_ap [(.aload_n 0, 1)] ((.invokevirtual 158, 3) :: (m_ap [(.aload_n 0, 1)] ((.invokevirtual 161, 3) :: (m_ap [(.aload_n 0, 1)] ((.getfield 42, 3) :: (m_ap [(.iload_n 1, 1), (.iload_n 2, 1), (.iconst 0, 1), (.iconst 0, 1)] ((.invokevirtual 164, 3) :: ([(.ireturn, 1)]))))))))))))) := m_Fe_of nd2209 0 16 rfl
theorem SF11_order_0 {xs : Nat → Int32} {L : Nat} (x0 : Nat) (x1 : Int32) (x2 : Int32) (hp : m_H) {r : m_O × m_H} {K : ((Int32 ⊕ Nat) × m_H) → Prop} (k0 : ∀ x, K x → r = (m_xI x)) {t : (Int32 ⊕ Nat) × m_H} (h : F11_order_0 x0 x1 x2 hp = some t) (hK : K t) : m_Rn xs L 8 2209 0 [(0, .ref x0), (1, .int x1), (2, .int x2)] [] hp r := by
  unfold F11_order_0 at h
  refine g_in eF11_order_0 mx2209 ?_
  refine g_ch [(0, .ref x0), (1, .int x1), (2, .int x2)] [.int x1] (pc' := 1) rfl rfl rfl ?_
  obtain ⟨z2, e1, h⟩ := m_bd h
  rcases m_sxd h with ⟨u28, e3, h⟩ | ⟨E4, e3, h⟩
  · have q5 := (SF11_testSort (xs := xs) (L := L) e1)
    unfold m_xV at q5
    rw [e3] at q5
    refine g_call (v := none) (h := z2.2) (st' := []) (D1 := 7) (as := [.int x1]) (Or.inl rfl) q11_m118 (m_cs (as := [.int x1]) (rest := []) q11_m118 jv2254 rfl rfl rfl rfl rfl) (by decide) q5 rfl ?_
    refine g_ch [(0, .ref x0), (1, .int x1), (2, .int x2)] [.int x2] (pc' := 5) rfl rfl rfl ?_
    obtain ⟨z7, e6, h⟩ := m_bd h
    rcases m_sxd h with ⟨u27, e8, h⟩ | ⟨E9, e8, h⟩
    · have q10 := (SF11_testCrates (xs := xs) (L := L) e6)
      unfold m_xV at q10
      rw [e8] at q10
      refine g_call (v := none) (h := z7.2) (st' := []) (D1 := 7) (as := [.int x2]) (Or.inl rfl) q11_m155 (m_cs (as := [.int x2]) (rest := []) q11_m155 jv2255 rfl rfl rfl rfl rfl) (by decide) q10 rfl ?_
      refine g_ch [(0, .ref x0), (1, .int x1), (2, .int x2)] [.ref x0] (pc' := 9) rfl rfl rfl ?_
      obtain ⟨z12, e11, h⟩ := m_bd h
      rcases m_sxd h with ⟨u26, e13, h⟩ | ⟨E14, e13, h⟩
      · have q15 := (SF11_testRoomForLot (xs := xs) (L := L) e11)
        unfold m_xV at q15
        rw [e13] at q15
        refine g_call (v := none) (h := z12.2) (st' := []) (D1 := 7) (as := [.ref x0]) (Or.inr (Or.inl rfl)) q11_m158 (m_cv (as := []) (rest := []) (Or.inl rfl) q11_m158 jv2258 (OF11_testRoomForLot e11) rfl rfl rfl rfl) (by decide) q15 rfl ?_
        refine g_ch [(0, .ref x0), (1, .int x1), (2, .int x2)] [.ref x0] (pc' := 13) rfl rfl rfl ?_
        obtain ⟨z17, e16, h⟩ := m_bd h
        rcases m_sxd h with ⟨u25, e18, h⟩ | ⟨E19, e18, h⟩
        · have q20 := (SF11_testNotEnded (xs := xs) (L := L) e16)
          unfold m_xV at q20
          rw [e18] at q20
          refine g_call (v := none) (h := z17.2) (st' := []) (D1 := 7) (as := [.ref x0]) (Or.inr (Or.inl rfl)) q11_m161 (m_cv (as := []) (rest := []) (Or.inl rfl) q11_m161 jv2259 (OF11_testNotEnded e16) rfl rfl rfl rfl) (by decide) q20 rfl ?_
          refine g_ch [(0, .ref x0), (1, .int x1), (2, .int x2)] [.ref x0] (pc' := 17) rfl rfl rfl ?_
          obtain ⟨v21, e22, h⟩ := m_bd h
          refine g_gr q11_f42 e22 ?_
          refine g_ch [(0, .ref x0), (1, .int x1), (2, .int x2)] [.int 0, .int 0, .int x2, .int x1, .ref v21] (pc' := 24) rfl rfl rfl ?_
          obtain ⟨z24, e23, h⟩ := m_bd h
          refine g_call (v := some (.int z24.1)) (h := z24.2) (st' := [.int z24.1]) (D1 := 3) (as := [.ref v21, .int x1, .int x2, .int 0, .int 0]) (Or.inr (Or.inl rfl)) q11_m164 (m_cv (as := [.int 0, .int 0, .int x2, .int x1]) (rest := []) (Or.inl rfl) q11_m164 jv611 (OF3_addLot e23) rfl rfl rfl rfl) (by decide) (SF3_addLot e23) rfl ?_
          cases h
          rw [k0 _ hK]
          exact g_iret rfl rfl
        · have q20 := (SF11_testNotEnded (xs := xs) (L := L) e16)
          unfold m_xV at q20
          rw [e18] at q20
          cases h
          rw [k0 _ hK]
          exact g_callX (D1 := 7) (as := [.ref x0]) (Or.inr (Or.inl rfl)) q11_m161 (m_cv (as := []) (rest := []) (Or.inl rfl) q11_m161 jv2259 (OF11_testNotEnded e16) rfl rfl rfl rfl) (by decide) q20 rfl
      · have q15 := (SF11_testRoomForLot (xs := xs) (L := L) e11)
        unfold m_xV at q15
        rw [e13] at q15
        cases h
        rw [k0 _ hK]
        exact g_callX (D1 := 7) (as := [.ref x0]) (Or.inr (Or.inl rfl)) q11_m158 (m_cv (as := []) (rest := []) (Or.inl rfl) q11_m158 jv2258 (OF11_testRoomForLot e11) rfl rfl rfl rfl) (by decide) q15 rfl
    · have q10 := (SF11_testCrates (xs := xs) (L := L) e6)
      unfold m_xV at q10
      rw [e8] at q10
      cases h
      rw [k0 _ hK]
      exact g_callX (D1 := 7) (as := [.int x2]) (Or.inl rfl) q11_m155 (m_cs (as := [.int x2]) (rest := []) q11_m155 jv2255 rfl rfl rfl rfl rfl) (by decide) q10 rfl
  · have q5 := (SF11_testSort (xs := xs) (L := L) e1)
    unfold m_xV at q5
    rw [e3] at q5
    cases h
    rw [k0 _ hK]
    exact g_callX (D1 := 7) (as := [.int x1]) (Or.inl rfl) q11_m118 (m_cs (as := [.int x1]) (rest := []) q11_m118 jv2254 rfl rfl rfl rfl rfl) (by decide) q5 rfl
theorem OF11_order {x0 : Nat} {x1 : Int32} {x2 : Int32} {hp : m_H} {x : (Int32 ⊕ Nat) × m_H} (h : F11_order x0 x1 x2 hp = some x) : m_isO hp 8 x0 = true := (m_gdd h).1
theorem SF11_order {xs : Nat → Int32} {L : Nat} {x0 : Nat} {x1 : Int32} {x2 : Int32} {hp : m_H} {x : (Int32 ⊕ Nat) × m_H} (h : F11_order x0 x1 x2 hp = some x) : m_Rn xs L 8 2209 0 (lv_args 0 [.ref x0, .int x1, .int x2]) [] hp (m_xI x) :=
  r_lv (SF11_order_0 x0 x1 x2 hp (K := fun y => y = x) (fun y e => by rw [e]) (m_gdd h).2 rfl) rfl ⟨rfl, rfl, rfl, trivial⟩
-- F11_testLot: LendHouse.testLot(I)V
theorem eF11_testLot_0 : m_Fe mi11_56 0 (m_ap [(.aload_n 0, 1)] ((.getfield 42, 3) :: ((.getfield 176, 3) :: (m_ap [(.iload_n 1, 1)] ((.invokevirtual 203, 3) :: ([(.ifCond .ne 14, 3)])))))) := m_Fe_of nd2256 0 6 rfl
theorem eF11_testLot_25 : m_Fe mi11_56 25 ([(.return_, 1)]) := m_Fe_of nd2256 11 1 rfl
theorem eF11_testLot_14 : m_Fe mi11_56 14 ([(.new 207, 3)]) := m_Fe_of nd2256 6 1 rfl
theorem SF11_testLot_0 {xs : Nat → Int32} {L : Nat} (x0 : Nat) (x1 : Int32) (hp : m_H) {r : m_O × m_H} {K : ((Unit ⊕ Nat) × m_H) → Prop} (k0 : ∀ x, K x → r = (m_xV x)) {t : (Unit ⊕ Nat) × m_H} (h : F11_testLot_0 x0 x1 hp = some t) (hK : K t) : m_Rn xs L 7 2256 0 [(0, .ref x0), (1, .int x1)] [] hp r := by
  unfold F11_testLot_0 at h
  refine g_in eF11_testLot_0 mx2256 ?_
  refine g_ch [(0, .ref x0), (1, .int x1)] [.ref x0] (pc' := 1) rfl rfl rfl ?_
  obtain ⟨v1, e2, h⟩ := m_bd h
  refine g_gr q11_f42 e2 ?_
  obtain ⟨v3, e4, h⟩ := m_bd h
  refine g_gr q11_f176 e4 ?_
  refine g_ch [(0, .ref x0), (1, .int x1)] [.int x1, .ref v3] (pc' := 8) rfl rfl rfl ?_
  obtain ⟨v6, e5, h⟩ := m_bd h
  refine g_call (v := some (.int v6)) (h := hp) (st' := [.int v6]) (D1 := 0) (as := [.ref v3, .int x1]) (Or.inr (Or.inl rfl)) q11_m203 (m_cv (as := [.int x1]) (rest := []) (Or.inl rfl) q11_m203 jv1601 (OF8_has e5) rfl rfl rfl rfl) (by decide) (SF8_has e5) rfl ?_
  rcases m_ifd h with ⟨c7, h⟩ | ⟨c7, h⟩
  · refine g_ifcn (t := 25) rfl (m_neF c7) ?_
    refine g_in eF11_testLot_14 mx2256 ?_
    cases h
    rw [k0 _ hK]
    exact g_thr (by decide +kernel) (by decide) rfl
  · refine g_ifc (t := 25) rfl (m_neT c7) ?_
    refine g_in eF11_testLot_25 mx2256 ?_
    cases h
    rw [k0 _ hK]
    exact g_vret rfl
theorem OF11_testLot {x0 : Nat} {x1 : Int32} {hp : m_H} {x : (Unit ⊕ Nat) × m_H} (h : F11_testLot x0 x1 hp = some x) : m_isO hp 8 x0 = true := (m_gdd h).1
theorem SF11_testLot {xs : Nat → Int32} {L : Nat} {x0 : Nat} {x1 : Int32} {hp : m_H} {x : (Unit ⊕ Nat) × m_H} (h : F11_testLot x0 x1 hp = some x) : m_Rn xs L 7 2256 0 (lv_args 0 [.ref x0, .int x1]) [] hp (m_xV x) :=
  r_lv (SF11_testLot_0 x0 x1 hp (K := fun y => y = x) (fun y e => by rw [e]) (m_gdd h).2 rfl) rfl ⟨rfl, rfl, trivial⟩
-- F11_lot: LendHouse.lot(II)I
theorem eF11_lot_0 : m_Fe mi11_10 0 (m_ap [(.aload_n 0, 1), (.iload_n 1, 1)] ((.invokevirtual 168, 3) :: (m_ap [(.iload_n 2, 1), (.iconst 0, 1), (.bipush 18, 2)] ((.invokestatic 79, 3) :: ([(.ifCond .eq 13, 3)]))))) := m_Fe_of nd2210 0 8 rfl
theorem eF11_lot_25 : m_Fe mi11_10 25 (m_ap [(.aload_n 0, 1)] ((.getfield 42, 3) :: ((.getfield 176, 3) :: (m_ap [(.iload_n 1, 1), (.iload_n 2, 1)] ((.invokevirtual 179, 3) :: ([(.ireturn, 1)])))))) := m_Fe_of nd2210 13 7 rfl
theorem eF11_lot_15 : m_Fe mi11_10 15 ([(.new 171, 3)]) := m_Fe_of nd2210 8 1 rfl
theorem SF11_lot_0 {xs : Nat → Int32} {L : Nat} (x0 : Nat) (x1 : Int32) (x2 : Int32) (hp : m_H) {r : m_O × m_H} {K : ((Int32 ⊕ Nat) × m_H) → Prop} (k0 : ∀ x, K x → r = (m_xI x)) {t : (Int32 ⊕ Nat) × m_H} (h : F11_lot_0 x0 x1 x2 hp = some t) (hK : K t) : m_Rn xs L 8 2210 0 [(0, .ref x0), (1, .int x1), (2, .int x2)] [] hp r := by
  unfold F11_lot_0 at h
  refine g_in eF11_lot_0 mx2210 ?_
  refine g_ch [(0, .ref x0), (1, .int x1), (2, .int x2)] [.int x1, .ref x0] (pc' := 2) rfl rfl rfl ?_
  obtain ⟨z2, e1, h⟩ := m_bd h
  rcases m_sxd h with ⟨u15, e3, h⟩ | ⟨E4, e3, h⟩
  · have q5 := (SF11_testLot (xs := xs) (L := L) e1)
    unfold m_xV at q5
    rw [e3] at q5
    refine g_call (v := none) (h := z2.2) (st' := []) (D1 := 7) (as := [.ref x0, .int x1]) (Or.inr (Or.inl rfl)) q11_m168 (m_cv (as := [.int x1]) (rest := []) (Or.inl rfl) q11_m168 jv2256 (OF11_testLot e1) rfl rfl rfl rfl) (by decide) q5 rfl ?_
    refine g_ch [(0, .ref x0), (1, .int x1), (2, .int x2)] [.int 18, .int 0, .int x2] (pc' := 9) rfl rfl rfl ?_
    obtain ⟨v7, e6, h⟩ := m_bd h
    refine g_call (v := some (.int v7)) (h := z2.2) (st' := [.int v7]) (D1 := 0) (as := [.int x2, .int 0, .int 18]) (Or.inl rfl) q11_m79 (m_cs (as := [.int 18, .int 0, .int x2]) (rest := []) q11_m79 jv2251 rfl rfl rfl rfl rfl) (by decide) (SF11_outside e6) rfl ?_
    rcases m_ifd h with ⟨c8, h⟩ | ⟨c8, h⟩
    · refine g_ifc (t := 25) rfl (m_eqT c8) ?_
      refine g_in eF11_lot_25 mx2210 ?_
      refine g_ch [(0, .ref x0), (1, .int x1), (2, .int x2)] [.ref x0] (pc' := 26) rfl rfl rfl ?_
      obtain ⟨v9, e10, h⟩ := m_bd h
      refine g_gr q11_f42 e10 ?_
      obtain ⟨v11, e12, h⟩ := m_bd h
      refine g_gr q11_f176 e12 ?_
      refine g_ch [(0, .ref x0), (1, .int x1), (2, .int x2)] [.int x2, .int x1, .ref v11] (pc' := 34) rfl rfl rfl ?_
      obtain ⟨v14, e13, h⟩ := m_bd h
      refine g_call (v := some (.int v14)) (h := z2.2) (st' := [.int v14]) (D1 := 1) (as := [.ref v11, .int x1, .int x2]) (Or.inr (Or.inl rfl)) q11_m179 (m_cv (as := [.int x2, .int x1]) (rest := []) (Or.inl rfl) q11_m179 jv1604 (OF8_get e13) rfl rfl rfl rfl) (by decide) (SF8_get e13) rfl ?_
      cases h
      rw [k0 _ hK]
      exact g_iret rfl rfl
    · refine g_ifcn (t := 25) rfl (m_eqF c8) ?_
      refine g_in eF11_lot_15 mx2210 ?_
      cases h
      rw [k0 _ hK]
      exact g_thr (by decide +kernel) (by decide) rfl
  · have q5 := (SF11_testLot (xs := xs) (L := L) e1)
    unfold m_xV at q5
    rw [e3] at q5
    cases h
    rw [k0 _ hK]
    exact g_callX (D1 := 7) (as := [.ref x0, .int x1]) (Or.inr (Or.inl rfl)) q11_m168 (m_cv (as := [.int x1]) (rest := []) (Or.inl rfl) q11_m168 jv2256 (OF11_testLot e1) rfl rfl rfl rfl) (by decide) q5 rfl
theorem OF11_lot {x0 : Nat} {x1 : Int32} {x2 : Int32} {hp : m_H} {x : (Int32 ⊕ Nat) × m_H} (h : F11_lot x0 x1 x2 hp = some x) : m_isO hp 8 x0 = true := (m_gdd h).1
theorem SF11_lot {xs : Nat → Int32} {L : Nat} {x0 : Nat} {x1 : Int32} {x2 : Int32} {hp : m_H} {x : (Int32 ⊕ Nat) × m_H} (h : F11_lot x0 x1 x2 hp = some x) : m_Rn xs L 8 2210 0 (lv_args 0 [.ref x0, .int x1, .int x2]) [] hp (m_xI x) :=
  r_lv (SF11_lot_0 x0 x1 x2 hp (K := fun y => y = x) (fun y e => by rw [e]) (m_gdd h).2 rfl) rfl ⟨rfl, rfl, rfl, trivial⟩
-- F11_testLand: LendHouse.testLand(I)V
theorem eF11_testLand_0 : m_Fe mi11_52 0 (m_ap [(.iload_n 0, 1), (.iconst 0, 1), (.iconst 5, 1)] ((.invokestatic 79, 3) :: ([(.ifCond .eq 14, 3)]))) := m_Fe_of nd2252 0 5 rfl
theorem eF11_testLand_20 : m_Fe mi11_52 20 ([(.return_, 1)]) := m_Fe_of nd2252 10 1 rfl
theorem eF11_testLand_9 : m_Fe mi11_52 9 ([(.new 207, 3)]) := m_Fe_of nd2252 5 1 rfl
theorem SF11_testLand_0 {xs : Nat → Int32} {L : Nat} (x0 : Int32) (hp : m_H) {r : m_O × m_H} {K : ((Unit ⊕ Nat) × m_H) → Prop} (k0 : ∀ x, K x → r = (m_xV x)) {t : (Unit ⊕ Nat) × m_H} (h : F11_testLand_0 x0 hp = some t) (hK : K t) : m_Rn xs L 7 2252 0 [(0, .int x0)] [] hp r := by
  unfold F11_testLand_0 at h
  refine g_in eF11_testLand_0 mx2252 ?_
  refine g_ch [(0, .int x0)] [.int 5, .int 0, .int x0] (pc' := 3) rfl rfl rfl ?_
  obtain ⟨v2, e1, h⟩ := m_bd h
  refine g_call (v := some (.int v2)) (h := hp) (st' := [.int v2]) (D1 := 0) (as := [.int x0, .int 0, .int 5]) (Or.inl rfl) q11_m79 (m_cs (as := [.int 5, .int 0, .int x0]) (rest := []) q11_m79 jv2251 rfl rfl rfl rfl rfl) (by decide) (SF11_outside e1) rfl ?_
  rcases m_ifd h with ⟨c3, h⟩ | ⟨c3, h⟩
  · refine g_ifc (t := 20) rfl (m_eqT c3) ?_
    refine g_in eF11_testLand_20 mx2252 ?_
    cases h
    rw [k0 _ hK]
    exact g_vret rfl
  · refine g_ifcn (t := 20) rfl (m_eqF c3) ?_
    refine g_in eF11_testLand_9 mx2252 ?_
    cases h
    rw [k0 _ hK]
    exact g_thr (by decide +kernel) (by decide) rfl
theorem SF11_testLand {xs : Nat → Int32} {L : Nat} {x0 : Int32} {hp : m_H} {x : (Unit ⊕ Nat) × m_H} (h : F11_testLand x0 hp = some x) : m_Rn xs L 7 2252 0 (lv_args 0 [.int x0]) [] hp (m_xV x) :=
  r_lv (SF11_testLand_0 x0 hp (K := fun y => y = x) (fun y e => by rw [e]) h rfl) rfl ⟨rfl, trivial⟩
-- F11_testAbroad: LendHouse.testAbroad(I)V
theorem eF11_testAbroad_0 : m_Fe mi11_53 0 (m_ap [(.iload_n 0, 1)] ([(.ifCond .ne 14, 3)])) := m_Fe_of nd2253 0 2 rfl
theorem eF11_testAbroad_15 : m_Fe mi11_53 15 ([(.return_, 1)]) := m_Fe_of nd2253 7 1 rfl
theorem eF11_testAbroad_4 : m_Fe mi11_53 4 ([(.new 83, 3)]) := m_Fe_of nd2253 2 1 rfl
theorem SF11_testAbroad_0 {xs : Nat → Int32} {L : Nat} (x0 : Int32) (hp : m_H) {r : m_O × m_H} {K : ((Unit ⊕ Nat) × m_H) → Prop} (k0 : ∀ x, K x → r = (m_xV x)) {t : (Unit ⊕ Nat) × m_H} (h : F11_testAbroad_0 x0 hp = some t) (hK : K t) : m_Rn xs L 7 2253 0 [(0, .int x0)] [] hp r := by
  unfold F11_testAbroad_0 at h
  refine g_in eF11_testAbroad_0 mx2253 ?_
  refine g_ch [(0, .int x0)] [.int x0] (pc' := 1) rfl rfl rfl ?_
  rcases m_ifd h with ⟨c1, h⟩ | ⟨c1, h⟩
  · refine g_ifcn (t := 15) rfl (m_neF c1) ?_
    refine g_in eF11_testAbroad_4 mx2253 ?_
    cases h
    rw [k0 _ hK]
    exact g_thr (by decide +kernel) (by decide) rfl
  · refine g_ifc (t := 15) rfl (m_neT c1) ?_
    refine g_in eF11_testAbroad_15 mx2253 ?_
    cases h
    rw [k0 _ hK]
    exact g_vret rfl
theorem SF11_testAbroad {xs : Nat → Int32} {L : Nat} {x0 : Int32} {hp : m_H} {x : (Unit ⊕ Nat) × m_H} (h : F11_testAbroad x0 hp = some x) : m_Rn xs L 7 2253 0 (lv_args 0 [.int x0]) [] hp (m_xV x) :=
  r_lv (SF11_testAbroad_0 x0 hp (K := fun y => y = x) (fun y e => by rw [e]) h rfl) rfl ⟨rfl, trivial⟩
-- F11_ask: LendHouse.ask(IIII)I
theorem eF11_ask_0 : m_Fe mi11_11 0 (m_ap [(.iload_n 1, 1)] ((.invokestatic 182, 3) :: (m_ap [(.iload_n 2, 1)] ((.invokestatic 118, 3) :: (m_ap [(.iload_n 1, 1)] ((.invokestatic 185, 3) :: (m_ap [(.iload_n 3, 1)] ((.invokestatic 155, 3) :: (m_ap [(.iload 4, 2), (.iconst 0, 1), (.sipush 9999, 3)] ((.invokestatic 79, 3) :: ([(.ifCond .eq 13, 3)]))))))))))) := m_Fe_of nd2211 0 13 rfl
theorem eF11_ask_38 : m_Fe mi11_11 38 (m_ap [(.aload_n 0, 1)] ((.getfield 42, 3) :: ((.getfield 190, 3) :: ((.invokevirtual 193, 3) :: ([(.ifCond .eq 13, 3)]))))) := m_Fe_of nd2211 18 5 rfl
theorem eF11_ask_61 : m_Fe mi11_11 61 (m_ap [(.aload_n 0, 1)] ((.getfield 42, 3) :: ((.getfield 190, 3) :: ((.invokevirtual 199, 3) :: (m_ap [(.istore 5, 2), (.aload_n 0, 1)] ((.getfield 42, 3) :: ((.getfield 190, 3) :: (m_ap [(.iload 5, 2), (.iconst 0, 1), (.iload_n 1, 1)] ((.invokevirtual 127, 3) :: (m_ap [(.aload_n 0, 1)] ((.getfield 42, 3) :: ((.getfield 190, 3) :: (m_ap [(.iload 5, 2), (.iconst 1, 1), (.iload_n 2, 1)] ((.invokevirtual 127, 3) :: (m_ap [(.aload_n 0, 1)] ((.getfield 42, 3) :: ((.getfield 190, 3) :: (m_ap [(.iload 5, 2), (.iconst 2, 1), (.iload_n 3, 1)] ((.invokevirtual 127, 3) :: (m_ap [(.aload_n 0, 1)] ((.getfield 42, 3) :: ((.getfield 190, 3) :: (m_ap [(.iload 5, 2), (.iconst 3, 1), (.iload 4, 2)] ((.invokevirtual 127, 3) :: (m_ap [(.iload 5, 2)] ([(.ireturn, 1)])))))))))))))))))))))))))) := m_Fe_of nd2211 28 35 rfl
theorem eF11_ask_51 : m_Fe mi11_11 51 ([(.new 101, 3)]) := m_Fe_of nd2211 23 1 rfl
theorem eF11_ask_28 : m_Fe mi11_11 28 ([(.new 83, 3)]) := m_Fe_of nd2211 13 1 rfl
theorem SF11_ask_0 {xs : Nat → Int32} {L : Nat} (x0 : Nat) (x1 : Int32) (x2 : Int32) (x3 : Int32) (x4 : Int32) (hp : m_H) {r : m_O × m_H} {K : ((Int32 ⊕ Nat) × m_H) → Prop} (k0 : ∀ x, K x → r = (m_xI x)) {t : (Int32 ⊕ Nat) × m_H} (h : F11_ask_0 x0 x1 x2 x3 x4 hp = some t) (hK : K t) : m_Rn xs L 8 2211 0 [(0, .ref x0), (1, .int x1), (2, .int x2), (3, .int x3), (4, .int x4)] [] hp r := by
  unfold F11_ask_0 at h
  refine g_in eF11_ask_0 mx2211 ?_
  refine g_ch [(0, .ref x0), (1, .int x1), (2, .int x2), (3, .int x3), (4, .int x4)] [.int x1] (pc' := 1) rfl rfl rfl ?_
  obtain ⟨z2, e1, h⟩ := m_bd h
  rcases m_sxd h with ⟨u64, e3, h⟩ | ⟨E4, e3, h⟩
  · have q5 := (SF11_testLand (xs := xs) (L := L) e1)
    unfold m_xV at q5
    rw [e3] at q5
    refine g_call (v := none) (h := z2.2) (st' := []) (D1 := 7) (as := [.int x1]) (Or.inl rfl) q11_m182 (m_cs (as := [.int x1]) (rest := []) q11_m182 jv2252 rfl rfl rfl rfl rfl) (by decide) q5 rfl ?_
    refine g_ch [(0, .ref x0), (1, .int x1), (2, .int x2), (3, .int x3), (4, .int x4)] [.int x2] (pc' := 5) rfl rfl rfl ?_
    obtain ⟨z7, e6, h⟩ := m_bd h
    rcases m_sxd h with ⟨u63, e8, h⟩ | ⟨E9, e8, h⟩
    · have q10 := (SF11_testSort (xs := xs) (L := L) e6)
      unfold m_xV at q10
      rw [e8] at q10
      refine g_call (v := none) (h := z7.2) (st' := []) (D1 := 7) (as := [.int x2]) (Or.inl rfl) q11_m118 (m_cs (as := [.int x2]) (rest := []) q11_m118 jv2254 rfl rfl rfl rfl rfl) (by decide) q10 rfl ?_
      refine g_ch [(0, .ref x0), (1, .int x1), (2, .int x2), (3, .int x3), (4, .int x4)] [.int x1] (pc' := 9) rfl rfl rfl ?_
      obtain ⟨z12, e11, h⟩ := m_bd h
      rcases m_sxd h with ⟨u62, e13, h⟩ | ⟨E14, e13, h⟩
      · have q15 := (SF11_testAbroad (xs := xs) (L := L) e11)
        unfold m_xV at q15
        rw [e13] at q15
        refine g_call (v := none) (h := z12.2) (st' := []) (D1 := 7) (as := [.int x1]) (Or.inl rfl) q11_m185 (m_cs (as := [.int x1]) (rest := []) q11_m185 jv2253 rfl rfl rfl rfl rfl) (by decide) q15 rfl ?_
        refine g_ch [(0, .ref x0), (1, .int x1), (2, .int x2), (3, .int x3), (4, .int x4)] [.int x3] (pc' := 13) rfl rfl rfl ?_
        obtain ⟨z17, e16, h⟩ := m_bd h
        rcases m_sxd h with ⟨u61, e18, h⟩ | ⟨E19, e18, h⟩
        · have q20 := (SF11_testCrates (xs := xs) (L := L) e16)
          unfold m_xV at q20
          rw [e18] at q20
          refine g_call (v := none) (h := z17.2) (st' := []) (D1 := 7) (as := [.int x3]) (Or.inl rfl) q11_m155 (m_cs (as := [.int x3]) (rest := []) q11_m155 jv2255 rfl rfl rfl rfl rfl) (by decide) q20 rfl ?_
          refine g_ch [(0, .ref x0), (1, .int x1), (2, .int x2), (3, .int x3), (4, .int x4)] [.int 9999, .int 0, .int x4] (pc' := 22) rfl rfl rfl ?_
          obtain ⟨v22, e21, h⟩ := m_bd h
          refine g_call (v := some (.int v22)) (h := z17.2) (st' := [.int v22]) (D1 := 0) (as := [.int x4, .int 0, .int 9999]) (Or.inl rfl) q11_m79 (m_cs (as := [.int 9999, .int 0, .int x4]) (rest := []) q11_m79 jv2251 rfl rfl rfl rfl rfl) (by decide) (SF11_outside e21) rfl ?_
          rcases m_ifd h with ⟨c23, h⟩ | ⟨c23, h⟩
          · refine g_ifc (t := 38) rfl (m_eqT c23) ?_
            refine g_in eF11_ask_38 mx2211 ?_
            refine g_ch [(0, .ref x0), (1, .int x1), (2, .int x2), (3, .int x3), (4, .int x4)] [.ref x0] (pc' := 39) rfl rfl rfl ?_
            obtain ⟨v24, e25, h⟩ := m_bd h
            refine g_gr q11_f42 e25 ?_
            obtain ⟨v26, e27, h⟩ := m_bd h
            refine g_gr q11_f190 e27 ?_
            obtain ⟨v29, e28, h⟩ := m_bd h
            refine g_call (v := some (.int v29)) (h := z17.2) (st' := [.int v29]) (D1 := 0) (as := [.ref v26]) (Or.inr (Or.inl rfl)) q11_m193 (m_cv (as := []) (rest := []) (Or.inl rfl) q11_m193 jv1602 (OF8_full e28) rfl rfl rfl rfl) (by decide) (SF8_full e28) rfl ?_
            rcases m_ifd h with ⟨c30, h⟩ | ⟨c30, h⟩
            · refine g_ifc (t := 61) rfl (m_eqT c30) ?_
              refine g_in eF11_ask_61 mx2211 ?_
              refine g_ch [(0, .ref x0), (1, .int x1), (2, .int x2), (3, .int x3), (4, .int x4)] [.ref x0] (pc' := 62) rfl rfl rfl ?_
              obtain ⟨v31, e32, h⟩ := m_bd h
              refine g_gr q11_f42 e32 ?_
              obtain ⟨v33, e34, h⟩ := m_bd h
              refine g_gr q11_f190 e34 ?_
              obtain ⟨z36, e35, h⟩ := m_bd h
              refine g_call (v := some (.int z36.1)) (h := z36.2) (st' := [.int z36.1]) (D1 := 2) (as := [.ref v33]) (Or.inr (Or.inl rfl)) q11_m199 (m_cv (as := []) (rest := []) (Or.inl rfl) q11_m199 jv1607 (OF8_add e35) rfl rfl rfl rfl) (by decide) (SF8_add e35) rfl ?_
              refine g_ch [(5, .int z36.1), (0, .ref x0), (1, .int x1), (2, .int x2), (3, .int x3), (4, .int x4)] [.ref x0] (pc' := 74) rfl rfl rfl ?_
              obtain ⟨v37, e38, h⟩ := m_bd h
              refine g_gr q11_f42 e38 ?_
              obtain ⟨v39, e40, h⟩ := m_bd h
              refine g_gr q11_f190 e40 ?_
              refine g_ch [(5, .int z36.1), (0, .ref x0), (1, .int x1), (2, .int x2), (3, .int x3), (4, .int x4)] [.int x1, .int 0, .int z36.1, .ref v39] (pc' := 84) rfl rfl rfl ?_
              obtain ⟨h42, e41, h⟩ := m_bd h
              refine g_call (v := none) (h := h42) (st' := []) (D1 := 1) (as := [.ref v39, .int z36.1, .int 0, .int x1]) (Or.inr (Or.inl rfl)) q11_m127 (m_cv (as := [.int x1, .int 0, .int z36.1]) (rest := []) (Or.inl rfl) q11_m127 jv1605 (OF8_set e41) rfl rfl rfl rfl) (by decide) (SF8_set e41) rfl ?_
              refine g_ch [(5, .int z36.1), (0, .ref x0), (1, .int x1), (2, .int x2), (3, .int x3), (4, .int x4)] [.ref x0] (pc' := 88) rfl rfl rfl ?_
              obtain ⟨v43, e44, h⟩ := m_bd h
              refine g_gr q11_f42 e44 ?_
              obtain ⟨v45, e46, h⟩ := m_bd h
              refine g_gr q11_f190 e46 ?_
              refine g_ch [(5, .int z36.1), (0, .ref x0), (1, .int x1), (2, .int x2), (3, .int x3), (4, .int x4)] [.int x2, .int 1, .int z36.1, .ref v45] (pc' := 98) rfl rfl rfl ?_
              obtain ⟨h48, e47, h⟩ := m_bd h
              refine g_call (v := none) (h := h48) (st' := []) (D1 := 1) (as := [.ref v45, .int z36.1, .int 1, .int x2]) (Or.inr (Or.inl rfl)) q11_m127 (m_cv (as := [.int x2, .int 1, .int z36.1]) (rest := []) (Or.inl rfl) q11_m127 jv1605 (OF8_set e47) rfl rfl rfl rfl) (by decide) (SF8_set e47) rfl ?_
              refine g_ch [(5, .int z36.1), (0, .ref x0), (1, .int x1), (2, .int x2), (3, .int x3), (4, .int x4)] [.ref x0] (pc' := 102) rfl rfl rfl ?_
              obtain ⟨v49, e50, h⟩ := m_bd h
              refine g_gr q11_f42 e50 ?_
              obtain ⟨v51, e52, h⟩ := m_bd h
              refine g_gr q11_f190 e52 ?_
              refine g_ch [(5, .int z36.1), (0, .ref x0), (1, .int x1), (2, .int x2), (3, .int x3), (4, .int x4)] [.int x3, .int 2, .int z36.1, .ref v51] (pc' := 112) rfl rfl rfl ?_
              obtain ⟨h54, e53, h⟩ := m_bd h
              refine g_call (v := none) (h := h54) (st' := []) (D1 := 1) (as := [.ref v51, .int z36.1, .int 2, .int x3]) (Or.inr (Or.inl rfl)) q11_m127 (m_cv (as := [.int x3, .int 2, .int z36.1]) (rest := []) (Or.inl rfl) q11_m127 jv1605 (OF8_set e53) rfl rfl rfl rfl) (by decide) (SF8_set e53) rfl ?_
              refine g_ch [(5, .int z36.1), (0, .ref x0), (1, .int x1), (2, .int x2), (3, .int x3), (4, .int x4)] [.ref x0] (pc' := 116) rfl rfl rfl ?_
              obtain ⟨v55, e56, h⟩ := m_bd h
              refine g_gr q11_f42 e56 ?_
              obtain ⟨v57, e58, h⟩ := m_bd h
              refine g_gr q11_f190 e58 ?_
              refine g_ch [(5, .int z36.1), (0, .ref x0), (1, .int x1), (2, .int x2), (3, .int x3), (4, .int x4)] [.int x4, .int 3, .int z36.1, .ref v57] (pc' := 127) rfl rfl rfl ?_
              obtain ⟨h60, e59, h⟩ := m_bd h
              refine g_call (v := none) (h := h60) (st' := []) (D1 := 1) (as := [.ref v57, .int z36.1, .int 3, .int x4]) (Or.inr (Or.inl rfl)) q11_m127 (m_cv (as := [.int x4, .int 3, .int z36.1]) (rest := []) (Or.inl rfl) q11_m127 jv1605 (OF8_set e59) rfl rfl rfl rfl) (by decide) (SF8_set e59) rfl ?_
              refine g_ch [(5, .int z36.1), (0, .ref x0), (1, .int x1), (2, .int x2), (3, .int x3), (4, .int x4)] [.int z36.1] (pc' := 132) rfl rfl rfl ?_
              cases h
              rw [k0 _ hK]
              exact g_iret rfl rfl
            · refine g_ifcn (t := 61) rfl (m_eqF c30) ?_
              refine g_in eF11_ask_51 mx2211 ?_
              cases h
              rw [k0 _ hK]
              exact g_thr (by decide +kernel) (by decide) rfl
          · refine g_ifcn (t := 38) rfl (m_eqF c23) ?_
            refine g_in eF11_ask_28 mx2211 ?_
            cases h
            rw [k0 _ hK]
            exact g_thr (by decide +kernel) (by decide) rfl
        · have q20 := (SF11_testCrates (xs := xs) (L := L) e16)
          unfold m_xV at q20
          rw [e18] at q20
          cases h
          rw [k0 _ hK]
          exact g_callX (D1 := 7) (as := [.int x3]) (Or.inl rfl) q11_m155 (m_cs (as := [.int x3]) (rest := []) q11_m155 jv2255 rfl rfl rfl rfl rfl) (by decide) q20 rfl
      · have q15 := (SF11_testAbroad (xs := xs) (L := L) e11)
        unfold m_xV at q15
        rw [e13] at q15
        cases h
        rw [k0 _ hK]
        exact g_callX (D1 := 7) (as := [.int x1]) (Or.inl rfl) q11_m185 (m_cs (as := [.int x1]) (rest := []) q11_m185 jv2253 rfl rfl rfl rfl rfl) (by decide) q15 rfl
    · have q10 := (SF11_testSort (xs := xs) (L := L) e6)
      unfold m_xV at q10
      rw [e8] at q10
      cases h
      rw [k0 _ hK]
      exact g_callX (D1 := 7) (as := [.int x2]) (Or.inl rfl) q11_m118 (m_cs (as := [.int x2]) (rest := []) q11_m118 jv2254 rfl rfl rfl rfl rfl) (by decide) q10 rfl
  · have q5 := (SF11_testLand (xs := xs) (L := L) e1)
    unfold m_xV at q5
    rw [e3] at q5
    cases h
    rw [k0 _ hK]
    exact g_callX (D1 := 7) (as := [.int x1]) (Or.inl rfl) q11_m182 (m_cs (as := [.int x1]) (rest := []) q11_m182 jv2252 rfl rfl rfl rfl rfl) (by decide) q5 rfl
theorem OF11_ask {x0 : Nat} {x1 : Int32} {x2 : Int32} {x3 : Int32} {x4 : Int32} {hp : m_H} {x : (Int32 ⊕ Nat) × m_H} (h : F11_ask x0 x1 x2 x3 x4 hp = some x) : m_isO hp 8 x0 = true := (m_gdd h).1
theorem SF11_ask {xs : Nat → Int32} {L : Nat} {x0 : Nat} {x1 : Int32} {x2 : Int32} {x3 : Int32} {x4 : Int32} {hp : m_H} {x : (Int32 ⊕ Nat) × m_H} (h : F11_ask x0 x1 x2 x3 x4 hp = some x) : m_Rn xs L 8 2211 0 (lv_args 0 [.ref x0, .int x1, .int x2, .int x3, .int x4]) [] hp (m_xI x) :=
  r_lv (SF11_ask_0 x0 x1 x2 x3 x4 hp (K := fun y => y = x) (fun y e => by rw [e]) (m_gdd h).2 rfl) rfl ⟨rfl, rfl, rfl, rfl, rfl, trivial⟩
-- F11_weighed: LendHouse.weighed(I)I
theorem eF11_weighed_0 : m_Fe mi11_13 0 (m_ap [(.iload_n 1, 1)] ([(.tableswitch 53 0 2 #[27, 35, 44], 27)])) := m_Fe_of nd2213 0 2 rfl
theorem eF11_weighed_54 : m_Fe mi11_13 54 (m_ap [(.aload_n 0, 1)] ((.getfield 28, 3) :: ((.invokevirtual 231, 3) :: ([(.ireturn, 1)])))) := m_Fe_of nd2213 16 4 rfl
theorem eF11_weighed_28 : m_Fe mi11_13 28 (m_ap [(.aload_n 0, 1)] ((.getfield 28, 3) :: ((.invokevirtual 225, 3) :: ([(.ireturn, 1)])))) := m_Fe_of nd2213 2 4 rfl
theorem eF11_weighed_36 : m_Fe mi11_13 36 (m_ap [(.aload_n 0, 1)] ((.getfield 28, 3) :: (m_ap [(.iconst 1, 1)] ((.invokevirtual 228, 3) :: ([(.ireturn, 1)]))))) := m_Fe_of nd2213 6 5 rfl
theorem eF11_weighed_45 : m_Fe mi11_13 45 (m_ap [(.aload_n 0, 1)] ((.getfield 28, 3) :: (m_ap [(.iconst 0, 1)] ((.invokevirtual 228, 3) :: ([(.ireturn, 1)]))))) := m_Fe_of nd2213 11 5 rfl
theorem SF11_weighed_0 {xs : Nat → Int32} {L : Nat} (x0 : Nat) (x1 : Int32) (hp : m_H) {r : m_O × m_H} {K : (Int32 × m_H) → Prop} (k0 : ∀ x, K x → r = (.inl (some (.int x.1)), x.2)) {t : Int32 × m_H} (h : F11_weighed_0 x0 x1 hp = some t) (hK : K t) : m_Rn xs L 9 2213 0 [(0, .ref x0), (1, .int x1)] [] hp r := by
  unfold F11_weighed_0 at h
  refine g_in eF11_weighed_0 mx2213 ?_
  refine g_ch [(0, .ref x0), (1, .int x1)] [.int x1] (pc' := 1) rfl rfl rfl ?_
  rcases m_swd h with ⟨e2, h⟩ | ⟨w1, e2, h⟩
  · refine g_swd e2 (t := 54) rfl ?_
    refine g_in eF11_weighed_54 mx2213 ?_
    refine g_ch [(0, .ref x0), (1, .int x1)] [.ref x0] (pc' := 55) rfl rfl rfl ?_
    obtain ⟨v3, e4, h⟩ := m_bd h
    refine g_gr q11_f28 e4 ?_
    obtain ⟨z6, e5, h⟩ := m_bd h
    refine g_call (v := some (.int z6.1)) (h := z6.2) (st' := [.int z6.1]) (D1 := 8) (as := [.ref v3]) (Or.inr (Or.inl rfl)) q11_m231 (m_cv (as := []) (rest := []) (Or.inl rfl) q11_m231 jv409 (OF2_greatestOwe e5) rfl rfl rfl rfl) (by decide) (SF2_greatestOwe e5) rfl ?_
    cases h
    rw [k0 _ hK]
    exact g_iret rfl rfl
  · rcases m_ifd h with ⟨c7, hc7⟩ | ⟨c7, h⟩
    · subst c7
      have h := hc7
      refine g_sw (o := 27) (t := 28) e2 rfl rfl ?_
      refine g_in eF11_weighed_28 mx2213 ?_
      refine g_ch [(0, .ref x0), (1, .int x1)] [.ref x0] (pc' := 29) rfl rfl rfl ?_
      obtain ⟨v8, e9, h⟩ := m_bd h
      refine g_gr q11_f28 e9 ?_
      obtain ⟨z11, e10, h⟩ := m_bd h
      refine g_call (v := some (.int z11.1)) (h := z11.2) (st' := [.int z11.1]) (D1 := 8) (as := [.ref v8]) (Or.inr (Or.inl rfl)) q11_m225 (m_cv (as := []) (rest := []) (Or.inl rfl) q11_m225 jv408 (OF2_sumOfMarks e10) rfl rfl rfl rfl) (by decide) (SF2_sumOfMarks e10) rfl ?_
      cases h
      rw [k0 _ hK]
      exact g_iret rfl rfl
    rcases m_ifd h with ⟨c12, hc12⟩ | ⟨c12, h⟩
    · subst c12
      have h := hc12
      refine g_sw (o := 35) (t := 36) e2 rfl rfl ?_
      refine g_in eF11_weighed_36 mx2213 ?_
      refine g_ch [(0, .ref x0), (1, .int x1)] [.ref x0] (pc' := 37) rfl rfl rfl ?_
      obtain ⟨v13, e14, h⟩ := m_bd h
      refine g_gr q11_f28 e14 ?_
      refine g_ch [(0, .ref x0), (1, .int x1)] [.int 1, .ref v13] (pc' := 41) rfl rfl rfl ?_
      obtain ⟨z16, e15, h⟩ := m_bd h
      refine g_call (v := some (.int z16.1)) (h := z16.2) (st' := [.int z16.1]) (D1 := 8) (as := [.ref v13, .int 1]) (Or.inr (Or.inl rfl)) q11_m228 (m_cv (as := [.int 1]) (rest := []) (Or.inl rfl) q11_m228 jv407 (OF2_why e15) rfl rfl rfl rfl) (by decide) (SF2_why e15) rfl ?_
      cases h
      rw [k0 _ hK]
      exact g_iret rfl rfl
    rcases m_ifd h with ⟨c17, hc17⟩ | ⟨c17, h⟩
    · subst c17
      have h := hc17
      refine g_sw (o := 44) (t := 45) e2 rfl rfl ?_
      refine g_in eF11_weighed_45 mx2213 ?_
      refine g_ch [(0, .ref x0), (1, .int x1)] [.ref x0] (pc' := 46) rfl rfl rfl ?_
      obtain ⟨v18, e19, h⟩ := m_bd h
      refine g_gr q11_f28 e19 ?_
      refine g_ch [(0, .ref x0), (1, .int x1)] [.int 0, .ref v18] (pc' := 50) rfl rfl rfl ?_
      obtain ⟨z21, e20, h⟩ := m_bd h
      refine g_call (v := some (.int z21.1)) (h := z21.2) (st' := [.int z21.1]) (D1 := 8) (as := [.ref v18, .int 0]) (Or.inr (Or.inl rfl)) q11_m228 (m_cv (as := [.int 0]) (rest := []) (Or.inl rfl) q11_m228 jv407 (OF2_why e20) rfl rfl rfl rfl) (by decide) (SF2_why e20) rfl ?_
      cases h
      rw [k0 _ hK]
      exact g_iret rfl rfl
    cases h
theorem OF11_weighed {x0 : Nat} {x1 : Int32} {hp : m_H} {x : Int32 × m_H} (h : F11_weighed x0 x1 hp = some x) : m_isO hp 8 x0 = true := (m_gdd h).1
theorem SF11_weighed {xs : Nat → Int32} {L : Nat} {x0 : Nat} {x1 : Int32} {hp : m_H} {x : Int32 × m_H} (h : F11_weighed x0 x1 hp = some x) : m_Rn xs L 9 2213 0 (lv_args 0 [.ref x0, .int x1]) [] hp (.inl (some (.int x.1)), x.2) :=
  r_lv (SF11_weighed_0 x0 x1 hp (K := fun y => y = x) (fun y e => by rw [e]) (m_gdd h).2 rfl) rfl ⟨rfl, rfl, trivial⟩
-- F11_weigh: LendHouse.weigh(II)I
theorem eF11_weigh_0 : m_Fe mi11_12 0 (m_ap [(.aload_n 0, 1)] ((.getfield 42, 3) :: ((.getfield 190, 3) :: (m_ap [(.iload_n 1, 1)] ((.invokevirtual 203, 3) :: ([(.ifCond .ne 13, 3)])))))) := m_Fe_of nd2212 0 6 rfl
theorem eF11_weigh_24 : m_Fe mi11_12 24 (m_ap [(.iload_n 2, 1), (.iconst 0, 1), (.iconst 5, 1)] ((.invokestatic 79, 3) :: ([(.ifCond .eq 13, 3)]))) := m_Fe_of nd2212 11 5 rfl
theorem eF11_weigh_43 : m_Fe mi11_12 43 (m_ap [(.iload_n 2, 1), (.iconst 3, 1)] ([(.if_icmp .ne 16, 3)])) := m_Fe_of nd2212 21 3 rfl
theorem eF11_weigh_61 : m_Fe mi11_12 61 (m_ap [(.iload_n 2, 1), (.iconst 4, 1)] ([(.if_icmp .ne 12, 3)])) := m_Fe_of nd2212 31 3 rfl
theorem eF11_weigh_75 : m_Fe mi11_12 75 (m_ap [(.aload_n 0, 1)] ((.getfield 28, 3) :: (m_ap [(.aload_n 0, 1)] ((.getfield 42, 3) :: (m_ap [(.iload_n 1, 1), (.aload_n 0, 1)] ((.getfield 42, 3) :: ((.getfield 190, 3) :: (m_ap [(.iload_n 1, 1), (.iconst 2, 1)] ((.invokevirtual 179, 3) :: ((.invokevirtual 218, 3) :: (m_ap [(.aload_n 0, 1), (.iload_n 2, 1)] ((.invokevirtual 222, 3) :: ([(.ireturn, 1)]))))))))))))) := m_Fe_of nd2212 39 16 rfl
theorem eF11_weigh_66 : m_Fe mi11_12 66 (m_ap [(.aload_n 0, 1)] ((.getfield 42, 3) :: (m_ap [(.iload_n 1, 1)] ((.invokevirtual 214, 3) :: ([(.ireturn, 1)]))))) := m_Fe_of nd2212 34 5 rfl
theorem eF11_weigh_48 : m_Fe mi11_12 48 (m_ap [(.aload_n 0, 1)] ((.getfield 42, 3) :: ((.getfield 190, 3) :: (m_ap [(.iload_n 1, 1), (.iconst 4, 1)] ((.invokevirtual 179, 3) :: ([(.ireturn, 1)])))))) := m_Fe_of nd2212 24 7 rfl
theorem eF11_weigh_33 : m_Fe mi11_12 33 ([(.new 171, 3)]) := m_Fe_of nd2212 16 1 rfl
theorem eF11_weigh_14 : m_Fe mi11_12 14 ([(.new 207, 3)]) := m_Fe_of nd2212 6 1 rfl
theorem SF11_weigh_0 {xs : Nat → Int32} {L : Nat} (x0 : Nat) (x1 : Int32) (x2 : Int32) (hp : m_H) {r : m_O × m_H} {K : ((Int32 ⊕ Nat) × m_H) → Prop} (k0 : ∀ x, K x → r = (m_xI x)) {t : (Int32 ⊕ Nat) × m_H} (h : F11_weigh_0 x0 x1 x2 hp = some t) (hK : K t) : m_Rn xs L 10 2212 0 [(0, .ref x0), (1, .int x1), (2, .int x2)] [] hp r := by
  unfold F11_weigh_0 at h
  refine g_in eF11_weigh_0 mx2212 ?_
  refine g_ch [(0, .ref x0), (1, .int x1), (2, .int x2)] [.ref x0] (pc' := 1) rfl rfl rfl ?_
  obtain ⟨v1, e2, h⟩ := m_bd h
  refine g_gr q11_f42 e2 ?_
  obtain ⟨v3, e4, h⟩ := m_bd h
  refine g_gr q11_f190 e4 ?_
  refine g_ch [(0, .ref x0), (1, .int x1), (2, .int x2)] [.int x1, .ref v3] (pc' := 8) rfl rfl rfl ?_
  obtain ⟨v6, e5, h⟩ := m_bd h
  refine g_call (v := some (.int v6)) (h := hp) (st' := [.int v6]) (D1 := 0) (as := [.ref v3, .int x1]) (Or.inr (Or.inl rfl)) q11_m203 (m_cv (as := [.int x1]) (rest := []) (Or.inl rfl) q11_m203 jv1601 (OF8_has e5) rfl rfl rfl rfl) (by decide) (SF8_has e5) rfl ?_
  rcases m_ifd h with ⟨c7, h⟩ | ⟨c7, h⟩
  · refine g_ifcn (t := 24) rfl (m_neF c7) ?_
    refine g_in eF11_weigh_14 mx2212 ?_
    cases h
    rw [k0 _ hK]
    exact g_thr (by decide +kernel) (by decide) rfl
  · refine g_ifc (t := 24) rfl (m_neT c7) ?_
    refine g_in eF11_weigh_24 mx2212 ?_
    refine g_ch [(0, .ref x0), (1, .int x1), (2, .int x2)] [.int 5, .int 0, .int x2] (pc' := 27) rfl rfl rfl ?_
    obtain ⟨v9, e8, h⟩ := m_bd h
    refine g_call (v := some (.int v9)) (h := hp) (st' := [.int v9]) (D1 := 0) (as := [.int x2, .int 0, .int 5]) (Or.inl rfl) q11_m79 (m_cs (as := [.int 5, .int 0, .int x2]) (rest := []) q11_m79 jv2251 rfl rfl rfl rfl rfl) (by decide) (SF11_outside e8) rfl ?_
    rcases m_ifd h with ⟨c10, h⟩ | ⟨c10, h⟩
    · refine g_ifc (t := 43) rfl (m_eqT c10) ?_
      refine g_in eF11_weigh_43 mx2212 ?_
      refine g_ch [(0, .ref x0), (1, .int x1), (2, .int x2)] [.int 3, .int x2] (pc' := 45) rfl rfl rfl ?_
      rcases m_ifd h with ⟨c11, h⟩ | ⟨c11, h⟩
      · refine g_ifn (t := 61) rfl (m_neF c11) ?_
        refine g_in eF11_weigh_48 mx2212 ?_
        refine g_ch [(0, .ref x0), (1, .int x1), (2, .int x2)] [.ref x0] (pc' := 49) rfl rfl rfl ?_
        obtain ⟨v31, e32, h⟩ := m_bd h
        refine g_gr q11_f42 e32 ?_
        obtain ⟨v33, e34, h⟩ := m_bd h
        refine g_gr q11_f190 e34 ?_
        refine g_ch [(0, .ref x0), (1, .int x1), (2, .int x2)] [.int 4, .int x1, .ref v33] (pc' := 57) rfl rfl rfl ?_
        obtain ⟨v36, e35, h⟩ := m_bd h
        refine g_call (v := some (.int v36)) (h := hp) (st' := [.int v36]) (D1 := 1) (as := [.ref v33, .int x1, .int 4]) (Or.inr (Or.inl rfl)) q11_m179 (m_cv (as := [.int 4, .int x1]) (rest := []) (Or.inl rfl) q11_m179 jv1604 (OF8_get e35) rfl rfl rfl rfl) (by decide) (SF8_get e35) rfl ?_
        cases h
        rw [k0 _ hK]
        exact g_iret rfl rfl
      · refine g_if (t := 61) rfl (m_neT c11) ?_
        refine g_in eF11_weigh_61 mx2212 ?_
        refine g_ch [(0, .ref x0), (1, .int x1), (2, .int x2)] [.int 4, .int x2] (pc' := 63) rfl rfl rfl ?_
        rcases m_ifd h with ⟨c12, h⟩ | ⟨c12, h⟩
        · refine g_ifn (t := 75) rfl (m_neF c12) ?_
          refine g_in eF11_weigh_66 mx2212 ?_
          refine g_ch [(0, .ref x0), (1, .int x1), (2, .int x2)] [.ref x0] (pc' := 67) rfl rfl rfl ?_
          obtain ⟨v27, e28, h⟩ := m_bd h
          refine g_gr q11_f42 e28 ?_
          refine g_ch [(0, .ref x0), (1, .int x1), (2, .int x2)] [.int x1, .ref v27] (pc' := 71) rfl rfl rfl ?_
          obtain ⟨v30, e29, h⟩ := m_bd h
          refine g_call (v := some (.int v30)) (h := hp) (st' := [.int v30]) (D1 := 2) (as := [.ref v27, .int x1]) (Or.inr (Or.inl rfl)) q11_m214 (m_cv (as := [.int x1]) (rest := []) (Or.inl rfl) q11_m214 jv625 (OF3_lackOf e29) rfl rfl rfl rfl) (by decide) (SF3_lackOf e29) rfl ?_
          cases h
          rw [k0 _ hK]
          exact g_iret rfl rfl
        · refine g_if (t := 75) rfl (m_neT c12) ?_
          refine g_in eF11_weigh_75 mx2212 ?_
          refine g_ch [(0, .ref x0), (1, .int x1), (2, .int x2)] [.ref x0] (pc' := 76) rfl rfl rfl ?_
          obtain ⟨v13, e14, h⟩ := m_bd h
          refine g_gr q11_f28 e14 ?_
          refine g_ch [(0, .ref x0), (1, .int x1), (2, .int x2)] [.ref x0, .ref v13] (pc' := 80) rfl rfl rfl ?_
          obtain ⟨v15, e16, h⟩ := m_bd h
          refine g_gr q11_f42 e16 ?_
          refine g_ch [(0, .ref x0), (1, .int x1), (2, .int x2)] [.ref x0, .int x1, .ref v15, .ref v13] (pc' := 85) rfl rfl rfl ?_
          obtain ⟨v17, e18, h⟩ := m_bd h
          refine g_gr q11_f42 e18 ?_
          obtain ⟨v19, e20, h⟩ := m_bd h
          refine g_gr q11_f190 e20 ?_
          refine g_ch [(0, .ref x0), (1, .int x1), (2, .int x2)] [.int 2, .int x1, .ref v19, .int x1, .ref v15, .ref v13] (pc' := 93) rfl rfl rfl ?_
          obtain ⟨v22, e21, h⟩ := m_bd h
          refine g_call (v := some (.int v22)) (h := hp) (st' := [.int v22, .int x1, .ref v15, .ref v13]) (D1 := 1) (as := [.ref v19, .int x1, .int 2]) (Or.inr (Or.inl rfl)) q11_m179 (m_cv (as := [.int 2, .int x1]) (rest := [.int x1, .ref v15, .ref v13]) (Or.inl rfl) q11_m179 jv1604 (OF8_get e21) rfl rfl rfl rfl) (by decide) (SF8_get e21) rfl ?_
          obtain ⟨h24, e23, h⟩ := m_bd h
          refine g_call (v := none) (h := h24) (st' := []) (D1 := 5) (as := [.ref v13, .ref v15, .int x1, .int v22]) (Or.inr (Or.inl rfl)) q11_m218 (m_cv (as := [.int v22, .int x1, .ref v15]) (rest := []) (Or.inl rfl) q11_m218 jv404 (OF2_hear e23) rfl rfl rfl rfl) (by decide) (SF2_hear e23) rfl ?_
          refine g_ch [(0, .ref x0), (1, .int x1), (2, .int x2)] [.int x2, .ref x0] (pc' := 101) rfl rfl rfl ?_
          obtain ⟨z26, e25, h⟩ := m_bd h
          refine g_call (v := some (.int z26.1)) (h := z26.2) (st' := [.int z26.1]) (D1 := 9) (as := [.ref x0, .int x2]) (Or.inr (Or.inl rfl)) q11_m222 (m_cv (as := [.int x2]) (rest := []) (Or.inl rfl) q11_m222 jv2213 (OF11_weighed e25) rfl rfl rfl rfl) (by decide) (SF11_weighed e25) rfl ?_
          cases h
          rw [k0 _ hK]
          exact g_iret rfl rfl
    · refine g_ifcn (t := 43) rfl (m_eqF c10) ?_
      refine g_in eF11_weigh_33 mx2212 ?_
      cases h
      rw [k0 _ hK]
      exact g_thr (by decide +kernel) (by decide) rfl
theorem OF11_weigh {x0 : Nat} {x1 : Int32} {x2 : Int32} {hp : m_H} {x : (Int32 ⊕ Nat) × m_H} (h : F11_weigh x0 x1 x2 hp = some x) : m_isO hp 8 x0 = true := (m_gdd h).1
theorem SF11_weigh {xs : Nat → Int32} {L : Nat} {x0 : Nat} {x1 : Int32} {x2 : Int32} {hp : m_H} {x : (Int32 ⊕ Nat) × m_H} (h : F11_weigh x0 x1 x2 hp = some x) : m_Rn xs L 10 2212 0 (lv_args 0 [.ref x0, .int x1, .int x2]) [] hp (m_xI x) :=
  r_lv (SF11_weigh_0 x0 x1 x2 hp (K := fun y => y = x) (fun y e => by rw [e]) (m_gdd h).2 rfl) rfl ⟨rfl, rfl, rfl, trivial⟩
-- F11_remember: LendHouse.remember()V
theorem eF11_remember_0 : m_Fe mi11_50 0 (m_ap [(.aload_n 0, 1)] ((.getfield 46, 3) :: (m_ap [(.aload_n 0, 1)] ((.getfield 42, 3) :: ((.invokevirtual 448, 3) :: (m_ap [(.aload_n 0, 1), (.iconst 1, 1)] ((.putfield 445, 3) :: ([(.return_, 1)])))))))) := m_Fe_of nd2250 0 9 rfl
theorem SF11_remember_0 {xs : Nat → Int32} {L : Nat} (x0 : Nat) (hp : m_H) {r : m_O × m_H} {K : m_H → Prop} (k0 : ∀ x, K x → r = (.inl none, x)) {t : m_H} (h : F11_remember_0 x0 hp = some t) (hK : K t) : m_Rn xs L 9 2250 0 [(0, .ref x0)] [] hp r := by
  unfold F11_remember_0 at h
  refine g_in eF11_remember_0 mx2250 ?_
  refine g_ch [(0, .ref x0)] [.ref x0] (pc' := 1) rfl rfl rfl ?_
  obtain ⟨v1, e2, h⟩ := m_bd h
  refine g_gr q11_f46 e2 ?_
  refine g_ch [(0, .ref x0)] [.ref x0, .ref v1] (pc' := 5) rfl rfl rfl ?_
  obtain ⟨v3, e4, h⟩ := m_bd h
  refine g_gr q11_f42 e4 ?_
  obtain ⟨h6, e5, h⟩ := m_bd h
  refine g_call (v := none) (h := h6) (st' := []) (D1 := 8) (as := [.ref v1, .ref v3]) (Or.inr (Or.inl rfl)) q11_m448 (m_cv (as := [.ref v3]) (rest := []) (Or.inl rfl) q11_m448 jv602 (OF3_copyFrom e5) rfl rfl rfl rfl) (by decide) (SF3_copyFrom e5) rfl ?_
  refine g_ch [(0, .ref x0)] [.int 1, .ref x0] (pc' := 13) rfl rfl rfl ?_
  obtain ⟨h7, e8, h⟩ := m_bd h
  refine g_pf q11_f445 e8 ?_
  cases h
  rw [k0 _ hK]
  exact g_vret rfl
theorem OF11_remember {x0 : Nat} {hp : m_H} {x : m_H} (h : F11_remember x0 hp = some x) : m_isO hp 8 x0 = true := (m_gdd h).1
theorem SF11_remember {xs : Nat → Int32} {L : Nat} {x0 : Nat} {hp : m_H} {x : m_H} (h : F11_remember x0 hp = some x) : m_Rn xs L 9 2250 0 (lv_args 0 [.ref x0]) [] hp (.inl none, x) :=
  r_lv (SF11_remember_0 x0 hp (K := fun y => y = x) (fun y e => by rw [e]) (m_gdd h).2 rfl) rfl ⟨rfl, trivial⟩
