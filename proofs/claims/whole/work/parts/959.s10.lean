/-! ===== m_: the small machine does what the functions say, piece 10 (printed) ===== -/
-- F13_balance: LendHouseLaw.balance(LLendHouse;III[J)I
theorem eF13_balance_0 : m_Fe mi13_22 0 (m_ap [(.aload 4, 2), (.iconst 0, 1), (.aload_n 0, 1), (.iload_n 1, 1), (.iload_n 2, 1), (.iload_n 3, 1)] ((.invokevirtual 96, 3) :: ((.lastore, 1) :: ([(.goto 15, 3)])))) := m_Fe_of nd2622 0 9 rfl
theorem eF13_balance_26 : m_Fe mi13_22 26 (m_ap [(.iconst 0, 1)] ([(.ireturn, 1)])) := m_Fe_of nd2622 18 2 rfl
theorem eF13_balance_14 : m_Fe mi13_22 14 (m_ap [(.astore 5, 2), (.iconst 1, 1)] ([(.ireturn, 1)])) := m_Fe_of nd2622 9 3 rfl
theorem eF13_balance_18 : m_Fe mi13_22 18 (m_ap [(.astore 5, 2), (.iconst 2, 1)] ([(.ireturn, 1)])) := m_Fe_of nd2622 12 3 rfl
theorem eF13_balance_22 : m_Fe mi13_22 22 (m_ap [(.astore 5, 2), (.iconst 3, 1)] ([(.ireturn, 1)])) := m_Fe_of nd2622 15 3 rfl
theorem SF13_balance_0 {xs : Nat → Int32} {L : Nat} (x0 : Nat) (x1 : Int32) (x2 : Int32) (x3 : Int32) (x4 : Nat) (hp : m_H) {r : m_O × m_H} {K : (Int32 × m_H) → Prop} (k0 : ∀ x, K x → r = (.inl (some (.int x.1)), x.2)) {t : Int32 × m_H} (h : F13_balance_0 x0 x1 x2 x3 x4 hp = some t) (hK : K t) : m_Rn xs L 9 2622 0 [(0, .ref x0), (1, .int x1), (2, .int x2), (3, .int x3), (4, .ref x4)] [] hp r := by
  unfold F13_balance_0 at h
  refine g_in eF13_balance_0 mx2622 ?_
  refine g_ch [(0, .ref x0), (1, .int x1), (2, .int x2), (3, .int x3), (4, .ref x4)] [.int x3, .int x2, .int x1, .ref x0, .int 0, .ref x4] (pc' := 7) rfl rfl rfl ?_
  obtain ⟨z2, e1, h⟩ := m_bd h
  rcases m_sxd h with ⟨v3, e4, h⟩ | ⟨E5, e4, h⟩
  · have q6 := (SF11_balance (xs := xs) (L := L) e1)
    unfold m_xJ at q6
    rw [e4] at q6
    refine g_call (v := some (.long v3)) (h := z2.2) (st' := [.long v3, .int 0, .ref x4]) (D1 := 8) (as := [.ref x0, .int x1, .int x2, .int x3]) (Or.inr (Or.inl rfl)) q13_m96 (m_cv (as := [.int x3, .int x2, .int x1]) (rest := [.int 0, .ref x4]) (Or.inl rfl) q13_m96 jv2227 (OF11_balance e1) rfl rfl rfl rfl) (by decide) q6 rfl ?_
    obtain ⟨h7, e8, h⟩ := m_bd h
    refine g_ls e8 ?_
    refine g_goto (t := 26) rfl ?_
    refine g_in eF13_balance_26 mx2622 ?_
    refine g_ch [(0, .ref x0), (1, .int x1), (2, .int x2), (3, .int x3), (4, .ref x4)] [.int 0] (pc' := 27) rfl rfl rfl ?_
    cases h
    rw [k0 _ hK]
    exact g_iret rfl rfl
  · have q6 := (SF11_balance (xs := xs) (L := L) e1)
    unfold m_xJ at q6
    rw [e4] at q6
    rcases m_ifd h with ⟨c9, hc9⟩ | ⟨c9, h⟩
    · subst c9
      have h := hc9
      refine g_callH (t := 14) (D1 := 8) (as := [.ref x0, .int x1, .int x2, .int x3]) (Or.inr (Or.inl rfl)) q13_m96 (m_cv (as := [.int x3, .int x2, .int x1]) (rest := [.int 0, .ref x4]) (Or.inl rfl) q13_m96 jv2227 (OF11_balance e1) rfl rfl rfl rfl) (by decide) q6 rfl ?_
      refine g_in eF13_balance_14 mx2622 ?_
      refine g_ch [(5, .retAddr 0), (0, .ref x0), (1, .int x1), (2, .int x2), (3, .int x3), (4, .ref x4)] [.int 1] (pc' := 17) rfl rfl rfl ?_
      cases h
      rw [k0 _ hK]
      exact g_iret rfl rfl
    rcases m_ifd h with ⟨c10, hc10⟩ | ⟨c10, h⟩
    · subst c10
      have h := hc10
      refine g_callH (t := 18) (D1 := 8) (as := [.ref x0, .int x1, .int x2, .int x3]) (Or.inr (Or.inl rfl)) q13_m96 (m_cv (as := [.int x3, .int x2, .int x1]) (rest := [.int 0, .ref x4]) (Or.inl rfl) q13_m96 jv2227 (OF11_balance e1) rfl rfl rfl rfl) (by decide) q6 rfl ?_
      refine g_in eF13_balance_18 mx2622 ?_
      refine g_ch [(5, .retAddr 0), (0, .ref x0), (1, .int x1), (2, .int x2), (3, .int x3), (4, .ref x4)] [.int 2] (pc' := 21) rfl rfl rfl ?_
      cases h
      rw [k0 _ hK]
      exact g_iret rfl rfl
    rcases m_ifd h with ⟨c11, hc11⟩ | ⟨c11, h⟩
    · subst c11
      have h := hc11
      refine g_callH (t := 22) (D1 := 8) (as := [.ref x0, .int x1, .int x2, .int x3]) (Or.inr (Or.inl rfl)) q13_m96 (m_cv (as := [.int x3, .int x2, .int x1]) (rest := [.int 0, .ref x4]) (Or.inl rfl) q13_m96 jv2227 (OF11_balance e1) rfl rfl rfl rfl) (by decide) q6 rfl ?_
      refine g_in eF13_balance_22 mx2622 ?_
      refine g_ch [(5, .retAddr 0), (0, .ref x0), (1, .int x1), (2, .int x2), (3, .int x3), (4, .ref x4)] [.int 3] (pc' := 25) rfl rfl rfl ?_
      cases h
      rw [k0 _ hK]
      exact g_iret rfl rfl
    cases h
theorem SF13_balance {xs : Nat → Int32} {L : Nat} {x0 : Nat} {x1 : Int32} {x2 : Int32} {x3 : Int32} {x4 : Nat} {hp : m_H} {x : Int32 × m_H} (h : F13_balance x0 x1 x2 x3 x4 hp = some x) : m_Rn xs L 9 2622 0 (lv_args 0 [.ref x0, .int x1, .int x2, .int x3, .ref x4]) [] hp (.inl (some (.int x.1)), x.2) :=
  r_lv (SF13_balance_0 x0 x1 x2 x3 x4 hp (K := fun y => y = x) (fun y e => by rw [e]) h rfl) rfl ⟨rfl, rfl, rfl, rfl, rfl, trivial⟩
-- F13_returned: LendHouseLaw.returned(LLendHouse;IIII[J)I
theorem eF13_returned_0 : m_Fe mi13_23 0 (m_ap [(.aload 5, 2), (.iconst 0, 1), (.aload_n 0, 1), (.iload_n 1, 1), (.iload_n 2, 1), (.iload_n 3, 1), (.iload 4, 2)] ((.invokevirtual 100, 3) :: (m_ap [(.i2l, 1)] ((.lastore, 1) :: ([(.goto 11, 3)]))))) := m_Fe_of nd2623 0 11 rfl
theorem eF13_returned_25 : m_Fe mi13_23 25 (m_ap [(.iconst 0, 1)] ([(.ireturn, 1)])) := m_Fe_of nd2623 17 2 rfl
theorem eF13_returned_17 : m_Fe mi13_23 17 (m_ap [(.astore 6, 2), (.iconst 1, 1)] ([(.ireturn, 1)])) := m_Fe_of nd2623 11 3 rfl
theorem eF13_returned_21 : m_Fe mi13_23 21 (m_ap [(.astore 6, 2), (.iconst 2, 1)] ([(.ireturn, 1)])) := m_Fe_of nd2623 14 3 rfl
theorem SF13_returned_0 {xs : Nat → Int32} {L : Nat} (x0 : Nat) (x1 : Int32) (x2 : Int32) (x3 : Int32) (x4 : Int32) (x5 : Nat) (hp : m_H) {r : m_O × m_H} {K : (Int32 × m_H) → Prop} (k0 : ∀ x, K x → r = (.inl (some (.int x.1)), x.2)) {t : Int32 × m_H} (h : F13_returned_0 x0 x1 x2 x3 x4 x5 hp = some t) (hK : K t) : m_Rn xs L 9 2623 0 [(0, .ref x0), (1, .int x1), (2, .int x2), (3, .int x3), (4, .int x4), (5, .ref x5)] [] hp r := by
  unfold F13_returned_0 at h
  refine g_in eF13_returned_0 mx2623 ?_
  refine g_ch [(0, .ref x0), (1, .int x1), (2, .int x2), (3, .int x3), (4, .int x4), (5, .ref x5)] [.int x4, .int x3, .int x2, .int x1, .ref x0, .int 0, .ref x5] (pc' := 9) rfl rfl rfl ?_
  obtain ⟨z2, e1, h⟩ := m_bd h
  rcases m_sxd h with ⟨v3, e4, h⟩ | ⟨E5, e4, h⟩
  · have q6 := (SF11_returned (xs := xs) (L := L) e1)
    unfold m_xI at q6
    rw [e4] at q6
    refine g_call (v := some (.int v3)) (h := z2.2) (st' := [.int v3, .int 0, .ref x5]) (D1 := 8) (as := [.ref x0, .int x1, .int x2, .int x3, .int x4]) (Or.inr (Or.inl rfl)) q13_m100 (m_cv (as := [.int x4, .int x3, .int x2, .int x1]) (rest := [.int 0, .ref x5]) (Or.inl rfl) q13_m100 jv2229 (OF11_returned e1) rfl rfl rfl rfl) (by decide) q6 rfl ?_
    refine g_ch [(0, .ref x0), (1, .int x1), (2, .int x2), (3, .int x3), (4, .int x4), (5, .ref x5)] [.long (m_i2l v3), .int 0, .ref x5] (pc' := 13) rfl rfl rfl ?_
    obtain ⟨h7, e8, h⟩ := m_bd h
    refine g_ls e8 ?_
    refine g_goto (t := 25) rfl ?_
    refine g_in eF13_returned_25 mx2623 ?_
    refine g_ch [(0, .ref x0), (1, .int x1), (2, .int x2), (3, .int x3), (4, .int x4), (5, .ref x5)] [.int 0] (pc' := 26) rfl rfl rfl ?_
    cases h
    rw [k0 _ hK]
    exact g_iret rfl rfl
  · have q6 := (SF11_returned (xs := xs) (L := L) e1)
    unfold m_xI at q6
    rw [e4] at q6
    rcases m_ifd h with ⟨c9, hc9⟩ | ⟨c9, h⟩
    · subst c9
      have h := hc9
      refine g_callH (t := 17) (D1 := 8) (as := [.ref x0, .int x1, .int x2, .int x3, .int x4]) (Or.inr (Or.inl rfl)) q13_m100 (m_cv (as := [.int x4, .int x3, .int x2, .int x1]) (rest := [.int 0, .ref x5]) (Or.inl rfl) q13_m100 jv2229 (OF11_returned e1) rfl rfl rfl rfl) (by decide) q6 rfl ?_
      refine g_in eF13_returned_17 mx2623 ?_
      refine g_ch [(6, .retAddr 0), (0, .ref x0), (1, .int x1), (2, .int x2), (3, .int x3), (4, .int x4), (5, .ref x5)] [.int 1] (pc' := 20) rfl rfl rfl ?_
      cases h
      rw [k0 _ hK]
      exact g_iret rfl rfl
    rcases m_ifd h with ⟨c10, hc10⟩ | ⟨c10, h⟩
    · subst c10
      have h := hc10
      refine g_callH (t := 21) (D1 := 8) (as := [.ref x0, .int x1, .int x2, .int x3, .int x4]) (Or.inr (Or.inl rfl)) q13_m100 (m_cv (as := [.int x4, .int x3, .int x2, .int x1]) (rest := [.int 0, .ref x5]) (Or.inl rfl) q13_m100 jv2229 (OF11_returned e1) rfl rfl rfl rfl) (by decide) q6 rfl ?_
      refine g_in eF13_returned_21 mx2623 ?_
      refine g_ch [(6, .retAddr 0), (0, .ref x0), (1, .int x1), (2, .int x2), (3, .int x3), (4, .int x4), (5, .ref x5)] [.int 2] (pc' := 24) rfl rfl rfl ?_
      cases h
      rw [k0 _ hK]
      exact g_iret rfl rfl
    cases h
theorem SF13_returned {xs : Nat → Int32} {L : Nat} {x0 : Nat} {x1 : Int32} {x2 : Int32} {x3 : Int32} {x4 : Int32} {x5 : Nat} {hp : m_H} {x : Int32 × m_H} (h : F13_returned x0 x1 x2 x3 x4 x5 hp = some x) : m_Rn xs L 9 2623 0 (lv_args 0 [.ref x0, .int x1, .int x2, .int x3, .int x4, .ref x5]) [] hp (.inl (some (.int x.1)), x.2) :=
  r_lv (SF13_returned_0 x0 x1 x2 x3 x4 x5 hp (K := fun y => y = x) (fun y e => by rw [e]) h rfl) rfl ⟨rfl, rfl, rfl, rfl, rfl, rfl, trivial⟩
-- F13_mustBe: LendHouseLaw.mustBe(LLendHouse;III[J)I
theorem eF13_mustBe_0 : m_Fe mi13_24 0 (m_ap [(.aload 4, 2), (.iconst 0, 1), (.aload_n 0, 1), (.iload_n 1, 1), (.iload_n 2, 1), (.iload_n 3, 1)] ((.invokevirtual 103, 3) :: (m_ap [(.i2l, 1)] ((.lastore, 1) :: ([(.goto 11, 3)]))))) := m_Fe_of nd2624 0 10 rfl
theorem eF13_mustBe_23 : m_Fe mi13_24 23 (m_ap [(.iconst 0, 1)] ([(.ireturn, 1)])) := m_Fe_of nd2624 16 2 rfl
theorem eF13_mustBe_15 : m_Fe mi13_24 15 (m_ap [(.astore 5, 2), (.iconst 1, 1)] ([(.ireturn, 1)])) := m_Fe_of nd2624 10 3 rfl
theorem eF13_mustBe_19 : m_Fe mi13_24 19 (m_ap [(.astore 5, 2), (.iconst 2, 1)] ([(.ireturn, 1)])) := m_Fe_of nd2624 13 3 rfl
theorem SF13_mustBe_0 {xs : Nat → Int32} {L : Nat} (x0 : Nat) (x1 : Int32) (x2 : Int32) (x3 : Int32) (x4 : Nat) (hp : m_H) {r : m_O × m_H} {K : (Int32 × m_H) → Prop} (k0 : ∀ x, K x → r = (.inl (some (.int x.1)), x.2)) {t : Int32 × m_H} (h : F13_mustBe_0 x0 x1 x2 x3 x4 hp = some t) (hK : K t) : m_Rn xs L 9 2624 0 [(0, .ref x0), (1, .int x1), (2, .int x2), (3, .int x3), (4, .ref x4)] [] hp r := by
  unfold F13_mustBe_0 at h
  refine g_in eF13_mustBe_0 mx2624 ?_
  refine g_ch [(0, .ref x0), (1, .int x1), (2, .int x2), (3, .int x3), (4, .ref x4)] [.int x3, .int x2, .int x1, .ref x0, .int 0, .ref x4] (pc' := 7) rfl rfl rfl ?_
  obtain ⟨z2, e1, h⟩ := m_bd h
  rcases m_sxd h with ⟨v3, e4, h⟩ | ⟨E5, e4, h⟩
  · have q6 := (SF11_mustBe (xs := xs) (L := L) e1)
    unfold m_xI at q6
    rw [e4] at q6
    refine g_call (v := some (.int v3)) (h := z2.2) (st' := [.int v3, .int 0, .ref x4]) (D1 := 8) (as := [.ref x0, .int x1, .int x2, .int x3]) (Or.inr (Or.inl rfl)) q13_m103 (m_cv (as := [.int x3, .int x2, .int x1]) (rest := [.int 0, .ref x4]) (Or.inl rfl) q13_m103 jv2230 (OF11_mustBe e1) rfl rfl rfl rfl) (by decide) q6 rfl ?_
    refine g_ch [(0, .ref x0), (1, .int x1), (2, .int x2), (3, .int x3), (4, .ref x4)] [.long (m_i2l v3), .int 0, .ref x4] (pc' := 11) rfl rfl rfl ?_
    obtain ⟨h7, e8, h⟩ := m_bd h
    refine g_ls e8 ?_
    refine g_goto (t := 23) rfl ?_
    refine g_in eF13_mustBe_23 mx2624 ?_
    refine g_ch [(0, .ref x0), (1, .int x1), (2, .int x2), (3, .int x3), (4, .ref x4)] [.int 0] (pc' := 24) rfl rfl rfl ?_
    cases h
    rw [k0 _ hK]
    exact g_iret rfl rfl
  · have q6 := (SF11_mustBe (xs := xs) (L := L) e1)
    unfold m_xI at q6
    rw [e4] at q6
    rcases m_ifd h with ⟨c9, hc9⟩ | ⟨c9, h⟩
    · subst c9
      have h := hc9
      refine g_callH (t := 15) (D1 := 8) (as := [.ref x0, .int x1, .int x2, .int x3]) (Or.inr (Or.inl rfl)) q13_m103 (m_cv (as := [.int x3, .int x2, .int x1]) (rest := [.int 0, .ref x4]) (Or.inl rfl) q13_m103 jv2230 (OF11_mustBe e1) rfl rfl rfl rfl) (by decide) q6 rfl ?_
      refine g_in eF13_mustBe_15 mx2624 ?_
      refine g_ch [(5, .retAddr 0), (0, .ref x0), (1, .int x1), (2, .int x2), (3, .int x3), (4, .ref x4)] [.int 1] (pc' := 18) rfl rfl rfl ?_
      cases h
      rw [k0 _ hK]
      exact g_iret rfl rfl
    rcases m_ifd h with ⟨c10, hc10⟩ | ⟨c10, h⟩
    · subst c10
      have h := hc10
      refine g_callH (t := 19) (D1 := 8) (as := [.ref x0, .int x1, .int x2, .int x3]) (Or.inr (Or.inl rfl)) q13_m103 (m_cv (as := [.int x3, .int x2, .int x1]) (rest := [.int 0, .ref x4]) (Or.inl rfl) q13_m103 jv2230 (OF11_mustBe e1) rfl rfl rfl rfl) (by decide) q6 rfl ?_
      refine g_in eF13_mustBe_19 mx2624 ?_
      refine g_ch [(5, .retAddr 0), (0, .ref x0), (1, .int x1), (2, .int x2), (3, .int x3), (4, .ref x4)] [.int 2] (pc' := 22) rfl rfl rfl ?_
      cases h
      rw [k0 _ hK]
      exact g_iret rfl rfl
    cases h
theorem SF13_mustBe {xs : Nat → Int32} {L : Nat} {x0 : Nat} {x1 : Int32} {x2 : Int32} {x3 : Int32} {x4 : Nat} {hp : m_H} {x : Int32 × m_H} (h : F13_mustBe x0 x1 x2 x3 x4 hp = some x) : m_Rn xs L 9 2624 0 (lv_args 0 [.ref x0, .int x1, .int x2, .int x3, .ref x4]) [] hp (.inl (some (.int x.1)), x.2) :=
  r_lv (SF13_mustBe_0 x0 x1 x2 x3 x4 hp (K := fun y => y = x) (fun y e => by rw [e]) h rfl) rfl ⟨rfl, rfl, rfl, rfl, rfl, trivial⟩
-- F13_seen: LendHouseLaw.seen(LLendHouse;III[J)I
theorem eF13_seen_0 : m_Fe mi13_25 0 (m_ap [(.aload 4, 2), (.iconst 0, 1), (.aload_n 0, 1), (.iload_n 1, 1), (.iload_n 2, 1), (.iload_n 3, 1)] ((.invokevirtual 106, 3) :: (m_ap [(.i2l, 1)] ((.lastore, 1) :: ([(.goto 11, 3)]))))) := m_Fe_of nd2625 0 10 rfl
theorem eF13_seen_23 : m_Fe mi13_25 23 (m_ap [(.iconst 0, 1)] ([(.ireturn, 1)])) := m_Fe_of nd2625 16 2 rfl
theorem eF13_seen_15 : m_Fe mi13_25 15 (m_ap [(.astore 5, 2), (.iconst 1, 1)] ([(.ireturn, 1)])) := m_Fe_of nd2625 10 3 rfl
theorem eF13_seen_19 : m_Fe mi13_25 19 (m_ap [(.astore 5, 2), (.iconst 2, 1)] ([(.ireturn, 1)])) := m_Fe_of nd2625 13 3 rfl
theorem SF13_seen_0 {xs : Nat → Int32} {L : Nat} (x0 : Nat) (x1 : Int32) (x2 : Int32) (x3 : Int32) (x4 : Nat) (hp : m_H) {r : m_O × m_H} {K : (Int32 × m_H) → Prop} (k0 : ∀ x, K x → r = (.inl (some (.int x.1)), x.2)) {t : Int32 × m_H} (h : F13_seen_0 x0 x1 x2 x3 x4 hp = some t) (hK : K t) : m_Rn xs L 9 2625 0 [(0, .ref x0), (1, .int x1), (2, .int x2), (3, .int x3), (4, .ref x4)] [] hp r := by
  unfold F13_seen_0 at h
  refine g_in eF13_seen_0 mx2625 ?_
  refine g_ch [(0, .ref x0), (1, .int x1), (2, .int x2), (3, .int x3), (4, .ref x4)] [.int x3, .int x2, .int x1, .ref x0, .int 0, .ref x4] (pc' := 7) rfl rfl rfl ?_
  obtain ⟨z2, e1, h⟩ := m_bd h
  rcases m_sxd h with ⟨v3, e4, h⟩ | ⟨E5, e4, h⟩
  · have q6 := (SF11_seen (xs := xs) (L := L) e1)
    unfold m_xI at q6
    rw [e4] at q6
    refine g_call (v := some (.int v3)) (h := z2.2) (st' := [.int v3, .int 0, .ref x4]) (D1 := 8) (as := [.ref x0, .int x1, .int x2, .int x3]) (Or.inr (Or.inl rfl)) q13_m106 (m_cv (as := [.int x3, .int x2, .int x1]) (rest := [.int 0, .ref x4]) (Or.inl rfl) q13_m106 jv2231 (OF11_seen e1) rfl rfl rfl rfl) (by decide) q6 rfl ?_
    refine g_ch [(0, .ref x0), (1, .int x1), (2, .int x2), (3, .int x3), (4, .ref x4)] [.long (m_i2l v3), .int 0, .ref x4] (pc' := 11) rfl rfl rfl ?_
    obtain ⟨h7, e8, h⟩ := m_bd h
    refine g_ls e8 ?_
    refine g_goto (t := 23) rfl ?_
    refine g_in eF13_seen_23 mx2625 ?_
    refine g_ch [(0, .ref x0), (1, .int x1), (2, .int x2), (3, .int x3), (4, .ref x4)] [.int 0] (pc' := 24) rfl rfl rfl ?_
    cases h
    rw [k0 _ hK]
    exact g_iret rfl rfl
  · have q6 := (SF11_seen (xs := xs) (L := L) e1)
    unfold m_xI at q6
    rw [e4] at q6
    rcases m_ifd h with ⟨c9, hc9⟩ | ⟨c9, h⟩
    · subst c9
      have h := hc9
      refine g_callH (t := 15) (D1 := 8) (as := [.ref x0, .int x1, .int x2, .int x3]) (Or.inr (Or.inl rfl)) q13_m106 (m_cv (as := [.int x3, .int x2, .int x1]) (rest := [.int 0, .ref x4]) (Or.inl rfl) q13_m106 jv2231 (OF11_seen e1) rfl rfl rfl rfl) (by decide) q6 rfl ?_
      refine g_in eF13_seen_15 mx2625 ?_
      refine g_ch [(5, .retAddr 0), (0, .ref x0), (1, .int x1), (2, .int x2), (3, .int x3), (4, .ref x4)] [.int 1] (pc' := 18) rfl rfl rfl ?_
      cases h
      rw [k0 _ hK]
      exact g_iret rfl rfl
    rcases m_ifd h with ⟨c10, hc10⟩ | ⟨c10, h⟩
    · subst c10
      have h := hc10
      refine g_callH (t := 19) (D1 := 8) (as := [.ref x0, .int x1, .int x2, .int x3]) (Or.inr (Or.inl rfl)) q13_m106 (m_cv (as := [.int x3, .int x2, .int x1]) (rest := [.int 0, .ref x4]) (Or.inl rfl) q13_m106 jv2231 (OF11_seen e1) rfl rfl rfl rfl) (by decide) q6 rfl ?_
      refine g_in eF13_seen_19 mx2625 ?_
      refine g_ch [(5, .retAddr 0), (0, .ref x0), (1, .int x1), (2, .int x2), (3, .int x3), (4, .ref x4)] [.int 2] (pc' := 22) rfl rfl rfl ?_
      cases h
      rw [k0 _ hK]
      exact g_iret rfl rfl
    cases h
theorem SF13_seen {xs : Nat → Int32} {L : Nat} {x0 : Nat} {x1 : Int32} {x2 : Int32} {x3 : Int32} {x4 : Nat} {hp : m_H} {x : Int32 × m_H} (h : F13_seen x0 x1 x2 x3 x4 hp = some x) : m_Rn xs L 9 2625 0 (lv_args 0 [.ref x0, .int x1, .int x2, .int x3, .ref x4]) [] hp (.inl (some (.int x.1)), x.2) :=
  r_lv (SF13_seen_0 x0 x1 x2 x3 x4 hp (K := fun y => y = x) (fun y e => by rw [e]) h rfl) rfl ⟨rfl, rfl, rfl, rfl, rfl, trivial⟩
-- F13_whence: LendHouseLaw.whence(LLendHouse;IIZ[J)I
theorem eF13_whence_0 : m_Fe mi13_26 0 (m_ap [(.aload 4, 2), (.iconst 0, 1), (.aload_n 0, 1), (.iload_n 1, 1), (.iload_n 2, 1), (.iload_n 3, 1)] ((.invokevirtual 109, 3) :: (m_ap [(.i2l, 1)] ((.lastore, 1) :: ([(.goto 11, 3)]))))) := m_Fe_of nd2626 0 10 rfl
theorem eF13_whence_23 : m_Fe mi13_26 23 (m_ap [(.iconst 0, 1)] ([(.ireturn, 1)])) := m_Fe_of nd2626 16 2 rfl
theorem eF13_whence_15 : m_Fe mi13_26 15 (m_ap [(.astore 5, 2), (.iconst 1, 1)] ([(.ireturn, 1)])) := m_Fe_of nd2626 10 3 rfl
theorem eF13_whence_19 : m_Fe mi13_26 19 (m_ap [(.astore 5, 2), (.iconst 2, 1)] ([(.ireturn, 1)])) := m_Fe_of nd2626 13 3 rfl
theorem SF13_whence_0 {xs : Nat → Int32} {L : Nat} (x0 : Nat) (x1 : Int32) (x2 : Int32) (x3 : Int32) (x4 : Nat) (hp : m_H) {r : m_O × m_H} {K : (Int32 × m_H) → Prop} (k0 : ∀ x, K x → r = (.inl (some (.int x.1)), x.2)) {t : Int32 × m_H} (h : F13_whence_0 x0 x1 x2 x3 x4 hp = some t) (hK : K t) : m_Rn xs L 9 2626 0 [(0, .ref x0), (1, .int x1), (2, .int x2), (3, .int x3), (4, .ref x4)] [] hp r := by
  unfold F13_whence_0 at h
  refine g_in eF13_whence_0 mx2626 ?_
  refine g_ch [(0, .ref x0), (1, .int x1), (2, .int x2), (3, .int x3), (4, .ref x4)] [.int x3, .int x2, .int x1, .ref x0, .int 0, .ref x4] (pc' := 7) rfl rfl rfl ?_
  obtain ⟨z2, e1, h⟩ := m_bd h
  rcases m_sxd h with ⟨v3, e4, h⟩ | ⟨E5, e4, h⟩
  · have q6 := (SF11_whence (xs := xs) (L := L) e1)
    unfold m_xI at q6
    rw [e4] at q6
    refine g_call (v := some (.int v3)) (h := z2.2) (st' := [.int v3, .int 0, .ref x4]) (D1 := 8) (as := [.ref x0, .int x1, .int x2, .int x3]) (Or.inr (Or.inl rfl)) q13_m109 (m_cv (as := [.int x3, .int x2, .int x1]) (rest := [.int 0, .ref x4]) (Or.inl rfl) q13_m109 jv2232 (OF11_whence e1) rfl rfl rfl rfl) (by decide) q6 rfl ?_
    refine g_ch [(0, .ref x0), (1, .int x1), (2, .int x2), (3, .int x3), (4, .ref x4)] [.long (m_i2l v3), .int 0, .ref x4] (pc' := 11) rfl rfl rfl ?_
    obtain ⟨h7, e8, h⟩ := m_bd h
    refine g_ls e8 ?_
    refine g_goto (t := 23) rfl ?_
    refine g_in eF13_whence_23 mx2626 ?_
    refine g_ch [(0, .ref x0), (1, .int x1), (2, .int x2), (3, .int x3), (4, .ref x4)] [.int 0] (pc' := 24) rfl rfl rfl ?_
    cases h
    rw [k0 _ hK]
    exact g_iret rfl rfl
  · have q6 := (SF11_whence (xs := xs) (L := L) e1)
    unfold m_xI at q6
    rw [e4] at q6
    rcases m_ifd h with ⟨c9, hc9⟩ | ⟨c9, h⟩
    · subst c9
      have h := hc9
      refine g_callH (t := 15) (D1 := 8) (as := [.ref x0, .int x1, .int x2, .int x3]) (Or.inr (Or.inl rfl)) q13_m109 (m_cv (as := [.int x3, .int x2, .int x1]) (rest := [.int 0, .ref x4]) (Or.inl rfl) q13_m109 jv2232 (OF11_whence e1) rfl rfl rfl rfl) (by decide) q6 rfl ?_
      refine g_in eF13_whence_15 mx2626 ?_
      refine g_ch [(5, .retAddr 0), (0, .ref x0), (1, .int x1), (2, .int x2), (3, .int x3), (4, .ref x4)] [.int 1] (pc' := 18) rfl rfl rfl ?_
      cases h
      rw [k0 _ hK]
      exact g_iret rfl rfl
    rcases m_ifd h with ⟨c10, hc10⟩ | ⟨c10, h⟩
    · subst c10
      have h := hc10
      refine g_callH (t := 19) (D1 := 8) (as := [.ref x0, .int x1, .int x2, .int x3]) (Or.inr (Or.inl rfl)) q13_m109 (m_cv (as := [.int x3, .int x2, .int x1]) (rest := [.int 0, .ref x4]) (Or.inl rfl) q13_m109 jv2232 (OF11_whence e1) rfl rfl rfl rfl) (by decide) q6 rfl ?_
      refine g_in eF13_whence_19 mx2626 ?_
      refine g_ch [(5, .retAddr 0), (0, .ref x0), (1, .int x1), (2, .int x2), (3, .int x3), (4, .ref x4)] [.int 2] (pc' := 22) rfl rfl rfl ?_
      cases h
      rw [k0 _ hK]
      exact g_iret rfl rfl
    cases h
theorem SF13_whence {xs : Nat → Int32} {L : Nat} {x0 : Nat} {x1 : Int32} {x2 : Int32} {x3 : Int32} {x4 : Nat} {hp : m_H} {x : Int32 × m_H} (h : F13_whence x0 x1 x2 x3 x4 hp = some x) : m_Rn xs L 9 2626 0 (lv_args 0 [.ref x0, .int x1, .int x2, .int x3, .ref x4]) [] hp (.inl (some (.int x.1)), x.2) :=
  r_lv (SF13_whence_0 x0 x1 x2 x3 x4 hp (K := fun y => y = x) (fun y e => by rw [e]) h rfl) rfl ⟨rfl, rfl, rfl, rfl, rfl, trivial⟩
-- F13_rock: LendHouseLaw.rock(LLendHouse;IIII[J)I
theorem eF13_rock_0 : m_Fe mi13_27 0 (m_ap [(.aload 5, 2), (.iconst 0, 1), (.aload_n 0, 1), (.iload_n 1, 1), (.iload_n 2, 1), (.iload_n 3, 1), (.iload 4, 2)] ((.invokevirtual 113, 3) :: (m_ap [(.i2l, 1)] ((.lastore, 1) :: ([(.goto 15, 3)]))))) := m_Fe_of nd2627 0 11 rfl
theorem eF13_rock_29 : m_Fe mi13_27 29 (m_ap [(.iconst 0, 1)] ([(.ireturn, 1)])) := m_Fe_of nd2627 20 2 rfl
theorem eF13_rock_17 : m_Fe mi13_27 17 (m_ap [(.astore 6, 2), (.iconst 1, 1)] ([(.ireturn, 1)])) := m_Fe_of nd2627 11 3 rfl
theorem eF13_rock_21 : m_Fe mi13_27 21 (m_ap [(.astore 6, 2), (.iconst 2, 1)] ([(.ireturn, 1)])) := m_Fe_of nd2627 14 3 rfl
theorem eF13_rock_25 : m_Fe mi13_27 25 (m_ap [(.astore 6, 2), (.iconst 3, 1)] ([(.ireturn, 1)])) := m_Fe_of nd2627 17 3 rfl
theorem SF13_rock_0 {xs : Nat → Int32} {L : Nat} (x0 : Nat) (x1 : Int32) (x2 : Int32) (x3 : Int32) (x4 : Int32) (x5 : Nat) (hp : m_H) {r : m_O × m_H} {K : (Int32 × m_H) → Prop} (k0 : ∀ x, K x → r = (.inl (some (.int x.1)), x.2)) {t : Int32 × m_H} (h : F13_rock_0 x0 x1 x2 x3 x4 x5 hp = some t) (hK : K t) : m_Rn xs L 9 2627 0 [(0, .ref x0), (1, .int x1), (2, .int x2), (3, .int x3), (4, .int x4), (5, .ref x5)] [] hp r := by
  unfold F13_rock_0 at h
  refine g_in eF13_rock_0 mx2627 ?_
  refine g_ch [(0, .ref x0), (1, .int x1), (2, .int x2), (3, .int x3), (4, .int x4), (5, .ref x5)] [.int x4, .int x3, .int x2, .int x1, .ref x0, .int 0, .ref x5] (pc' := 9) rfl rfl rfl ?_
  obtain ⟨z2, e1, h⟩ := m_bd h
  rcases m_sxd h with ⟨v3, e4, h⟩ | ⟨E5, e4, h⟩
  · have q6 := (SF11_rock (xs := xs) (L := L) e1)
    unfold m_xI at q6
    rw [e4] at q6
    refine g_call (v := some (.int v3)) (h := z2.2) (st' := [.int v3, .int 0, .ref x5]) (D1 := 8) (as := [.ref x0, .int x1, .int x2, .int x3, .int x4]) (Or.inr (Or.inl rfl)) q13_m113 (m_cv (as := [.int x4, .int x3, .int x2, .int x1]) (rest := [.int 0, .ref x5]) (Or.inl rfl) q13_m113 jv2235 (OF11_rock e1) rfl rfl rfl rfl) (by decide) q6 rfl ?_
    refine g_ch [(0, .ref x0), (1, .int x1), (2, .int x2), (3, .int x3), (4, .int x4), (5, .ref x5)] [.long (m_i2l v3), .int 0, .ref x5] (pc' := 13) rfl rfl rfl ?_
    obtain ⟨h7, e8, h⟩ := m_bd h
    refine g_ls e8 ?_
    refine g_goto (t := 29) rfl ?_
    refine g_in eF13_rock_29 mx2627 ?_
    refine g_ch [(0, .ref x0), (1, .int x1), (2, .int x2), (3, .int x3), (4, .int x4), (5, .ref x5)] [.int 0] (pc' := 30) rfl rfl rfl ?_
    cases h
    rw [k0 _ hK]
    exact g_iret rfl rfl
  · have q6 := (SF11_rock (xs := xs) (L := L) e1)
    unfold m_xI at q6
    rw [e4] at q6
    rcases m_ifd h with ⟨c9, hc9⟩ | ⟨c9, h⟩
    · subst c9
      have h := hc9
      refine g_callH (t := 17) (D1 := 8) (as := [.ref x0, .int x1, .int x2, .int x3, .int x4]) (Or.inr (Or.inl rfl)) q13_m113 (m_cv (as := [.int x4, .int x3, .int x2, .int x1]) (rest := [.int 0, .ref x5]) (Or.inl rfl) q13_m113 jv2235 (OF11_rock e1) rfl rfl rfl rfl) (by decide) q6 rfl ?_
      refine g_in eF13_rock_17 mx2627 ?_
      refine g_ch [(6, .retAddr 0), (0, .ref x0), (1, .int x1), (2, .int x2), (3, .int x3), (4, .int x4), (5, .ref x5)] [.int 1] (pc' := 20) rfl rfl rfl ?_
      cases h
      rw [k0 _ hK]
      exact g_iret rfl rfl
    rcases m_ifd h with ⟨c10, hc10⟩ | ⟨c10, h⟩
    · subst c10
      have h := hc10
      refine g_callH (t := 21) (D1 := 8) (as := [.ref x0, .int x1, .int x2, .int x3, .int x4]) (Or.inr (Or.inl rfl)) q13_m113 (m_cv (as := [.int x4, .int x3, .int x2, .int x1]) (rest := [.int 0, .ref x5]) (Or.inl rfl) q13_m113 jv2235 (OF11_rock e1) rfl rfl rfl rfl) (by decide) q6 rfl ?_
      refine g_in eF13_rock_21 mx2627 ?_
      refine g_ch [(6, .retAddr 0), (0, .ref x0), (1, .int x1), (2, .int x2), (3, .int x3), (4, .int x4), (5, .ref x5)] [.int 2] (pc' := 24) rfl rfl rfl ?_
      cases h
      rw [k0 _ hK]
      exact g_iret rfl rfl
    rcases m_ifd h with ⟨c11, hc11⟩ | ⟨c11, h⟩
    · subst c11
      have h := hc11
      refine g_callH (t := 25) (D1 := 8) (as := [.ref x0, .int x1, .int x2, .int x3, .int x4]) (Or.inr (Or.inl rfl)) q13_m113 (m_cv (as := [.int x4, .int x3, .int x2, .int x1]) (rest := [.int 0, .ref x5]) (Or.inl rfl) q13_m113 jv2235 (OF11_rock e1) rfl rfl rfl rfl) (by decide) q6 rfl ?_
      refine g_in eF13_rock_25 mx2627 ?_
      refine g_ch [(6, .retAddr 0), (0, .ref x0), (1, .int x1), (2, .int x2), (3, .int x3), (4, .int x4), (5, .ref x5)] [.int 3] (pc' := 28) rfl rfl rfl ?_
      cases h
      rw [k0 _ hK]
      exact g_iret rfl rfl
    cases h
theorem SF13_rock {xs : Nat → Int32} {L : Nat} {x0 : Nat} {x1 : Int32} {x2 : Int32} {x3 : Int32} {x4 : Int32} {x5 : Nat} {hp : m_H} {x : Int32 × m_H} (h : F13_rock x0 x1 x2 x3 x4 x5 hp = some x) : m_Rn xs L 9 2627 0 (lv_args 0 [.ref x0, .int x1, .int x2, .int x3, .int x4, .ref x5]) [] hp (.inl (some (.int x.1)), x.2) :=
  r_lv (SF13_rock_0 x0 x1 x2 x3 x4 x5 hp (K := fun y => y = x) (fun y e => by rw [e]) h rfl) rfl ⟨rfl, rfl, rfl, rfl, rfl, rfl, trivial⟩
-- F13_net: LendHouseLaw.net(LLendHouse;I[J)I
theorem eF13_net_0 : m_Fe mi13_28 0 (m_ap [(.aload_n 2, 1), (.iconst 0, 1), (.aload_n 0, 1), (.iload_n 1, 1)] ((.invokevirtual 116, 3) :: (m_ap [(.i2l, 1)] ((.lastore, 1) :: ([(.goto 6, 3)]))))) := m_Fe_of nd2628 0 8 rfl
theorem eF13_net_15 : m_Fe mi13_28 15 (m_ap [(.iconst 0, 1)] ([(.ireturn, 1)])) := m_Fe_of nd2628 11 2 rfl
theorem eF13_net_12 : m_Fe mi13_28 12 (m_ap [(.astore_n 3, 1), (.iconst 1, 1)] ([(.ireturn, 1)])) := m_Fe_of nd2628 8 3 rfl
theorem SF13_net_0 {xs : Nat → Int32} {L : Nat} (x0 : Nat) (x1 : Int32) (x2 : Nat) (hp : m_H) {r : m_O × m_H} {K : (Int32 × m_H) → Prop} (k0 : ∀ x, K x → r = (.inl (some (.int x.1)), x.2)) {t : Int32 × m_H} (h : F13_net_0 x0 x1 x2 hp = some t) (hK : K t) : m_Rn xs L 8 2628 0 [(0, .ref x0), (1, .int x1), (2, .ref x2)] [] hp r := by
  unfold F13_net_0 at h
  refine g_in eF13_net_0 mx2628 ?_
  refine g_ch [(0, .ref x0), (1, .int x1), (2, .ref x2)] [.int x1, .ref x0, .int 0, .ref x2] (pc' := 4) rfl rfl rfl ?_
  obtain ⟨z2, e1, h⟩ := m_bd h
  rcases m_sxd h with ⟨v3, e4, h⟩ | ⟨E5, e4, h⟩
  · have q6 := (SF11_net (xs := xs) (L := L) e1)
    unfold m_xI at q6
    rw [e4] at q6
    refine g_call (v := some (.int v3)) (h := z2.2) (st' := [.int v3, .int 0, .ref x2]) (D1 := 7) (as := [.ref x0, .int x1]) (Or.inr (Or.inl rfl)) q13_m116 (m_cv (as := [.int x1]) (rest := [.int 0, .ref x2]) (Or.inl rfl) q13_m116 jv2236 (OF11_net e1) rfl rfl rfl rfl) (by decide) q6 rfl ?_
    refine g_ch [(0, .ref x0), (1, .int x1), (2, .ref x2)] [.long (m_i2l v3), .int 0, .ref x2] (pc' := 8) rfl rfl rfl ?_
    obtain ⟨h7, e8, h⟩ := m_bd h
    refine g_ls e8 ?_
    refine g_goto (t := 15) rfl ?_
    refine g_in eF13_net_15 mx2628 ?_
    refine g_ch [(0, .ref x0), (1, .int x1), (2, .ref x2)] [.int 0] (pc' := 16) rfl rfl rfl ?_
    cases h
    rw [k0 _ hK]
    exact g_iret rfl rfl
  · have q6 := (SF11_net (xs := xs) (L := L) e1)
    unfold m_xI at q6
    rw [e4] at q6
    rcases m_ifd h with ⟨c9, hc9⟩ | ⟨c9, h⟩
    · subst c9
      have h := hc9
      refine g_callH (t := 12) (D1 := 7) (as := [.ref x0, .int x1]) (Or.inr (Or.inl rfl)) q13_m116 (m_cv (as := [.int x1]) (rest := [.int 0, .ref x2]) (Or.inl rfl) q13_m116 jv2236 (OF11_net e1) rfl rfl rfl rfl) (by decide) q6 rfl ?_
      refine g_in eF13_net_12 mx2628 ?_
      refine g_ch [(3, .retAddr 0), (0, .ref x0), (1, .int x1), (2, .ref x2)] [.int 1] (pc' := 14) rfl rfl rfl ?_
      cases h
      rw [k0 _ hK]
      exact g_iret rfl rfl
    cases h
theorem SF13_net {xs : Nat → Int32} {L : Nat} {x0 : Nat} {x1 : Int32} {x2 : Nat} {hp : m_H} {x : Int32 × m_H} (h : F13_net x0 x1 x2 hp = some x) : m_Rn xs L 8 2628 0 (lv_args 0 [.ref x0, .int x1, .ref x2]) [] hp (.inl (some (.int x.1)), x.2) :=
  r_lv (SF13_net_0 x0 x1 x2 hp (K := fun y => y = x) (fun y e => by rw [e]) h rfl) rfl ⟨rfl, rfl, rfl, trivial⟩
-- F13_tons: LendHouseLaw.tons(LLendHouse;II)I
theorem eF13_tons_0 : m_Fe mi13_29 0 (m_ap [(.aload_n 0, 1), (.iload_n 1, 1), (.iload_n 2, 1)] ((.invokevirtual 119, 3) :: ([(.goto 9, 3)]))) := m_Fe_of nd2629 0 5 rfl
theorem eF13_tons_15 : m_Fe mi13_29 15 (m_ap [(.iconst 0, 1)] ([(.ireturn, 1)])) := m_Fe_of nd2629 11 2 rfl
theorem eF13_tons_9 : m_Fe mi13_29 9 (m_ap [(.astore_n 3, 1), (.iconst 1, 1)] ([(.ireturn, 1)])) := m_Fe_of nd2629 5 3 rfl
theorem eF13_tons_12 : m_Fe mi13_29 12 (m_ap [(.astore_n 3, 1), (.iconst 2, 1)] ([(.ireturn, 1)])) := m_Fe_of nd2629 8 3 rfl
theorem SF13_tons_0 {xs : Nat → Int32} {L : Nat} (x0 : Nat) (x1 : Int32) (x2 : Int32) (hp : m_H) {r : m_O × m_H} {K : (Int32 × m_H) → Prop} (k0 : ∀ x, K x → r = (.inl (some (.int x.1)), x.2)) {t : Int32 × m_H} (h : F13_tons_0 x0 x1 x2 hp = some t) (hK : K t) : m_Rn xs L 9 2629 0 [(0, .ref x0), (1, .int x1), (2, .int x2)] [] hp r := by
  unfold F13_tons_0 at h
  refine g_in eF13_tons_0 mx2629 ?_
  refine g_ch [(0, .ref x0), (1, .int x1), (2, .int x2)] [.int x2, .int x1, .ref x0] (pc' := 3) rfl rfl rfl ?_
  obtain ⟨z2, e1, h⟩ := m_bd h
  rcases m_sxd h with ⟨u8, e3, h⟩ | ⟨E4, e3, h⟩
  · have q5 := (SF11_tons (xs := xs) (L := L) e1)
    unfold m_xV at q5
    rw [e3] at q5
    refine g_call (v := none) (h := z2.2) (st' := []) (D1 := 8) (as := [.ref x0, .int x1, .int x2]) (Or.inr (Or.inl rfl)) q13_m119 (m_cv (as := [.int x2, .int x1]) (rest := []) (Or.inl rfl) q13_m119 jv2237 (OF11_tons e1) rfl rfl rfl rfl) (by decide) q5 rfl ?_
    refine g_goto (t := 15) rfl ?_
    refine g_in eF13_tons_15 mx2629 ?_
    refine g_ch [(0, .ref x0), (1, .int x1), (2, .int x2)] [.int 0] (pc' := 16) rfl rfl rfl ?_
    cases h
    rw [k0 _ hK]
    exact g_iret rfl rfl
  · have q5 := (SF11_tons (xs := xs) (L := L) e1)
    unfold m_xV at q5
    rw [e3] at q5
    rcases m_ifd h with ⟨c6, hc6⟩ | ⟨c6, h⟩
    · subst c6
      have h := hc6
      refine g_callH (t := 9) (D1 := 8) (as := [.ref x0, .int x1, .int x2]) (Or.inr (Or.inl rfl)) q13_m119 (m_cv (as := [.int x2, .int x1]) (rest := []) (Or.inl rfl) q13_m119 jv2237 (OF11_tons e1) rfl rfl rfl rfl) (by decide) q5 rfl ?_
      refine g_in eF13_tons_9 mx2629 ?_
      refine g_ch [(3, .retAddr 0), (0, .ref x0), (1, .int x1), (2, .int x2)] [.int 1] (pc' := 11) rfl rfl rfl ?_
      cases h
      rw [k0 _ hK]
      exact g_iret rfl rfl
    rcases m_ifd h with ⟨c7, hc7⟩ | ⟨c7, h⟩
    · subst c7
      have h := hc7
      refine g_callH (t := 12) (D1 := 8) (as := [.ref x0, .int x1, .int x2]) (Or.inr (Or.inl rfl)) q13_m119 (m_cv (as := [.int x2, .int x1]) (rest := []) (Or.inl rfl) q13_m119 jv2237 (OF11_tons e1) rfl rfl rfl rfl) (by decide) q5 rfl ?_
      refine g_in eF13_tons_12 mx2629 ?_
      refine g_ch [(3, .retAddr 0), (0, .ref x0), (1, .int x1), (2, .int x2)] [.int 2] (pc' := 14) rfl rfl rfl ?_
      cases h
      rw [k0 _ hK]
      exact g_iret rfl rfl
    cases h
theorem SF13_tons {xs : Nat → Int32} {L : Nat} {x0 : Nat} {x1 : Int32} {x2 : Int32} {hp : m_H} {x : Int32 × m_H} (h : F13_tons x0 x1 x2 hp = some x) : m_Rn xs L 9 2629 0 (lv_args 0 [.ref x0, .int x1, .int x2]) [] hp (.inl (some (.int x.1)), x.2) :=
  r_lv (SF13_tons_0 x0 x1 x2 hp (K := fun y => y = x) (fun y e => by rw [e]) h rfl) rfl ⟨rfl, rfl, rfl, trivial⟩
-- F13_page: LendHouseLaw.page(LLendHouse;II[J)I
theorem eF13_page_0 : m_Fe mi13_30 0 (m_ap [(.aload_n 3, 1), (.iconst 0, 1), (.aload_n 0, 1), (.iload_n 1, 1), (.iload_n 2, 1)] ((.invokevirtual 122, 3) :: (m_ap [(.i2l, 1)] ((.lastore, 1) :: ([(.goto 7, 3)]))))) := m_Fe_of nd2630 0 9 rfl
theorem eF13_page_17 : m_Fe mi13_30 17 (m_ap [(.iconst 0, 1)] ([(.ireturn, 1)])) := m_Fe_of nd2630 12 2 rfl
theorem eF13_page_13 : m_Fe mi13_30 13 (m_ap [(.astore 4, 2), (.iconst 1, 1)] ([(.ireturn, 1)])) := m_Fe_of nd2630 9 3 rfl
theorem SF13_page_0 {xs : Nat → Int32} {L : Nat} (x0 : Nat) (x1 : Int32) (x2 : Int32) (x3 : Nat) (hp : m_H) {r : m_O × m_H} {K : (Int32 × m_H) → Prop} (k0 : ∀ x, K x → r = (.inl (some (.int x.1)), x.2)) {t : Int32 × m_H} (h : F13_page_0 x0 x1 x2 x3 hp = some t) (hK : K t) : m_Rn xs L 8 2630 0 [(0, .ref x0), (1, .int x1), (2, .int x2), (3, .ref x3)] [] hp r := by
  unfold F13_page_0 at h
  refine g_in eF13_page_0 mx2630 ?_
  refine g_ch [(0, .ref x0), (1, .int x1), (2, .int x2), (3, .ref x3)] [.int x2, .int x1, .ref x0, .int 0, .ref x3] (pc' := 5) rfl rfl rfl ?_
  obtain ⟨z2, e1, h⟩ := m_bd h
  rcases m_sxd h with ⟨v3, e4, h⟩ | ⟨E5, e4, h⟩
  · have q6 := (SF11_page (xs := xs) (L := L) e1)
    unfold m_xI at q6
    rw [e4] at q6
    refine g_call (v := some (.int v3)) (h := z2.2) (st' := [.int v3, .int 0, .ref x3]) (D1 := 7) (as := [.ref x0, .int x1, .int x2]) (Or.inr (Or.inl rfl)) q13_m122 (m_cv (as := [.int x2, .int x1]) (rest := [.int 0, .ref x3]) (Or.inl rfl) q13_m122 jv2240 (OF11_page e1) rfl rfl rfl rfl) (by decide) q6 rfl ?_
    refine g_ch [(0, .ref x0), (1, .int x1), (2, .int x2), (3, .ref x3)] [.long (m_i2l v3), .int 0, .ref x3] (pc' := 9) rfl rfl rfl ?_
    obtain ⟨h7, e8, h⟩ := m_bd h
    refine g_ls e8 ?_
    refine g_goto (t := 17) rfl ?_
    refine g_in eF13_page_17 mx2630 ?_
    refine g_ch [(0, .ref x0), (1, .int x1), (2, .int x2), (3, .ref x3)] [.int 0] (pc' := 18) rfl rfl rfl ?_
    cases h
    rw [k0 _ hK]
    exact g_iret rfl rfl
  · have q6 := (SF11_page (xs := xs) (L := L) e1)
    unfold m_xI at q6
    rw [e4] at q6
    rcases m_ifd h with ⟨c9, hc9⟩ | ⟨c9, h⟩
    · subst c9
      have h := hc9
      refine g_callH (t := 13) (D1 := 7) (as := [.ref x0, .int x1, .int x2]) (Or.inr (Or.inl rfl)) q13_m122 (m_cv (as := [.int x2, .int x1]) (rest := [.int 0, .ref x3]) (Or.inl rfl) q13_m122 jv2240 (OF11_page e1) rfl rfl rfl rfl) (by decide) q6 rfl ?_
      refine g_in eF13_page_13 mx2630 ?_
      refine g_ch [(4, .retAddr 0), (0, .ref x0), (1, .int x1), (2, .int x2), (3, .ref x3)] [.int 1] (pc' := 16) rfl rfl rfl ?_
      cases h
      rw [k0 _ hK]
      exact g_iret rfl rfl
    cases h
theorem SF13_page {xs : Nat → Int32} {L : Nat} {x0 : Nat} {x1 : Int32} {x2 : Int32} {x3 : Nat} {hp : m_H} {x : Int32 × m_H} (h : F13_page x0 x1 x2 x3 hp = some x) : m_Rn xs L 8 2630 0 (lv_args 0 [.ref x0, .int x1, .int x2, .ref x3]) [] hp (.inl (some (.int x.1)), x.2) :=
  r_lv (SF13_page_0 x0 x1 x2 x3 hp (K := fun y => y = x) (fun y e => by rw [e]) h rfl) rfl ⟨rfl, rfl, rfl, rfl, trivial⟩
-- F13_choice: LendHouseLaw.choice(LLendHouse;IIII[J)I
theorem eF13_choice_0 : m_Fe mi13_31 0 (m_ap [(.aload 5, 2), (.iconst 0, 1), (.aload_n 0, 1), (.iload_n 1, 1), (.iload_n 2, 1), (.iload_n 3, 1), (.iload 4, 2)] ((.invokevirtual 125, 3) :: (m_ap [(.i2l, 1)] ((.lastore, 1) :: ([(.goto 7, 3)]))))) := m_Fe_of nd2631 0 11 rfl
theorem eF13_choice_21 : m_Fe mi13_31 21 (m_ap [(.iconst 0, 1)] ([(.ireturn, 1)])) := m_Fe_of nd2631 14 2 rfl
theorem eF13_choice_17 : m_Fe mi13_31 17 (m_ap [(.astore 6, 2), (.iconst 1, 1)] ([(.ireturn, 1)])) := m_Fe_of nd2631 11 3 rfl
theorem SF13_choice_0 {xs : Nat → Int32} {L : Nat} (x0 : Nat) (x1 : Int32) (x2 : Int32) (x3 : Int32) (x4 : Int32) (x5 : Nat) (hp : m_H) {r : m_O × m_H} {K : (Int32 × m_H) → Prop} (k0 : ∀ x, K x → r = (.inl (some (.int x.1)), x.2)) {t : Int32 × m_H} (h : F13_choice_0 x0 x1 x2 x3 x4 x5 hp = some t) (hK : K t) : m_Rn xs L 8 2631 0 [(0, .ref x0), (1, .int x1), (2, .int x2), (3, .int x3), (4, .int x4), (5, .ref x5)] [] hp r := by
  unfold F13_choice_0 at h
  refine g_in eF13_choice_0 mx2631 ?_
  refine g_ch [(0, .ref x0), (1, .int x1), (2, .int x2), (3, .int x3), (4, .int x4), (5, .ref x5)] [.int x4, .int x3, .int x2, .int x1, .ref x0, .int 0, .ref x5] (pc' := 9) rfl rfl rfl ?_
  obtain ⟨z2, e1, h⟩ := m_bd h
  rcases m_sxd h with ⟨v3, e4, h⟩ | ⟨E5, e4, h⟩
  · have q6 := (SF11_choice (xs := xs) (L := L) e1)
    unfold m_xI at q6
    rw [e4] at q6
    refine g_call (v := some (.int v3)) (h := z2.2) (st' := [.int v3, .int 0, .ref x5]) (D1 := 7) (as := [.ref x0, .int x1, .int x2, .int x3, .int x4]) (Or.inr (Or.inl rfl)) q13_m125 (m_cv (as := [.int x4, .int x3, .int x2, .int x1]) (rest := [.int 0, .ref x5]) (Or.inl rfl) q13_m125 jv2242 (OF11_choice e1) rfl rfl rfl rfl) (by decide) q6 rfl ?_
    refine g_ch [(0, .ref x0), (1, .int x1), (2, .int x2), (3, .int x3), (4, .int x4), (5, .ref x5)] [.long (m_i2l v3), .int 0, .ref x5] (pc' := 13) rfl rfl rfl ?_
    obtain ⟨h7, e8, h⟩ := m_bd h
    refine g_ls e8 ?_
    refine g_goto (t := 21) rfl ?_
    refine g_in eF13_choice_21 mx2631 ?_
    refine g_ch [(0, .ref x0), (1, .int x1), (2, .int x2), (3, .int x3), (4, .int x4), (5, .ref x5)] [.int 0] (pc' := 22) rfl rfl rfl ?_
    cases h
    rw [k0 _ hK]
    exact g_iret rfl rfl
  · have q6 := (SF11_choice (xs := xs) (L := L) e1)
    unfold m_xI at q6
    rw [e4] at q6
    rcases m_ifd h with ⟨c9, hc9⟩ | ⟨c9, h⟩
    · subst c9
      have h := hc9
      refine g_callH (t := 17) (D1 := 7) (as := [.ref x0, .int x1, .int x2, .int x3, .int x4]) (Or.inr (Or.inl rfl)) q13_m125 (m_cv (as := [.int x4, .int x3, .int x2, .int x1]) (rest := [.int 0, .ref x5]) (Or.inl rfl) q13_m125 jv2242 (OF11_choice e1) rfl rfl rfl rfl) (by decide) q6 rfl ?_
      refine g_in eF13_choice_17 mx2631 ?_
      refine g_ch [(6, .retAddr 0), (0, .ref x0), (1, .int x1), (2, .int x2), (3, .int x3), (4, .int x4), (5, .ref x5)] [.int 1] (pc' := 20) rfl rfl rfl ?_
      cases h
      rw [k0 _ hK]
      exact g_iret rfl rfl
    cases h
theorem SF13_choice {xs : Nat → Int32} {L : Nat} {x0 : Nat} {x1 : Int32} {x2 : Int32} {x3 : Int32} {x4 : Int32} {x5 : Nat} {hp : m_H} {x : Int32 × m_H} (h : F13_choice x0 x1 x2 x3 x4 x5 hp = some x) : m_Rn xs L 8 2631 0 (lv_args 0 [.ref x0, .int x1, .int x2, .int x3, .int x4, .ref x5]) [] hp (.inl (some (.int x.1)), x.2) :=
  r_lv (SF13_choice_0 x0 x1 x2 x3 x4 x5 hp (K := fun y => y = x) (fun y e => by rw [e]) h rfl) rfl ⟨rfl, rfl, rfl, rfl, rfl, rfl, trivial⟩
-- F13_row: LendHouseLaw.row(LLendHouse;IIIII)I
theorem eF13_row_0 : m_Fe mi13_32 0 (m_ap [(.aload_n 0, 1), (.iload_n 1, 1), (.iload_n 2, 1), (.iload_n 3, 1), (.iload 4, 2), (.iload 5, 2)] ((.invokevirtual 128, 3) :: ([(.goto 7, 3)]))) := m_Fe_of nd2632 0 8 rfl
theorem eF13_row_18 : m_Fe mi13_32 18 (m_ap [(.iconst 0, 1)] ([(.ireturn, 1)])) := m_Fe_of nd2632 11 2 rfl
theorem eF13_row_14 : m_Fe mi13_32 14 (m_ap [(.astore 6, 2), (.iconst 1, 1)] ([(.ireturn, 1)])) := m_Fe_of nd2632 8 3 rfl
theorem SF13_row_0 {xs : Nat → Int32} {L : Nat} (x0 : Nat) (x1 : Int32) (x2 : Int32) (x3 : Int32) (x4 : Int32) (x5 : Int32) (hp : m_H) {r : m_O × m_H} {K : (Int32 × m_H) → Prop} (k0 : ∀ x, K x → r = (.inl (some (.int x.1)), x.2)) {t : Int32 × m_H} (h : F13_row_0 x0 x1 x2 x3 x4 x5 hp = some t) (hK : K t) : m_Rn xs L 8 2632 0 [(0, .ref x0), (1, .int x1), (2, .int x2), (3, .int x3), (4, .int x4), (5, .int x5)] [] hp r := by
  unfold F13_row_0 at h
  refine g_in eF13_row_0 mx2632 ?_
  refine g_ch [(0, .ref x0), (1, .int x1), (2, .int x2), (3, .int x3), (4, .int x4), (5, .int x5)] [.int x5, .int x4, .int x3, .int x2, .int x1, .ref x0] (pc' := 8) rfl rfl rfl ?_
  obtain ⟨z2, e1, h⟩ := m_bd h
  rcases m_sxd h with ⟨u7, e3, h⟩ | ⟨E4, e3, h⟩
  · have q5 := (SF11_row (xs := xs) (L := L) e1)
    unfold m_xV at q5
    rw [e3] at q5
    refine g_call (v := none) (h := z2.2) (st' := []) (D1 := 7) (as := [.ref x0, .int x1, .int x2, .int x3, .int x4, .int x5]) (Or.inr (Or.inl rfl)) q13_m128 (m_cv (as := [.int x5, .int x4, .int x3, .int x2, .int x1]) (rest := []) (Or.inl rfl) q13_m128 jv2243 (OF11_row e1) rfl rfl rfl rfl) (by decide) q5 rfl ?_
    refine g_goto (t := 18) rfl ?_
    refine g_in eF13_row_18 mx2632 ?_
    refine g_ch [(0, .ref x0), (1, .int x1), (2, .int x2), (3, .int x3), (4, .int x4), (5, .int x5)] [.int 0] (pc' := 19) rfl rfl rfl ?_
    cases h
    rw [k0 _ hK]
    exact g_iret rfl rfl
  · have q5 := (SF11_row (xs := xs) (L := L) e1)
    unfold m_xV at q5
    rw [e3] at q5
    rcases m_ifd h with ⟨c6, hc6⟩ | ⟨c6, h⟩
    · subst c6
      have h := hc6
      refine g_callH (t := 14) (D1 := 7) (as := [.ref x0, .int x1, .int x2, .int x3, .int x4, .int x5]) (Or.inr (Or.inl rfl)) q13_m128 (m_cv (as := [.int x5, .int x4, .int x3, .int x2, .int x1]) (rest := []) (Or.inl rfl) q13_m128 jv2243 (OF11_row e1) rfl rfl rfl rfl) (by decide) q5 rfl ?_
      refine g_in eF13_row_14 mx2632 ?_
      refine g_ch [(6, .retAddr 0), (0, .ref x0), (1, .int x1), (2, .int x2), (3, .int x3), (4, .int x4), (5, .int x5)] [.int 1] (pc' := 17) rfl rfl rfl ?_
      cases h
      rw [k0 _ hK]
      exact g_iret rfl rfl
    cases h
theorem SF13_row {xs : Nat → Int32} {L : Nat} {x0 : Nat} {x1 : Int32} {x2 : Int32} {x3 : Int32} {x4 : Int32} {x5 : Int32} {hp : m_H} {x : Int32 × m_H} (h : F13_row x0 x1 x2 x3 x4 x5 hp = some x) : m_Rn xs L 8 2632 0 (lv_args 0 [.ref x0, .int x1, .int x2, .int x3, .int x4, .int x5]) [] hp (.inl (some (.int x.1)), x.2) :=
  r_lv (SF13_row_0 x0 x1 x2 x3 x4 x5 hp (K := fun y => y = x) (fun y e => by rw [e]) h rfl) rfl ⟨rfl, rfl, rfl, rfl, rfl, rfl, trivial⟩
-- F13_cash: LendHouseLaw.cash(LLendHouse;IIIII[J)I
theorem eF13_cash_0 : m_Fe mi13_33 0 (m_ap [(.aload 6, 2), (.iconst 0, 1), (.aload_n 0, 1), (.iload_n 1, 1), (.iload_n 2, 1), (.iload_n 3, 1), (.iload 4, 2), (.iload 5, 2)] ((.invokevirtual 131, 3) :: (m_ap [(.i2l, 1)] ((.lastore, 1) :: ([(.goto 7, 3)]))))) := m_Fe_of nd2633 0 12 rfl
theorem eF13_cash_23 : m_Fe mi13_33 23 (m_ap [(.iconst 0, 1)] ([(.ireturn, 1)])) := m_Fe_of nd2633 15 2 rfl
theorem eF13_cash_19 : m_Fe mi13_33 19 (m_ap [(.astore 7, 2), (.iconst 1, 1)] ([(.ireturn, 1)])) := m_Fe_of nd2633 12 3 rfl
theorem SF13_cash_0 {xs : Nat → Int32} {L : Nat} (x0 : Nat) (x1 : Int32) (x2 : Int32) (x3 : Int32) (x4 : Int32) (x5 : Int32) (x6 : Nat) (hp : m_H) {r : m_O × m_H} {K : (Int32 × m_H) → Prop} (k0 : ∀ x, K x → r = (.inl (some (.int x.1)), x.2)) {t : Int32 × m_H} (h : F13_cash_0 x0 x1 x2 x3 x4 x5 x6 hp = some t) (hK : K t) : m_Rn xs L 8 2633 0 [(0, .ref x0), (1, .int x1), (2, .int x2), (3, .int x3), (4, .int x4), (5, .int x5), (6, .ref x6)] [] hp r := by
  unfold F13_cash_0 at h
  refine g_in eF13_cash_0 mx2633 ?_
  refine g_ch [(0, .ref x0), (1, .int x1), (2, .int x2), (3, .int x3), (4, .int x4), (5, .int x5), (6, .ref x6)] [.int x5, .int x4, .int x3, .int x2, .int x1, .ref x0, .int 0, .ref x6] (pc' := 11) rfl rfl rfl ?_
  obtain ⟨z2, e1, h⟩ := m_bd h
  rcases m_sxd h with ⟨v3, e4, h⟩ | ⟨E5, e4, h⟩
  · have q6 := (SF11_cash (xs := xs) (L := L) e1)
    unfold m_xI at q6
    rw [e4] at q6
    refine g_call (v := some (.int v3)) (h := z2.2) (st' := [.int v3, .int 0, .ref x6]) (D1 := 7) (as := [.ref x0, .int x1, .int x2, .int x3, .int x4, .int x5]) (Or.inr (Or.inl rfl)) q13_m131 (m_cv (as := [.int x5, .int x4, .int x3, .int x2, .int x1]) (rest := [.int 0, .ref x6]) (Or.inl rfl) q13_m131 jv2245 (OF11_cash e1) rfl rfl rfl rfl) (by decide) q6 rfl ?_
    refine g_ch [(0, .ref x0), (1, .int x1), (2, .int x2), (3, .int x3), (4, .int x4), (5, .int x5), (6, .ref x6)] [.long (m_i2l v3), .int 0, .ref x6] (pc' := 15) rfl rfl rfl ?_
    obtain ⟨h7, e8, h⟩ := m_bd h
    refine g_ls e8 ?_
    refine g_goto (t := 23) rfl ?_
    refine g_in eF13_cash_23 mx2633 ?_
    refine g_ch [(0, .ref x0), (1, .int x1), (2, .int x2), (3, .int x3), (4, .int x4), (5, .int x5), (6, .ref x6)] [.int 0] (pc' := 24) rfl rfl rfl ?_
    cases h
    rw [k0 _ hK]
    exact g_iret rfl rfl
  · have q6 := (SF11_cash (xs := xs) (L := L) e1)
    unfold m_xI at q6
    rw [e4] at q6
    rcases m_ifd h with ⟨c9, hc9⟩ | ⟨c9, h⟩
    · subst c9
      have h := hc9
      refine g_callH (t := 19) (D1 := 7) (as := [.ref x0, .int x1, .int x2, .int x3, .int x4, .int x5]) (Or.inr (Or.inl rfl)) q13_m131 (m_cv (as := [.int x5, .int x4, .int x3, .int x2, .int x1]) (rest := [.int 0, .ref x6]) (Or.inl rfl) q13_m131 jv2245 (OF11_cash e1) rfl rfl rfl rfl) (by decide) q6 rfl ?_
      refine g_in eF13_cash_19 mx2633 ?_
      refine g_ch [(7, .retAddr 0), (0, .ref x0), (1, .int x1), (2, .int x2), (3, .int x3), (4, .int x4), (5, .int x5), (6, .ref x6)] [.int 1] (pc' := 22) rfl rfl rfl ?_
      cases h
      rw [k0 _ hK]
      exact g_iret rfl rfl
    cases h
theorem SF13_cash {xs : Nat → Int32} {L : Nat} {x0 : Nat} {x1 : Int32} {x2 : Int32} {x3 : Int32} {x4 : Int32} {x5 : Int32} {x6 : Nat} {hp : m_H} {x : Int32 × m_H} (h : F13_cash x0 x1 x2 x3 x4 x5 x6 hp = some x) : m_Rn xs L 8 2633 0 (lv_args 0 [.ref x0, .int x1, .int x2, .int x3, .int x4, .int x5, .ref x6]) [] hp (.inl (some (.int x.1)), x.2) :=
  r_lv (SF13_cash_0 x0 x1 x2 x3 x4 x5 x6 hp (K := fun y => y = x) (fun y e => by rw [e]) h rfl) rfl ⟨rfl, rfl, rfl, rfl, rfl, rfl, rfl, trivial⟩
-- F13_tear: LendHouseLaw.tear(LLendHouse;II[J)I
theorem eF13_tear_0 : m_Fe mi13_34 0 (m_ap [(.aload_n 3, 1), (.iconst 0, 1), (.aload_n 0, 1), (.iload_n 1, 1), (.iload_n 2, 1)] ((.invokevirtual 135, 3) :: (m_ap [(.i2l, 1)] ((.lastore, 1) :: ([(.goto 7, 3)]))))) := m_Fe_of nd2634 0 9 rfl
theorem eF13_tear_17 : m_Fe mi13_34 17 (m_ap [(.iconst 0, 1)] ([(.ireturn, 1)])) := m_Fe_of nd2634 12 2 rfl
theorem eF13_tear_13 : m_Fe mi13_34 13 (m_ap [(.astore 4, 2), (.iconst 1, 1)] ([(.ireturn, 1)])) := m_Fe_of nd2634 9 3 rfl
theorem SF13_tear_0 {xs : Nat → Int32} {L : Nat} (x0 : Nat) (x1 : Int32) (x2 : Int32) (x3 : Nat) (hp : m_H) {r : m_O × m_H} {K : (Int32 × m_H) → Prop} (k0 : ∀ x, K x → r = (.inl (some (.int x.1)), x.2)) {t : Int32 × m_H} (h : F13_tear_0 x0 x1 x2 x3 hp = some t) (hK : K t) : m_Rn xs L 8 2634 0 [(0, .ref x0), (1, .int x1), (2, .int x2), (3, .ref x3)] [] hp r := by
  unfold F13_tear_0 at h
  refine g_in eF13_tear_0 mx2634 ?_
  refine g_ch [(0, .ref x0), (1, .int x1), (2, .int x2), (3, .ref x3)] [.int x2, .int x1, .ref x0, .int 0, .ref x3] (pc' := 5) rfl rfl rfl ?_
  obtain ⟨z2, e1, h⟩ := m_bd h
  rcases m_sxd h with ⟨v3, e4, h⟩ | ⟨E5, e4, h⟩
  · have q6 := (SF11_tear (xs := xs) (L := L) e1)
    unfold m_xI at q6
    rw [e4] at q6
    refine g_call (v := some (.int v3)) (h := z2.2) (st' := [.int v3, .int 0, .ref x3]) (D1 := 7) (as := [.ref x0, .int x1, .int x2]) (Or.inr (Or.inl rfl)) q13_m135 (m_cv (as := [.int x2, .int x1]) (rest := [.int 0, .ref x3]) (Or.inl rfl) q13_m135 jv2233 (OF11_tear e1) rfl rfl rfl rfl) (by decide) q6 rfl ?_
    refine g_ch [(0, .ref x0), (1, .int x1), (2, .int x2), (3, .ref x3)] [.long (m_i2l v3), .int 0, .ref x3] (pc' := 9) rfl rfl rfl ?_
    obtain ⟨h7, e8, h⟩ := m_bd h
    refine g_ls e8 ?_
    refine g_goto (t := 17) rfl ?_
    refine g_in eF13_tear_17 mx2634 ?_
    refine g_ch [(0, .ref x0), (1, .int x1), (2, .int x2), (3, .ref x3)] [.int 0] (pc' := 18) rfl rfl rfl ?_
    cases h
    rw [k0 _ hK]
    exact g_iret rfl rfl
  · have q6 := (SF11_tear (xs := xs) (L := L) e1)
    unfold m_xI at q6
    rw [e4] at q6
    rcases m_ifd h with ⟨c9, hc9⟩ | ⟨c9, h⟩
    · subst c9
      have h := hc9
      refine g_callH (t := 13) (D1 := 7) (as := [.ref x0, .int x1, .int x2]) (Or.inr (Or.inl rfl)) q13_m135 (m_cv (as := [.int x2, .int x1]) (rest := [.int 0, .ref x3]) (Or.inl rfl) q13_m135 jv2233 (OF11_tear e1) rfl rfl rfl rfl) (by decide) q6 rfl ?_
      refine g_in eF13_tear_13 mx2634 ?_
      refine g_ch [(4, .retAddr 0), (0, .ref x0), (1, .int x1), (2, .int x2), (3, .ref x3)] [.int 1] (pc' := 16) rfl rfl rfl ?_
      cases h
      rw [k0 _ hK]
      exact g_iret rfl rfl
    cases h
theorem SF13_tear {xs : Nat → Int32} {L : Nat} {x0 : Nat} {x1 : Int32} {x2 : Int32} {x3 : Nat} {hp : m_H} {x : Int32 × m_H} (h : F13_tear x0 x1 x2 x3 hp = some x) : m_Rn xs L 8 2634 0 (lv_args 0 [.ref x0, .int x1, .int x2, .ref x3]) [] hp (.inl (some (.int x.1)), x.2) :=
  r_lv (SF13_tear_0 x0 x1 x2 x3 hp (K := fun y => y = x) (fun y e => by rw [e]) h rfl) rfl ⟨rfl, rfl, rfl, rfl, trivial⟩
