/-! ===== the law: one call ===== -/
def FB (y : Int32) (s0 s1 : Int64) (hp : m_H) : Option ((Int32 × m_H) ⊕ (Int32 × m_H)) := m_if ((lg_cmp s1 s0) = 0) (some (.inl ((y + 6), hp))) (some (.inr (0, hp)))
section
variable {s s' : tz_S} {W : m_W} {b0 i : Option m_W} {n m N : Nat} {f g : Nat → Int32} {T : Nat → Nat} {q : Nat} {e : Int32} {cd : Nat → Int32}
theorem fin_B {p : jP} {c y w : Int32} {h2 : m_H} (C : CS true s N cd W b0 i T q e p c) (R : (∀ r, p = .inl r → m_i2l w = r.1) ∧ RP s cd W b0 i T q e p h2) (h01 : ∀ r, p = .inl r → r.1 = 0 ∨ r.1 = 1) : k_ok (m_b (F12_thrown 317 h2) fun v1 => m_if (v1 = c) (m_if (c = 0) (m_b (m_al h2 333 0) fun v2 => m_if (w = 0) (FB y 0 v2 h2) (FB y 1 v2 h2)) (some (.inl ((y + 6), h2)))) (some (.inr (0, h2)))) (jLP (y + 6) N) := by
  refine fin C R.2 (fun r s' er eh O => ?_)
  subst eh
  have ew : w.toInt64 = r.1 := R.1 r er
  rw [out_e, bz_s]
  rcases h01 r er with z | z
  · rw [iz_t (i2l_0 (ew.trans z))]
    unfold FB
    rw [O rfl, z]
    exact iz_t ((lg_cmp_eq _ _).mpr rfl)
  · have w1 := i2l_1 (ew.trans z)
    rw [iz_f (by rw [w1]; decide)]
    unfold FB
    rw [O rfl, z]
    exact iz_t ((lg_cmp_eq _ _).mpr rfl)
theorem labP {a b : Int32} {r : Int64 × m_W × Option m_W} (h : pI b0 (sp_label W a b) = .inl r) : r.1 = 0 ∨ r.1 = 1 := by
  cases ep : sp_label W a b with
  | inl r' =>
    rw [ep] at h
    cases h
    exact lab01 ep
  | inr E => rw [ep] at h; cases h
theorem pD01 {p : (Int32 × Option m_W) ⊕ Nat} (hp : ∀ r, p = .inl r → r.1 = 0 ∨ r.1 = 1) {r : Int64 × m_W × Option m_W} (h : pD W b0 p = .inl r) : r.1 = 0 ∨ r.1 = 1 := by
  have k : ∀ v : Int32, v = 0 ∨ v = 1 → v.toInt64 = 0 ∨ v.toInt64 = 1 := by
    rintro v (rfl | rfl)
    · exact Or.inl (by decide)
    · exact Or.inr (by decide)
  rcases p with ⟨v1, _ | W1⟩ | E
  · cases h
    exact k _ (hp _ rfl)
  · cases h
    exact k _ (hp _ rfl)
  · cases h
theorem law_body {xs : Nat → Int32} {L k : Nat} (hL : L ≤ 3072) (hi : 6 * k + 6 ≤ L) (K : JJ s k) : k_ok (F13_law_23b xs L 200 317 333 (nI (6 * k), tz_H s)) (jLP (nI (6 * k) + 6) k) := by
  have sc : ∀ j, j < 6 → m_sc xs L (nI (6 * k) + nI j) = some (xs (6 * k + j)) := by
    intro j hj
    unfold m_sc
    rw [nI_add, if_pos (nI_in1 (by omega) (by omega)), nI_clamp (by omega)]
  have sc1 : m_sc xs L (nI (6 * k) + 1) = some (xs (6 * k + 1)) := sc 1 (by decide)
  have sc2 : m_sc xs L (nI (6 * k) + 2) = some (xs (6 * k + 2)) := sc 2 (by decide)
  have sc3 : m_sc xs L (nI (6 * k) + 3) = some (xs (6 * k + 3)) := sc 3 (by decide)
  have sc4 : m_sc xs L (nI (6 * k) + 4) = some (xs (6 * k + 4)) := sc 4 (by decide)
  have sc5 : m_sc xs L (nI (6 * k) + 5) = some (xs (6 * k + 5)) := sc 5 (by decide)
  have sc0 : m_sc xs L (nI (6 * k)) = some (xs (6 * k)) := by
    unfold m_sc
    rw [if_pos (nI_in1 (by omega) (by omega)), nI_clamp (by omega)]
  have hlt : ¬ (Int32.ofNat L - 6 < nI (6 * k)) := by
    intro z
    have z := Int32.lt_iff_toInt_lt.mp z
    have e6 : (6 : Int32).toInt = 6 := rfl
    have eL : (Int32.ofNat L).toInt = L := nI_toInt (by omega)
    rw [i_sub (by rw [eL, e6]; omega) (by rw [eL, e6]; omega), eL, e6, nI_toInt (by omega)] at z
    omega
  obtain ⟨W, b0, i, n, m, f, g, T, q, e, J, R0, P, M⟩ := id K
  unfold F13_law_23b
  dsimp only
  refine k_f hlt (k_e sc0 ?_)
  cases hw : m_swi 0 47 (xs (6 * k) &&& 63) with
  | none => exact k_s ⟨s, rfl, W, b0, i, n, m, f, g, T, q, e, J, R0, P, M.ss⟩
  | some w =>
  have w47 : w ≤ 47 := by
    unfold m_swi at hw
    split at hw
    · cases hw
    · next z =>
      cases hw
      omega
  unfold m_swt
  dsimp only
  refine k_if (fun c0 => ?_) (fun c0 => ?_)
  · refine k_e sc1 (k_e sc2 (k_e sc3 (k_e sc4 (k_e sc5 (k_b (lw_feed J R0 P M) ?_)))))
    rintro ⟨c, h⟩ ⟨s', es, C⟩
    dsimp only at es C
    subst es
    refine k_e sc1 (k_e sc2 (k_e sc3 (k_e sc4 (k_e sc5 (k_b C ?_)))))
    rintro ⟨c2, h2⟩ ⟨ec, s2, eh, K2⟩
    dsimp only at ec eh
    subst eh
    exact k_t ec (k_s ⟨s2, rfl, K2⟩)
  refine k_if (fun c1 => ?_) (fun c1 => ?_)
  · refine k_e sc1 (k_b (lw_end J R0 P M) ?_)
    rintro ⟨c, h⟩ ⟨s', es, C⟩
    dsimp only at es C
    subst es
    refine k_e sc1 (k_b C ?_)
    rintro ⟨c2, h2⟩ ⟨ec, s2, eh, K2⟩
    dsimp only at ec eh
    subst eh
    exact k_t ec (k_s ⟨s2, rfl, K2⟩)
  refine k_if (fun c2 => ?_) (fun c2 => ?_)
  · refine k_e sc1 (k_e sc2 (k_e sc3 (k_e sc4 (k_e sc5 (k_b (wp_sort J R0 P M) ?_)))))
    rintro ⟨c, h⟩ ⟨s', es, C⟩
    dsimp only at es C
    subst es
    exact k_e sc1 (k_e sc2 (k_e sc3 (k_e sc4 (k_e sc5 (k_b (rz_sort (JRN C.1.1)) (fun z2 Q => fin_V C (r_V Q C.1)))))))
  refine k_if (fun c3 => ?_) (fun c3 => ?_)
  · refine k_e sc1 (k_e sc2 (k_e sc3 (k_b (wp_price J R0 P M) ?_)))
    rintro ⟨c, h⟩ ⟨s', es, C⟩
    dsimp only at es C
    subst es
    exact k_e sc1 (k_e sc2 (k_e sc3 (k_b (rz_price (JRN C.1.1) P.1) (fun z2 Q => fin_I C (r_I Q C.1)))))
  refine k_if (fun c4 => ?_) (fun c4 => ?_)
  · refine k_e sc1 (k_e sc2 (k_b (wp_cost J R0 P M) ?_))
    rintro ⟨c, h⟩ ⟨s', es, C⟩
    dsimp only at es C
    subst es
    exact k_e sc1 (k_e sc2 (k_b (rz_cost (JRN C.1.1) P.1) (fun z2 Q => fin_I C (r_I Q C.1))))
  refine k_if (fun c5 => ?_) (fun c5 => ?_)
  · refine k_e sc1 (k_e sc2 (k_b (wp_works J R0 P M) ?_))
    rintro ⟨c, h⟩ ⟨s', es, C⟩
    dsimp only at es C
    subst es
    exact k_e sc1 (k_e sc2 (k_b (rz_works (JRN C.1.1)) (fun z2 Q => fin_I C (r_I Q C.1))))
  refine k_if (fun c6 => ?_) (fun c6 => ?_)
  · refine k_e sc1 (k_e sc2 (k_b (wp_order J R0 P M) ?_))
    rintro ⟨c, h⟩ ⟨s', es, C⟩
    dsimp only at es C
    subst es
    exact k_e sc1 (k_e sc2 (k_b (rz_order (JRN C.1.1) P.1) (fun z2 Q => fin_I C (r_I Q C.1))))
  refine k_if (fun c7 => ?_) (fun c7 => ?_)
  · refine k_e sc1 (k_e sc2 (k_b (wp_lot J R0 P M) ?_))
    rintro ⟨c, h⟩ ⟨s', es, C⟩
    dsimp only at es C
    subst es
    exact k_e sc1 (k_e sc2 (k_b (rz_lot (JRN C.1.1) P.1) (fun z2 Q => fin_I C (r_I Q C.1))))
  refine k_if (fun c8 => ?_) (fun c8 => ?_)
  · refine k_e sc1 (k_b (lw_act J R0 P M) ?_)
    rintro ⟨c, h⟩ ⟨s', es, C⟩
    dsimp only at es C
    subst es
    exact k_e sc1 (k_b C (fun z2 Q => fin_A Q))
  refine k_if (fun c9 => ?_) (fun c9 => ?_)
  · obtain ⟨v, ev, C⟩ := lw_fault J R0 P M
    refine k_e ev (k_b C ?_)
    rintro ⟨c2, h2⟩ ⟨ec, s2, eh, K2⟩
    dsimp only at ec eh
    subst eh
    exact k_t ec (k_s ⟨s2, rfl, K2⟩)
  refine k_if (fun c10 => ?_) (fun c10 => ?_)
  · refine k_e sc1 (k_e sc2 (k_e sc3 (k_e sc4 (k_b (wp_ask J R0 P M) ?_))))
    rintro ⟨c, h⟩ ⟨s', es, C⟩
    dsimp only at es C
    subst es
    exact k_e sc1 (k_e sc2 (k_e sc3 (k_e sc4 (k_b (rz_ask (JRN C.1.1) P.1) (fun z2 Q => fin_I C (r_I Q C.1))))))
  refine k_if (fun c11 => ?_) (fun c11 => ?_)
  · refine k_e sc1 (k_e sc2 (k_b (wp_weigh J R0 P M) ?_))
    rintro ⟨c, h⟩ ⟨s', es, C⟩
    dsimp only at es C
    subst es
    exact k_e sc1 (k_e sc2 (k_b (rz_weigh (JRN C.1.1) P.1) (fun z2 Q => fin_I C (r_I Q C.1))))
  refine k_if (fun c12 => ?_) (fun c12 => ?_)
  · refine k_e sc1 (k_b (wp_allot J R0 P M) ?_)
    rintro ⟨c, h⟩ ⟨s', es, C⟩
    dsimp only at es C
    subst es
    exact k_e sc1 (k_b (rz_allot (JRN C.1.1) P.1) (fun z2 Q => fin_I C (r_D Q C.1)))
  refine k_if (fun c13 => ?_) (fun c13 => ?_)
  · refine k_e sc1 (k_e sc2 (k_b (wp_label J R0 P M) ?_))
    rintro ⟨c, h⟩ ⟨s', es, C⟩
    dsimp only at es C
    subst es
    exact k_e sc1 (k_e sc2 (k_b (rz_label (JRN C.1.1) P.1) (fun z2 Q => fin_B C (r_I Q C.1) (fun r h => labP h))))
  refine k_if (fun c14 => ?_) (fun c14 => ?_)
  · refine k_e sc1 (k_e sc2 (k_b (wp_ship J R0 P M) ?_))
    rintro ⟨c, h⟩ ⟨s', es, C⟩
    dsimp only at es C
    subst es
    exact k_e sc1 (k_e sc2 (k_b (rz_ship (JRN C.1.1) P.1) (fun z2 Q => fin_I C (r_I Q C.1))))
  refine k_if (fun c15 => ?_) (fun c15 => ?_)
  · refine k_e sc1 (k_e sc2 (k_b (wp_way J R0 P M) ?_))
    rintro ⟨c, h⟩ ⟨s', es, C⟩
    dsimp only at es C
    subst es
    exact k_e sc1 (k_e sc2 (k_b (rz_way (JRN C.1.1)) (fun z2 Q => fin_V C (r_V Q C.1))))
  refine k_if (fun c16 => ?_) (fun c16 => ?_)
  · refine k_e sc1 (k_e sc2 (k_e sc3 (k_b (wp_risk J R0 P M) ?_)))
    rintro ⟨c, h⟩ ⟨s', es, C⟩
    dsimp only at es C
    subst es
    exact k_e sc1 (k_e sc2 (k_e sc3 (k_b (rz_risk (JRN C.1.1) P.1) (fun z2 Q => fin_I C (r_I Q C.1)))))
  refine k_if (fun c17 => ?_) (fun c17 => ?_)
  · refine k_e sc1 (k_e sc2 (k_e sc3 (k_b (wp_load J R0 P M) ?_)))
    rintro ⟨c, h⟩ ⟨s', es, C⟩
    dsimp only at es C
    subst es
    exact k_e sc1 (k_e sc2 (k_e sc3 (k_b (rz_load (JRN C.1.1) P.1) (fun z2 Q => fin_B C (r_D Q C.1) (fun r h => pD01 (fun r h => load01 h) h)))))
  refine k_if (fun c18 => ?_) (fun c18 => ?_)
  · refine k_e sc1 (k_e sc2 (k_b (wp_sail J R0 P M) ?_))
    rintro ⟨c, h⟩ ⟨s', es, C⟩
    dsimp only at es C
    subst es
    exact k_e sc1 (k_e sc2 (k_b (rz_sail (JRN C.1.1) P.1) (fun z2 Q => fin_B C (r_D Q C.1) (fun r h => pD01 (fun r h => sail01 h) h))))
  refine k_if (fun c19 => ?_) (fun c19 => ?_)
  · refine k_e sc1 (k_e sc2 (k_b (wp_led J R0 P M) ?_))
    rintro ⟨c, h⟩ ⟨s', es, C⟩
    dsimp only at es C
    subst es
    exact k_e sc1 (k_e sc2 (k_b (rz_led (JRN C.1.1) P.1) (fun z2 Q => fin_I C (r_I Q C.1))))
  refine k_if (fun c20 => ?_) (fun c20 => ?_)
  · refine k_e sc1 (k_e sc2 (k_e sc3 (k_b (wp_need J R0 P M) ?_)))
    rintro ⟨c, h⟩ ⟨s', es, C⟩
    dsimp only at es C
    subst es
    exact k_e sc1 (k_e sc2 (k_e sc3 (k_b (rz_need (JRN C.1.1)) (fun z2 Q => fin_V C (r_V Q C.1)))))
  refine k_if (fun c21 => ?_) (fun c21 => ?_)
  · refine k_e sc1 (k_b (wp_weeks J R0 P M) ?_)
    rintro ⟨c, h⟩ ⟨s', es, C⟩
    dsimp only at es C
    subst es
    exact k_e sc1 (k_b (rz_weeks (JRN C.1.1) P.1) (fun z2 Q => fin_I C (r_D Q C.1)))
  refine k_if (fun c22 => ?_) (fun c22 => ?_)
  · refine k_e sc1 (k_e sc2 (k_e sc3 (k_e sc4 (k_if (fun z => ?_) (fun z => ?_)))))
    · unfold F13_law_1717
      refine k_b (wp_give (d := 0) J R0 P M) ?_
      rintro ⟨c, h⟩ ⟨s', es, C⟩
      dsimp only at es C
      subst es
      refine k_e sc1 (k_e sc2 (k_e sc3 (k_e sc4 (k_t z ?_))))
      unfold F13_law_1756
      exact k_b (rz_give (JRN C.1.1) P.1) (fun z2 Q => fin_I C (r_D Q C.1))
    · unfold F13_law_1717
      refine k_b (wp_give (d := 1) J R0 P M) ?_
      rintro ⟨c, h⟩ ⟨s', es, C⟩
      dsimp only at es C
      subst es
      refine k_e sc1 (k_e sc2 (k_e sc3 (k_e sc4 (k_f z ?_))))
      unfold F13_law_1756
      exact k_b (rz_give (JRN C.1.1) P.1) (fun z2 Q => fin_I C (r_D Q C.1))
  refine k_if (fun c23 => ?_) (fun c23 => ?_)
  · refine k_e sc1 (k_e sc2 (k_e sc3 (k_b (wp_back J R0 P M) ?_)))
    rintro ⟨c, h⟩ ⟨s', es, C⟩
    dsimp only at es C
    subst es
    exact k_e sc1 (k_e sc2 (k_e sc3 (k_b (rz_back (JRN C.1.1) P.1) (fun z2 Q => fin_I C (r_I Q C.1)))))
  refine k_if (fun c24 => ?_) (fun c24 => ?_)
  · refine k_e sc1 (k_e sc2 (k_b (wp_land J R0 P M) ?_))
    rintro ⟨c, h⟩ ⟨s', es, C⟩
    dsimp only at es C
    subst es
    exact k_e sc1 (k_e sc2 (k_b (rz_land (JRN C.1.1) P.1) (fun z2 Q => fin_I C (r_J Q C.1))))
  refine k_if (fun c25 => ?_) (fun c25 => ?_)
  · refine k_e sc1 (k_e sc2 (k_e sc3 (k_b (wp_balance J R0 P M) ?_)))
    rintro ⟨c, h⟩ ⟨s', es, C⟩
    dsimp only at es C
    subst es
    exact k_e sc1 (k_e sc2 (k_e sc3 (k_b (rz_balance (JRN C.1.1) P.1) (fun z2 Q => fin_I C (r_J Q C.1)))))
  refine k_if (fun c26 => ?_) (fun c26 => ?_)
  · refine k_e sc1 (k_e sc2 (k_e sc3 (k_e sc4 (k_b (wp_returned J R0 P M) ?_))))
    rintro ⟨c, h⟩ ⟨s', es, C⟩
    dsimp only at es C
    subst es
    exact k_e sc1 (k_e sc2 (k_e sc3 (k_e sc4 (k_b (rz_returned (JRN C.1.1) P.1) (fun z2 Q => fin_I C (r_I Q C.1))))))
  refine k_if (fun c27 => ?_) (fun c27 => ?_)
  · refine k_e sc1 (k_e sc2 (k_e sc3 (k_b (wp_mustBe J R0 P M) ?_)))
    rintro ⟨c, h⟩ ⟨s', es, C⟩
    dsimp only at es C
    subst es
    exact k_e sc1 (k_e sc2 (k_e sc3 (k_b (rz_mustBe (JRN C.1.1) P.1) (fun z2 Q => fin_I C (r_I Q C.1)))))
  refine k_if (fun c28 => ?_) (fun c28 => ?_)
  · refine k_e sc1 (k_e sc2 (k_e sc3 (k_b (wp_seen J R0 P M) ?_)))
    rintro ⟨c, h⟩ ⟨s', es, C⟩
    dsimp only at es C
    subst es
    exact k_e sc1 (k_e sc2 (k_e sc3 (k_b (rz_seen (JRN C.1.1) P.1) (fun z2 Q => fin_I C (r_I Q C.1)))))
  refine k_if (fun c29 => ?_) (fun c29 => ?_)
  · refine k_e sc1 (k_e sc2 (k_e sc3 (k_if (fun z => ?_) (fun z => ?_))))
    · unfold F13_law_2297
      refine k_b (wp_whence (c := 0) J R0 P M) ?_
      rintro ⟨c, h⟩ ⟨s', es, C⟩
      dsimp only at es C
      subst es
      refine k_e sc1 (k_e sc2 (k_e sc3 (k_t z ?_)))
      unfold F13_law_2330
      exact k_b (rz_whence (JRN C.1.1) P.1) (fun z2 Q => fin_I C (r_I Q C.1))
    · unfold F13_law_2297
      refine k_b (wp_whence (c := 1) J R0 P M) ?_
      rintro ⟨c, h⟩ ⟨s', es, C⟩
      dsimp only at es C
      subst es
      refine k_e sc1 (k_e sc2 (k_e sc3 (k_f z ?_)))
      unfold F13_law_2330
      exact k_b (rz_whence (JRN C.1.1) P.1) (fun z2 Q => fin_I C (r_I Q C.1))
  refine k_if (fun c30 => ?_) (fun c30 => ?_)
  · refine k_e sc1 (k_e sc2 (k_e sc3 (k_e sc4 (k_b (wp_rock J R0 P M) ?_))))
    rintro ⟨c, h⟩ ⟨s', es, C⟩
    dsimp only at es C
    subst es
    exact k_e sc1 (k_e sc2 (k_e sc3 (k_e sc4 (k_b (rz_rock (JRN C.1.1) P.1) (fun z2 Q => fin_I C (r_I Q C.1))))))
  refine k_if (fun c31 => ?_) (fun c31 => ?_)
  · refine k_e sc1 (k_b (wp_net J R0 P M) ?_)
    rintro ⟨c, h⟩ ⟨s', es, C⟩
    dsimp only at es C
    subst es
    exact k_e sc1 (k_b (rz_net (JRN C.1.1) P.1) (fun z2 Q => fin_I C (r_I Q C.1)))
  refine k_if (fun c32 => ?_) (fun c32 => ?_)
  · refine k_b (lw_N J R0 P M (in_over P.1) (cz_over J.1.N P.1) (fun s1 H => rz_over (JRN H) P.1)) ?_
    rintro ⟨c, h⟩ ⟨s', es, C⟩
    dsimp only at es C
    subst es
    refine k_b C ?_
    rintro ⟨c2, h2⟩ ⟨ec, s2, eh, K2⟩
    dsimp only at ec eh
    subst eh
    exact k_t ec (k_s ⟨s2, rfl, K2⟩)
  refine k_if (fun c33 => ?_) (fun c33 => ?_)
  · refine k_e sc1 (k_e sc2 (k_b (wp_tons J R0 P M) ?_))
    rintro ⟨c, h⟩ ⟨s', es, C⟩
    dsimp only at es C
    subst es
    exact k_e sc1 (k_e sc2 (k_b (rz_tons (JRN C.1.1)) (fun z2 Q => fin_V C (r_V Q C.1))))
  refine k_if (fun c34 => ?_) (fun c34 => ?_)
  · refine k_e sc1 (k_b (lw_N J R0 P M ⟨P.1, kp.refl⟩ (cz_hulls J.1.N P.1) (fun s1 H => rz_hulls (JRN H) P.1)) ?_)
    rintro ⟨c, h⟩ ⟨s', es, C⟩
    dsimp only at es C
    subst es
    refine k_e sc1 (k_b C ?_)
    rintro ⟨c2, h2⟩ ⟨ec, s2, eh, K2⟩
    dsimp only at ec eh
    subst eh
    exact k_t ec (k_s ⟨s2, rfl, K2⟩)
  refine k_if (fun c35 => ?_) (fun c35 => ?_)
  · refine k_b (lw_best J R0 P M) ?_
    rintro ⟨c, h⟩ ⟨s', es, C⟩
    dsimp only at es C
    subst es
    refine k_b C ?_
    rintro ⟨c2, h2⟩ ⟨ec, s2, eh, K2⟩
    dsimp only at ec eh
    subst eh
    exact k_t ec (k_s ⟨s2, rfl, K2⟩)
  refine k_if (fun c36 => ?_) (fun c36 => ?_)
  · refine k_e sc1 (k_e sc2 (k_b (wp_page J R0 P M) ?_))
    rintro ⟨c, h⟩ ⟨s', es, C⟩
    dsimp only at es C
    subst es
    exact k_e sc1 (k_e sc2 (k_b (rz_page (JRN C.1.1) P.1) (fun z2 Q => fin_I C (r_I Q C.1))))
  refine k_if (fun c37 => ?_) (fun c37 => ?_)
  · obtain ⟨v, ev, C⟩ := lw_S (F := F12_signed 317 (xs (6 * k + 1)) (xs (6 * k + 2))) J R0 P M (cz_signed J.1.N P.1) (fun s1 H => rz_signed (JRN H) P.1)
    refine k_e sc1 (k_e sc2 (k_e ev (k_e sc1 (k_e sc2 (k_b C ?_)))))
    rintro ⟨c2, h2⟩ ⟨ec, s2, eh, K2⟩
    dsimp only at ec eh
    subst eh
    exact k_t ec (k_s ⟨s2, rfl, K2⟩)
  refine k_if (fun c38 => ?_) (fun c38 => ?_)
  · refine k_e sc1 (k_e sc2 (k_e sc3 (k_e sc4 (k_b (wp_choice J R0 P M) ?_))))
    rintro ⟨c, h⟩ ⟨s', es, C⟩
    dsimp only at es C
    subst es
    exact k_e sc1 (k_e sc2 (k_e sc3 (k_e sc4 (k_b (rz_choice (JRN C.1.1) P.1) (fun z2 Q => fin_I C (r_I Q C.1))))))
  refine k_if (fun c39 => ?_) (fun c39 => ?_)
  · refine k_e sc1 (k_e sc2 (k_e sc3 (k_e sc4 (k_e sc5 (k_b (wp_row J R0 P M) ?_)))))
    rintro ⟨c, h⟩ ⟨s', es, C⟩
    dsimp only at es C
    subst es
    exact k_e sc1 (k_e sc2 (k_e sc3 (k_e sc4 (k_e sc5 (k_b (rz_row (JRN C.1.1)) (fun z2 Q => fin_V C (r_V Q C.1)))))))
  refine k_if (fun c40 => ?_) (fun c40 => ?_)
  · obtain ⟨v, ev, C⟩ := lw_S (F := F12_lasts 317) J R0 P M (cz_lasts J.1.N P.1) (fun s1 H => rz_lasts (JRN H) P.1)
    refine k_e ev (k_b C ?_)
    rintro ⟨c2, h2⟩ ⟨ec, s2, eh, K2⟩
    dsimp only at ec eh
    subst eh
    exact k_t ec (k_s ⟨s2, rfl, K2⟩)
  refine k_if (fun c41 => ?_) (fun c41 => ?_)
  · refine k_e sc1 (k_e sc2 (k_e sc3 (k_e sc4 (k_e sc5 (k_b (wp_cash J R0 P M) ?_)))))
    rintro ⟨c, h⟩ ⟨s', es, C⟩
    dsimp only at es C
    subst es
    exact k_e sc1 (k_e sc2 (k_e sc3 (k_e sc4 (k_e sc5 (k_b (rz_cash (JRN C.1.1) P.1) (fun z2 Q => fin_I C (r_cash Q C.1)))))))
  refine k_if (fun c42 => ?_) (fun c42 => ?_)
  · refine k_e sc1 (k_e sc2 (k_b (wp_tear J R0 P M) ?_))
    rintro ⟨c, h⟩ ⟨s', es, C⟩
    dsimp only at es C
    subst es
    exact k_e sc1 (k_e sc2 (k_b (rz_tear (JRN C.1.1) P.1) (fun z2 Q => fin_I C (r_I Q C.1))))
  refine k_if (fun c43 => ?_) (fun c43 => ?_)
  · obtain ⟨v, ev, C⟩ := lw_S (F := F12_check 317) J R0 P M (cz_check J.1.N P.1) (fun s1 H => rz_check (JRN H) P.1)
    refine k_e ev (k_b C ?_)
    rintro ⟨c2, h2⟩ ⟨ec, s2, eh, K2⟩
    dsimp only at ec eh
    subst eh
    exact k_t ec (k_s ⟨s2, rfl, K2⟩)
  refine k_if (fun c44 => ?_) (fun c44 => ?_)
  · refine k_b (lw_undo J R0 P M) ?_
    rintro ⟨c, h⟩ ⟨s', es, C⟩
    dsimp only at es C
    subst es
    refine k_b C ?_
    rintro ⟨c2, h2⟩ ⟨ec, s2, eh, K2⟩
    dsimp only at ec eh
    subst eh
    exact k_t ec (k_s ⟨s2, rfl, K2⟩)
  refine k_if (fun c45 => ?_) (fun c45 => ?_)
  · refine k_b (lw_keep J R0 P M) ?_
    rintro h ⟨s', es, C⟩
    subst es
    refine k_b C ?_
    rintro h2 ⟨s2, eh, K2⟩
    subst eh
    exact k_s ⟨s2, rfl, K2⟩
  refine k_if (fun c46 => ?_) (fun c46 => ?_)
  · refine k_b (lw_again J R0 P M) ?_
    rintro ⟨c, h⟩ ⟨s', es, C⟩
    dsimp only at es C
    subst es
    refine k_b C ?_
    rintro ⟨c2, h2⟩ ⟨ec, s2, eh, K2⟩
    dsimp only at ec eh
    subst eh
    exact k_t ec (k_s ⟨s2, rfl, K2⟩)
  refine k_if (fun c47 => ?_) (fun c47 => ?_)
  · obtain ⟨v, ev, C⟩ := lw_S (F := F12_count 317 (xs (6 * k + 1))) J R0 P M (cz_count J.1.N P.1) (fun s1 H => rz_count (JRN H) P.1)
    refine k_e sc1 (k_e ev (k_e sc1 (k_b C ?_)))
    rintro ⟨c2, h2⟩ ⟨ec, s2, eh, K2⟩
    dsimp only at ec eh
    subst eh
    exact k_t ec (k_s ⟨s2, rfl, K2⟩)
  omega
end
