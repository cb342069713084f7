/-! ===== CASH: the reference ===== -/
def hz_P (s0 : tz_S) (th : Int32) (W : m_W) (k : Nat) (c : Nat → Int) (h : m_H) : Prop := ∃ s, h = tz_H s ∧ tz_WR s 318 W ∧ s.1 317 0 = th ∧ tz_fq s0 s ∧ ∀ l, 1 ≤ l → l < k → (s.2.2.1 332 l).toInt = c l
section
variable {s0 : tz_S} {th : Int32} {W : m_W} {h : m_H} {c : Nat → Int}
theorem hz_P.N {k : Nat} (P : hz_P s0 th W k c h) : rz_N s0 th W h := by
  obtain ⟨s, e, a, b, d, -⟩ := P
  exact ⟨s, e, a, b, d⟩
theorem hz_P.al {k : Nat} (P : hz_P s0 th W k c h) {l : Nat} (h1 : 1 ≤ l) (hl : l < k) (h6 : l < 6) : ∃ v, m_al h 332 (nI l) = some v ∧ v.toInt = c l := by
  obtain ⟨s, rfl, a, b, d, e⟩ := P
  exact ⟨_, (tz_al sh_332 (nI_in1 h6 (by decide))).trans (by rw [nI_clamp (by omega)]), e l h1 hl⟩
theorem hz_P.sl {k : Nat} (P : hz_P s0 th W k c h) {l : Nat} (h6 : l < 6) {v : Int64} {c' : Nat → Int} {k' : Nat} (hv : v.toInt = c' l) (hc : ∀ m, 1 ≤ m → m < k' → ¬ m = l → m < k ∧ c' m = c m) : k_ok (m_sl h 332 (nI l) v) (hz_P s0 th W k' c') := by
  obtain ⟨s, rfl, a, b, d, e⟩ := P
  refine ⟨_, tz_sl sh_332 (nI_in1 h6 (by decide)), _, rfl, a, b, d.trans (tz_fq.ul (Or.inr (Or.inr rfl))), fun m m1 mk => ?_⟩
  show ((if 332 = 332 then _ else _ : Nat → Int64) m).toInt = c' m
  rw [if_pos rfl, nI_clamp (by omega)]
  by_cases z : m = l
  · subst z
    rw [pk_uLs]
    exact hv
  · rw [pk_uLn z, (hc m m1 mk z).2]
    exact e m m1 (hc m m1 mk z).1
theorem rz_cashL (V : vz W) : ∀ j i N (h : m_H) (c : Nat → Int), j < N → i + j = wz_n W 2 → hz_P s0 th W 6 c h → (∀ l, 1 ≤ l → l < 6 → 0 ≤ c l ∧ c l ≤ 2147483647) → k_ok (m_wh (fun z => F12_cash_87b 317 z) N (nI i, h)) (fun z => z.1 = sp_cs W j i c ∧ rz_N s0 th W z.2)
  | 0, i, N, h, c, hN, hij, P, hc => by
    have hcn := V.cap (k := 2) (by omega)
    have hn : wz_n W 2 ≤ 100 := hcn.2
    obtain ⟨N, rfl⟩ : ∃ M, N = M + 1 := ⟨N - 1, by omega⟩
    refine wh_0 (x := (-1, h)) ?_ ⟨rfl, P.N⟩
    unfold F12_cash_87b
    dsimp only
    rw [rz_gr1 P.N, bz_s, rz_c2 P.N, bz_s, show W 22 0 0 = nI (wz_n W 2) from hcn.1, iz_t (nI_le (by omega) (by omega))]
  | j + 1, i, N, h, c, hN, hij, P, hc => by
    have hcn := V.cap (k := 2) (by omega)
    have hn : wz_n W 2 ≤ 100 := hcn.2
    have e22 : W 22 0 0 = nI (wz_n W 2) := hcn.1
    obtain ⟨N, rfl⟩ : ∃ M, N = M + 1 := ⟨N - 1, by omega⟩
    have hi : i < wz_n W 2 := by omega
    have i100 : i < 100 := by omega
    have L := V.lot hi
    obtain ⟨l, hl, el⟩ := i_row (x := W 2 i 2) (n := 5) rfl L.2.2.1
    obtain ⟨d1, d2, d3, x1, x2, y1, y2⟩ := vz_due V hi
    have el2 : (W 2 i 2).toNatClampNeg = l := by rw [el, nI_clamp (by omega)]
    by_cases q : W 2 i 6 = -1
    · have e : sp_cs W (j + 1) i c = sp_cs W j (i + 1) c := if_pos q
      rw [e]
      refine wh_1 (s' := (nI (i + 1), h)) ?_ (rz_cashL V j (i + 1) N h c (by omega) (by omega) P hc)
      unfold F12_cash_87b
      dsimp only
      rw [rz_gr1 P.N, bz_s, rz_c2 P.N, bz_s, e22, iz_f (nI_ge hi (by omega)), rz_o6 P.N rfl i100, bz_s, iz_f (by rw [q]; decide), nI_succ]
    have q6 := L.2.2.2.2.2.1.resolve_left q
    have l1 : 1 ≤ l := by
      rcases Nat.eq_zero_or_pos l with z | z
      · subst z; exact absurd el q6.2
      · exact z
    have hcl := hc l l1 (by omega)
    obtain ⟨v, ev, hv⟩ := P.al l1 (show l < 6 by omega) (by omega)
    have dd : (m_i2l (W 2 i 1) * m_i2l (W 2 i 19)).toInt = sp_due W i := by
      unfold m_i2l
      rw [Int64.toInt_mul, Int32.toInt_toInt64, Int32.toInt_toInt64]
      have : sp_due W i = (W 2 i 1).toInt * (W 2 i 19).toInt := rfl
      rw [← this]
      exact Int.bmod_eq_of_le (by omega) (by omega)
    have cmp : lg_cmp (m_i2l (W 2 i 1) * m_i2l (W 2 i 19)) v ≤ 0 ↔ sp_due W i ≤ c l := by
      rw [lg_cmp_le, Int64.le_iff_toInt_le, dd, hv]
    by_cases q2 : sp_due W i ≤ c l
    · have e : sp_cs W (j + 1) i c = sp_cs W j (i + 1) (hU c l (sp_due W i)) := by
        show (if W 2 i 6 = -1 then _ else if sp_due W i ≤ c (W 2 i 2).toNatClampNeg then sp_cs W j (i + 1) (hU c (W 2 i 2).toNatClampNeg (sp_due W i)) else nI i) = _
        rw [if_neg q, el2, if_pos q2]
      rw [e]
      obtain ⟨h2, e2, P2⟩ := P.sl (l := l) (v := v - m_i2l (W 2 i 1) * m_i2l (W 2 i 19)) (c' := hU c l (sp_due W i)) (k' := 6) (by omega) (by
        rw [Int64.toInt_sub, dd, hv]
        unfold hU
        rw [if_pos rfl]
        exact Int.bmod_eq_of_le (by omega) (by omega)) (fun m _ mk z => ⟨mk, if_neg z⟩)
      refine wh_1 (s' := (nI (i + 1), h2)) ?_ (rz_cashL V j (i + 1) N h2 _ (by omega) (by omega) P2 (fun m m1 mk => ?_))
      · unfold F12_cash_87b
        dsimp only
        rw [rz_gr1 P.N, bz_s, rz_c2 P.N, bz_s, e22, iz_f (nI_ge hi (by omega)), rz_o6 P.N rfl i100, bz_s, iz_t q6.1, rz_o1 P.N rfl i100, bz_s, rz_o19 P.N rfl i100, bz_s, rz_gr25 P.N, bz_s, rz_o2 P.N rfl i100, bz_s, el, ev, bz_s, iz_t (cmp.mpr q2), bz_s, bz_s, ev, bz_s, e2, bz_s, nI_succ]
      · unfold hU
        split
        · next z => subst z; omega
        · exact hc m m1 mk
    · have e : sp_cs W (j + 1) i c = nI i := by
        show (if W 2 i 6 = -1 then _ else if sp_due W i ≤ c (W 2 i 2).toNatClampNeg then _ else nI i) = _
        rw [if_neg q, el2, if_neg q2]
      rw [e]
      refine wh_0 (x := (nI i, h)) ?_ ⟨rfl, P.N⟩
      unfold F12_cash_87b
      dsimp only
      rw [rz_gr1 P.N, bz_s, rz_c2 P.N, bz_s, e22, iz_f (nI_ge hi (by omega)), rz_o6 P.N rfl i100, bz_s, iz_t q6.1, rz_o1 P.N rfl i100, bz_s, rz_o19 P.N rfl i100, bz_s, rz_gr25 P.N, bz_s, rz_o2 P.N rfl i100, bz_s, el, ev, bz_s, iz_f (fun z => q2 (cmp.mp z))]
theorem rz_cash (R : rz_N s0 th W h) (V : vz W) {a b c d e : Int32} : k_ok (F12_cash 317 a b c d e h) (fun z => match sp_cash W a b c d e with
  | .inl v => ∃ h1, z = (v, h1) ∧ rz_N s0 0 W h1
  | .inr E => rz_N s0 (e1 E) W z.2) := by
  have hn : wz_n W 2 ≤ 100 := V.c (k := 2) (by omega)
  unfold F12_cash F12_cash_0 sp_cash
  refine k_g (rz_io R) (k_b (rz_th R) ?_)
  intro h0 R0
  have no : ¬ (0 ≤ a ∧ 0 ≤ b ∧ 0 ≤ c ∧ 0 ≤ d ∧ 0 ≤ e) → k_ok (F12_cash_28 317 a b c d e 317 h0) (fun z => match (if 0 ≤ a ∧ 0 ≤ b ∧ 0 ≤ c ∧ 0 ≤ d ∧ 0 ≤ e then Sum.inl (sp_cs W (wz_n W 2) 0 (sp_coin a b c d e)) else .inr 1 : Int32 ⊕ Nat) with
    | .inl v => ∃ h1, z = (v, h1) ∧ rz_N s0 0 W h1
    | .inr E => rz_N s0 (e1 E) W z.2) := by
    intro q
    unfold F12_cash_28 F12_cash_33
    rw [if_neg q]
    exact k_thr R0 (fun h1 R1 => k_s R1)
  refine k_if (fun q => no (fun z => absurd q (Int32.not_lt.mpr z.1))) (fun qa => ?_)
  refine k_if (fun q => no (fun z => absurd q (Int32.not_lt.mpr z.2.1))) (fun qb => ?_)
  refine k_if (fun q => no (fun z => absurd q (Int32.not_lt.mpr z.2.2.1))) (fun qc => ?_)
  refine k_if (fun q => no (fun z => absurd q (Int32.not_lt.mpr z.2.2.2.1))) (fun qd => ?_)
  refine k_if (fun qe => ?_) (fun q => no (fun z => q z.2.2.2.2))
  rw [if_pos ⟨Int32.not_lt.mp qa, Int32.not_lt.mp qb, Int32.not_lt.mp qc, Int32.not_lt.mp qd, qe⟩]
  have P0 : hz_P s0 0 W 1 (sp_coin a b c d e) h0 := by
    obtain ⟨s, e, x, y, z⟩ := R0
    exact ⟨s, e, x, y, z, fun l h1 h2 => absurd h1 (by omega)⟩
  have st : ∀ {l : Nat} {h : m_H} {v y : Int32}, y = nI l → 1 ≤ l → l < 6 → v.toInt = sp_coin a b c d e l → hz_P s0 0 W l (sp_coin a b c d e) h → k_ok (m_sl h 332 y (m_i2l v)) (hz_P s0 0 W (l + 1) (sp_coin a b c d e)) := by
    intro l h v y hy h1 h6 hv P
    rw [hy]
    exact P.sl h6 (by unfold m_i2l; rw [Int32.toInt_toInt64]; exact hv) (fun m m1 mk z => ⟨by omega, rfl⟩)
  unfold F12_cash_33
  refine k_thr0 R0 (k_e (rz_gr25 P0.N) (k_b (st (l := 1) rfl (by decide) (by decide) rfl P0) ?_))
  intro h1 P1
  refine k_e (rz_gr25 P1.N) (k_b (st (l := 2) rfl (by decide) (by decide) rfl P1) ?_)
  intro h2 P2
  refine k_e (rz_gr25 P2.N) (k_b (st (l := 3) rfl (by decide) (by decide) rfl P2) ?_)
  intro h3 P3
  refine k_e (rz_gr25 P3.N) (k_b (st (l := 4) rfl (by decide) (by decide) rfl P3) ?_)
  intro h4 P4
  refine k_e (rz_gr25 P4.N) (k_b (st (l := 5) rfl (by decide) (by decide) rfl P4) ?_)
  intro h5 P5
  unfold F12_cash_87
  refine k_m (rz_cashL V (wz_n W 2) 0 m_N h5 _ (N_lt (by omega)) (Nat.zero_add _) P5 (fun l h1 h6 => ?_)) ?_
  · have ub : ∀ x : Int32, x.toInt ≤ 2147483647 := fun x => by have := Int32.toInt_lt x; omega
    have ha := i_nn (Int32.not_lt.mp qa)
    have hb := i_nn (Int32.not_lt.mp qb)
    have hc := i_nn (Int32.not_lt.mp qc)
    have hd := i_nn (Int32.not_lt.mp qd)
    have he := i_nn qe
    match l, h1, h6 with
    | 1, _, _ => exact ⟨ha, ub a⟩
    | 2, _, _ => exact ⟨hb, ub b⟩
    | 3, _, _ => exact ⟨hc, ub c⟩
    | 4, _, _ => exact ⟨hd, ub d⟩
    | 5, _, _ => exact ⟨he, ub e⟩
    | n + 6, _, h => exact absurd h (by omega)
  · rintro ⟨v, h6⟩ ⟨e1, R6⟩
    dsimp only at e1
    subst e1
    exact ⟨h6, rfl, R6⟩
end
