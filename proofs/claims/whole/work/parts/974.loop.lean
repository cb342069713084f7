/-! ===== the law, whole: it answers 1 ===== -/
theorem len4 : (F11_init 200 (m_p ([], 0, 0) (m_no m_ft m_fn 8))).map (fun h => h.1.length) = some 117 := by decide +kernel
theorem sth_some : st9 = some sth := by
  have h := st9_ok
  rw [Bool.and_eq_true] at h
  obtain ⟨x, hx⟩ := Option.isSome_iff_exists.mp h.1
  unfold sth
  rw [hx]
  rfl
theorem sth_okl : okl 200 sth.1 tz_T = true := by
  have h := st9_ok
  rw [Bool.and_eq_true] at h
  exact h.2
theorem sth_H : sth = tz_H (xs0 sth.1) := okl_e sth_okl sth_2
theorem sth_len : sth.1.length = 134 := (okl_get sth_okl).1.trans tz_T_len
theorem st_parts : ∃ h1 h4 h5 h8, m_nwo 8 ([], 0, 0) = some h1 ∧ F11_init 200 h1 = some h4 ∧ m_id h4 = 317 ∧ m_nwo 9 h4 = some h5 ∧ F12_init 317 h5 = some h8 ∧ m_id h8 = 333 ∧ m_nw 1 1 h8 = some sth ∧ ∃ f, Q8 f sth ∧ WI f 8 6 := by
  have h := sth_some
  unfold st9 at h
  obtain ⟨h1, e1, h⟩ := m_bd h
  obtain ⟨h4, e4, h⟩ := m_bd h
  obtain ⟨h5, e5, h⟩ := m_bd h
  obtain ⟨h8, e8, h⟩ := m_bd h
  have l4 : h4.1.length = 117 := by
    have e := len4
    have e1' : h1 = m_p ([], 0, 0) (m_no m_ft m_fn 8) := (Option.some.inj e1).symm
    rw [← e1', e4] at e
    exact Option.some.inj e
  have e5' : h5 = m_p h4 (m_no m_ft m_fn 9) := (Option.some.inj e5).symm
  have l5 : h5.1.length = 118 := by
    rw [e5']
    show (h4.1 ++ [_]).length = 118
    rw [List.length_append, l4]
    rfl
  have l8 : m_id h8 = 333 := by
    have e := sth_len
    unfold m_nw at h
    split at h
    · cases h
    · have h := Option.some.inj h
      rw [← h] at e
      have e : (h8.1 ++ [_]).length = 134 := e
      rw [List.length_append] at e
      have e : h8.1.length + 1 = 134 := e
      unfold m_id
      omega
  refine ⟨h1, h4, h5, h8, e1, e4, by unfold m_id; omega, e5, e8, l8, h, ?_⟩
  have d := e8
  unfold F12_init F12_init_0 at d
  have d := (m_gdd d).2
  obtain ⟨g1, d1, d⟩ := m_bd d
  obtain ⟨g3, d3, d⟩ := m_bd d
  have c1 : m_c g1 318 = some (.inl (0, 37677, .inl (fun _ => 0))) := by
    unfold m_nw at d1
    split at d1
    · cases d1
    · have d1 := Option.some.inj d1
      rw [← d1]
      unfold m_c
      rw [if_neg (by decide)]
      show (h5.1 ++ [_])[118]? = _
      rw [List.getElem?_append_right (by omega), l5]
      rfl
  have id5 : m_id h5 = 318 := by unfold m_id; omega
  rw [id5] at d3
  have q : Q8 (fun _ => 0) g3 := by
    obtain ⟨vs, k1, k2, rfl⟩ := pf_c d3
    refine ⟨(mc_w (by decide) (by decide)).trans c1, gr_c.mpr ⟨_, mc_s k1, ?_⟩⟩
    rw [List.getElem?_set, if_pos rfl, if_pos k2]
  obtain ⟨g101, d0, d⟩ := m_bd d
  have q := q.nw d0
  obtain ⟨g102, d0, d⟩ := m_bd d
  have q := q.pf d0 (by decide)
  obtain ⟨g103, d0, d⟩ := m_bd d
  have q := q.nw d0
  obtain ⟨g104, d0, d⟩ := m_bd d
  have q := q.pf d0 (by decide)
  obtain ⟨g105, d0, d⟩ := m_bd d
  have q := q.nw d0
  obtain ⟨g106, d0, d⟩ := m_bd d
  have q := q.pf d0 (by decide)
  obtain ⟨g107, d0, d⟩ := m_bd d
  have q := q.pf d0 (by decide)
  obtain ⟨g108, d0, d⟩ := m_bd d
  have q := q.nw d0
  obtain ⟨g109, d0, d⟩ := m_bd d
  have q := q.pf d0 (by decide)
  obtain ⟨g110, d0, d⟩ := m_bd d
  have q := q.nw d0
  obtain ⟨g111, d0, d⟩ := m_bd d
  have q := q.pf d0 (by decide)
  obtain ⟨g112, d0, d⟩ := m_bd d
  have q := q.nw d0
  obtain ⟨g113, d0, d⟩ := m_bd d
  have q := q.pf d0 (by decide)
  obtain ⟨g114, d0, d⟩ := m_bd d
  have q := q.nw d0
  obtain ⟨g115, d0, d⟩ := m_bd d
  have q := q.pf d0 (by decide)
  obtain ⟨g116, d0, d⟩ := m_bd d
  have q := q.nw d0
  obtain ⟨g117, d0, d⟩ := m_bd d
  have q := q.pf d0 (by decide)
  obtain ⟨g118, d0, d⟩ := m_bd d
  have q := q.nw d0
  obtain ⟨g119, d0, d⟩ := m_bd d
  have q := q.pf d0 (by decide)
  obtain ⟨g120, d0, d⟩ := m_bd d
  have q := q.nw d0
  obtain ⟨g121, d0, d⟩ := m_bd d
  have q := q.pf d0 (by decide)
  obtain ⟨g122, d0, d⟩ := m_bd d
  have q := q.nw d0
  obtain ⟨g123, d0, d⟩ := m_bd d
  have q := q.pf d0 (by decide)
  obtain ⟨g124, d0, d⟩ := m_bd d
  have q := q.nw d0
  obtain ⟨g125, d0, d⟩ := m_bd d
  have q := q.pf d0 (by decide)
  obtain ⟨g126, d0, d⟩ := m_bd d
  have q := q.nw d0
  obtain ⟨g127, d0, d⟩ := m_bd d
  have q := q.pf d0 (by decide)
  obtain ⟨g128, d0, d⟩ := m_bd d
  have q := q.nw d0
  obtain ⟨g129, d0, d⟩ := m_bd d
  have q := q.pf d0 (by decide)
  obtain ⟨f, qf, wf⟩ := ri_132 q (fun k r c hv => by rw [if_neg (by omega), if_neg (by omega)]) d
  exact ⟨f, qf.nw h, wf⟩
theorem W0_cells : ∀ k ∈ List.range 38, (k = 20 ∨ k = 25 ∨ k = 26 ∨ k = 33) → wz_cap k = 0 := by decide +kernel
theorem xs0_f {l : List m_E} {a : Nat} : (xs0 l).2.1 a = xf l a := rfl
theorem st_WR : tz_WR (xs0 sth.1) 318 W0 := by
  obtain ⟨-, -, -, -, -, -, -, -, -, -, -, f, q, w⟩ := st_parts
  intro k r c hv
  have e : xf sth.1 318 = f := by
    have k1 := q.1
    unfold m_c at k1
    rw [if_neg (by decide)] at k1
    unfold xf
    rw [k1]
  rw [xs0_f, e, w k r c hv]
  unfold W0
  have nc : ¬ (k = 20 ∨ k = 25 ∨ k = 26 ∨ k = 33) := fun z => by
    have := W0_cells k (List.mem_range.mpr hv.1) z
    have := hv.2.1
    omega
  by_cases z1 : k = 0 ∧ r < 8 ∧ (c = 0 ∨ c = 3)
  · rw [if_pos z1, if_pos z1]
  · rw [if_neg z1, if_neg z1]
    by_cases z2 : k = 5 ∧ r < 6 ∧ c = 2
    · rw [if_pos z2, if_pos z2]
    · rw [if_neg z2, if_neg z2, if_neg (by omega), if_neg (by omega), if_neg (by omega), if_neg (by omega)]
theorem st_num : (xi sth.1 200 9 = 0 ∧ xi sth.1 200 10 = 0 ∧ xi sth.1 200 11 = -1 ∧ xi sth.1 201 1 = 0 ∧ xi sth.1 317 4 = 0 ∧ xi sth.1 317 5 = 0 ∧ xi sth.1 317 7 = 0 ∧ xi sth.1 317 12 = -1) ∧ (xi sth.1 223 0 = 0 ∧ xi sth.1 223 1 = 0 ∧ xi sth.1 223 2 = 0 ∧ xi sth.1 223 3 = 0 ∧ xi sth.1 223 5 = 0) ∧ (∀ k ∈ List.range 14, xi sth.1 (223 + 2 + 2 * k) 2 = nI (wz_n W0 k)) ∧ ∀ i ∈ List.range 10, xr sth.1 224 i = none := by decide +kernel
theorem st_tab : ∀ k ∈ List.range 14, ∀ r ∈ List.range (wz_n W0 k), ∀ c ∈ List.range (wz_wid k), xf sth.1 (223 + 3 + 2 * k) (r * wz_wid k + c) = W0 k r (wz_pi k c) := by decide +kernel
theorem st_JJ_of {l : List m_E} (HWR : tz_WR (xs0 l) 318 W0) (hnum : (xi l 200 9 = 0 ∧ xi l 200 10 = 0 ∧ xi l 200 11 = -1 ∧ xi l 201 1 = 0 ∧ xi l 317 4 = 0 ∧ xi l 317 5 = 0 ∧ xi l 317 7 = 0 ∧ xi l 317 12 = -1) ∧ (xi l 223 0 = 0 ∧ xi l 223 1 = 0 ∧ xi l 223 2 = 0 ∧ xi l 223 3 = 0 ∧ xi l 223 5 = 0) ∧ (∀ k ∈ List.range 14, xi l (223 + 2 + 2 * k) 2 = nI (wz_n W0 k)) ∧ ∀ i ∈ List.range 10, xr l 224 i = none) (htab : ∀ k ∈ List.range 14, ∀ r ∈ List.range (wz_n W0 k), ∀ c ∈ List.range (wz_wid k), xf l (223 + 3 + 2 * k) (r * wz_wid k + c) = W0 k r (wz_pi k c)) : JJ (xs0 l) 0 := by
  obtain ⟨⟨a1, a2, a3, a4, a5, a6, a7, a8⟩, ⟨b0, b1, b2, b3, b5⟩, c, d⟩ := hnum
  have z14 : ∀ x, W0 14 0 x = 0 := fun x => W0_z (by omega) (by omega) (by omega)
  have z37 : W0 37 0 0 = 0 := by decide +kernel
  have n17 : wz_n W0 17 = 0 := W0_nk (by decide)
  have capk : ∀ k ∈ List.range 14, wz_n W0 k ≤ wz_cap k := by decide +kernel
  refine ⟨W0, none, none, 768, 768, xf l 314, xf l 316, fun _ => 0, 0, -1, ⟨⟨⟨?_, ?_, ?_, ?_⟩, ⟨?_, ?_, ?_, fun i hi => ?_, fun i a hi ea => ?_⟩, fun k hk => ⟨⟨?_, fun r cc hr hc => ?_⟩, ?_, ?_⟩⟩, a1, a2, ⟨Or.inl ⟨Or.inl rfl, rfl, rfl⟩, Or.inl ⟨Or.inr rfl, rfl, rfl⟩, (show ¬ (314 : Nat) = 316 by decide), by decide, by decide⟩, ⟨a4, fun j hj => absurd hj (Nat.not_lt_zero j)⟩, a3⟩, ⟨HWR, a6, a5, ⟨a7, fun j hj => absurd hj (Nat.not_lt_zero j)⟩, a8⟩, ⟨vz_W0, fun i hi => ?_, ?_, fun B z => (by cases z), fun I z => (by cases z), Nat.zero_le _, fun j hj => absurd hj (Nat.not_lt_zero j)⟩, ⟨Nat.zero_le _, Nat.zero_le _⟩⟩
  · rw [z14]; exact b0
  · rw [z14]; exact b1
  · rw [z14]; exact b2
  · rw [z14]; exact b3
  · rw [z37]; exact b5
  · rw [z37, n17]; rfl
  · rw [n17]; exact Nat.zero_le _
  · rw [n17] at hi; omega
  · have e : xr l 224 i = some a := ea
    rw [d i (List.mem_range.mpr hi)] at e
    cases e
  · exact c k (List.mem_range.mpr hk)
  · exact htab k (List.mem_range.mpr hk) r (List.mem_range.mpr hr) cc (List.mem_range.mpr hc)
  · have e := W0_n k (List.mem_range.mpr (by omega))
    rw [e.1]
    exact e.2
  · exact capk k (List.mem_range.mpr hk)
  · unfold jwk at hi
    rw [z14] at hi
    exact absurd hi (Nat.not_lt_zero i)
  · unfold jwk
    rw [z14]
    exact Nat.zero_le _
theorem st_JJ : JJ (xs0 sth.1) 0 := st_JJ_of st_WR st_num st_tab
theorem law_run {xs : Nat → Int32} {L : Nat} (hL : L ≤ 3072) : ∃ s, F13_law xs L ([], 0, 0) = some (1, tz_H s) ∧ JJ s (L / 6) := by
  obtain ⟨h1, h4, h5, h8, e1, e4, i4, e5, e8, i8, e9, -⟩ := st_parts
  have K : k_ok (F13_law xs L ([], 0, 0)) (fun z => z.1 = 1 ∧ ∃ s, z.2 = tz_H s ∧ JJ s (L / 6)) := by
    unfold F13_law F13_law_0
    refine k_e e1 (k_e e4 (k_e e5 ?_))
    rw [i4]
    refine k_e e8 (k_e e9 ?_)
    rw [i8, sth_H]
    unfold F13_law_23
    refine wh_i (n := L / 6) (fun (i : Nat) (z : Int32 × m_H) => z.1 = nI (6 * i) ∧ ∃ s, z.2 = tz_H s ∧ JJ s i) _ ?_ ?_ m_N 0 _ (N_lt (by omega)) (Nat.zero_le _) ⟨rfl, _, rfl, st_JJ⟩
    · rintro i ⟨x, h⟩ hi ⟨q1, s, q2, J⟩
      dsimp only at q1 q2
      subst q1 q2
      refine k_m (law_body hL (by omega) J) ?_
      rintro _ ⟨s', rfl, J'⟩
      refine ⟨?_, s', rfl, J'⟩
      show nI (6 * i) + nI 6 = nI (6 * (i + 1))
      rw [nI_add]
      rfl
    · rintro ⟨x, h⟩ ⟨q1, s, q2, J⟩
      dsimp only at q1 q2
      subst q1 q2
      unfold F13_law_23b
      dsimp only
      refine k_t ?_ (k_s ⟨rfl, s, rfl, J⟩)
      apply Int32.lt_iff_toInt_lt.mpr
      have e6 : (6 : Int32).toInt = 6 := rfl
      have eL : (Int32.ofNat L).toInt = L := nI_toInt (by omega)
      rw [i_sub (by rw [eL, e6]; omega) (by rw [eL, e6]; omega), eL, e6, nI_toInt (by omega)]
      omega
  obtain ⟨⟨v, h⟩, e, q1, s, q2, J⟩ := K
  dsimp only at q1 q2
  subst q1 q2
  exact ⟨s, e, J⟩
/-! the room -/
def szk (sh : tz_K) : Nat := match sh with
  | .inl (_, n) => n
  | .inr (_, fs) => fs.length
theorem sz_ce {s : tz_S} {a : Nat} (sh : tz_K) : m_sz (tz_ce s a sh) = szk sh := by
  unfold tz_ce
  split
  · rfl
  · rfl
  · rfl
  · show (List.mapIdx _ _).length = _
    rw [List.length_mapIdx]
    rfl
theorem sz_T : (tz_T.map szk).sum ≤ 200000 := by decide +kernel
theorem rm_p_le {n : Nat} : rm_p n ≤ 72144 := by
  unfold rm_p
  split <;> omega
theorem JJ_room {s : tz_S} {N : Nat} (K : JJ s N) (hN : N ≤ 512) : m_cells (tz_H s) ≤ 601024 ∧ m_slots (tz_H s) ≤ 7293034 := by
  obtain ⟨W, b, i, n, m, f, g, T, q, e, -, -, -, M⟩ := K
  have p1 := rm_p_le (n := n)
  have p2 := rm_p_le (n := m)
  have t := sz_T
  unfold JM rm_s rm_c at M
  unfold m_cells m_slots tz_H
  dsimp only
  have e1 : (tz_T.mapIdx (fun i sh => tz_ce s (200 + i) sh)).map m_sz = tz_T.map szk := by
    apply List.ext_getElem?
    intro j
    rw [List.getElem?_map, List.getElem?_mapIdx, List.getElem?_map]
    cases tz_T[j]? with
    | none => rfl
    | some sh => exact congrArg some (sz_ce sh)
  rw [List.map_append, List.sum_append, e1, List.length_append, List.length_mapIdx, tz_T_len]
  omega
