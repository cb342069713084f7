/-! ===== a week: ships at sea, the reference ===== -/
section
variable {s0 : tz_S} {th : Int32} {W Y : m_W} {h : m_H}
theorem nI_72 {i : Nat} : (7 : Int32) + 2 * nI i = nI (7 + 2 * i) ∧ (7 : Int32) + 2 * nI i + 1 = nI (8 + 2 * i) := by
  have e : (7 : Int32) + 2 * nI i = nI (7 + 2 * i) := by
    show nI 7 + nI 2 * nI i = _
    rw [nI_mul, nI_add]
  refine ⟨e, ?_⟩
  rw [e, ← nI_succ]
  congr 1
  omega
theorem rz_clrP (R : rz_N s0 th W h) (V : vz W) {s p : Nat} {y : Int32} (hs : s < wz_n W 4) (hy : y = nI p) (hp : p < 9) (h3 : ¬ p = 3) : k_ok (F12_clears 317 (nI s) y h) (rz_N s0 th (sp_clr W s p W)) := by
  subst hy
  have hn4 : wz_n W 4 ≤ 12 := V.c (k := 4) (by omega)
  have hn2 : wz_n W 2 ≤ 100 := V.c (k := 2) (by omega)
  have s12 : s < 12 := by omega
  obtain ⟨e6, m8⟩ := V.has hs
  have e6 : W 4 s 6 = nI (sp_m W s) := e6
  have m8 : sp_m W s ≤ 8 := m8
  have p3 : ¬ nI p = 3 := fun q => h3 (nI_e (m := 3) (by omega) (by decide) q)
  unfold F12_clears F12_clears_0 F12_clears_2
  refine k_g (rz_io R) ?_
  refine wh_i (n := sp_m W s) (fun (i : Nat) (z : Int32 × m_H) => z.1 = nI i ∧ rz_N s0 th (sp_un W s p i W) z.2) _ ?_ ?_ m_N 0 _ (N_lt (by omega)) (Nat.zero_le _) ⟨rfl, R⟩
  · rintro i ⟨y, h1⟩ hi ⟨q1, R1⟩
    dsimp only at q1 R1
    subst q1
    obtain ⟨ec, ht⟩ := V.cl hs hi
    unfold F12_clears_2b
    dsimp only
    refine k_e (rz_i6 R1 rfl s12) ?_
    rw [sp_un_k (by decide), e6]
    refine k_f (nI_ge hi (by omega)) (k_e (rz_its R1 rfl s12 nI_72.1 (by omega)) (k_e (rz_its R1 rfl s12 nI_72.2 (by omega)) ?_))
    rw [sp_un_k (by decide), sp_un_k (by decide), ec]
    refine k_b (rz_moves R1 rfl (by omega) (a := 2) (b := p) rfl (by decide) rfl hp) ?_
    intro h2 R2
    exact k_f p3 (k_s ⟨(nI_succ i).symm, R2⟩)
  · rintro ⟨y, h1⟩ ⟨q1, R1⟩
    dsimp only at q1 R1
    subst q1
    unfold F12_clears_2b
    dsimp only
    refine k_e (rz_i6 R1 rfl s12) ?_
    rw [sp_un_k (by decide), e6]
    refine k_t (nI_le (Nat.le_refl _) (by omega)) (k_b (rz_puts R1 rfl s12 (c := 6) rfl (by decide)) ?_)
    intro h2 R2
    exact k_s R2
theorem rz_clrj (R : rz_N s0 th Y h) (V : vz W) {s l i : Nat} (hs : s < wz_n W 4) (h1 : W 4 s 2 = 1) (hl : l < 6) (el : W 4 s 3 = nI l) (hi : i < sp_m W s) (y4 : ∀ x, Y 4 s x = W 4 s x) (y2 : ∀ t x, ¬ x = 12 → ¬ x = 13 → Y 2 t x = W 2 t x) : k_ok (F12_clears_2b 317 (nI s) 3 (nI i, h)) (m_KK (fun (z : Int32 × m_H) => z.1 = nI (i + 1) ∧ rz_N s0 th (sp_tm1 W s l i (sp_un1 W s 3 i Y)) z.2) (fun _ => False)) := by
  have hn4 : wz_n W 4 ≤ 12 := V.c (k := 4) (by omega)
  have hn2 : wz_n W 2 ≤ 100 := V.c (k := 2) (by omega)
  have s12 : s < 12 := by omega
  obtain ⟨e6, m8⟩ := V.has hs
  have e6 : W 4 s 6 = nI (sp_m W s) := e6
  have m8 : sp_m W s ≤ 8 := m8
  obtain ⟨ec, ht⟩ := V.cl hs hi
  obtain ⟨q, hq, eq⟩ := i_row (x := W 2 (sp_cl W s i) 0) (n := 7) rfl (V.lot ht).1
  have etr : sp_tr W s l i = 8 * l + q := by unfold sp_tr; rw [eq, nI_clamp (by omega)]
  have land : W 2 (sp_cl W s i) 2 = nI l := by
    obtain ⟨⟨t, a1, a2, a3, a4, a5, a6, a7⟩, -⟩ := V.2.2.2.2.2.1 s hs i hi
    have : t = sp_cl W s i := nI_e (by omega) (by omega) (a2.symm.trans ec)
    subst this
    rw [(a5 h1).2, el]
  unfold F12_clears_2b
  dsimp only
  refine k_e (rz_i6 R rfl s12) ?_
  rw [y4, e6]
  refine k_f (nI_ge hi (by omega)) (k_e (rz_its R rfl s12 nI_72.1 (by omega)) (k_e (rz_its R rfl s12 nI_72.2 (by omega)) ?_))
  rw [y4, y4, ec]
  refine k_b (rz_moves R rfl (by omega) (a := 2) (b := 3) rfl (by decide) rfl (by decide)) ?_
  intro h2 R2
  have R2 : rz_N s0 th (sp_un1 W s 3 i Y) h2 := R2
  have z2 : ∀ x, ¬ x = 12 → ¬ x = 13 → sp_un1 W s 3 i Y 2 (sp_cl W s i) x = W 2 (sp_cl W s i) x := fun x a b => by
    unfold sp_un1
    rw [sp_mv_x a b]
    exact y2 _ x a b
  generalize sp_un1 W s 3 i Y = Z at R2 z2
  refine k_t rfl (k_e (rz_gr1 R2) (k_e (rz_o2 R2 rfl (by omega)) (k_e (rz_o0 R2 rfl (by omega)) ?_)))
  rw [z2 2 (by decide) (by decide), z2 0 (by decide) (by decide), land, eq]
  have bo := fun h => rz_both (h := h) (l := l) (t := q) (c := 1) hl (by omega) (by decide)
  refine k_e (bo h2).1 (k_e (rz_get R2 rfl (bo h2).2) (k_b (rz_set R2 rfl (bo h2).2) ?_))
  intro h3 R3
  refine k_e (rz_o2 R3 rfl (by omega)) ?_
  rw [wz_up_k (show ¬ 2 = 6 by decide), z2 2 (by decide) (by decide), land]
  refine k_e (rz_l5 R3 (c := 1) hl (by decide)).1 (k_e (rz_gr1 R3) (k_e (rz_gr1 R3) (k_e (rz_l5 R3 (c := 1) hl (by decide)).2 (k_e (rz_o7 R3 rfl (by omega)) ?_))))
  rw [wz_up_k (show ¬ 2 = 6 by decide), z2 7 (by decide) (by decide), wz_up_k (show ¬ 5 = 6 by decide)]
  refine k_b (rz_set R3 rfl ⟨by decide, hl, by decide⟩) ?_
  intro h4 R4
  refine k_s ⟨(nI_succ i).symm, ?_⟩
  unfold sp_tm1
  rw [etr]
  exact R4
theorem rz_clrL (R : rz_N s0 th W h) (V : vz W) {s l : Nat} (hs : s < wz_n W 4) (h1 : W 4 s 2 = 1) (hl : l < 6) (el : W 4 s 3 = nI l) : k_ok (F12_clears 317 (nI s) 3 h) (rz_N s0 th (sp_clr W s 3 (sp_tm W s l (sp_m W s) W))) := by
  have hn4 : wz_n W 4 ≤ 12 := V.c (k := 4) (by omega)
  have s12 : s < 12 := by omega
  obtain ⟨e6, m8⟩ := V.has hs
  have e6 : W 4 s 6 = nI (sp_m W s) := e6
  have m8 : sp_m W s ≤ 8 := m8
  have y4 : ∀ i x, sp_un W s 3 i (sp_tm W s l i W) 4 s x = W 4 s x := fun i x => by rw [sp_un_k (by decide), sp_tm_k (by omega) (by omega)]
  unfold F12_clears F12_clears_0 F12_clears_2
  refine k_g (rz_io R) ?_
  refine wh_i (n := sp_m W s) (fun (i : Nat) (z : Int32 × m_H) => z.1 = nI i ∧ rz_N s0 th (sp_un W s 3 i (sp_tm W s l i W)) z.2) _ ?_ ?_ m_N 0 _ (N_lt (by omega)) (Nat.zero_le _) ⟨rfl, R⟩
  · rintro i ⟨y, h2⟩ hi ⟨q1, R1⟩
    dsimp only at q1 R1
    subst q1
    refine k_m (rz_clrj R1 V hs h1 hl el hi (y4 i) (fun t x a b => by rw [sp_un_x a b, sp_tm_k (by omega) (by omega)])) ?_
    rintro (z | z) hz
    · refine ⟨hz.1, ?_⟩
      rw [sp_both_s]
      exact hz.2
    · exact hz.elim
  · rintro ⟨y, h2⟩ ⟨q1, R1⟩
    dsimp only at q1 R1
    subst q1
    unfold F12_clears_2b
    dsimp only
    refine k_e (rz_i6 R1 rfl s12) ?_
    rw [y4, e6]
    refine k_t (nI_le (Nat.le_refl _) (by omega)) (k_b (rz_puts R1 rfl s12 (c := 6) rfl (by decide)) ?_)
    intro h3 R3
    exact k_s R3
theorem rz_go (R : rz_N s0 th W h) (V : vz W) {s : Nat} (hs : s < wz_n W 4) (h2 : W 4 s 2 = 1 ∨ W 4 s 2 = 3) : k_ok (F12_goes 317 (nI s) h) (rz_N s0 th (sp_go W s)) := by
  have hn4 : wz_n W 4 ≤ 12 := V.c (k := 4) (by omega)
  have s12 : s < 12 := by omega
  have V1 : vz (sp_nxw W s) := V.ship1 hs (Or.inr (Or.inl rfl))
  have hs1 : s < wz_n (sp_nxw W s) 4 := hs
  have e2 : sp_nxw W s 4 s 2 = W 4 s 2 := wz_up_c (by decide)
  have e3 : sp_nxw W s 4 s 3 = W 4 s 3 := wz_up_c (by decide)
  have r := V.row (k := 4) (by omega) hs
  obtain ⟨l, hl, el⟩ := i_row (x := W 4 s 3) (n := 5) rfl r.2.2.1
  have key : ∀ o : Int32, (o = 1 ∧ W 4 s 2 = 1) ∨ (o = 0 ∧ ¬ W 4 s 2 = 1) → k_ok (F12_goes_15 317 (nI s) o h) (rz_N s0 th (sp_go W s)) := by
    intro o ho
    unfold F12_goes_15 sp_go
    refine k_e (rz_i1 R rfl s12) (k_e (k_wk R) (k_e m_rm100 (k_e (rz_i3 R rfl s12) (k_e (k_wk R) (k_e (rz_toldR R V) ?_)))))
    refine k_if (fun q => ?_) (fun q => ?_)
    · rw [if_pos (show sp_told W 7 (W 4 s 3) (W 14 0 0) ≤ sp_drw W s from q)]
      refine k_e (rz_i4 R rfl s12) (k_b (rz_puts R rfl s12 (c := 4) rfl (by decide)) ?_)
      intro h1 R1
      have R1 : rz_N s0 th (sp_nxw W s) h1 := R1
      refine k_e (rz_i4 R1 rfl s12) (k_if (fun q1 => ?_) (fun q1 => ?_))
      · rw [if_pos q1]
        rcases ho with ⟨rfl, ho⟩ | ⟨rfl, ho⟩
        · rw [if_pos ho]
          refine k_f (by decide) ?_
          unfold F12_goes_121 sp_abr
          refine k_b (rz_clrL R1 V1 hs1 (e2.trans ho) (by omega) (e3.trans el)) ?_
          intro h3 R3
          rw [e3, el, nI_clamp (by omega)]
          refine k_f (by decide) ?_
          unfold F12_goes_136
          refine k_b (rz_puts R3 rfl s12 (c := 2) rfl (by decide)) ?_
          intro h4 R4
          exact k_f (by decide) (k_s R4)
        · rw [if_neg ho]
          refine k_t rfl ?_
          unfold F12_goes_121 sp_home
          refine k_b (rz_clrP R1 V1 hs1 (p := 7) rfl (by decide) (by decide)) ?_
          intro h3 R3
          refine k_t rfl ?_
          unfold F12_goes_136
          refine k_b (rz_puts R3 rfl s12 (c := 2) rfl (by decide)) ?_
          intro h4 R4
          refine k_t rfl (k_b (rz_puts R4 rfl s12 (c := 3) rfl (by decide)) ?_)
          intro h5 R5
          exact k_s R5
      · rw [if_neg q1]
        exact k_s R1
    · rw [if_neg (show ¬ sp_told W 7 (W 4 s 3) (W 14 0 0) ≤ sp_drw W s from q)]
      unfold sp_sink
      refine k_b (rz_clrP R V hs (p := 6) rfl (by decide) (by decide)) ?_
      intro h1 R1
      refine k_b (rz_puts R1 rfl s12 (c := 2) rfl (by decide)) ?_
      intro h2 R2
      refine k_b (rz_puts R2 rfl s12 (c := 4) rfl (by decide)) ?_
      intro h3 R3
      refine k_e (k_wk R3) ?_
      rw [wz_up_k (show ¬ 14 = 4 by decide), wz_up_k (show ¬ 14 = 4 by decide), sp_clr_k (by decide) (by decide)]
      refine k_b (rz_puts R3 rfl s12 (c := 5) rfl (by decide)) ?_
      intro h4 R4
      exact k_s R4
  unfold F12_goes F12_goes_0
  refine k_g (rz_io R) (k_e (rz_i2 R rfl s12) (k_if (fun q => ?_) (fun q => ?_)))
  · exact key 1 (Or.inl ⟨rfl, q⟩)
  · exact key 0 (Or.inr ⟨rfl, q⟩)
end
