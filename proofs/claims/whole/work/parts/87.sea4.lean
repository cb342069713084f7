/-! ===== a week: ships at sea, the class ===== -/
section
variable {s0 : tz_S} {th : Int32} {W X : m_W} {h : m_H}
theorem cz_unload (R : cz_N s0 X h) (V : vz W) {s p : Nat} {y : Int32} (hs : s < wz_n W 4) (hy : y = nI p) (hp : p < 9) (e4 : ∀ x, X 4 s x = W 4 s x) (n4 : wz_n X 4 = wz_n W 4) (n2 : wz_n X 2 = wz_n W 2) : k_ok (F10_unload 223 (nI s) y h) (cz_N s0 (sp_clr W s p X)) := by
  subst hy
  obtain ⟨e6, m8⟩ := V.has hs
  have e6 : W 4 s 6 = nI (sp_m W s) := e6
  have m8 : sp_m W s ≤ 8 := m8
  have g6 : ∀ i, sp_un W s p i X 4 s 6 = nI (sp_m W s) := fun i => by rw [sp_un_k (by decide), e4, e6]
  have hs1 : ∀ i, s < wz_n (sp_un W s p i X) 4 := fun i => by rw [sp_un_n, n4]; exact hs
  unfold F10_unload F10_unload_0 F10_unload_2
  refine wh_i (n := sp_m W s) (fun (i : Nat) (z : Int32 × m_H) => z.1 = nI i ∧ cz_N s0 (sp_un W s p i X) z.2) _ ?_ ?_ m_N 0 _ (N_lt (by omega)) (Nat.zero_le _) ⟨rfl, R⟩
  · rintro i ⟨y, h1⟩ hi ⟨q1, R1⟩
    dsimp only at q1 R1
    subst q1
    obtain ⟨ec, ht⟩ := V.cl hs hi
    unfold F10_unload_2b
    dsimp only
    refine k_e (nz_gr223_10 R1) (k_e (cz_g4_6 R1 rfl (hs1 i)) ?_)
    rw [g6]
    refine k_f (nI_ge hi (by omega)) (k_f (show ¬ (8 : Int32) ≤ nI i from nI_ge (b := 8) (by omega) (by decide)) ?_)
    refine k_e (cz_cargoLot R1 rfl (hs1 i) rfl (by omega)) (k_e (cz_cargoCr R1 rfl (hs1 i) rfl (by omega)) ?_)
    rw [sp_un_k (by decide), sp_un_k (by decide), e4, e4, ec]
    refine k_b (cz_move R1 rfl (by rw [sp_un_n, n2]; exact ht) (a := 2) (b := p) rfl (by decide) rfl hp) ?_
    intro h2 R2
    exact k_s ⟨(nI_succ i).symm, R2⟩
  · rintro ⟨y, h1⟩ ⟨q1, R1⟩
    dsimp only at q1 R1
    subst q1
    unfold F10_unload_2b
    dsimp only
    refine k_e (nz_gr223_10 R1) (k_e (cz_g4_6 R1 rfl (hs1 _)) ?_)
    rw [g6]
    refine k_t (nI_le (Nat.le_refl _) (by omega)) ?_
    suffices P : k_ok (F10_unload_46 223 (nI s) h1) (cz_N s0 (sp_clr W s p X)) by
      obtain ⟨z, e, hz⟩ := P
      exact ⟨.inr z, by rw [e]; rfl, hz⟩
    unfold F10_unload_46 sp_clr
    refine k_e (nz_gr223_10 R1) (k_b (cz_s4_6 R1 rfl (hs1 _)) ?_)
    intro h2 R2
    exact k_s R2
theorem sp_clr_n {s p k : Nat} : wz_n (sp_clr W s p X) k = wz_n X k := by
  unfold sp_clr
  rw [wz_n_up (by omega), sp_un_n]
theorem sp_clr_k {s p k i x : Nat} (h2 : ¬ k = 2) (h4 : ¬ k = 4) : sp_clr W s p X k i x = X k i x := by
  unfold sp_clr
  rw [wz_up_k h4, sp_un_k h2]
theorem cz_sink (R : cz_N s0 W h) (V : vz W) {s : Nat} (hs : s < wz_n W 4) : k_ok (F10_sink 223 (nI s) h) (cz_N s0 (sp_sink W s)) := by
  unfold F10_sink F10_sink_0 sp_sink
  refine k_b (cz_unload R V (p := 6) hs rfl (by decide) (fun _ => rfl) rfl rfl) ?_
  intro h1 R1
  have hs1 : s < wz_n (sp_clr W s 6 W) 4 := by rw [sp_clr_n]; exact hs
  refine k_e (nz_gr223_10 R1) (k_b (cz_s4_2 R1 rfl hs1) ?_)
  intro h2 R2
  refine k_e (nz_gr223_10 R2) (k_b (cz_s4_4 R2 rfl hs1) ?_)
  intro h3 R3
  refine k_e (nz_gr223_10 R3) (k_e (cz_i0 R3) ?_)
  rw [wz_up_k (by decide), wz_up_k (by decide), sp_clr_k (by decide) (by decide)]
  refine k_b (cz_s4_5 R3 rfl hs1) ?_
  intro h4 R4
  exact k_s R4
theorem cz_home (R : cz_N s0 W h) (V : vz W) {s : Nat} (hs : s < wz_n W 4) : k_ok (F10_arriveHome 223 (nI s) h) (cz_N s0 (sp_home W s)) := by
  unfold F10_arriveHome F10_arriveHome_0 sp_home
  refine k_b (cz_unload R V (p := 7) hs rfl (by decide) (fun _ => rfl) rfl rfl) ?_
  intro h1 R1
  have hs1 : s < wz_n (sp_clr W s 7 W) 4 := by rw [sp_clr_n]; exact hs
  refine k_e (nz_gr223_10 R1) (k_b (cz_s4_2 R1 rfl hs1) ?_)
  intro h2 R2
  refine k_e (nz_gr223_10 R2) (k_b (cz_s4_3 R2 rfl hs1) ?_)
  intro h3 R3
  exact k_s R3
theorem cz_tmj (R : cz_N s0 X h) (V : vz W) {s l j : Nat} (hs : s < wz_n W 4) (hl : l < 6) (hj : j < sp_m W s) (ek : ∀ k i x, ¬ k = 5 → ¬ k = 6 → X k i x = W k i x) (n5 : wz_n X 5 = 6) (n6 : wz_n X 6 = 48) : k_ok (F10_arriveAbroad_12b 223 (nI s) (nI l) (nI j, h)) (m_KK (fun (z : Int32 × m_H) => z.1 = nI (j + 1) ∧ cz_N s0 (sp_tm1 W s l j X) z.2) (fun _ => False)) := by
  have hn : wz_n W 2 ≤ 100 := V.c (k := 2) (by omega)
  obtain ⟨e6, m8⟩ := V.has hs
  have e6 : W 4 s 6 = nI (sp_m W s) := e6
  have m8 : sp_m W s ≤ 8 := m8
  obtain ⟨ec, ht⟩ := V.cl hs hj
  obtain ⟨q, hq, eq⟩ := i_row (x := W 2 (sp_cl W s j) 0) (n := 7) rfl (V.lot ht).1
  have hs1 : s < wz_n X 4 := by rw [wz_n_cong (ek _ _ _ (by decide) (by decide))]; exact hs
  have ht1 : sp_cl W s j < wz_n X 2 := by rw [wz_n_cong (ek _ _ _ (by decide) (by decide))]; exact ht
  have x4 : ∀ x, X 4 s x = W 4 s x := fun x => ek 4 s x (by decide) (by decide)
  have x2 : ∀ i x, X 2 i x = W 2 i x := fun i x => ek 2 i x (by decide) (by decide)
  have etr : sp_tr W s l j = 8 * l + q := by unfold sp_tr; rw [eq, nI_clamp (by omega)]
  unfold F10_arriveAbroad_12b sp_tm1
  dsimp only
  refine k_e (nz_gr223_10 R) (k_e (cz_g4_6 R rfl hs1) ?_)
  rw [x4, e6]
  refine k_f (nI_ge hj (by omega)) (k_f (show ¬ (8 : Int32) ≤ nI j from nI_ge (b := 8) (by omega) (by decide)) ?_)
  refine k_e (cz_cargoLot R rfl hs1 rfl (by omega)) ?_
  rw [x4, ec]
  refine k_e (nz_gr223_8 R) (k_e (cz_g2_0 R rfl ht1) (k_e (nz_gr223_12 R) ?_))
  rw [x2, eq]
  refine k_e cz_tradeRow (k_e (cz_cargoCr R rfl hs1 rfl (by omega)) ?_)
  rw [x4, ← etr]
  refine k_b (cz_raise R (k := 6) (c := 1) (by decide) rfl rfl (show sp_tr W s l j < wz_n X 6 by rw [n6, etr]; omega) rfl (by decide)) ?_
  intro h1 R1
  rw [show wz_pi 6 1 = 1 from rfl] at R1
  have R1 : cz_N s0 (wz_up X 6 (sp_tr W s l j) 1 (X 6 (sp_tr W s l j) 1 + W 4 s (8 + 2 * j))) h1 := R1
  refine k_e (nz_gr223_11 R1) (k_e (cz_g5_1 R1 rfl (show l < wz_n X 5 by rw [n5]; exact hl)) (k_e (nz_gr223_8 R1) (k_e (cz_g2_7 R1 rfl ht1) (k_e (nz_gr223_11 R1) ?_))))
  rw [wz_up_k (show ¬ 5 = 6 by decide), wz_up_k (show ¬ 2 = 6 by decide), x2]
  refine k_b (cz_s5_1 R1 rfl (show l < wz_n X 5 by rw [n5]; exact hl)) ?_
  intro h2 R2
  exact k_s ⟨(nI_succ j).symm, R2⟩
theorem cz_abr (R : cz_N s0 W h) (V : vz W) {s : Nat} (hs : s < wz_n W 4) : k_ok (F10_arriveAbroad 223 (nI s) h) (cz_N s0 (sp_abr W s)) := by
  have r := V.row (k := 4) (by omega) hs
  obtain ⟨e6, m8⟩ := V.has hs
  have e6 : W 4 s 6 = nI (sp_m W s) := e6
  have m8 : sp_m W s ≤ 8 := m8
  obtain ⟨l, hl, el⟩ := i_row (x := W 4 s 3) (n := 5) rfl r.2.2.1
  have tk : ∀ i k r x, ¬ k = 5 → ¬ k = 6 → sp_tm W s l i W k r x = W k r x := fun i k r x h5 h6 => sp_tm_k (fun q => h5 q.1) (fun q => h6 q.1)
  unfold F10_arriveAbroad F10_arriveAbroad_0 sp_abr
  refine k_e (nz_gr223_10 R) (k_e (cz_g4_3 R rfl hs) ?_)
  rw [el, nI_clamp (by omega)]
  unfold F10_arriveAbroad_12
  refine wh_i (n := sp_m W s) (fun (i : Nat) (z : Int32 × m_H) => z.1 = nI i ∧ cz_N s0 (sp_tm W s l i W) z.2) _ ?_ ?_ m_N 0 _ (N_lt (by omega)) (Nat.zero_le _) ⟨rfl, R⟩
  · rintro i ⟨y, h1⟩ hi ⟨q1, R1⟩
    dsimp only at q1 R1
    subst q1
    refine k_m (cz_tmj R1 V hs (by omega) hi (tk i) (by rw [sp_tm_n]; exact V.n5) (by rw [sp_tm_n]; exact V.n6)) ?_
    rintro (z | z) hz
    · exact hz
    · exact hz.elim
  · rintro ⟨y, h1⟩ ⟨q1, R1⟩
    dsimp only at q1 R1
    subst q1
    unfold F10_arriveAbroad_12b
    dsimp only
    refine k_e (nz_gr223_10 R1) (k_e (cz_g4_6 R1 rfl (by rw [sp_tm_n]; exact hs)) ?_)
    rw [tk _ _ _ _ (by decide) (by decide), e6]
    refine k_t (nI_le (Nat.le_refl _) (by omega)) ?_
    suffices P : k_ok (F10_arriveAbroad_117 223 (nI s) h1) (cz_N s0 (wz_up (sp_clr W s 3 (sp_tm W s l (sp_m W s) W)) 4 s 2 2)) by
      obtain ⟨z, e, hz⟩ := P
      exact ⟨.inr z, by rw [e]; rfl, hz⟩
    unfold F10_arriveAbroad_117
    refine k_b (cz_unload R1 V (p := 3) hs rfl (by decide) (fun x => tk _ _ _ _ (by decide) (by decide)) sp_tm_n sp_tm_n) ?_
    intro h2 R2
    refine k_e (nz_gr223_10 R2) (k_b (cz_s4_2 R2 rfl (by rw [sp_clr_n, sp_tm_n]; exact hs)) ?_)
    intro h3 R3
    exact k_s R3
theorem m_rm100 {x : Int32} : m_rm x 100 = some (x - x / 100 * 100) := rfl
theorem i_neg1 {x : Int32} : x + -1 = x - 1 := (Int32.sub_eq_add_neg x 1).symm
theorem cz_go (R : cz_N s0 W h) (V : vz W) {s : Nat} (hs : s < wz_n W 4) (h2 : W 4 s 2 = 1 ∨ W 4 s 2 = 3) : k_ok (F10_goBySea 223 (nI s) h) (cz_N s0 (sp_go W s)) := by
  have V1 : vz (sp_nxw W s) := V.ship1 hs (Or.inr (Or.inl rfl))
  have hs1 : s < wz_n (sp_nxw W s) 4 := hs
  have e2 : sp_nxw W s 4 s 2 = W 4 s 2 := wz_up_c (by decide)
  unfold F10_goBySea F10_goBySea_0 sp_go
  refine k_e (nz_gr223_10 R) (k_e (cz_g4_3 R rfl hs) (k_e (nz_gr223_10 R) (k_e (cz_g4_1 R rfl hs) (k_e (cz_i0 R) (k_e m_rm100 (k_e (cz_i0 R) (k_e (cz_riskIn R) ?_)))))))
  refine k_if (fun q => ?_) (fun q => ?_)
  · rw [if_pos (show sp_told W 7 (W 4 s 3) (W 14 0 0) ≤ sp_drw W s from q)]
    refine k_e (nz_gr223_10 R) (k_b (cz_raise R (k := 4) (c := 4) (by decide) rfl rfl hs rfl (by decide)) ?_)
    intro h1 R1
    have R1 : cz_N s0 (sp_nxw W s) h1 := by
      unfold sp_nxw
      rw [← i_neg1]
      exact R1
    refine k_e (nz_gr223_10 R1) (k_e (cz_g4_4 R1 rfl hs1) (k_if (fun q1 => ?_) (fun q1 => ?_)))
    · rw [if_pos q1]
      refine k_e (nz_gr223_10 R1) (k_e (cz_g4_2 R1 rfl hs1) (k_if (fun q2 => ?_) (fun q2 => ?_)))
      · rw [if_pos (e2.symm.trans q2)]
        refine k_b (cz_abr R1 V1 hs1) ?_
        intro h3 R3
        exact k_s R3
      · rw [if_neg (fun x => q2 (e2.trans x))]
        refine k_b (cz_home R1 V1 hs1) ?_
        intro h3 R3
        exact k_s R3
    · rw [if_neg q1]
      exact k_s R1
  · rw [if_neg (show ¬ sp_told W 7 (W 4 s 3) (W 14 0 0) ≤ sp_drw W s from q)]
    refine k_b (cz_sink R V hs) ?_
    intro h3 R3
    exact k_s R3
end
