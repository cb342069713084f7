/-! ===== a week: what always holds, behind all ships ===== -/
def vg (W : m_W) (c : Nat) : Prop := ∀ r, r < 48 → (W 6 r 1).toInt ≤ 96000 * ((W 14 0 0).toInt - 1) + 8000 * c
section
variable {W : m_W}
theorem vz.ship1 (V : vz W) {s c : Nat} {v : Int32} (hs : s < wz_n W 4) (hc : c = 1 ∨ c = 4 ∨ c = 5) : vz (wz_up W 4 s c v) := by
  have n : ∀ k, wz_n (wz_up W 4 s c v) k = wz_n W k := fun k => wz_n_up (by omega)
  have ek : ∀ k i x, ¬ k = 4 → wz_up W 4 s c v k i x = W k i x := fun k i x hk => wz_up_k hk
  have ex : ∀ i x, ¬ x = c → wz_up W 4 s c v 4 i x = W 4 i x := fun i x hx => wz_up_c hx
  have e7 : ∀ i j, wz_up W 4 s c v 4 i (7 + 2 * j) = W 4 i (7 + 2 * j) := fun i j => ex i _ (by omega)
  have e8 : ∀ i j, wz_up W 4 s c v 4 i (8 + 2 * j) = W 4 i (8 + 2 * j) := fun i j => ex i _ (by omega)
  have e2 : ∀ i, wz_up W 4 s c v 4 i 2 = W 4 i 2 := fun i => ex i 2 (by omega)
  have e3 : ∀ i, wz_up W 4 s c v 4 i 3 = W 4 i 3 := fun i => ex i 3 (by omega)
  have e6 : ∀ i, wz_up W 4 s c v 4 i 6 = W 4 i 6 := fun i => ex i 6 (by omega)
  have e77 : ∀ i, wz_up W 4 s c v 4 i 7 = W 4 i 7 := fun i => ex i 7 (by omega)
  have et : ∀ i x, wz_up W 4 s c v 2 i x = W 2 i x := fun i x => ek 2 i x (by decide)
  refine ⟨fun k hk => ?_, ⟨?_, ?_, ?_, ?_⟩, fun k hk i x h1 h2 h3 => ?_, fun k hk i hi => ?_, vz_glob_cong V.2.2.2.2.1 (fun k i x hk => ek k i x (by omega)) (fun k => ek _ _ _ (by omega)), fun s' hs' j hj => ?_, fun t ht => ?_, fun t ht => ?_⟩
  · rw [n, ek _ _ _ (by omega)]; exact V.1 k hk
  · rw [n]; exact V.n0
  · rw [n]; exact V.n5
  · rw [n]; exact V.n6
  · rw [n]; exact V.n13
  · rw [n] at h1
    by_cases q4 : k = 4
    · subst q4
      rw [wz_up_r (show ¬ i = s by omega)]
      exact V.z hk h1 h2 h3
    · rw [ek k i x q4]
      exact V.z hk h1 h2 h3
  · rw [n] at hi
    by_cases q4 : k = 4
    · subst q4
      show (1 ≤ wz_up W 4 s c v 4 i 0 ∧ wz_up W 4 s c v 4 i 0 ≤ 5000) ∧ (0 ≤ wz_up W 4 s c v 4 i 2 ∧ wz_up W 4 s c v 4 i 2 ≤ 4) ∧ (0 ≤ wz_up W 4 s c v 4 i 3 ∧ wz_up W 4 s c v 4 i 3 ≤ 5) ∧ (0 ≤ wz_up W 4 s c v 4 i 6 ∧ wz_up W 4 s c v 4 i 6 ≤ 8) ∧ (wz_up W 4 s c v 4 i 2 = 1 ∨ wz_up W 4 s c v 4 i 2 = 2 ∨ wz_up W 4 s c v 4 i 2 = 3 → 1 ≤ wz_up W 4 s c v 4 i 3)
      rw [ex i 0 (by omega), e2, e3, e6]
      exact V.row hk hi
    · rw [show wz_up W 4 s c v k i = W k i from funext fun x => ek k i x q4]
      exact V.row hk hi
  · rw [n] at hs'
    rw [e6] at hj
    simp only [n, e2, e3, e77, e7, e8, et]
    exact V.2.2.2.2.2.1 s' hs' j hj
  · rw [n] at ht
    show sp_pls (wz_up W 4 s c v) t + sp_cars (wz_up W 4 s c v) t = _
    have c1 : ∀ i, sp_car (wz_up W 4 s c v) i t = sp_car W i t := fun i => by
      unfold sp_car
      rw [e6]
      refine si_if (fun j hj a => ?_)
      rw [e7, e8]
    have c2 : sp_cars (wz_up W 4 s c v) t = sp_cars W t := by
      unfold sp_cars
      rw [n]
      exact si_if (fun j hj a => by rw [c1])
    rw [c2, sp_pls_e]
    simp only [et]
    exact V.cons ht
  · rw [n] at ht
    rw [show wz_up W 4 s c v 17 t = W 17 t from funext fun x => ek 17 t x (by decide)]
    exact V.text ht
theorem vz.clr2 (V : vz W) {W' X : m_W} {s p : Nat} (hs : s < wz_n W 4) (hp : p = 3 ∨ p = 6 ∨ (p = 7 ∧ W 4 s 2 = 3)) (hX : ∀ k i x, ¬ k = 5 → ¬ k = 6 → X k i x = W k i x) (e : ∀ k i x, ¬ (k = 4 ∧ i = s) → W' k i x = sp_un W s p (sp_m W s) X k i x) (e40 : W' 4 s 0 = W 4 s 0) (e46 : W' 4 s 6 = 0) (e42 : 0 ≤ W' 4 s 2 ∧ W' 4 s 2 ≤ 4) (e43 : 0 ≤ W' 4 s 3 ∧ W' 4 s 3 ≤ 5) (e423 : W' 4 s 2 = 1 ∨ W' 4 s 2 = 2 ∨ W' 4 s 2 = 3 → 1 ≤ W' 4 s 3) (r5 : ∀ i, i < 6 → vz_row 5 (X 5 i)) (r6 : ∀ i, i < 48 → vz_row 6 (X 6 i)) (g6 : ∀ r, r < 48 → 0 ≤ X 6 r 1 ∧ (X 6 r 1).toInt ≤ 96000 * (W 14 0 0).toInt) : vz W' := by
  have hp9 : p < 9 ∧ ¬ p = 2 := by omega
  have ek : ∀ k i x, ¬ k = 2 → ¬ k = 4 → W' k i x = X k i x := fun k i x h2 h4 => (e k i x (fun q => h4 q.1)).trans (sp_un_k h2)
  have en : ∀ k, W' (20 + k) 0 0 = W (20 + k) 0 0 := fun k => (ek _ _ _ (by omega) (by omega)).trans (hX _ _ _ (by omega) (by omega))
  have ew : ∀ k i x, ¬ k = 2 → ¬ k = 4 → ¬ k = 5 → ¬ k = 6 → W' k i x = W k i x := fun k i x h2 h4 h5 h6 => (ek k i x h2 h4).trans (hX k i x h5 h6)
  refine V.clr (W' := W') hs hp en ew (fun i x h1 h2 => ?_) (fun i x hi => ?_) (fun t ht => ?_) (fun i x hi => ?_) e40 e46 e42 e43 e423 (fun i hi => ?_) (fun i hi => ?_) ?_
  · rw [e 2 i x (fun q => absurd q.1 (by decide)), sp_un_x h1 h2]
    exact hX 2 i x (by decide) (by decide)
  · rw [e 2 i x (fun q => absurd q.1 (by decide)), sp_un_r (fun j hj => by have := (V.cl hs hj).2; omega)]
    exact hX 2 i x (by decide) (by decide)
  · rw [e 2 t (10 + p) (fun q => absurd q.1 (by decide)), sp_un_i V hs ht hp9.1 hp9.2 (hX 2 t _ (by decide) (by decide)) _ (Nat.le_refl _), sp_car_ci]
  · rw [e 4 i x (fun q => hi q.2), sp_un_k (by decide)]
    exact hX 4 i x (by decide) (by decide)
  · rw [show W' 5 i = X 5 i from funext fun x => ek 5 i x (by decide) (by decide)]
    exact r5 i hi
  · rw [show W' 6 i = X 6 i from funext fun x => ek 6 i x (by decide) (by decide)]
    exact r6 i hi
  · have G := V.2.2.2.2.1
    unfold vz_glob at G ⊢
    have w8 : ∀ i x, W' 8 i x = W 8 i x := fun i x => ew 8 i x (by decide) (by decide) (by decide) (by decide)
    have w10 : ∀ i x, W' 10 i x = W 10 i x := fun i x => ew 10 i x (by decide) (by decide) (by decide) (by decide)
    have w14 : ∀ i x, W' 14 i x = W 14 i x := fun i x => ew 14 i x (by decide) (by decide) (by decide) (by decide)
    have w6 : ∀ i x, W' 6 i x = X 6 i x := fun i x => ek 6 i x (by decide) (by decide)
    rw [wz_n_cong (en 10), wz_n_cong (en 8)]
    simp only [w8, w10, w14, w6]
    exact ⟨G.1, G.2.1, G.2.2.1, G.2.2.2.1, G.2.2.2.2.1, g6⟩
theorem vz.r5 (V : vz W) {i : Nat} (hi : i < 6) : vz_row 5 (W 5 i) := V.row (by decide) (by rw [V.n5]; exact hi)
theorem vz.r6 (V : vz W) {i : Nat} (hi : i < 48) : vz_row 6 (W 6 i) := V.row (by decide) (by rw [V.n6]; exact hi)
theorem vz_sink (V : vz W) {s : Nat} (hs : s < wz_n W 4) : vz (sp_sink W s) := by
  have r := V.row (k := 4) (by omega) hs
  unfold sp_sink sp_clr
  refine V.clr2 (p := 6) (X := W) hs (Or.inr (Or.inl rfl)) (fun _ _ _ _ _ => rfl) (fun k i x h => ?_) ?_ ?_ ?_ ?_ ?_ (fun i hi => V.r5 hi) (fun i hi => V.r6 hi) V.2.2.2.2.1.2.2.2.2.2
  · unfold wz_up
    rw [if_neg (fun q => h ⟨q.1, q.2.1⟩), if_neg (fun q => h ⟨q.1, q.2.1⟩), if_neg (fun q => h ⟨q.1, q.2.1⟩), if_neg (fun q => h ⟨q.1, q.2.1⟩)]
  · rw [wz_up_c (by decide), wz_up_c (by decide), wz_up_c (by decide), wz_up_c (by decide), sp_un_k (by decide)]
  · rw [wz_up_c (by decide), wz_up_c (by decide), wz_up_c (by decide), wz_up_s]
  · rw [wz_up_c (by decide), wz_up_c (by decide), wz_up_s]
    exact ⟨by decide, by decide⟩
  · rw [wz_up_c (by decide), wz_up_c (by decide), wz_up_c (by decide), wz_up_c (by decide), sp_un_k (by decide)]
    exact r.2.2.1
  · rw [wz_up_c (by decide), wz_up_c (by decide), wz_up_s]
    intro q
    exact absurd q (by decide)
theorem vz_home (V : vz W) {s : Nat} (hs : s < wz_n W 4) (h2 : W 4 s 2 = 3) : vz (sp_home W s) := by
  unfold sp_home sp_clr
  refine V.clr2 (p := 7) (X := W) hs (Or.inr (Or.inr ⟨rfl, h2⟩)) (fun _ _ _ _ _ => rfl) (fun k i x h => ?_) ?_ ?_ ?_ ?_ ?_ (fun i hi => V.r5 hi) (fun i hi => V.r6 hi) V.2.2.2.2.1.2.2.2.2.2
  · unfold wz_up
    rw [if_neg (fun q => h ⟨q.1, q.2.1⟩), if_neg (fun q => h ⟨q.1, q.2.1⟩), if_neg (fun q => h ⟨q.1, q.2.1⟩)]
  · rw [wz_up_c (by decide), wz_up_c (by decide), wz_up_c (by decide), sp_un_k (by decide)]
  · rw [wz_up_c (by decide), wz_up_c (by decide), wz_up_s]
  · rw [wz_up_c (by decide), wz_up_s]
    exact ⟨by decide, by decide⟩
  · rw [wz_up_s]
    exact ⟨by decide, by decide⟩
  · rw [wz_up_c (show ¬ 2 = 3 by decide), wz_up_s]
    intro q
    exact absurd q (by decide)
theorem sp_abr_6 {s i x : Nat} : sp_abr W s 6 i x = sp_tm W s (W 4 s 3).toNatClampNeg (sp_m W s) W 6 i x := by
  unfold sp_abr sp_clr
  rw [wz_up_k (by decide), wz_up_k (by decide), sp_un_k (by decide)]
theorem vz_abr (V : vz W) {s c : Nat} (hs : s < wz_n W 4) (h2 : W 4 s 2 = 1) (hg : vg W c) (hc : c < 12) : vz (sp_abr W s) ∧ vg (sp_abr W s) (c + 1) := by
  have r := V.row (k := 4) (by omega) hs
  have m8 : sp_m W s ≤ 8 := (V.has hs).2
  obtain ⟨l, hl, el⟩ := i_row (x := W 4 s 3) (n := 5) rfl r.2.2.1
  have hl6 : (W 4 s 3).toNatClampNeg < 6 := by rw [el, nI_clamp (by omega)]; omega
  obtain ⟨b6, b5, b5'⟩ := sp_tm_b V hs hl6 _ (Nat.le_refl _)
  have G := V.2.2.2.2.1.2.2.2.2.2
  refine ⟨?_, fun r hr => ?_⟩
  · unfold sp_abr sp_clr
    refine V.clr2 (p := 3) (X := sp_tm W s (W 4 s 3).toNatClampNeg (sp_m W s) W) hs (Or.inl rfl) (fun k i x h5 h6 => sp_tm_k (fun q => h5 q.1) (fun q => h6 q.1)) (fun k i x h => ?_) ?_ ?_ ?_ ?_ ?_ (fun i hi => ?_) (fun i hi => ?_) (fun i hi => ?_)
    · unfold wz_up
      rw [if_neg (fun q => h ⟨q.1, q.2.1⟩), if_neg (fun q => h ⟨q.1, q.2.1⟩)]
    · rw [wz_up_c (by decide), wz_up_c (by decide), sp_un_k (by decide), sp_tm_k (by omega) (by omega)]
    · rw [wz_up_c (by decide), wz_up_s]
    · rw [wz_up_s]
      exact ⟨by decide, by decide⟩
    · rw [wz_up_c (by decide), wz_up_c (by decide), sp_un_k (by decide), sp_tm_k (by omega) (by omega)]
      exact r.2.2.1
    · intro _
      rw [wz_up_c (by decide), wz_up_c (by decide), sp_un_k (by decide), sp_tm_k (by omega) (by omega)]
      exact r.2.2.2.2 (Or.inl h2)
    · have r5 : W 5 i 1 ≤ 0 ∧ (0 ≤ W 5 i 3 ∧ W 5 i 3 ≤ 100000) ∧ -100 ≤ W 5 i 1 := V.r5 hi
      show sp_tm W s (W 4 s 3).toNatClampNeg (sp_m W s) W 5 i 1 ≤ 0 ∧ (0 ≤ sp_tm W s (W 4 s 3).toNatClampNeg (sp_m W s) W 5 i 3 ∧ sp_tm W s (W 4 s 3).toNatClampNeg (sp_m W s) W 5 i 3 ≤ 100000) ∧ -100 ≤ sp_tm W s (W 4 s 3).toNatClampNeg (sp_m W s) W 5 i 1
      rw [sp_tm_k (c := 3) (by omega) (by omega)]
      by_cases q : i = (W 4 s 3).toNatClampNeg
      · rw [← q] at b5 b5' ⊢
        exact ⟨Int32.le_iff_toInt_le.mpr b5', r5.2.1, Int32.le_iff_toInt_le.mpr b5⟩
      · rw [sp_tm_k (fun x => q x.2.1) (by omega)]
        exact r5
    · have r6 : 0 ≤ W 6 i 0 ∧ W 6 i 0 ≤ 1000 := V.r6 hi
      show 0 ≤ sp_tm W s (W 4 s 3).toNatClampNeg (sp_m W s) W 6 i 0 ∧ sp_tm W s (W 4 s 3).toNatClampNeg (sp_m W s) W 6 i 0 ≤ 1000
      rw [sp_tm_k (by omega) (by omega)]
      exact r6
    · obtain ⟨d1, d2⟩ := b6 i hi
      have g1 := i_nn (G i hi).1
      have g2 := hg i hi
      exact ⟨Int32.le_iff_toInt_le.mpr (by show (0 : Int) ≤ _; omega), by omega⟩
  · obtain ⟨d1, d2⟩ := b6 r hr
    have g2 := hg r hr
    rw [sp_abr_6]
    have e14 : sp_abr W s 14 0 0 = W 14 0 0 := by
      unfold sp_abr sp_clr
      rw [wz_up_k (by decide), wz_up_k (by decide), sp_un_k (by decide), sp_tm_k (by omega) (by omega)]
    rw [e14]
    omega
theorem vz_go1 (V : vz W) {s c : Nat} (hs : s < wz_n W 4) (hg : vg W c) (hc : c < 12) : vz (sp_go1 s W) ∧ vg (sp_go1 s W) (c + 1) := by
  have stay : ∀ W', (∀ r, W' 6 r 1 = W 6 r 1) → W' 14 0 0 = W 14 0 0 → vg W' (c + 1) := fun W' h1 h2 r hr => by
    have := hg r hr
    rw [h1, h2]
    omega
  unfold sp_go1
  split
  · next q =>
    have V1 : vz (sp_nxw W s) := V.ship1 hs (Or.inr (Or.inl rfl))
    have hs1 : s < wz_n (sp_nxw W s) 4 := hs
    have e2 : sp_nxw W s 4 s 2 = W 4 s 2 := wz_up_c (by decide)
    have x6 : ∀ r, sp_nxw W s 6 r 1 = W 6 r 1 := fun r => wz_up_k (by decide)
    have x14 : sp_nxw W s 14 0 0 = W 14 0 0 := wz_up_k (by decide)
    unfold sp_go
    split
    · split
      · split
        · next q1 => exact vz_abr V1 hs1 (e2.trans q1) (fun r hr => by rw [x6, x14]; exact hg r hr) hc
        · next q1 =>
          refine ⟨vz_home V1 hs1 (e2.trans (q.resolve_left q1)), stay _ (fun r => ?_) ?_⟩
          · unfold sp_home sp_clr
            rw [wz_up_k (by decide), wz_up_k (by decide), wz_up_k (by decide), sp_un_k (by decide)]
            exact x6 r
          · unfold sp_home sp_clr
            rw [wz_up_k (by decide), wz_up_k (by decide), wz_up_k (by decide), sp_un_k (by decide)]
            exact x14
      · exact ⟨V1, stay _ x6 x14⟩
    · refine ⟨vz_sink V hs, stay _ (fun r => ?_) ?_⟩
      · unfold sp_sink sp_clr
        rw [wz_up_k (by decide), wz_up_k (by decide), wz_up_k (by decide), wz_up_k (by decide), sp_un_k (by decide)]
      · unfold sp_sink sp_clr
        rw [wz_up_k (by decide), wz_up_k (by decide), wz_up_k (by decide), wz_up_k (by decide), sp_un_k (by decide)]
  · exact ⟨V, stay _ (fun _ => rfl) rfl⟩
theorem sp_go1_n {s k : Nat} : wz_n (sp_go1 s W) k = wz_n W k := by
  refine wz_n_cong ?_
  unfold sp_go1 sp_go
  split
  · split
    · split
      · split
        · unfold sp_abr sp_clr
          rw [wz_up_k (by omega), wz_up_k (by omega), sp_un_k (by omega), sp_tm_k (by omega) (by omega)]
          exact wz_up_k (by omega)
        · unfold sp_home sp_clr
          rw [wz_up_k (by omega), wz_up_k (by omega), wz_up_k (by omega), sp_un_k (by omega)]
          exact wz_up_k (by omega)
      · exact wz_up_k (by omega)
    · unfold sp_sink sp_clr
      rw [wz_up_k (by omega), wz_up_k (by omega), wz_up_k (by omega), wz_up_k (by omega), sp_un_k (by omega)]
  · rfl
theorem sp_gos_n {k : Nat} : ∀ i, wz_n (sp_gos W i) k = wz_n W k
  | 0 => rfl
  | i + 1 => (sp_go1_n (W := sp_gos W i) (s := i)).trans (sp_gos_n i)
theorem vz_gos (V : vz W) (hg : vg W 0) : ∀ i, i ≤ wz_n W 4 → vz (sp_gos W i) ∧ vg (sp_gos W i) i
  | 0, _ => ⟨V, hg⟩
  | i + 1, h => by
    have hn : wz_n W 4 ≤ 12 := V.c (k := 4) (by omega)
    obtain ⟨V1, g1⟩ := vz_gos V hg i (by omega)
    exact vz_go1 V1 (by rw [sp_gos_n]; omega) g1 (by omega)
end
