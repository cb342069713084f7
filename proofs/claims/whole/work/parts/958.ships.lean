/-! ===== what always holds is kept: ships, allot, act ===== -/
section
variable {W : m_W} {a b c d : Int32}
theorem vz_shipN {p : Int64 × m_W} (V : vz W) (e : sp_ship W a b = .inl p) : vz p.2 := by
  unfold sp_ship at e
  obtain ⟨h1, e⟩ := if_in e
  obtain ⟨h2, e⟩ := if_in e
  obtain ⟨h6, e⟩ := if_in e
  cases e
  have g : ∀ x, _ = _ := fun x => @sp_new_x W 4 x [(0, a), (1, b), (5, -1)]
  have zz : ∀ x, x < 23 → W 4 (wz_n W 4) x = 0 := fun x hx => V.z (k := 4) (by decide) (Nat.le_refl _) h6 hx
  have g6 : sp_new W 4 [(0, a), (1, b), (5, -1)] 4 (wz_n W 4) 6 = 0 := (g 6).trans (zz 6 (by decide))
  have key : ∀ F : Nat → Int32, F 0 = a → F 2 = 0 → F 3 = 0 → F 6 = 0 → vz_row 4 F := by
    intro F g0 g2 g3 g6
    show (1 ≤ F 0 ∧ F 0 ≤ 5000) ∧ (0 ≤ F 2 ∧ F 2 ≤ 4) ∧ (0 ≤ F 3 ∧ F 3 ≤ 5) ∧ (0 ≤ F 6 ∧ F 6 ≤ 8) ∧ (F 2 = 1 ∨ F 2 = 2 ∨ F 2 = 3 → 1 ≤ F 3)
    rw [g0, g2, g3, g6]
    exact ⟨h1, by decide, by decide, by decide, fun z => absurd z (by decide)⟩
  exact V.grow (k := 4) (by decide) (by decide) h6 (by omega) sp_new_c (fun k' i x h1 h2 => sp_new_o h1 h2) (key _ (g 0) ((g 2).trans (zz 2 (by decide))) ((g 3).trans (zz 3 (by decide))) g6) (vz_glob_n V.2.2.2.2.1 (fun k' i x h => sp_new_o (by omega) (by omega)) (wz_n_cong (sp_new_o (by decide) (by omega))) (wz_n_cong (sp_new_o (by decide) (by omega)))) (fun _ => (congrArg Int32.toNatClampNeg g6).trans rfl) (fun z => absurd z (by decide))
/-- a ship's cargo is as it ought to be -/
def vz_cg (W : m_W) (F : Nat → Int32) (j : Nat) : Prop := (∃ t, t < wz_n W 2 ∧ F (7 + 2 * j) = nI t ∧ ¬ W 2 t 2 = 0 ∧ (F 2 = 0 → W 2 t 3 = 0 ∧ ∀ t0, t0 < wz_n W 2 → F 7 = nI t0 → W 2 t 2 = W 2 t0 2) ∧ (F 2 = 1 → W 2 t 3 = 0 ∧ W 2 t 2 = F 3) ∧ (F 2 = 2 → W 2 t 3 = 1) ∧ (F 2 = 3 → W 2 t 3 = 1)) ∧ 0 ≤ F (8 + 2 * j)
/-- one ship changed, and what was taken for it -/
theorem vz.shipUp (V : vz W) {W' : m_W} {s : Nat} (hs : s < wz_n W 4) (e : ∀ k i x, ¬ k = 2 → ¬ (k = 4 ∧ i = s) → W' k i x = W k i x) (e2z : ∀ i x, wz_n W 2 ≤ i → W' 2 i x = W 2 i x) (l2 : ∀ t x, x = 1 ∨ x = 2 ∨ x = 3 → W' 2 t x = W 2 t x) (lot : ∀ t, t < wz_n W 2 → vz_lot (W' 2 t)) (con : ∀ t, t < wz_n W 2 → sp_pls W' t + sp_car W' s t = sp_pls W t + sp_car W s t) (row : vz_row 4 (W' 4 s)) (car : ∀ j, j < (W' 4 s 6).toNatClampNeg → vz_cg W (W' 4 s) j) : vz W' := by
  have en : ∀ k, W' (20 + k) 0 0 = W (20 + k) 0 0 := fun k => e _ _ _ (by omega) (by omega)
  have n : ∀ k, wz_n W' k = wz_n W k := fun k => wz_n_cong (en k)
  have f2 : ∀ t, W' 2 t 2 = W 2 t 2 := fun t => l2 t 2 (Or.inr (Or.inl rfl))
  have f3 : ∀ t, W' 2 t 3 = W 2 t 3 := fun t => l2 t 3 (Or.inr (Or.inr rfl))
  refine ⟨fun k hk => ?_, ⟨?_, ?_, ?_, ?_⟩, fun k hk i x h1 h2 h3 => ?_, fun k hk i hi => ?_, vz_glob_cong V.2.2.2.2.1 (fun k i x hk => e k i x (by omega) (by omega)) en, fun s' hs' j hj => ?_, fun t ht => ?_, fun t ht => ?_⟩
  · rw [n, en]; exact V.1 k hk
  · rw [n]; exact V.n0
  · rw [n]; exact V.n5
  · rw [n]; exact V.n6
  · rw [n]; exact V.n13
  · rw [n] at h1
    by_cases q2 : k = 2
    · subst q2
      rw [e2z i x h1]
      exact V.z hk h1 h2 h3
    · rw [e k i x q2 (fun z => by obtain ⟨z1, z2⟩ := z; subst z1 z2; omega)]
      exact V.z hk h1 h2 h3
  · rw [n] at hi
    by_cases q2 : k = 2
    · subst q2
      exact lot i hi
    · by_cases q4 : k = 4 ∧ i = s
      · obtain ⟨q4, q5⟩ := q4
        subst q4 q5
        exact row
      · rw [show W' k i = W k i from funext fun x => e k i x q2 q4]
        exact V.row hk hi
  · rw [n] at hs'
    by_cases q : s' = s
    · subst q
      simp only [n, f2, f3]
      exact car j hj
    · have e4 : ∀ x, W' 4 s' x = W 4 s' x := fun x => e 4 s' x (by decide) (fun z => q z.2)
      rw [e4] at hj
      simp only [n, f2, f3, e4]
      exact V.2.2.2.2.2.1 s' hs' j hj
  · rw [n] at ht
    show sp_pls W' t + sp_cars W' t = _
    have c2 : sp_cars W' t = sp_cars W t - sp_car W s t + sp_car W' s t := by
      unfold sp_cars
      rw [n]
      exact si_one (f := fun i => sp_car W' i t) (g := fun i => sp_car W i t) hs (fun i hi q => sp_car_cong (fun x => e 4 i x (by decide) (fun z => q z.2)))
    have := con t ht
    have C := V.cons ht
    rw [l2 t 1 (Or.inl rfl)]
    omega
  · rw [n] at ht
    rw [show W' 17 t = W 17 t from funext fun x => e 17 t x (by decide) (by omega)]
    exact V.text ht
theorem vz_sea (V : vz W) {s : Nat} (hs : s < wz_n W 4) (hb : 0 ≤ b ∧ b ≤ 5) (M : sp_maySail W s b) : vz (sp_sea W s b) := by
  have R : (1 ≤ W 4 s 0 ∧ W 4 s 0 ≤ 5000) ∧ (0 ≤ W 4 s 2 ∧ W 4 s 2 ≤ 4) ∧ (0 ≤ W 4 s 3 ∧ W 4 s 3 ≤ 5) ∧ (0 ≤ W 4 s 6 ∧ W 4 s 6 ≤ 8) ∧ (W 4 s 2 = 1 ∨ W 4 s 2 = 2 ∨ W 4 s 2 = 3 → 1 ≤ W 4 s 3) := V.row (k := 4) (by decide) hs
  obtain ⟨e6, h8⟩ := V.has hs
  have hn : wz_n W 2 ≤ 100 := V.c (k := 2) (by omega)
  have gen : ∀ u l : Int32, ∀ X : m_W, (∀ k i x, ¬ (k = 4 ∧ i = s ∧ (x = 2 ∨ x = 3 ∨ x = 4)) → X k i x = W k i x) → X 4 s 2 = u → X 4 s 3 = l → (0 ≤ u ∧ u ≤ 4) → (0 ≤ l ∧ l ≤ 5) → (u = 1 ∨ u = 2 ∨ u = 3 → 1 ≤ l) → (∀ j, j < (W 4 s 6).toNatClampNeg → vz_cg W (X 4 s) j) → vz X := by
    intro u l X o g2 g3 hu hl hul hc
    have o4 : ∀ x, ¬ (x = 2 ∨ x = 3 ∨ x = 4) → X 4 s x = W 4 s x := fun x q => o 4 s x (fun z => q z.2.2)
    have oc : ∀ t, sp_car X s t = sp_car W s t := fun t => by
      unfold sp_car
      rw [o4 6 (by decide)]
      refine si_if (fun j hj a => ?_)
      rw [o4 (7 + 2 * j) (by omega), o4 (8 + 2 * j) (by omega)]
    have o2 : ∀ t x, X 2 t x = W 2 t x := fun t x => o 2 t x (by omega)
    refine V.shipUp hs (fun k i x _ q => o k i x (fun z => q ⟨z.1, z.2.1⟩)) (fun i x _ => o2 i x) (fun t x _ => o2 t x) (fun t ht => by rw [show X 2 t = W 2 t from funext (o2 t)]; exact V.lot ht) (fun t ht => by rw [oc, sp_pls_e, sp_pls_e]; simp only [o2]) ?_ (fun j hj => ?_)
    · show (1 ≤ X 4 s 0 ∧ X 4 s 0 ≤ 5000) ∧ (0 ≤ X 4 s 2 ∧ X 4 s 2 ≤ 4) ∧ (0 ≤ X 4 s 3 ∧ X 4 s 3 ≤ 5) ∧ (0 ≤ X 4 s 6 ∧ X 4 s 6 ≤ 8) ∧ (X 4 s 2 = 1 ∨ X 4 s 2 = 2 ∨ X 4 s 2 = 3 → 1 ≤ X 4 s 3)
      rw [g2, g3, o4 0 (by decide), o4 6 (by decide)]
      exact ⟨R.1, hu, hl, R.2.2.2.1, hul⟩
    · rw [o4 6 (by decide)] at hj
      exact hc j hj
  unfold sp_sea
  rcases M with ⟨m2, b0, m6⟩ | ⟨-, m2, b0⟩
  · rw [if_neg b0]
    have o : ∀ k i x, ¬ (k = 4 ∧ i = s ∧ (x = 2 ∨ x = 3 ∨ x = 4)) → sp_sea1 (wz_up W 4 s 3 b) s 1 k i x = W k i x := by
      intro k i x q
      unfold sp_sea1 wz_up
      rw [if_neg (fun z => q ⟨z.1, z.2.1, by omega⟩), if_neg (fun z => q ⟨z.1, z.2.1, by omega⟩), if_neg (fun z => q ⟨z.1, z.2.1, by omega⟩)]
    have g2 : sp_sea1 (wz_up W 4 s 3 b) s 1 4 s 2 = 1 := by
      unfold sp_sea1
      rw [wz_up_c (by decide), wz_up_s]
    have g3 : sp_sea1 (wz_up W 4 s 3 b) s 1 4 s 3 = b := by
      unfold sp_sea1
      rw [wz_up_c (by decide), wz_up_c (by decide), wz_up_s]
    refine gen 1 b _ o g2 g3 (by decide) hb (fun _ => i_one hb.1 b0) (fun j hj => ?_)
    obtain ⟨⟨t, ht, et, nz, c0, c1, c2, c3⟩, nn⟩ := V.2.2.2.2.2.1 s hs j hj
    have m6 : W 2 (W 4 s 7).toNatClampNeg 2 = b := by
      rcases m6 with z | z
      · rw [z] at hj
        exact absurd hj (Nat.not_lt_zero j)
      · exact z
    obtain ⟨t1, ht1, et1⟩ := V.ship hs (show 0 < (W 4 s 6).toNatClampNeg by omega)
    have et1 : W 4 s 7 = nI t1 := et1
    rw [et1, nI_clamp (by omega)] at m6
    refine ⟨⟨t, ht, ?_, nz, ?_, ?_, ?_, ?_⟩, ?_⟩
    · rw [o 4 s _ (by omega)]; exact et
    · rw [g2]; exact fun z => absurd z (by decide)
    · rw [g3]; exact fun _ => ⟨(c0 m2).1, ((c0 m2).2 t1 ht1 et1).trans m6⟩
    · rw [g2]; exact fun z => absurd z (by decide)
    · rw [g2]; exact fun z => absurd z (by decide)
    · rw [o 4 s _ (by omega)]; exact nn
  · rw [if_pos b0]
    have o : ∀ k i x, ¬ (k = 4 ∧ i = s ∧ (x = 2 ∨ x = 3 ∨ x = 4)) → sp_sea1 W s 3 k i x = W k i x := by
      intro k i x q
      unfold sp_sea1 wz_up
      rw [if_neg (fun z => q ⟨z.1, z.2.1, by omega⟩), if_neg (fun z => q ⟨z.1, z.2.1, by omega⟩)]
    have g2 : sp_sea1 W s 3 4 s 2 = 3 := by
      unfold sp_sea1
      rw [wz_up_c (by decide), wz_up_s]
    have g3 : sp_sea1 W s 3 4 s 3 = W 4 s 3 := by
      unfold sp_sea1
      rw [wz_up_c (by decide), wz_up_c (by decide)]
    refine gen 3 (W 4 s 3) _ o g2 g3 (by decide) R.2.2.1 (fun _ => R.2.2.2.2 (Or.inr (Or.inl m2))) (fun j hj => ?_)
    obtain ⟨⟨t, ht, et, nz, c0, c1, c2, c3⟩, nn⟩ := V.2.2.2.2.2.1 s hs j hj
    refine ⟨⟨t, ht, ?_, nz, ?_, ?_, ?_, ?_⟩, ?_⟩
    · rw [o 4 s _ (by omega)]; exact et
    · rw [g2]; exact fun z => absurd z (by decide)
    · rw [g2]; exact fun z => absurd z (by decide)
    · rw [g2]; exact fun z => absurd z (by decide)
    · exact fun _ => c2 m2
    · rw [o 4 s _ (by omega)]; exact nn
theorem vz_sail {v : Int32} {W1 : m_W} (V : vz W) (e : sp_sail W a b = .inl (v, some W1)) : vz W1 := by
  unfold sp_sail at e
  obtain ⟨h1, e⟩ := if_in e
  obtain ⟨h2, e⟩ := if_in e
  obtain ⟨h3, e⟩ := if_in e
  have hn : wz_n W 4 ≤ 12 := V.c (k := 4) (by omega)
  obtain ⟨s, hs, rfl⟩ := i_rowlt (by omega) h1
  rw [nI_clamp (by omega)] at e
  by_cases q : sp_maySail W s b
  · rw [if_pos q] at e
    cases e
    exact vz_sea V hs h2 q
  · rw [if_neg q] at e
    cases e
theorem sp_sl_hit {s : Nat} {x : Int32} : ∀ n, n ≤ (W 4 s 6).toNatClampNeg → sp_sl W s x n < (W 4 s 6).toNatClampNeg → W 4 s (7 + 2 * sp_sl W s x n) = x
  | 0, _, h => absurd h (Nat.lt_irrefl _)
  | n + 1, hn, h => by
    unfold sp_sl at h ⊢
    by_cases q : W 4 s (7 + 2 * ((W 4 s 6).toNatClampNeg - (n + 1))) = x
    · rw [if_pos q]
      exact q
    · rw [if_neg q] at h ⊢
      exact sp_sl_hit n (by omega) h
theorem vz_put (V : vz W) {s t : Nat} (hs : s < wz_n W 4) (ht : t < wz_n W 2) (M : sp_mayLoad W s t c) : vz (sp_put W s t c) := by
  obtain ⟨fit, c1, c2, s8, -⟩ := M
  have R : (1 ≤ W 4 s 0 ∧ W 4 s 0 ≤ 5000) ∧ (0 ≤ W 4 s 2 ∧ W 4 s 2 ≤ 4) ∧ (0 ≤ W 4 s 3 ∧ W 4 s 3 ≤ 5) ∧ (0 ≤ W 4 s 6 ∧ W 4 s 6 ≤ 8) ∧ (W 4 s 2 = 1 ∨ W 4 s 2 = 2 ∨ W 4 s 2 = 3 → 1 ≤ W 4 s 3) := V.row (k := 4) (by decide) hs
  obtain ⟨e6, h8⟩ := V.has hs
  have hn : wz_n W 2 ≤ 100 := V.c (k := 2) (by omega)
  have L := V.lot ht
  have fm : (sp_fm W s = 1 ∧ W 4 s 2 = 0) ∨ (sp_fm W s = 3 ∧ W 4 s 2 = 2) := by
    unfold sp_fm
    rcases fit with z | z
    · exact Or.inl ⟨if_pos z.1, z.1⟩
    · exact Or.inr ⟨if_neg z.1, z.2.1⟩
  have nz : ¬ W 2 t 2 = 0 := by
    rcases fit with z | z
    · exact z.2.1.1
    · intro y
      have := (L.2.2.2.2.2.2.2.2.2.1 y).1
      rw [z.2.2.1] at this
      exact absurd this (by decide)
  obtain ⟨f, ef⟩ : ∃ f, f = sp_fm W s := ⟨_, rfl⟩
  have f13 : f = 1 ∧ W 4 s 2 = 0 ∨ f = 3 ∧ W 4 s 2 = 2 := by rw [ef]; exact fm
  have P := V.pl (p := f) ht (by omega) (by omega)
  rw [← ef] at c2
  have ci : 1 ≤ c.toInt := Int32.le_iff_toInt_le.mp c1
  have cu : c.toInt ≤ (W 2 t (10 + f)).toInt := Int32.le_iff_toInt_le.mp c2
  have sle : sp_slot W s t ≤ (W 4 s 6).toNatClampNeg := sp_sl_le _
  obtain ⟨m, em⟩ : ∃ m, m = (W 4 s 6).toNatClampNeg := ⟨_, rfl⟩
  obtain ⟨j0, ej⟩ : ∃ j, j = sp_slot W s t := ⟨_, rfl⟩
  rw [← em] at e6 h8 sle
  rw [← ej] at s8 sle
  have hit : j0 < m → W 4 s (7 + 2 * j0) = nI t := by
    rw [ej, em]
    exact sp_sl_hit _ (Nat.le_refl _)
  have fresh : W 4 s 6 = nI j0 ↔ j0 = m := by
    rw [e6]
    exact ⟨fun z => (nI_e (by omega) (by omega) z).symm, fun z => by rw [z]⟩
  -- the lots
  have put2 : ∀ i x, sp_put W s t c 2 i x = sp_mv W t f 2 c 2 i x := by
    intro i x
    unfold sp_put
    rw [wz_up_k (by decide)]
    unfold sp_put1
    rw [← ef]
    split
    · rw [wz_up_k (by decide), wz_up_k (by decide), wz_up_k (by decide)]
    · rfl
  have putk : ∀ k i x, ¬ k = 2 → ¬ (k = 4 ∧ i = s) → sp_put W s t c k i x = W k i x := by
    intro k i x q2 q4
    unfold sp_put
    rw [up_o q4]
    unfold sp_put1
    split
    · rw [up_o q4, up_o q4, up_o q4, sp_mv_k q2]
    · rw [sp_mv_k q2]
  have put4 : ∀ x, ¬ (x = 6 ∨ x = 7 + 2 * j0 ∨ x = 8 + 2 * j0) → sp_put W s t c 4 s x = W 4 s x := by
    intro x q
    unfold sp_put
    rw [← ej, wz_up_c (by omega)]
    unfold sp_put1
    split
    · rw [wz_up_c (by omega), wz_up_c (by omega), wz_up_c (by omega), sp_mv_k (by decide)]
    · rw [sp_mv_k (by decide)]
  have put6 : sp_put W s t c 4 s 6 = nI (if j0 = m then m + 1 else m) := by
    unfold sp_put
    rw [← ej, wz_up_c (by omega)]
    unfold sp_put1
    by_cases q : j0 = m
    · rw [if_pos (fresh.mpr q), if_pos q, wz_up_c (by omega), wz_up_c (by omega), wz_up_s, e6, nI_succ]
    · rw [if_neg (fun z => q (fresh.mp z)), if_neg q, sp_mv_k (by decide)]
      exact e6
  have put7 : sp_put W s t c 4 s (7 + 2 * j0) = nI t := by
    unfold sp_put
    rw [← ej, wz_up_c (by omega)]
    unfold sp_put1
    by_cases q : j0 = m
    · rw [if_pos (fresh.mpr q), wz_up_c (by omega), wz_up_s]
    · rw [if_neg (fun z => q (fresh.mp z)), sp_mv_k (by decide)]
      exact hit (by omega)
  have put8 : sp_put W s t c 4 s (8 + 2 * j0) = (if j0 = m then 0 else W 4 s (8 + 2 * j0)) + c := by
    unfold sp_put
    rw [← ej, wz_up_s]
    unfold sp_put1
    by_cases q : j0 = m
    · rw [if_pos (fresh.mpr q), wz_up_s, if_pos q]
    · rw [if_neg (fun z => q (fresh.mp z)), sp_mv_k (by decide), if_neg q]
  generalize sp_put W s t c = X at put2 putk put4 put6 put7 put8 ⊢
  have m8 : (if j0 = m then m + 1 else m) ≤ 8 := by split <;> omega
  have g : ∀ x, sp_mv W t f 2 c 2 t x = if x = 12 then W 2 t 12 + c else if x = 10 + f then W 2 t (10 + f) - c else W 2 t x := fun x => sp_mv_e (by omega)
  have k : ∀ x, ¬ x = 12 → ¬ x = 10 + f → X 2 t x = W 2 t x := fun x h1 h2 => (put2 t x).trans ((g x).trans (by rw [if_neg h1, if_neg h2]))
  have kf : X 2 t (10 + f) = W 2 t (10 + f) - c := (put2 t _).trans ((g _).trans (by rw [if_neg (by omega), if_pos rfl]))
  have ki : (W 2 t (10 + f) - c).toInt = (W 2 t (10 + f)).toInt - c.toInt := i_sub (by omega) (by omega)
  have ko : ∀ i x, ¬ i = t → X 2 i x = W 2 i x := fun i x q => (put2 i x).trans (sp_mv_r q)
  have c8 : 0 ≤ (X 4 s (8 + 2 * j0)).toInt ∧ (X 4 s (8 + 2 * j0)).toInt = (if j0 = m then 0 else (W 4 s (8 + 2 * j0)).toInt) + c.toInt := by
    rw [put8]
    by_cases q : j0 = m
    · rw [if_pos q, if_pos q, Int32.zero_add]
      omega
    · rw [if_neg q, if_neg q]
      have cr := V.cr (j := j0) hs (show j0 < sp_m W s by unfold sp_m; omega)
      have : (W 4 s (8 + 2 * j0) + c).toInt = (W 4 s (8 + 2 * j0)).toInt + c.toInt := i_add (by omega) (by omega)
      omega
  have six : (X 4 s 6).toNatClampNeg = if j0 = m then m + 1 else m := by
    rw [put6, nI_clamp (by omega)]
  have ecar : ∀ t', t' < wz_n W 2 → sp_car X s t' = sp_car W s t' + (if t' = t then c.toInt else 0) := by
    intro t' ht'
    have tt : nI t = nI t' ↔ t' = t := ⟨fun z => (nI_e (by omega) (by omega) z).symm, fun z => by rw [z]⟩
    unfold sp_car
    rw [six, ← em]
    by_cases q : j0 = m
    · rw [if_pos q]
      show sp_it (fun j a => a + (if X 4 s (7 + 2 * j) = nI t' then (X 4 s (8 + 2 * j)).toInt else 0)) m 0 + (if X 4 s (7 + 2 * m) = nI t' then (X 4 s (8 + 2 * m)).toInt else 0) = _
      rw [si_e (f := fun j => if X 4 s (7 + 2 * j) = nI t' then (X 4 s (8 + 2 * j)).toInt else 0) (g := fun j => if W 4 s (7 + 2 * j) = nI t' then (W 4 s (8 + 2 * j)).toInt else 0) (fun i hi => by rw [put4 (7 + 2 * i) (by omega), put4 (8 + 2 * i) (by omega)])]
      rw [← q, put7, c8.2, if_pos q]
      by_cases y : t' = t
      · rw [if_pos (tt.mpr y), if_pos y]
        omega
      · rw [if_neg (fun z => y (tt.mp z)), if_neg y]
    · rw [if_neg q]
      rw [si_one (s := j0) (f := fun j => if X 4 s (7 + 2 * j) = nI t' then (X 4 s (8 + 2 * j)).toInt else 0) (g := fun j => if W 4 s (7 + 2 * j) = nI t' then (W 4 s (8 + 2 * j)).toInt else 0) (n := m) (by omega) (fun i hi hq => by rw [put4 (7 + 2 * i) (by omega), put4 (8 + 2 * i) (by omega)])]
      rw [put7, c8.2, if_neg q, hit (by omega)]
      by_cases y : t' = t
      · rw [if_pos (tt.mpr y), if_pos (tt.mpr y), if_pos y]
        omega
      · rw [if_neg (fun z => y (tt.mp z)), if_neg (fun z => y (tt.mp z)), if_neg y]
        omega
  refine V.shipUp hs putk (fun i x hi => ko i x (by omega)) (fun i x hx => ?_) (fun i hi => ?_) (fun i hi => ?_) ?_ (fun j hj => ?_)
  · by_cases q : i = t
    · rw [q]
      exact k x (by omega) (by omega)
    · exact ko i x q
  · by_cases q : i = t
    · subst q
      obtain ⟨a0, a1, a2, a3, a5, a6, a7, a19, a9, as, al, ab, a17, ap⟩ := L
      have g11 : X 2 i 3 = 1 → X 2 i 11 = 0 := by
        rw [k 3 (by decide) (by omega)]
        intro y
        rcases f13 with ⟨z1, z2⟩ | ⟨z1, z2⟩
        · rcases fit with w | w
          · rw [w.2.1.2] at y
            exact absurd y (by decide)
          · rw [z2] at w
            exact absurd rfl w.1
        · rw [k 11 (by decide) (by omega)]
          exact ab y
      unfold vz_lot
      rw [k 0 (by decide) (by omega), k 1 (by decide) (by omega), k 2 (by decide) (by omega), k 5 (by decide) (by omega), k 6 (by decide) (by omega), k 7 (by decide) (by omega), k 19 (by decide) (by omega), k 9 (by decide) (by omega), k 10 (by decide) (by omega), k 17 (by decide) (by omega)]
      refine ⟨a0, a1, a2, ?_, a5, a6, a7, a19, a9, fun y => absurd y nz, al, g11, ?_, fun p hp h2 => ?_⟩
      · rw [k 3 (by decide) (by omega)]; exact a3
      · rw [k 3 (by decide) (by omega)]; exact a17
      · by_cases y : p = f
        · rw [y, kf]
          refine Int32.le_iff_toInt_le.mpr ?_
          rw [ki]; show (0 : Int) ≤ _; omega
        · rw [k (10 + p) (by omega) (by omega)]
          exact ap p hp h2
    · rw [show X 2 i = W 2 i from funext fun x => ko i x q]
      exact V.lot hi
  · rw [ecar i hi]
    by_cases q : i = t
    · subst q
      rw [if_pos rfl, sp_pls_e, sp_pls_e]
      rcases f13 with ⟨z1, -⟩ | ⟨z1, -⟩
      · subst z1
        have kf : X 2 i 11 = W 2 i 11 - c := kf
        have ki : (W 2 i 11 - c).toInt = (W 2 i 11).toInt - c.toInt := ki
        rw [k 10 (by decide) (by decide), kf, ki, k 13 (by decide) (by decide), k 14 (by decide) (by decide), k 15 (by decide) (by decide), k 16 (by decide) (by decide), k 17 (by decide) (by decide), k 18 (by decide) (by decide)]
        omega
      · subst z1
        have kf : X 2 i 13 = W 2 i 13 - c := kf
        have ki : (W 2 i 13 - c).toInt = (W 2 i 13).toInt - c.toInt := ki
        rw [k 10 (by decide) (by decide), kf, ki, k 11 (by decide) (by decide), k 14 (by decide) (by decide), k 15 (by decide) (by decide), k 16 (by decide) (by decide), k 17 (by decide) (by decide), k 18 (by decide) (by decide)]
        omega
    · rw [if_neg q, Int.add_zero, sp_pls_e, sp_pls_e]
      rw [ko i 10 q, ko i 11 q, ko i 13 q, ko i 14 q, ko i 15 q, ko i 16 q, ko i 17 q, ko i 18 q]
  · show (1 ≤ X 4 s 0 ∧ X 4 s 0 ≤ 5000) ∧ (0 ≤ X 4 s 2 ∧ X 4 s 2 ≤ 4) ∧ (0 ≤ X 4 s 3 ∧ X 4 s 3 ≤ 5) ∧ (0 ≤ X 4 s 6 ∧ X 4 s 6 ≤ 8) ∧ (X 4 s 2 = 1 ∨ X 4 s 2 = 2 ∨ X 4 s 2 = 3 → 1 ≤ X 4 s 3)
    rw [put4 0 (by omega), put4 2 (by omega), put4 3 (by omega), put6]
    exact ⟨R.1, R.2.1, R.2.2.1, ⟨Int32.not_lt.mp (nI_pos (by omega)), nI_le (b := 8) m8 (by decide)⟩, R.2.2.2.2⟩
  · rw [six] at hj
    have st : X 4 s 2 = W 4 s 2 := put4 2 (by omega)
    have s3 : X 4 s 3 = W 4 s 3 := put4 3 (by omega)
    have x7 : 0 < m → X 4 s 7 = W 4 s 7 := by
      intro hm
      by_cases q : j0 = 0
      · have p7 : X 4 s 7 = nI t := by
          rw [q] at put7
          exact put7
        have h7 : W 4 s 7 = nI t := by
          rw [q] at hit
          exact hit hm
        rw [p7, h7]
      · exact put4 7 (by omega)
    by_cases q : j = j0
    · subst q
      refine ⟨⟨t, ht, put7, nz, ?_, ?_, ?_, ?_⟩, Int32.le_iff_toInt_le.mpr c8.1⟩
      · intro y
        rw [st] at y
        rcases fit with w | w
        · refine ⟨w.2.1.2, fun t0 ht0 e0 => ?_⟩
          by_cases hm : m = 0
          · have j00 : j = 0 := by omega
            rw [j00] at put7
            have put7 : X 4 s 7 = nI t := put7
            rw [put7] at e0
            rw [nI_e (by omega) (by omega) e0]
          · rw [x7 (by omega)] at e0
            rcases w.2.2 with z | z
            · rw [e6] at z
              exact absurd (nI_e (m := 0) (by omega) (by decide) z) hm
            · rw [e0, nI_clamp (by omega)] at z
              exact z.symm
        · exact absurd y w.1
      · intro y
        rw [st] at y
        rcases f13 with ⟨-, z⟩ | ⟨-, z⟩ <;> rw [z] at y <;> exact absurd y (by decide)
      · intro y
        rw [st] at y
        rcases fit with w | w
        · rw [w.1] at y
          exact absurd y (by decide)
        · exact w.2.2.1
      · intro y
        rw [st] at y
        rcases f13 with ⟨-, z⟩ | ⟨-, z⟩ <;> rw [z] at y <;> exact absurd y (by decide)
    · have hj' : j < m := by
        by_cases y : j0 = m
        · rw [if_pos y] at hj
          omega
        · rw [if_neg y] at hj
          exact hj
      obtain ⟨⟨t1, ht1, et1, nz1, c0, c1', c2', c3'⟩, nn⟩ := V.2.2.2.2.2.1 s hs j (by omega)
      refine ⟨⟨t1, ht1, ?_, nz1, ?_, ?_, ?_, ?_⟩, ?_⟩
      · rw [put4 _ (by omega)]; exact et1
      · rw [st, x7 (by omega)]; exact c0
      · rw [st, s3]; exact c1'
      · rw [st]; exact c2'
      · rw [st]; exact c3'
      · rw [put4 _ (by omega)]; exact nn
theorem vz_load {v : Int32} {W1 : m_W} (V : vz W) (e : sp_load W a b c = .inl (v, some W1)) : vz W1 := by
  unfold sp_load at e
  obtain ⟨h1, e⟩ := if_in e
  obtain ⟨h2, e⟩ := if_in e
  obtain ⟨h3, e⟩ := if_in e
  have hn : wz_n W 4 ≤ 12 := V.c (k := 4) (by omega)
  have hn2 : wz_n W 2 ≤ 100 := V.c (k := 2) (by omega)
  obtain ⟨s, hs, rfl⟩ := i_rowlt (by omega) h1
  obtain ⟨t, ht, rfl⟩ := i_rowlt (by omega) h2
  rw [nI_clamp (by omega), nI_clamp (by omega)] at e
  by_cases q : sp_mayLoad W s t c
  · rw [if_pos q] at e
    cases e
    exact vz_put V hs ht q
  · rw [if_neg q] at e
    cases e
theorem vz_al {x : Int32} {M : Nat → Int32} : ∀ k m (P : Nat → Bool) (W : m_W), vz W → sp_ok W x P → vz (sp_al x M k m P W).2
  | 0, m, P, W, V, O => V
  | k + 1, m, P, W, V, O => by
    unfold sp_al
    by_cases q : sp_stock W x ≤ 0 ∨ ¬ wz_n W 2 < 100
    · rw [if_pos q]; exact V
    rw [if_neg q]
    cases er : sp_nx W M P 60 with
    | none => exact V
    | some r =>
      have hr := (sp_nx_P 60 er).2
      dsimp only
      split
      · exact vz_al k _ _ W V (fun i hi => O i (sp_rm_t hi).1)
      · obtain ⟨-, -, V1, -, O1⟩ := sp_step V O hr (fun z => q (Or.inl z)) (Decidable.byContradiction fun z => q (Or.inr z)) (owe := sp_owe W (sp_lF W r (sp_min W x r)))
        exact vz_al k _ _ _ V1 O1
theorem vz_allot {v x : Int32} {W1 : m_W} (V : vz W) (e : sp_allot W x = .inl (v, some W1)) : vz W1 := by
  unfold sp_allot at e
  obtain ⟨h1, e⟩ := if_in e
  obtain ⟨h2, e⟩ := if_in e
  by_cases q : (sp_alA W x).1 = 0
  · rw [if_pos q] at e; cases e
  · rw [if_neg q] at e
    cases e
    refine vz_al 60 0 _ W V (fun i hi => ?_)
    unfold sp_cP at hi
    exact of_decide_eq_true hi
theorem vz_act {x x2 : Int32} {D : Nat → Int32} (V : vz W) (ht : wz_n W 17 < 10) (T : vz_text (fun j => if j = 0 then x else if j = 1 then x2 else D j)) : vz (sp_act W (wz_n W 17) x x2 D) := by
  have n17 : wz_n (sp_act W (wz_n W 17) x x2 D) 17 = wz_n W 17 + 1 := by
    show Int32.toNatClampNeg (sp_act W (wz_n W 17) x x2 D 37 0 0) = _
    rw [sp_act_37]
    exact nI_clamp (by omega)
  have ek : ∀ k i y, ¬ k = 17 → ¬ k = 37 → sp_act W (wz_n W 17) x x2 D k i y = W k i y := fun k i y h1 h2 => sp_act_n h1 h2
  have n : ∀ k, ¬ k = 17 → wz_n (sp_act W (wz_n W 17) x x2 D) k = wz_n W k ∨ k = 17 ∨ 20 + k = 17 := fun k h => by
    by_cases q : 20 + k = 17
    · omega
    · exact Or.inl (wz_n_cong (ek _ _ _ (by omega) (by omega)))
  have n : ∀ k, ¬ k = 17 → wz_n (sp_act W (wz_n W 17) x x2 D) k = wz_n W k := fun k h => by
    rcases n k h with z | z
    · exact z
    · omega
  have o17 : ∀ i, ¬ i = wz_n W 17 → sp_act W (wz_n W 17) x x2 D 17 i = W 17 i := fun i q => sp_act_o q
  have t17 : sp_act W (wz_n W 17) x x2 D 17 (wz_n W 17) = fun c => if c = 0 then x else if c = 1 then x2 else D c := sp_act_t
  have c17 : sp_act W (wz_n W 17) x x2 D 37 0 0 = nI (wz_n W 17 + 1) := sp_act_37
  generalize sp_act W (wz_n W 17) x x2 D = X at n17 ek n o17 t17 c17 ⊢
  have e2 : ∀ i y, X 2 i y = W 2 i y := fun i y => ek 2 i y (by decide) (by decide)
  have e4 : ∀ i y, X 4 i y = W 4 i y := fun i y => ek 4 i y (by decide) (by decide)
  refine ⟨fun k hk => ?_, ⟨?_, ?_, ?_, ?_⟩, fun k hk i y h1 h2 h3 => ?_, fun k hk i hi => ?_, vz_glob_n V.2.2.2.2.1 (fun k i y hk => ek k i y (by omega) (by omega)) (n 10 (by decide)) (n 8 (by decide)), fun s hs j hj => ?_, fun t ht => ?_, fun t ht => ?_⟩
  · by_cases q : k = 17
    · subst q
      rw [n17]
      exact ⟨c17, show wz_n W 17 + 1 ≤ 10 by omega⟩
    · rw [n k q, ek _ _ _ (by omega) (by omega)]
      exact V.1 k hk
  · rw [n 0 (by decide)]; exact V.n0
  · rw [n 5 (by decide)]; exact V.n5
  · rw [n 6 (by decide)]; exact V.n6
  · rw [n 13 (by decide)]; exact V.n13
  · rw [n k (by omega)] at h1
    rw [ek _ _ _ (by omega) (by omega)]
    exact V.z hk h1 h2 h3
  · rw [n k (by omega)] at hi
    rw [show X k i = W k i from funext fun y => ek _ _ _ (by omega) (by omega)]
    exact V.row hk hi
  · rw [n 4 (by decide)] at hs
    rw [e4] at hj
    simp only [n 2 (by decide), e2, e4]
    exact V.2.2.2.2.2.1 s hs j hj
  · rw [n 2 (by decide)] at ht
    show sp_pls X t + sp_cars X t = _
    rw [sp_cars_cong e4 (n 4 (by decide)), sp_pls_e]
    simp only [e2]
    exact V.cons ht
  · rw [n17] at ht
    by_cases q : t = wz_n W 17
    · rw [q, t17]
      exact T
    · rw [o17 t q]
      exact V.text (by omega)
end
