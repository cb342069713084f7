/-! ===== a week: what always holds, behind a ship's end of way ===== -/
theorem si_one {f g : Nat → Int} {s : Nat} : ∀ {n : Nat}, s < n → (∀ i, i < n → ¬ i = s → f i = g i) → sp_it (fun i a => a + f i) n 0 = sp_it (fun i a => a + g i) n 0 - g s + f s
  | 0, h, _ => absurd h (Nat.not_lt_zero s)
  | n + 1, h, e => by
    show sp_it (fun i a => a + f i) n 0 + f n = sp_it (fun i a => a + g i) n 0 + g n - g s + f s
    by_cases q : s = n
    · subst q
      rw [si_if (f := fun i a => a + f i) (g := fun i a => a + g i) (n := s) (fun i hi a => by rw [e i (by omega) (by omega)])]
      omega
    · rw [si_one (n := n) (by omega) (fun i hi hq => e i (by omega) hq), e n (by omega) (fun x => q x.symm)]
      omega
section
variable {W : m_W}
theorem vz.clr (V : vz W) {W' : m_W} {s p : Nat} (hs : s < wz_n W 4) (hp : p = 3 ∨ p = 6 ∨ (p = 7 ∧ W 4 s 2 = 3)) (en : ∀ k, W' (20 + k) 0 0 = W (20 + k) 0 0) (e : ∀ k i x, ¬ k = 2 → ¬ k = 4 → ¬ k = 5 → ¬ k = 6 → W' k i x = W k i x) (e2 : ∀ i x, ¬ x = 12 → ¬ x = 10 + p → W' 2 i x = W 2 i x) (e2z : ∀ i x, wz_n W 2 ≤ i → W' 2 i x = W 2 i x) (ep : ∀ t, t < wz_n W 2 → (W' 2 t (10 + p)).toInt = (W 2 t (10 + p)).toInt + sp_car W s t) (e4 : ∀ i x, ¬ i = s → W' 4 i x = W 4 i x) (e40 : W' 4 s 0 = W 4 s 0) (e46 : W' 4 s 6 = 0) (e42 : 0 ≤ W' 4 s 2 ∧ W' 4 s 2 ≤ 4) (e43 : 0 ≤ W' 4 s 3 ∧ W' 4 s 3 ≤ 5) (e423 : W' 4 s 2 = 1 ∨ W' 4 s 2 = 2 ∨ W' 4 s 2 = 3 → 1 ≤ W' 4 s 3) (r5 : ∀ i, i < 6 → vz_row 5 (W' 5 i)) (r6 : ∀ i, i < 48 → vz_row 6 (W' 6 i)) (g : vz_glob W') : vz W' := by
  have hn : wz_n W 2 ≤ 100 := V.c (k := 2) (by omega)
  have n : ∀ k, wz_n W' k = wz_n W k := fun k => wz_n_cong (en k)
  have hp9 : p < 9 ∧ ¬ p = 2 := by omega
  have f2 : ∀ i, W' 2 i 2 = W 2 i 2 := fun i => e2 i 2 (by decide) (by omega)
  have f3 : ∀ i, W' 2 i 3 = W 2 i 3 := fun i => e2 i 3 (by decide) (by omega)
  refine ⟨fun k hk => ?_, ⟨?_, ?_, ?_, ?_⟩, fun k hk i x h1 h2 h3 => ?_, fun k hk i hi => ?_, g, fun s' hs' j hj => ?_, fun t ht => ?_, fun t ht => ?_⟩
  · rw [n, en]; exact V.1 k hk
  · rw [n]; exact V.n0
  · rw [n]; exact V.n5
  · rw [n]; exact V.n6
  · rw [n]; exact V.n13
  · rw [n] at h1
    by_cases q2 : k = 2
    · subst q2
      rw [e2z i x h1]
      exact V.z hk h1 h2 h3
    by_cases q4 : k = 4
    · subst q4
      rw [e4 i x (by omega)]
      exact V.z hk h1 h2 h3
    by_cases q5 : k = 5
    · subst q5
      rw [V.n5] at h1
      have h2 : i < 6 := h2
      omega
    by_cases q6 : k = 6
    · subst q6
      rw [V.n6] at h1
      have h2 : i < 48 := h2
      omega
    rw [e k i x q2 q4 q5 q6]
    exact V.z hk h1 h2 h3
  · rw [n] at hi
    by_cases q2 : k = 2
    · subst q2
      have L : vz_lot (W 2 i) := V.lot hi
      have P := V.pl hi hp9.1 hp9.2
      have C := ep i hi
      have cn := V.car hs (t := i)
      show vz_lot (W' 2 i)
      have k : ∀ x, ¬ x = 12 → ¬ x = 10 + p → W' 2 i x = W 2 i x := e2 i
      obtain ⟨a0, a1, a2, a3, a5, a6, a7, a19, a9, as, al, ab, a17, ap⟩ := L
      unfold vz_lot
      rw [k 0 (by decide) (by omega), k 1 (by decide) (by omega), k 2 (by decide) (by omega), k 3 (by decide) (by omega), k 5 (by decide) (by omega), k 6 (by decide) (by omega), k 7 (by decide) (by omega), k 19 (by decide) (by omega), k 9 (by decide) (by omega), k 10 (by decide) (by omega), k 11 (by decide) (by omega)]
      refine ⟨a0, a1, a2, a3, a5, a6, a7, a19, a9, as, al, ab, fun y => ?_, fun p' hp' h2 => ?_⟩
      · by_cases q : p = 7
        · subst q
          have st : W 4 s 2 = 3 := by
            rcases hp with q | q | q
            · omega
            · omega
            · exact q.2
          have z : sp_car W s i = 0 := by
            unfold sp_car
            have zz : ∀ m, m ≤ (W 4 s 6).toNatClampNeg → sp_it (fun j (a : Int) => a + (if W 4 s (7 + 2 * j) = nI i then (W 4 s (8 + 2 * j)).toInt else 0)) m 0 = 0 := by
              intro m
              induction m with
              | zero => intro _; rfl
              | succ m ih =>
                intro h
                rw [sp_it_s, ih (by omega)]
                obtain ⟨⟨t, h1, h2, -, -, -, -, h7⟩, -⟩ := V.2.2.2.2.2.1 s hs m (by omega)
                rw [h2, if_neg (fun x => by
                  have := nI_e (by omega) (by omega) x
                  subst this
                  rw [h7 st] at y
                  exact absurd y (by decide))]
                rfl
            exact zz _ (Nat.le_refl _)
          have b : W 2 i 17 = 0 := a17 y
          apply Int32.toInt_inj.mp
          have C : (W' 2 i 17).toInt = (W 2 i 17).toInt + sp_car W s i := C
          rw [C, b, z]
          rfl
        · rw [k 17 (by decide) (by omega)]
          exact a17 y
      · by_cases q : p' = p
        · subst q
          refine Int32.le_iff_toInt_le.mpr ?_
          rw [C]
          show (0 : Int) ≤ _
          omega
        · rw [k (10 + p') (by omega) (by omega)]
          exact ap p' hp' h2
    by_cases q4 : k = 4
    · subst q4
      by_cases q : i = s
      · subst q
        show (1 ≤ W' 4 i 0 ∧ W' 4 i 0 ≤ 5000) ∧ (0 ≤ W' 4 i 2 ∧ W' 4 i 2 ≤ 4) ∧ (0 ≤ W' 4 i 3 ∧ W' 4 i 3 ≤ 5) ∧ (0 ≤ W' 4 i 6 ∧ W' 4 i 6 ≤ 8) ∧ (W' 4 i 2 = 1 ∨ W' 4 i 2 = 2 ∨ W' 4 i 2 = 3 → 1 ≤ W' 4 i 3)
        rw [e40, e46]
        exact ⟨(V.row hk hi).1, e42, e43, ⟨by decide, by decide⟩, e423⟩
      · rw [show W' 4 i = W 4 i from funext fun x => e4 i x q]
        exact V.row hk hi
    by_cases q5 : k = 5
    · subst q5
      exact r5 i (by rw [V.n5] at hi; exact hi)
    by_cases q6 : k = 6
    · subst q6
      exact r6 i (by rw [V.n6] at hi; exact hi)
    rw [show W' k i = W k i from funext fun x => e k i x q2 q4 q5 q6]
    exact V.row hk hi
  · rw [n] at hs'
    by_cases q : s' = s
    · subst q
      rw [e46] at hj
      exact absurd hj (Nat.not_lt_zero j)
    · have e4' : ∀ x, W' 4 s' x = W 4 s' x := fun x => e4 s' x q
      rw [e4'] at hj
      simp only [n, e4', f2, f3]
      exact V.2.2.2.2.2.1 s' hs' j hj
  · rw [n] at ht
    show sp_pls W' t + sp_cars W' t = _
    have c0 : sp_car W' s t = 0 := by
      unfold sp_car
      rw [e46]
      rfl
    have cs : sp_cars W' t = sp_cars W t - sp_car W s t + sp_car W' s t := by
      unfold sp_cars
      rw [n]
      exact si_one (f := fun s => sp_car W' s t) (g := fun s => sp_car W s t) hs (fun i _ hi => sp_car_cong (fun c => e4 i c hi))
    have C := ep t ht
    have B := V.cons ht
    rw [e2 t 1 (by decide) (by omega), cs, c0]
    rw [sp_pls_e] at B ⊢
    rw [e2 t 10 (by decide) (by omega), e2 t 11 (by decide) (by omega), e2 t 14 (by decide) (by omega), e2 t 15 (by decide) (by omega), e2 t 18 (by decide) (by omega)]
    rcases hp with q | q | ⟨q, -⟩
    · subst q
      rw [e2 t 16 (by decide) (by decide), e2 t 17 (by decide) (by decide)]
      have C : (W' 2 t 13).toInt = (W 2 t 13).toInt + sp_car W s t := C
      omega
    · subst q
      rw [e2 t 13 (by decide) (by decide), e2 t 17 (by decide) (by decide)]
      have C : (W' 2 t 16).toInt = (W 2 t 16).toInt + sp_car W s t := C
      omega
    · subst q
      rw [e2 t 13 (by decide) (by decide), e2 t 16 (by decide) (by decide)]
      have C : (W' 2 t 17).toInt = (W 2 t 17).toInt + sp_car W s t := C
      omega
  · rw [n] at ht
    rw [show W' 17 t = W 17 t from funext fun x => e 17 t x (by decide) (by decide) (by decide) (by decide)]
    exact V.text ht
/-- what is landed stays within bounds, moods too -/
theorem sp_tm_b (V : vz W) {s l : Nat} (hs : s < wz_n W 4) (hl : l < 6) : ∀ i, i ≤ sp_m W s → (∀ r, r < 48 → (W 6 r 1).toInt ≤ (sp_tm W s l i W 6 r 1).toInt ∧ (sp_tm W s l i W 6 r 1).toInt ≤ (W 6 r 1).toInt + 1000 * i) ∧ -100 ≤ (sp_tm W s l i W 5 l 1).toInt ∧ (sp_tm W s l i W 5 l 1).toInt ≤ 0
  | 0, _ => by
    have r := V.row (k := 5) (by omega) (r := l) (by rw [V.n5]; exact hl)
    have r : W 5 l 1 ≤ 0 ∧ (0 ≤ W 5 l 3 ∧ W 5 l 3 ≤ 100000) ∧ -100 ≤ W 5 l 1 := r
    exact ⟨fun r _ => ⟨Int.le_refl _, by show (W 6 r 1).toInt ≤ _ + 1000 * 0; omega⟩, Int32.le_iff_toInt_le.mp r.2.2, Int32.le_iff_toInt_le.mp r.1⟩
  | i + 1, h => by
    obtain ⟨b6, b5, b5'⟩ := sp_tm_b V hs hl i (by omega)
    obtain ⟨e, ht⟩ := V.cl hs (show i < sp_m W s by omega)
    have cr := V.cr hs (show i < sp_m W s by omega)
    have lb := (V.lot ht).2.2.2.2.2.2.1
    have G := V.2.2.2.2.1
    have m8 := (V.has hs).2
    have m8 : sp_m W s ≤ 8 := m8
    have lb1 := i_nn lb.1
    have lb2 : (W 2 (sp_cl W s i) 7).toInt ≤ 9 := Int32.le_iff_toInt_le.mp lb.2
    have wk : (W 14 0 0).toInt ≤ 500 := Int32.le_iff_toInt_le.mp V.wk.2
    have es : sp_tm W s l (i + 1) W = sp_tm1 W s l i (sp_tm W s l i W) := rfl
    rw [es]
    generalize sp_tm W s l i W = X at b6 b5 b5'
    unfold sp_tm1
    refine ⟨fun r hr => ?_, ?_⟩
    · rw [wz_up_k (show ¬ 6 = 5 by decide)]
      obtain ⟨c1, c2⟩ := b6 r hr
      obtain ⟨d1, d2⟩ := G.2.2.2.2.2 r hr
      have d1 := i_nn d1
      by_cases q : r = sp_tr W s l i
      · subst q
        rw [wz_up_s, i_add (by omega) (by omega)]
        omega
      · rw [wz_up_r q]
        omega
    · rw [wz_up_s]
      have sb : (X 5 l 1 - W 2 (sp_cl W s i) 7).toInt = (X 5 l 1).toInt - (W 2 (sp_cl W s i) 7).toInt := i_sub (by omega) (by omega)
      unfold m_max
      split
      · next q =>
        have := Int32.lt_iff_toInt_lt.mp q
        rw [sb] at this ⊢
        have c : (-100 : Int32).toInt = -100 := rfl
        rw [c] at this
        omega
      · exact ⟨by decide, by decide⟩
end
