/-! ===== keeping what always holds: a row more ===== -/
section
variable {W W' : m_W}
theorem vz_glob_n (G : vz_glob W) (e : ∀ k i x, k = 6 ∨ k = 8 ∨ k = 10 ∨ k = 14 → W' k i x = W k i x) (n10 : wz_n W' 10 = wz_n W 10) (n8 : wz_n W' 8 = wz_n W 8) : vz_glob W' := by
  have e6 : ∀ i x, W' 6 i x = W 6 i x := fun i x => e 6 i x (by decide)
  have e8 : ∀ i x, W' 8 i x = W 8 i x := fun i x => e 8 i x (by decide)
  have e10 : ∀ i x, W' 10 i x = W 10 i x := fun i x => e 10 i x (by decide)
  have e14 : ∀ i x, W' 14 i x = W 14 i x := fun i x => e 14 i x (by decide)
  unfold vz_glob at G ⊢
  rw [n10, n8]
  simp only [e6, e8, e10, e14]
  exact G
theorem sp_car_0 {s t : Nat} (h : (W 4 s 6).toNatClampNeg = 0) : sp_car W s t = 0 := by
  unfold sp_car
  rw [h]
  rfl
theorem si_e {f g : Nat → Int} : ∀ {n : Nat}, (∀ i, i < n → f i = g i) → sp_it (fun i a => a + f i) n 0 = sp_it (fun i a => a + g i) n 0
  | 0, _ => rfl
  | n + 1, h => by
    show sp_it (fun i a => a + f i) n 0 + f n = sp_it (fun i a => a + g i) n 0 + g n
    rw [si_e (fun i hi => h i (by omega)), h n (by omega)]
/-- one row more in a table -/
theorem vz.grow (V : vz W) {k : Nat} (hk : k < 14) (hf : ¬ (k = 0 ∨ k = 5 ∨ k = 6 ∨ k = 13)) (hn : wz_n W k < wz_cap k) (h100 : wz_n W k < 1000) (en : W' (20 + k) 0 0 = nI (wz_n W k + 1)) (e : ∀ k' i x, ¬ k' = 20 + k → ¬ (k' = k ∧ i = wz_n W k) → W' k' i x = W k' i x) (r : vz_row k (W' k (wz_n W k))) (g : vz_glob W') (sh : k = 4 → (W' 4 (wz_n W 4) 6).toNatClampNeg = 0) (lt : k = 2 → sp_pls W' (wz_n W 2) = (W' 2 (wz_n W 2) 1).toInt) : vz W' := by
  have n1 : wz_n W' k = wz_n W k + 1 := by
    show Int32.toNatClampNeg (W' (20 + k) 0 0) = _
    rw [en, nI_clamp (by omega)]
  have no : ∀ k', k' < 18 → ¬ k' = k → wz_n W' k' = wz_n W k' := fun k' h q => wz_n_cong (e _ _ _ (by omega) (by omega))
  have n2 : wz_n W 2 ≤ 100 := V.c (k := 2) (by omega)
  have e4 : ∀ s, s < wz_n W 4 → ∀ x, W' 4 s x = W 4 s x := fun s hs x => e 4 s x (by omega) (fun q => by
    obtain ⟨q1, q2⟩ := q
    subst q1
    omega)
  have e2 : ∀ t, t < wz_n W 2 → ∀ x, W' 2 t x = W 2 t x := fun t ht x => e 2 t x (by omega) (fun q => by
    obtain ⟨q1, q2⟩ := q
    subst q1
    omega)
  have lw : ∀ {t}, t < wz_n W' 2 → t < wz_n W 2 ∨ k = 2 ∧ t = wz_n W 2 := by
    intro t ht
    by_cases q : k = 2
    · subst q
      rw [n1] at ht
      omega
    · rw [no 2 (by omega) (fun z => q z.symm)] at ht
      exact Or.inl ht
  have w2 : wz_n W 2 ≤ wz_n W' 2 := by
    by_cases q : k = 2
    · subst q
      omega
    · rw [no 2 (by omega) (fun z => q z.symm)]
      omega
  have cars : ∀ t, sp_cars W' t = sp_cars W t := by
    intro t
    unfold sp_cars
    by_cases q : k = 4
    · subst q
      rw [n1]
      show sp_it (fun s a => a + sp_car W' s t) (wz_n W 4) 0 + sp_car W' (wz_n W 4) t = _
      rw [sp_car_0 (sh rfl), Int.add_zero]
      exact si_e (fun s hs => sp_car_cong (e4 s hs))
    · rw [no 4 (by omega) (fun z => q z.symm)]
      exact si_e (fun s hs => sp_car_cong (e4 s hs))
  refine ⟨fun k' hk' => ?_, ⟨?_, ?_, ?_, ?_⟩, fun k' hk' i x h1 h2 h3 => ?_, fun k' hk' i hi => ?_, g, fun s hs j hj => ?_, fun t ht => ?_, fun t ht => ?_⟩
  · by_cases q : k' = k
    · subst q
      rw [n1, en]
      exact ⟨rfl, by omega⟩
    · rw [no k' (by omega) q, e _ _ _ (by omega) (by omega)]
      exact V.1 k' hk'
  · rw [no 0 (by omega) (by omega)]; exact V.n0
  · rw [no 5 (by omega) (by omega)]; exact V.n5
  · rw [no 6 (by omega) (by omega)]; exact V.n6
  · rw [no 13 (by omega) (by omega)]; exact V.n13
  · by_cases q : k' = k
    · subst q
      rw [n1] at h1
      rw [e _ _ _ (by omega) (by omega)]
      exact V.z hk (by omega) h2 h3
    · rw [no k' (by omega) q] at h1
      rw [e _ _ _ (by omega) (fun z => q z.1)]
      exact V.z hk' h1 h2 h3
  · by_cases q : k' = k
    · subst q
      rw [n1] at hi
      by_cases q2 : i = wz_n W k'
      · subst q2
        exact r
      · rw [show W' k' i = W k' i from funext fun x => e _ _ _ (by omega) (fun z => q2 z.2)]
        exact V.row hk (by omega)
    · rw [no k' (by omega) q] at hi
      rw [show W' k' i = W k' i from funext fun x => e _ _ _ (by omega) (fun z => q z.1)]
      exact V.row hk' hi
  · have hs' : s < wz_n W 4 := by
      by_cases q : k = 4
      · subst q
        rw [n1] at hs
        by_cases q2 : s = wz_n W 4
        · rw [q2, sh rfl] at hj
          omega
        · omega
      · rw [no 4 (by omega) (fun z => q z.symm)] at hs
        exact hs
    rw [e4 s hs'] at hj
    obtain ⟨⟨t, ht, et, nz, c0, c1, c2, c3⟩, nn⟩ := V.2.2.2.2.2.1 s hs' j hj
    obtain ⟨t1, ht1, et1⟩ := V.ship hs' (show 0 < (W 4 s 6).toNatClampNeg by omega)
    have et1 : W 4 s 7 = nI t1 := et1
    refine ⟨⟨t, by omega, ?_, ?_, ?_, ?_, ?_, ?_⟩, ?_⟩
    · rw [e4 s hs']; exact et
    · rw [e2 t ht]; exact nz
    · rw [e4 s hs', e4 s hs', e2 t ht, e2 t ht]
      refine fun z => ⟨(c0 z).1, fun t0 ht0 e0 => ?_⟩
      have : t0 = t1 := by
        rw [et1] at e0
        have l := lw ht0
        exact (nI_e (by omega) (by omega) e0).symm
      rw [this, e2 t1 ht1]
      exact (c0 z).2 t1 ht1 et1
    · rw [e4 s hs', e4 s hs', e2 t ht, e2 t ht]; exact c1
    · rw [e4 s hs', e2 t ht]; exact c2
    · rw [e4 s hs', e2 t ht]; exact c3
    · rw [e4 s hs']; exact nn
  · show sp_pls W' t + sp_cars W' t = _
    rw [cars]
    rcases lw ht with h | ⟨q1, q2⟩
    · rw [sp_pls_e, e2 t h, e2 t h, e2 t h, e2 t h, e2 t h, e2 t h, e2 t h, e2 t h, e2 t h]
      exact V.cons h
    · rw [q2, lt q1, sp_cars_0 V (Nat.le_refl _) (by omega), Int.add_zero]
  · rw [no 17 (by omega) (by omega)] at ht
    rw [show W' 17 t = W 17 t from funext fun x => e _ _ _ (by omega) (by omega)]
    exact V.text ht
theorem sp_sets_x {k r c : Nat} : ∀ {l : List (Nat × Int32)} {W : m_W}, sp_sets W k r l k r c = l.foldl (fun v p => if c = p.1 then p.2 else v) (W k r c)
  | [], _ => rfl
  | p :: l, W => by
    show sp_sets (wz_up W k r p.1 p.2) k r l k r c = l.foldl _ (if c = p.1 then p.2 else W k r c)
    rw [sp_sets_x, wz_up_x]
theorem sp_sets_o {k r k' r' c' : Nat} (h : ¬ (k' = k ∧ r' = r)) : ∀ {l : List (Nat × Int32)} {W : m_W}, sp_sets W k r l k' r' c' = W k' r' c'
  | [], _ => rfl
  | p :: l, W => by
    show sp_sets (wz_up W k r p.1 p.2) k r l k' r' c' = _
    rw [sp_sets_o h]
    exact if_neg (fun z => h ⟨z.1, z.2.1⟩)
theorem sp_new_x {k c : Nat} {l : List (Nat × Int32)} : sp_new W k l k (wz_n W k) c = l.foldl (fun v p => if c = p.1 then p.2 else v) (W k (wz_n W k) c) := by
  unfold sp_new
  rw [sp_sets_x, wz_up_k (by omega)]
theorem sp_new_o {k k' i x : Nat} {l : List (Nat × Int32)} (h1 : ¬ k' = 20 + k) (h2 : ¬ (k' = k ∧ i = wz_n W k)) : sp_new W k l k' i x = W k' i x := by
  unfold sp_new
  rw [sp_sets_o h2, wz_up_k h1]
theorem sp_new_c {k : Nat} {l : List (Nat × Int32)} : sp_new W k l (20 + k) 0 0 = nI (wz_n W k + 1) := by
  unfold sp_new
  rw [sp_sets_o (fun z => by omega), wz_up_s]
/-- a row more that bears on nothing else -/
theorem vz.plain (V : vz W) {k : Nat} (hk : k < 14) (hf : ¬ (k = 0 ∨ k = 5 ∨ k = 6 ∨ k = 13)) (hg : ¬ (k = 2 ∨ k = 4 ∨ k = 8 ∨ k = 10)) (hn : wz_n W k < wz_cap k) (h100 : wz_n W k < 1000) {l : List (Nat × Int32)} (r : vz_row k (sp_new W k l k (wz_n W k))) : vz (sp_new W k l) :=
  V.grow hk hf hn h100 sp_new_c (fun k' i x h1 h2 => sp_new_o h1 h2) r (vz_glob_n V.2.2.2.2.1 (fun k' i x h => sp_new_o (by omega) (by omega)) (wz_n_cong (sp_new_o (by omega) (by omega))) (wz_n_cong (sp_new_o (by omega) (by omega)))) (fun z => by omega) (fun z => by omega)
theorem i_one {x : Int32} (h : 0 ≤ x) (n : ¬ x = 0) : 1 ≤ x := by
  apply Int32.le_iff_toInt_le.mpr
  have a : 0 ≤ x.toInt := Int32.le_iff_toInt_le.mp h
  have b : ¬ x.toInt = 0 := fun e => n (Int32.toInt_inj.mp e)
  show 1 ≤ x.toInt
  omega
end
