/-! ===== keeping what always holds: changes of one kind ===== -/
section
variable {W W' : m_W}
theorem wz_n_cong {k : Nat} (e : W' (20 + k) 0 0 = W (20 + k) 0 0) : wz_n W' k = wz_n W k := by
  unfold wz_n
  rw [e]
theorem vz_glob_cong (G : vz_glob W) (e : ∀ k i x, k = 6 ∨ k = 8 ∨ k = 10 ∨ k = 14 → W' k i x = W k i x) (en : ∀ k, W' (20 + k) 0 0 = W (20 + k) 0 0) : vz_glob W' := by
  have e6 : ∀ i x, W' 6 i x = W 6 i x := fun i x => e 6 i x (by decide)
  have e8 : ∀ i x, W' 8 i x = W 8 i x := fun i x => e 8 i x (by decide)
  have e10 : ∀ i x, W' 10 i x = W 10 i x := fun i x => e 10 i x (by decide)
  have e14 : ∀ i x, W' 14 i x = W 14 i x := fun i x => e 14 i x (by decide)
  unfold vz_glob at G ⊢
  rw [wz_n_cong (en 10), wz_n_cong (en 8)]
  simp only [e6, e8, e10, e14]
  exact G
/-- a change that leaves lots, ships, texts and counts -/
theorem vz.same (V : vz W) (en : ∀ k, W' (20 + k) 0 0 = W (20 + k) 0 0) (e2 : ∀ i x, W' 2 i x = W 2 i x) (e4 : ∀ i x, W' 4 i x = W 4 i x) (e17 : ∀ i x, W' 17 i x = W 17 i x) (z : ∀ k, k < 14 → ∀ i x, wz_n W k ≤ i → W' k i x = W k i x) (r : ∀ k, k < 14 → ¬ k = 2 → ¬ k = 4 → ∀ i, i < wz_n W k → vz_row k (W' k i)) (g : vz_glob W') : vz W' := by
  have n : ∀ k, wz_n W' k = wz_n W k := fun k => wz_n_cong (en k)
  refine ⟨fun k hk => ?_, ⟨?_, ?_, ?_, ?_⟩, fun k hk i x h1 h2 h3 => ?_, fun k hk i hi => ?_, g, fun s hs j hj => ?_, fun t ht => ?_, fun t ht => ?_⟩
  · rw [n, en]; exact V.1 k hk
  · rw [n]; exact V.n0
  · rw [n]; exact V.n5
  · rw [n]; exact V.n6
  · rw [n]; exact V.n13
  · rw [n] at h1
    rw [z k hk i x h1]
    exact V.z hk h1 h2 h3
  · rw [n] at hi
    by_cases q2 : k = 2
    · subst q2
      rw [show W' 2 i = W 2 i from funext (e2 i)]
      exact V.row hk hi
    · by_cases q4 : k = 4
      · subst q4
        rw [show W' 4 i = W 4 i from funext (e4 i)]
        exact V.row hk hi
      · exact r k hk q2 q4 i hi
  · rw [n] at hs
    rw [e4] at hj
    simp only [n, e4, e2]
    exact V.2.2.2.2.2.1 s hs j hj
  · rw [n] at ht
    show sp_pls W' t + sp_cars W' t = _
    rw [sp_cars_cong e4 (n 4), sp_pls_e, e2]
    simp only [e2]
    exact V.cons ht
  · rw [n] at ht
    rw [show W' 17 t = W 17 t from funext (e17 t)]
    exact V.text ht
/-- one table changed, its rows as they ought to be -/
theorem vz.rowUp (V : vz W) {k : Nat} (hk : k < 14) (h2 : ¬ k = 2) (h4 : ¬ k = 4) (e : ∀ k' i x, ¬ k' = k → W' k' i x = W k' i x) (z : ∀ i x, wz_n W k ≤ i → W' k i x = W k i x) (r : ∀ i, i < wz_n W k → vz_row k (W' k i)) (g : vz_glob W') : vz W' := by
  refine V.same (fun k' => e _ _ _ (by omega)) (fun i x => e _ _ _ (by omega)) (fun i x => e _ _ _ (by omega)) (fun i x => e _ _ _ (by omega)) (fun k' hk' i x h => ?_) (fun k' hk' _ _ i hi => ?_) g
  · by_cases q : k' = k
    · subst q; exact z i x h
    · exact e _ _ _ q
  · by_cases q : k' = k
    · subst q; exact r i hi
    · rw [show W' k' i = W k' i from funext fun x => e _ _ _ q]
      exact V.row hk' hi
/-- week, steel, hands, ended, brought -/
theorem vz.up14 (V : vz W) (e : ∀ k i x, ¬ k = 14 → W' k i x = W k i x) (g : vz_glob W') : vz W' :=
  V.same (fun k' => e _ _ _ (by omega)) (fun i x => e _ _ _ (by decide)) (fun i x => e _ _ _ (by decide)) (fun i x => e _ _ _ (by decide)) (fun k' hk' i x h => e _ _ _ (by omega)) (fun k' hk' _ _ i hi => by
    rw [show W' k' i = W k' i from funext fun x => e _ _ _ (by omega)]
    exact V.row hk' hi) g
/-- one lot changed -/
theorem vz.lotUp (V : vz W) {t : Nat} (ht : t < wz_n W 2) (e : ∀ k i x, ¬ (k = 2 ∧ i = t) → W' k i x = W k i x) (hl : vz_lot (W' 2 t)) (h2 : W' 2 t 2 = W 2 t 2) (h3 : W' 2 t 3 = W 2 t 3) (hc : sp_pls W' t - (W' 2 t 1).toInt = sp_pls W t - (W 2 t 1).toInt) : vz W' := by
  have en : ∀ k, W' (20 + k) 0 0 = W (20 + k) 0 0 := fun k => e _ _ _ (fun q => by omega)
  have n : ∀ k, wz_n W' k = wz_n W k := fun k => wz_n_cong (en k)
  have e4 : ∀ i x, W' 4 i x = W 4 i x := fun i x => e _ _ _ (fun q => by omega)
  have f2 : ∀ i, W' 2 i 2 = W 2 i 2 := fun i => by
    by_cases q : i = t
    · subst q; exact h2
    · exact e _ _ _ (fun x => q x.2)
  have f3 : ∀ i, W' 2 i 3 = W 2 i 3 := fun i => by
    by_cases q : i = t
    · subst q; exact h3
    · exact e _ _ _ (fun x => q x.2)
  refine ⟨fun k hk => ?_, ⟨?_, ?_, ?_, ?_⟩, fun k hk i x h1 h2 h3 => ?_, fun k hk i hi => ?_, vz_glob_cong V.2.2.2.2.1 (fun k i x hk => e _ _ _ (fun q => by omega)) en, fun s hs j hj => ?_, fun i hi => ?_, fun i hi => ?_⟩
  · rw [n, en]; exact V.1 k hk
  · rw [n]; exact V.n0
  · rw [n]; exact V.n5
  · rw [n]; exact V.n6
  · rw [n]; exact V.n13
  · rw [n] at h1
    rw [e k i x (fun q => by obtain ⟨q1, q2⟩ := q; subst q1 q2; omega)]
    exact V.z hk h1 h2 h3
  · rw [n] at hi
    by_cases q : k = 2 ∧ i = t
    · obtain ⟨q1, q2⟩ := q
      subst q1 q2
      exact hl
    · rw [show W' k i = W k i from funext fun x => e _ _ _ q]
      exact V.row hk hi
  · rw [n] at hs
    rw [e4] at hj
    simp only [n, e4, f2, f3]
    exact V.2.2.2.2.2.1 s hs j hj
  · rw [n] at hi
    show sp_pls W' i + sp_cars W' i = _
    rw [sp_cars_cong e4 (n 4)]
    have C := V.cons hi
    by_cases q : i = t
    · subst q
      omega
    · have e2 : ∀ x, W' 2 i x = W 2 i x := fun x => e _ _ _ (fun y => q y.2)
      rw [sp_pls_e, e2]
      simp only [e2]
      exact C
  · rw [n] at hi
    rw [show W' 17 i = W 17 i from funext fun x => e _ _ _ (fun q => by omega)]
    exact V.text hi
end
