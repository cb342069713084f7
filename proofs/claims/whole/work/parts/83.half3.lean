/-! ===== a week: all lands use, moods, yields, the reference ===== -/
section
variable {s0 : tz_S} {th : Int32} {W : m_W} {h : m_H}
theorem rz_land8 (R : rz_N s0 th W h) (V : vz W) {l : Nat} (hl1 : 1 ≤ l) (hl : l < 6) : k_ok (F12_goesOn_136 317 (nI l) 0 h) (fun z => ∃ h1, z = .inl (nI l + 1, h1) ∧ rz_N s0 th (sp_eatL l W) h1) := by
  rw [sp_eatL_e]
  unfold F12_goesOn_136
  refine wh_i (n := 8) (fun (i : Nat) (z : Int32 × m_H) => z.1 = nI i ∧ rz_N s0 th (sp_eats l W i) z.2) _ ?_ ?_ m_N 0 _ (N_lt (by decide)) (Nat.zero_le _) ⟨rfl, R⟩
  · rintro i ⟨y, h1⟩ hi ⟨q1, R1⟩
    dsimp only at q1 R1
    subst q1
    unfold F12_goesOn_136b
    dsimp only
    refine k_f (show ¬ (8 : Int32) ≤ nI i from nI_ge hi (by decide)) (k_b (rz_eats R1 (vz_eats V hl i (by omega)) hl1 hl hi) ?_)
    intro h2 R2
    refine k_s ⟨(nI_succ i).symm, ?_⟩
    unfold sp_eats at R2 ⊢
    rw [sp_it_s]
    exact R2
  · rintro ⟨y, h1⟩ ⟨q1, R1⟩
    dsimp only at q1 R1
    subst q1
    unfold F12_goesOn_136b
    dsimp only
    exact k_t (show (8 : Int32) ≤ nI 8 by decide) (k_s ⟨h1, rfl, R1⟩)
theorem sp_lands_k {k r x : Nat} (h2 : ¬ k = 2) (h5 : ¬ k = 5) : ∀ i, sp_lands W i k r x = W k r x
  | 0 => rfl
  | i + 1 => by
    rw [sp_lands_s, sp_eatL_e, sp_eats_k h2 (fun q => h5 q.1)]
    exact sp_lands_k h2 h5 i
theorem rz_half (R : rz_N s0 th W h) (V : vz W) (hw : ∀ i, i < wz_n W 10 → W 10 i 1 + 1 ≤ W 14 0 0) : k_ok (F12_goesOn_128 317 1 h) (rz_N s0 th (sp_half W)) := by
  unfold F12_goesOn_128
  refine wh_i (n := 6) (fun (i : Nat) (z : Int32 × m_H) => 1 ≤ i ∧ z.1 = nI i ∧ rz_N s0 th (sp_lands W (i - 1)) z.2) _ ?_ ?_ m_N 1 _ (N_lt (by decide)) (by decide) ⟨Nat.le_refl _, rfl, R⟩
  · rintro i ⟨y, h1⟩ hi ⟨q0, q1, R1⟩
    dsimp only at q1 R1
    subst q1
    unfold F12_goesOn_128b
    dsimp only
    refine k_f (show ¬ (6 : Int32) ≤ nI i from nI_ge hi (by decide)) (k_m (rz_land8 R1 (vz_lands V (i - 1) (by omega)) q0 hi) ?_)
    rintro _ ⟨h2, rfl, R2⟩
    refine ⟨by omega, (nI_succ i).symm, ?_⟩
    obtain ⟨j, rfl⟩ : ∃ j, i = j + 1 := ⟨i - 1, by omega⟩
    show rz_N s0 th (sp_lands W (j + 1)) h2
    rw [sp_lands_s]
    exact R2
  · rintro ⟨y, h1⟩ ⟨q0, q1, R1⟩
    dsimp only at q1 R1
    subst q1
    have V1 := vz_lands V 5 (Nat.le_refl _)
    have n1 : wz_n (sp_lands W 5) 10 = wz_n W 10 := sp_lands_n 5
    have R1 : rz_N s0 th (sp_lands W 5) h1 := R1
    have hw1 : ∀ i, i < wz_n (sp_lands W 5) 10 → sp_lands W 5 10 i 1 + 1 ≤ sp_lands W 5 14 0 0 := fun i hi => by
      rw [sp_lands_k (by decide) (by decide), sp_lands_k (by decide) (by decide)]
      rw [n1] at hi
      exact hw i hi
    unfold sp_half
    rw [← n1]
    generalize sp_lands W 5 = W1 at R1 V1 hw1
    unfold F12_goesOn_128b
    dsimp only
    refine k_t (show (6 : Int32) ≤ nI 6 by decide) ?_
    obtain ⟨z, e, hz⟩ := rz_moods R1 V1 hw1
    exact ⟨.inr z, by rw [e]; rfl, hz⟩
end
