/-! ===== a week: moods and yields, the reference ===== -/
section
variable {s0 : tz_S} {th : Int32} {W : m_W} {h : m_H}
theorem rz_yields (R : rz_N s0 th W h) (V : vz W) (hw : ∀ i, i < wz_n W 10 → W 10 i 1 + 1 ≤ W 14 0 0) : k_ok (F12_goesOn_218 317 0 h) (rz_N s0 th (sp_yds W (wz_n W 10))) := by
  have hn : wz_n W 10 ≤ 10 := V.c (k := 10) (by omega)
  have hc := (V.cap (k := 10) (by omega)).1
  have G := V.2.2.2.2.1
  have e30 : ∀ i, sp_yds W i 30 0 0 = nI (wz_n (sp_yds W i) 10) := fun i => by
    rw [sp_yds_n, sp_yds_k (by decide) (by decide)]
    exact hc
  unfold F12_goesOn_218
  refine wh_i (n := wz_n W 10) (fun (i : Nat) (z : Int32 × m_H) => z.1 = nI i ∧ rz_N s0 th (sp_yds W i) z.2) _ ?_ ?_ m_N 0 _ (N_lt (by omega)) (Nat.zero_le _) ⟨rfl, R⟩
  · rintro i ⟨y, h1⟩ hi ⟨q1, R1⟩
    dsimp only at q1 R1
    subst q1
    have e1 : sp_yds W i 10 i 1 = W 10 i 1 := sp_yds_k (by decide) (by decide) i
    have e2 : sp_yds W i 10 i 2 = W 10 i 2 := sp_yds_k (by decide) (by decide) i
    have ew : sp_yds W i 14 0 0 = W 14 0 0 := sp_yds_k (by decide) (by decide) i
    have r := V.row (k := 10) (by omega) hi
    refine k_m (rz_yd R1 (e30 i) (by rw [sp_yds_n]; exact hi) (by rw [sp_yds_n]; exact hn) (by rw [e1, ew]; exact hw i hi) (by rw [ew]; exact V.wk.2) (by rw [e1]; exact r.2.1) (by rw [e2]; exact r.2.2.1) (by rw [e1]; exact Int32.le_trans (G.2.2.2.1 i hi) V.wk.2)) ?_
    rintro _ ⟨h2, rfl, R2⟩
    exact ⟨rfl, R2⟩
  · rintro ⟨y, h1⟩ ⟨q1, R1⟩
    dsimp only at q1 R1
    subst q1
    unfold F12_goesOn_218b
    dsimp only
    refine k_e (rz_gr1 R1) (k_e (rz_c10 R1) ?_)
    rw [e30, sp_yds_n]
    exact k_t (nI_le (Nat.le_refl _) (by omega)) (k_s R1)
theorem rz_moods (R : rz_N s0 th W h) (V : vz W) (hw : ∀ i, i < wz_n W 10 → W 10 i 1 + 1 ≤ W 14 0 0) : k_ok (F12_goesOn_162 317 1 h) (rz_N s0 th (sp_yds (sp_moods W 5) (wz_n W 10))) := by
  unfold F12_goesOn_162
  refine wh_i (n := 6) (fun (i : Nat) (z : Int32 × m_H) => 1 ≤ i ∧ z.1 = nI i ∧ rz_N s0 th (sp_moods W (i - 1)) z.2) _ ?_ ?_ m_N 1 _ (N_lt (by decide)) (by decide) ⟨Nat.le_refl _, rfl, R⟩
  · rintro i ⟨y, h2⟩ hi ⟨q0, q1, R2⟩
    dsimp only at q1 R2
    subst q1
    refine k_m (rz_mood1 R2 (vz_moods V (i - 1) (by omega)) hi) ?_
    rintro _ ⟨h3, rfl, R3⟩
    refine ⟨by omega, rfl, ?_⟩
    obtain ⟨j, rfl⟩ : ∃ j, i = j + 1 := ⟨i - 1, by omega⟩
    exact R3
  · rintro ⟨y, h2⟩ ⟨q0, q1, R2⟩
    dsimp only at q1 R2
    subst q1
    have V2 := vz_moods V 5 (Nat.le_refl _)
    have n2 : wz_n (sp_moods W 5) 10 = wz_n W 10 := sp_moods_n 5
    have R2 : rz_N s0 th (sp_moods W 5) h2 := R2
    have ek : ∀ k r x, ¬ k = 5 → sp_moods W 5 k r x = W k r x := by
      intro k r x hk
      have : ∀ i, sp_moods W i k r x = W k r x := by
        intro i
        induction i with
        | zero => rfl
        | succ i ih =>
          unfold sp_moods at ih ⊢
          rw [sp_it_s]
          unfold sp_mood
          split
          · exact ih
          · rw [wz_up_k hk]; exact ih
      exact this 5
    have hw2 : ∀ i, i < wz_n (sp_moods W 5) 10 → sp_moods W 5 10 i 1 + 1 ≤ sp_moods W 5 14 0 0 := fun i hi => by
      rw [ek _ _ _ (by decide), ek _ _ _ (by decide)]
      rw [n2] at hi
      exact hw i hi
    rw [← n2]
    generalize sp_moods W 5 = W1 at R2 V2 hw2
    unfold F12_goesOn_162b
    dsimp only
    refine k_t (show (6 : Int32) ≤ nI 6 by decide) ?_
    obtain ⟨z, e, hz⟩ := rz_yields R2 V2 hw2
    exact ⟨.inr z, by rw [e]; rfl, hz⟩
end
