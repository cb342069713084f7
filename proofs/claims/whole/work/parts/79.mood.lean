/-! ===== a week: moods ===== -/
def sp_mood (l : Nat) (W : m_W) : m_W := if 0 ≤ W 5 l 1 then W else wz_up W 5 l 1 (W 5 l 1 + 1)
/-- lands 1 to i -/
def sp_moods (W : m_W) (i : Nat) : m_W := sp_it (fun j => sp_mood (j + 1)) i W
section
variable {s0 : tz_S} {th : Int32} {W : m_W} {h : m_H}
theorem vz_mood (V : vz W) {l : Nat} (hl : l < 6) : vz (sp_mood l W) := by
  unfold sp_mood
  split
  · exact V
  · next q =>
    refine V.rowUp (k := 5) (by decide) (by decide) (by decide) (fun k' i x hk => wz_up_k hk) (fun i x hi => wz_up_r (by rw [V.n5] at hi; omega)) (fun i hi => ?_) (vz_glob_cong V.2.2.2.2.1 (fun k i x hk => wz_up_k (by omega)) (fun k => wz_up_k (by omega)))
    have r := V.row (k := 5) (by omega) hi
    have r : W 5 i 1 ≤ 0 ∧ (0 ≤ W 5 i 3 ∧ W 5 i 3 ≤ 100000) ∧ -100 ≤ W 5 i 1 := r
    show wz_up W 5 l 1 (W 5 l 1 + 1) 5 i 1 ≤ 0 ∧ (0 ≤ wz_up W 5 l 1 (W 5 l 1 + 1) 5 i 3 ∧ wz_up W 5 l 1 (W 5 l 1 + 1) 5 i 3 ≤ 100000) ∧ -100 ≤ wz_up W 5 l 1 (W 5 l 1 + 1) 5 i 1
    rw [wz_up_c (show ¬ 3 = 1 by decide)]
    by_cases e : i = l
    · subst e
      rw [wz_up_s]
      have a1 : ¬ (0 : Int) ≤ (W 5 i 1).toInt := fun y => q (Int32.le_iff_toInt_le.mpr y)
      have a2 : (-100 : Int) ≤ (W 5 i 1).toInt := Int32.le_iff_toInt_le.mp r.2.2
      have e1 : (1 : Int32).toInt = 1 := rfl
      have e3 : (W 5 i 1 + 1).toInt = (W 5 i 1).toInt + 1 := by rw [i_add (by rw [e1]; omega) (by rw [e1]; omega), e1]
      refine ⟨Int32.le_iff_toInt_le.mpr ?_, r.2.1, Int32.le_iff_toInt_le.mpr ?_⟩
      · rw [e3]
        show _ ≤ (0 : Int)
        omega
      · rw [e3]
        show (-100 : Int) ≤ _
        omega
    · rw [wz_up_r e]
      exact r
theorem vz_moods (V : vz W) : ∀ i, i ≤ 5 → vz (sp_moods W i)
  | 0, _ => V
  | i + 1, h => vz_mood (vz_moods V i (by omega)) (by omega)
theorem cz_mood1 (R : cz_N s0 W h) (V : vz W) {l : Nat} (hl : l < 6) : k_ok (F10_pass_91b 223 (nI l, h)) (fun z => ∃ h1, z = .inl (nI (l + 1), h1) ∧ cz_N s0 (sp_mood l W) h1) := by
  have n5 := V.n5
  unfold F10_pass_91b sp_mood
  dsimp only
  refine k_f (show ¬ (6 : Int32) ≤ nI l from nI_ge hl (by decide)) (k_e (nz_gr223_11 R) (k_e (cz_g5_1 R rfl (by omega)) (k_if (fun q => ?_) (fun q => ?_))))
  · rw [if_pos q]
    exact k_s ⟨h, by rw [nI_succ], R⟩
  · rw [if_neg q]
    refine k_e (nz_gr223_11 R) (k_b (cz_raise R (k := 5) (c := 1) (by decide) rfl rfl (show l < wz_n W 5 by omega) rfl (by decide)) ?_)
    intro h1 R1
    exact k_s ⟨h1, by rw [nI_succ], R1⟩
theorem rz_mood1 (R : rz_N s0 th W h) (V : vz W) {l : Nat} (hl : l < 6) : k_ok (F12_goesOn_162b 317 (nI l, h)) (fun z => ∃ h1, z = .inl (nI (l + 1), h1) ∧ rz_N s0 th (sp_mood l W) h1) := by
  have r := V.row (k := 5) (by omega) (r := l) (by rw [V.n5]; exact hl)
  have r : W 5 l 1 ≤ 0 ∧ (0 ≤ W 5 l 3 ∧ W 5 l 3 ≤ 100000) ∧ -100 ≤ W 5 l 1 := r
  unfold F12_goesOn_162b sp_mood
  dsimp only
  refine k_f (show ¬ (6 : Int32) ≤ nI l from nI_ge hl (by decide)) (k_e (rz_gr1 R) (k_e (rz_l5 R (c := 1) hl (by decide)).1 (k_e (rz_l5 R (c := 1) hl (by decide)).2 (k_e (rz_gr1 R) (k_e (rz_l5 R (c := 1) hl (by decide)).1 (k_if (fun q => ?_) (fun q => ?_)))))))
  · rw [if_pos q]
    refine k_t r.1 (k_b (rz_set R rfl ⟨by decide, hl, by decide⟩) ?_)
    intro h1 R1
    rw [wz_up_same (Int32.le_antisymm r.1 q)] at R1
    exact k_s ⟨h1, by rw [nI_succ], R1⟩
  · rw [if_neg q]
    refine k_b (rz_set R rfl ⟨by decide, hl, by decide⟩) ?_
    intro h1 R1
    exact k_s ⟨h1, by rw [nI_succ], R1⟩
end
