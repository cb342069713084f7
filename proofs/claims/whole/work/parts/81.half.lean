/-! ===== a week: all lands use, moods, yields ===== -/
def sp_eatL (l : Nat) (W : m_W) : m_W := sp_eats l W 8
theorem sp_eatL_e {l : Nat} {W : m_W} : sp_eatL l W = sp_eats l W 8 := rfl
def sp_lands (W : m_W) (i : Nat) : m_W := sp_it (fun j W => sp_eatL (j + 1) W) i W
theorem sp_it_s {α : Type} {f : Nat → α → α} {n : Nat} {a : α} : sp_it f (n + 1) a = f n (sp_it f n a) := rfl
theorem sp_lands_s {W : m_W} {i : Nat} : sp_lands W (i + 1) = sp_eatL (i + 1) (sp_lands W i) := by
  unfold sp_lands
  rw [sp_it_s]
def sp_half (W : m_W) : m_W := sp_yds (sp_moods (sp_lands W 5) 5) (wz_n W 10)
theorem sp_yd_k {i : Nat} {W : m_W} {k r x : Nat} (h : ¬ (k = 10 ∧ x = 5)) (h4 : ¬ (k = 14 ∧ x = 4)) : sp_yd i W k r x = W k r x := by
  unfold sp_yd
  split
  · rfl
  · unfold wz_up
    rw [if_neg (fun q => h4 ⟨q.1, q.2.2⟩), if_neg (fun q => h ⟨q.1, q.2.2⟩)]
theorem sp_yds_k {W : m_W} {k r x : Nat} (h : ¬ (k = 10 ∧ x = 5)) (h4 : ¬ (k = 14 ∧ x = 4)) : ∀ i, sp_yds W i k r x = W k r x
  | 0 => rfl
  | i + 1 => (sp_yd_k (W := sp_yds W i) h h4).trans (sp_yds_k h h4 i)
theorem sp_mood_n {l k : Nat} {W : m_W} : wz_n (sp_mood l W) k = wz_n W k := by
  unfold sp_mood
  split
  · rfl
  · rw [wz_n_up (by omega)]
theorem sp_moods_n {W : m_W} {k : Nat} : ∀ i, wz_n (sp_moods W i) k = wz_n W k
  | 0 => rfl
  | i + 1 => (sp_mood_n (W := sp_moods W i) (l := i + 1)).trans (sp_moods_n i)
theorem sp_eat_n {l s k : Nat} {W : m_W} : wz_n (sp_eat l s W) k = wz_n W k := wz_n_cong (sp_eat_k (by omega) (by omega))
theorem sp_eats_n {l k : Nat} {W : m_W} {i : Nat} : wz_n (sp_eats l W i) k = wz_n W k := wz_n_cong (sp_eats_k (by omega) (by omega) i)
theorem sp_lands_n {W : m_W} {k : Nat} : ∀ i, wz_n (sp_lands W i) k = wz_n W k
  | 0 => rfl
  | i + 1 => by
    rw [sp_lands_s, sp_eatL_e, sp_eats_n]
    exact sp_lands_n i
section
variable {s0 : tz_S} {th : Int32} {W : m_W} {h : m_H}
theorem vz_lands (V : vz W) : ∀ i, i ≤ 5 → vz (sp_lands W i)
  | 0, _ => V
  | i + 1, h => by
    rw [sp_lands_s, sp_eatL_e]
    exact vz_eats (vz_lands V i (by omega)) (by omega) 8 (Nat.le_refl _)
theorem cz_yields (R : cz_N s0 W h) (hn : wz_n W 10 ≤ 10) : k_ok (F10_collectYields 223 h) (cz_N s0 (sp_yds W (wz_n W 10))) := by
  unfold F10_collectYields F10_collectYields_0 F10_collectYields_2
  refine wh_i (n := wz_n W 10) (fun (i : Nat) (z : Int32 × m_H) => z.1 = nI i ∧ cz_N s0 (sp_yds W i) z.2) _ ?_ ?_ m_N 0 _ (N_lt (by omega)) (Nat.zero_le _) ⟨rfl, R⟩
  · rintro i ⟨y, h1⟩ hi ⟨q1, R1⟩
    dsimp only at q1 R1
    subst q1
    refine k_m (cz_yd R1 (by rw [sp_yds_n]; exact hi) (by rw [sp_yds_n]; exact hn)) ?_
    rintro _ ⟨h2, rfl, R2⟩
    exact ⟨rfl, R2⟩
  · rintro ⟨y, h1⟩ ⟨q1, R1⟩
    dsimp only at q1 R1
    subst q1
    unfold F10_collectYields_2b
    dsimp only
    refine k_e (nz_gr223_16 R1) (k_e (cz_z10 R1) ?_)
    rw [sp_yds_n]
    exact k_t (nI_le (Nat.le_refl _) (by omega)) (k_s R1)
theorem cz_half (R : cz_N s0 W h) (V : vz W) : k_ok (F10_pass_72 223 1 h) (cz_N s0 (sp_half W)) := by
  have hn : wz_n W 10 ≤ 10 := V.c (k := 10) (by omega)
  unfold F10_pass_72
  refine wh_i (n := 6) (fun (i : Nat) (z : Int32 × m_H) => 1 ≤ i ∧ z.1 = nI i ∧ cz_N s0 (sp_lands W (i - 1)) z.2) _ ?_ ?_ m_N 1 _ (N_lt (by decide)) (by decide) ⟨Nat.le_refl _, rfl, R⟩
  · rintro i ⟨y, h1⟩ hi ⟨q0, q1, R1⟩
    dsimp only at q1 R1
    subst q1
    unfold F10_pass_72b
    dsimp only
    refine k_f (show ¬ (6 : Int32) ≤ nI i from nI_ge hi (by decide)) (k_b (cz_useGoods R1 (vz_lands V (i - 1) (by omega)) hi) ?_)
    intro h2 R2
    refine k_s ⟨by omega, (nI_succ i).symm, ?_⟩
    obtain ⟨j, rfl⟩ : ∃ j, i = j + 1 := ⟨i - 1, by omega⟩
    rw [← sp_eatL_e] at R2
    show cz_N s0 (sp_lands W (j + 1)) h2
    rw [sp_lands_s]
    exact R2
  · rintro ⟨y, h1⟩ ⟨q0, q1, R1⟩
    dsimp only at q1 R1
    subst q1
    unfold F10_pass_72b
    dsimp only
    refine k_t (show (6 : Int32) ≤ nI 6 by decide) ?_
    have V1 := vz_lands V 5 (Nat.le_refl _)
    have n1 : wz_n (sp_lands W 5) 10 = wz_n W 10 := sp_lands_n 5
    suffices P : k_ok (F10_pass_91 223 1 h1) (cz_N s0 (sp_half W)) by
      obtain ⟨z, e, hz⟩ := P
      exact ⟨.inr z, by rw [e]; rfl, hz⟩
    unfold sp_half
    have R1 : cz_N s0 (sp_lands W 5) h1 := R1
    generalize sp_lands W 5 = W1 at R1 V1 n1
    unfold F10_pass_91
    refine wh_i (n := 6) (fun (i : Nat) (z : Int32 × m_H) => 1 ≤ i ∧ z.1 = nI i ∧ cz_N s0 (sp_moods W1 (i - 1)) z.2) _ ?_ ?_ m_N 1 _ (N_lt (by decide)) (by decide) ⟨Nat.le_refl _, rfl, R1⟩
    · rintro i ⟨y, h2⟩ hi ⟨q0, q1, R2⟩
      dsimp only at q1 R2
      subst q1
      refine k_m (cz_mood1 R2 (vz_moods V1 (i - 1) (by omega)) hi) ?_
      rintro _ ⟨h3, rfl, R3⟩
      refine ⟨by omega, rfl, ?_⟩
      obtain ⟨j, rfl⟩ : ∃ j, i = j + 1 := ⟨i - 1, by omega⟩
      exact R3
    · rintro ⟨y, h2⟩ ⟨q0, q1, R2⟩
      dsimp only at q1 R2
      subst q1
      have n2 : wz_n (sp_moods W1 5) 10 = wz_n W 10 := (sp_moods_n 5).trans n1
      have R2 : cz_N s0 (sp_moods W1 5) h2 := R2
      unfold F10_pass_91b
      dsimp only
      refine k_t (show (6 : Int32) ≤ nI 6 by decide) (k_b (cz_yields R2 (by rw [n2]; exact hn)) ?_)
      intro h3 R3
      rw [n2] at R3
      exact k_s R3
end
