/-! ===== a week: what a land uses, the class ===== -/
theorem sp_eat_k {l s : Nat} {W : m_W} {k r x : Nat} (h2 : ¬ k = 2) (h5 : ¬ (k = 5 ∧ r = l ∧ x = 0)) : sp_eat l s W k r x = W k r x := by
  unfold sp_eat
  split
  · rfl
  · unfold wz_up
    rw [if_neg h5]
    unfold sp_eaP
    exact sp_uss_k h2 _
def sp_eats (l : Nat) (W : m_W) (i : Nat) : m_W := sp_it (sp_eat l) i W
theorem sp_eats_k {l : Nat} {W : m_W} {k r x : Nat} (h2 : ¬ k = 2) (h5 : ¬ (k = 5 ∧ r = l ∧ x = 0)) : ∀ i, sp_eats l W i k r x = W k r x
  | 0 => rfl
  | i + 1 => (sp_eat_k (W := sp_eats l W i) h2 h5).trans (sp_eats_k h2 h5 i)
section
variable {s0 : tz_S} {th : Int32} {W : m_W} {h : m_H}
theorem vz_eats (V : vz W) {l : Nat} (hl : l < 6) : ∀ i, i ≤ 8 → vz (sp_eats l W i)
  | 0, _ => V
  | i + 1, h => vz_eat (vz_eats V hl i (by omega)) hl (by omega)
theorem cz_use62 (R : cz_N s0 W h) (V : vz W) {l s : Nat} {f a : Int32} (hl : l < 6) (hs : s < 8) (nz : ¬ W 6 (8 * l + s) 0 ≤ 0) (ha : a = sp_wt W l s) : k_ok (F10_useGoods_62 223 (nI l) f (nI s) (W 6 (8 * l + s) 0) a (nI s) (nI l) 223 h) (fun z => ∃ h1, z = .inl (nI (s + 1), h1) ∧ cz_N s0 (sp_eat l s W) h1) := by
  subst ha
  have hn : wz_n W 2 ≤ 100 := V.c (k := 2) (by omega)
  unfold F10_useGoods_62
  refine k_b (cz_useSort R hn) ?_
  rintro _ ⟨h1, rfl, R1⟩
  have n5 : l < wz_n (sp_uss W (nI l) (nI s) (sp_wt W l s) (wz_n W 2)).2 5 := by rw [sp_uss_n, V.n5]; exact hl
  refine k_e (nz_gr223_11 R1) (k_b (cz_raise R1 (k := 5) (c := 0) (by decide) rfl rfl n5 rfl (by decide)) ?_)
  intro h2 R2
  refine k_s ⟨h2, by rw [nI_succ], ?_⟩
  rw [show wz_pi 5 0 = 0 from rfl, sp_uss_k (by decide)] at R2
  unfold sp_eat sp_eaP
  rw [if_neg nz]
  exact R2
theorem cz_useGoods (R : cz_N s0 W h) (V : vz W) {l : Nat} (hl : l < 6) : k_ok (F10_useGoods 223 (nI l) h) (cz_N s0 (sp_eats l W 8)) := by
  have n5 := V.n5
  have key : ∀ f : Int32, f = (if 0 ≤ W 5 l 1 then 0 else 1) → k_ok (F10_useGoods_20 223 (nI l) f 0 h) (cz_N s0 (sp_eats l W 8)) := by
    intro f hf
    unfold F10_useGoods_20
    refine wh_i (n := 8) (fun (i : Nat) (z : Int32 × m_H) => z.1 = nI i ∧ cz_N s0 (sp_eats l W i) z.2) _ ?_ ?_ m_N 0 _ (N_lt (by decide)) (Nat.zero_le _) ⟨rfl, R⟩
    · rintro i ⟨y, h1⟩ hi ⟨q1, R1⟩
      dsimp only at q1 R1
      subst q1
      have V1 := vz_eats V hl i (by omega)
      have e5 : sp_eats l W i 5 l 1 = W 5 l 1 := sp_eats_k (by decide) (by omega) i
      have hs : sp_eats l W (i + 1) = sp_eat l i (sp_eats l W i) := rfl
      rw [← e5] at hf
      generalize sp_eats l W i = W1 at R1 V1 e5 hs hf
      have n6 := V1.n6
      unfold F10_useGoods_20b
      dsimp only
      refine k_f (show ¬ (8 : Int32) ≤ nI i from nI_ge hi (by decide)) (k_e (nz_gr223_12 R1) (k_e cz_tradeRow (k_e (cz_g6_0 R1 rfl (show 8 * l + i < wz_n W1 6 by omega)) (k_if (fun c => k_s ⟨(nI_succ i).symm, ?_⟩) (fun c => ?_)))))
      · rw [hs, sp_eat, if_pos c]
        exact R1
      · refine k_if (fun q => ?_) (fun q => ?_)
        · refine k_m (cz_use62 R1 V1 hl hi c ?_) ?_
          · unfold sp_wt
            by_cases p : 0 ≤ W1 5 l 1
            · rw [if_pos p]
            · rw [if_neg p] at hf
              rw [hf] at q
              exact absurd q (by decide)
          · rintro _ ⟨h2, rfl, R2⟩
            exact ⟨rfl, by rw [hs]; exact R2⟩
        · refine k_e (show m_dv (W1 6 (8 * l + i) 0) 2 = some (W1 6 (8 * l + i) 0 / 2) from if_neg (by decide)) ?_
          refine k_m (cz_use62 R1 V1 hl hi c ?_) ?_
          · unfold sp_wt
            by_cases p : 0 ≤ W1 5 l 1
            · rw [if_pos p] at hf
              exact absurd hf q
            · rw [if_neg p]
          · rintro _ ⟨h2, rfl, R2⟩
            exact ⟨rfl, by rw [hs]; exact R2⟩
    · rintro ⟨y, h1⟩ ⟨q1, R1⟩
      dsimp only at q1 R1
      subst q1
      unfold F10_useGoods_20b
      dsimp only
      exact k_t (show (8 : Int32) ≤ nI 8 by decide) (k_s R1)
  unfold F10_useGoods F10_useGoods_0
  refine k_e (nz_gr223_11 R) (k_e (cz_g5_1 R rfl (by omega)) (k_if (fun q => ?_) (fun q => ?_)))
  · unfold F10_useGoods_17
    exact key 0 (by rw [if_pos q])
  · unfold F10_useGoods_17
    exact key 1 (by rw [if_neg q])
end
