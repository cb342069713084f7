/-! ===== UNDO, THE IMAGE: the reference ===== -/
theorem rz_undoL {s : tz_S} {W : m_W} (H : tz_WR s 320 W) : k_ok (F12_undo_16 317 0 (tz_H s)) (fun z => ∃ s1, z = (1, tz_H s1) ∧ tz_WR s1 318 W ∧ s1.1 317 5 = 0 ∧ (∀ a k, ¬ (a = 317 ∧ k = 5) → s1.1 a k = s.1 a k) ∧ (∀ a, ¬ a = 318 → s1.2.1 a = s.2.1 a) ∧ s1.2.2 = s.2.2) := by
  unfold F12_undo_16
  refine wh_i (n := 36827) (fun (i : Nat) (z : Int32 × m_H) => z.1 = nI i ∧ ∃ s1, z.2 = tz_H s1 ∧ s1.1 = s.1 ∧ (∀ a, ¬ a = 318 → s1.2.1 a = s.2.1 a) ∧ s1.2.2 = s.2.2 ∧ ∀ j, j < i → s1.2.1 318 j = s.2.1 320 j) _ ?_ ?_ m_N 0 (0, tz_H s) (N_lt (by decide)) (Nat.zero_le _) ⟨rfl, s, rfl, rfl, fun _ _ => rfl, rfl, fun j hj => absurd hj (by omega)⟩
  · rintro i ⟨x, y⟩ hi ⟨q1, s1, q2, e1, e2, e3, D⟩
    dsimp only at q1 q2
    subst q1 q2
    unfold F12_undo_16b
    refine k_f (show ¬ nI 36827 ≤ nI i from nI_ge hi (by decide)) (k_e gr_317_1 (k_e gr_317_3 (k_e (tz_ai sh_320 ⟨rfl, rfl⟩ (nI_in1 (by omega) (by decide))) (k_e (tz_si sh_318 ⟨rfl, rfl⟩ (nI_in1 (by omega) (by decide))) (k_s ⟨(Int32.ofNat_add i 1).symm, _, rfl, e1, fun a q => (tz_ui_n (s := s1) q).trans (e2 a q), e3, ?_⟩)))))
    intro j hj
    rw [tz_ui_a, nI_clamp (by omega), e2 320 (by decide)]
    by_cases q : j = i
    · subst q
      rw [pk_us]
      rfl
    · rw [pk_un q, D j (by omega)]
  · rintro ⟨x, y⟩ ⟨q1, s1, q2, e1, e2, e3, D⟩
    dsimp only at q1 q2
    subst q1 q2
    unfold F12_undo_16b
    refine k_t (show nI 36827 ≤ nI 36827 by decide) (k_e (pf_317_5 (Or.inl rfl)) (k_s ⟨_, rfl, ?_, tz_uf_s, fun a k q => (if_neg q).trans (congrFun (congrFun e1 a) k), e2, e3⟩))
    intro k r c hv
    rw [show (tz_uf s1 317 5 0).2.1 = s1.2.1 from rfl, D _ (wz_ix_lt hv)]
    exact H k r c hv
theorem rz_againL {s : tz_S} {W : m_W} (H : tz_WR s 319 W) : k_ok (F12_again_16 317 0 (tz_H s)) (fun z => ∃ s1, z = (1, tz_H s1) ∧ tz_WR s1 318 W ∧ s1.1 317 5 = 0 ∧ (∀ a k, ¬ (a = 317 ∧ k = 5) → s1.1 a k = s.1 a k) ∧ (∀ a, ¬ a = 318 → s1.2.1 a = s.2.1 a) ∧ s1.2.2 = s.2.2) := by
  unfold F12_again_16
  refine wh_i (n := 36827) (fun (i : Nat) (z : Int32 × m_H) => z.1 = nI i ∧ ∃ s1, z.2 = tz_H s1 ∧ s1.1 = s.1 ∧ (∀ a, ¬ a = 318 → s1.2.1 a = s.2.1 a) ∧ s1.2.2 = s.2.2 ∧ ∀ j, j < i → s1.2.1 318 j = s.2.1 319 j) _ ?_ ?_ m_N 0 (0, tz_H s) (N_lt (by decide)) (Nat.zero_le _) ⟨rfl, s, rfl, rfl, fun _ _ => rfl, rfl, fun j hj => absurd hj (by omega)⟩
  · rintro i ⟨x, y⟩ hi ⟨q1, s1, q2, e1, e2, e3, D⟩
    dsimp only at q1 q2
    subst q1 q2
    unfold F12_again_16b
    refine k_f (show ¬ nI 36827 ≤ nI i from nI_ge hi (by decide)) (k_e gr_317_1 (k_e gr_317_2 (k_e (tz_ai sh_319 ⟨rfl, rfl⟩ (nI_in1 (by omega) (by decide))) (k_e (tz_si sh_318 ⟨rfl, rfl⟩ (nI_in1 (by omega) (by decide))) (k_s ⟨(Int32.ofNat_add i 1).symm, _, rfl, e1, fun a q => (tz_ui_n (s := s1) q).trans (e2 a q), e3, ?_⟩)))))
    intro j hj
    rw [tz_ui_a, nI_clamp (by omega), e2 319 (by decide)]
    by_cases q : j = i
    · subst q
      rw [pk_us]
      rfl
    · rw [pk_un q, D j (by omega)]
  · rintro ⟨x, y⟩ ⟨q1, s1, q2, e1, e2, e3, D⟩
    dsimp only at q1 q2
    subst q1 q2
    unfold F12_again_16b
    refine k_t (show nI 36827 ≤ nI 36827 by decide) (k_e (pf_317_5 (Or.inl rfl)) (k_s ⟨_, rfl, ?_, tz_uf_s, fun a k q => (if_neg q).trans (congrFun (congrFun e1 a) k), e2, e3⟩))
    intro k r c hv
    rw [show (tz_uf s1 317 5 0).2.1 = s1.2.1 from rfl, D _ (wz_ix_lt hv)]
    exact H k r c hv
theorem rz_keepL {s : tz_S} {W : m_W} (H : tz_WR s 318 W) : k_ok (F12_keep_7 317 0 (tz_H s)) (fun z => ∃ s1, z = tz_H s1 ∧ tz_WR s1 319 W ∧ s1.1 317 4 = 1 ∧ (∀ a k, ¬ (a = 317 ∧ k = 4) → s1.1 a k = s.1 a k) ∧ (∀ a, ¬ a = 319 → s1.2.1 a = s.2.1 a) ∧ s1.2.2 = s.2.2) := by
  unfold F12_keep_7
  refine wh_i (n := 36827) (fun (i : Nat) (z : Int32 × m_H) => z.1 = nI i ∧ ∃ s1, z.2 = tz_H s1 ∧ s1.1 = s.1 ∧ (∀ a, ¬ a = 319 → s1.2.1 a = s.2.1 a) ∧ s1.2.2 = s.2.2 ∧ ∀ j, j < i → s1.2.1 319 j = s.2.1 318 j) _ ?_ ?_ m_N 0 (0, tz_H s) (N_lt (by decide)) (Nat.zero_le _) ⟨rfl, s, rfl, rfl, fun _ _ => rfl, rfl, fun j hj => absurd hj (by omega)⟩
  · rintro i ⟨x, y⟩ hi ⟨q1, s1, q2, e1, e2, e3, D⟩
    dsimp only at q1 q2
    subst q1 q2
    unfold F12_keep_7b
    refine k_f (show ¬ nI 36827 ≤ nI i from nI_ge hi (by decide)) (k_e gr_317_2 (k_e gr_317_1 (k_e (tz_ai sh_318 ⟨rfl, rfl⟩ (nI_in1 (by omega) (by decide))) (k_e (tz_si sh_319 ⟨rfl, rfl⟩ (nI_in1 (by omega) (by decide))) (k_s ⟨(Int32.ofNat_add i 1).symm, _, rfl, e1, fun a q => (tz_ui_n (s := s1) q).trans (e2 a q), e3, ?_⟩)))))
    intro j hj
    rw [tz_ui_a, nI_clamp (by omega), e2 318 (by decide)]
    by_cases q : j = i
    · subst q
      rw [pk_us]
      rfl
    · rw [pk_un q, D j (by omega)]
  · rintro ⟨x, y⟩ ⟨q1, s1, q2, e1, e2, e3, D⟩
    dsimp only at q1 q2
    subst q1 q2
    unfold F12_keep_7b
    refine k_t (show nI 36827 ≤ nI 36827 by decide) (k_e (pf_317_4 (Or.inr rfl)) (k_s ⟨_, rfl, ?_, tz_uf_s, fun a k q => (if_neg q).trans (congrFun (congrFun e1 a) k), e2, e3⟩))
    intro k r c hv
    rw [show (tz_uf s1 317 4 1).2.1 = s1.2.1 from rfl, D _ (wz_ix_lt hv)]
    exact H k r c hv
/-- what the reference leaves: all but thrown, a flag, an array -/
def tz_fz (a0 k0 : Nat) (s s' : tz_S) : Prop := (∀ a k, ¬ (a = 317 ∧ (k = 0 ∨ k = k0)) → s'.1 a k = s.1 a k) ∧ (∀ a, ¬ a = a0 → s'.2.1 a = s.2.1 a) ∧ s'.2.2 = s.2.2
theorem tz_fz.of {s s1 s' : tz_S} {a0 k0 : Nat} (e : s1 = tz_uf s 317 0 0) (h1 : ∀ a k, ¬ (a = 317 ∧ k = k0) → s'.1 a k = s1.1 a k) (h2 : ∀ a, ¬ a = a0 → s'.2.1 a = s1.2.1 a) (h3 : s'.2.2 = s1.2.2) : tz_fz a0 k0 s s' := by
  subst e
  exact ⟨fun a k q => (h1 a k (fun z => q ⟨z.1, Or.inr z.2⟩)).trans (if_neg (fun z => q ⟨z.1, Or.inl z.2⟩)), h2, h3⟩
theorem rz_undo0 {s : tz_S} (hu : s.1 317 5 = 0) : F12_undo 317 (tz_H s) = some (0, tz_H (tz_uf s 317 0 0)) := by
  unfold F12_undo F12_undo_0
  rw [io_317, gz_s, pf_317_0, bz_s, gi_317_5, bz_s, tz_uf_n (by decide), hu, iz_t rfl]
theorem rz_undo1 {s : tz_S} {W : m_W} (hu : s.1 317 5 = 1) (H : tz_WR s 320 W) : k_ok (F12_undo 317 (tz_H s)) (fun z => ∃ s', z = (1, tz_H s') ∧ tz_WR s' 318 W ∧ s'.1 317 5 = 0 ∧ s'.1 317 0 = 0 ∧ tz_fz 318 5 s s') := by
  unfold F12_undo F12_undo_0
  refine k_g io_317 (k_e pf_317_0 (k_e gi_317_5 (k_f ?_ (k_m (rz_undoL (s := tz_uf s 317 0 0) (fun k r c hv => H k r c hv)) ?_))))
  · rw [tz_uf_n (by decide), hu]
    decide
  · rintro _ ⟨s', rfl, a1, a2, a3, a4, a5⟩
    exact ⟨s', rfl, a1, a2, (a3 317 0 (by decide)).trans tz_uf_s, tz_fz.of rfl a3 a4 a5⟩
theorem rz_again0 {s : tz_S} (hu : s.1 317 4 = 0) : F12_again 317 (tz_H s) = some (0, tz_H (tz_uf s 317 0 0)) := by
  unfold F12_again F12_again_0
  rw [io_317, gz_s, pf_317_0, bz_s, gi_317_4, bz_s, tz_uf_n (by decide), hu, iz_t rfl]
theorem rz_again1 {s : tz_S} {W : m_W} (hu : s.1 317 4 = 1) (H : tz_WR s 319 W) : k_ok (F12_again 317 (tz_H s)) (fun z => ∃ s', z = (1, tz_H s') ∧ tz_WR s' 318 W ∧ s'.1 317 5 = 0 ∧ s'.1 317 0 = 0 ∧ tz_fz 318 5 s s') := by
  unfold F12_again F12_again_0
  refine k_g io_317 (k_e pf_317_0 (k_e gi_317_4 (k_f ?_ (k_m (rz_againL (s := tz_uf s 317 0 0) (fun k r c hv => H k r c hv)) ?_))))
  · rw [tz_uf_n (by decide), hu]
    decide
  · rintro _ ⟨s', rfl, a1, a2, a3, a4, a5⟩
    exact ⟨s', rfl, a1, a2, (a3 317 0 (by decide)).trans tz_uf_s, tz_fz.of rfl a3 a4 a5⟩
theorem rz_keep {s : tz_S} {W : m_W} (H : tz_WR s 318 W) : k_ok (F12_keep 317 (tz_H s)) (fun z => ∃ s', z = tz_H s' ∧ tz_WR s' 319 W ∧ s'.1 317 4 = 1 ∧ s'.1 317 0 = 0 ∧ tz_fz 319 4 s s') := by
  unfold F12_keep F12_keep_0
  refine k_g io_317 (k_e pf_317_0 (k_m (rz_keepL (s := tz_uf s 317 0 0) (fun k r c hv => H k r c hv)) ?_))
  rintro _ ⟨s', rfl, a1, a2, a3, a4, a5⟩
  exact ⟨s', rfl, a1, a2, (a3 317 0 (by decide)).trans tz_uf_s, tz_fz.of rfl a3 a4 a5⟩
