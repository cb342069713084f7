/-! ===== UNDO, THE IMAGE: the class ===== -/
theorem bz_A.w {s : tz_S} {a n : Nat} {f f' : Nat → Int32} (A : bz_A s a n f) : ∃ s', m_w (tz_H s) a (.inl (0, n, .inl f')) = tz_H s' ∧ bz_A s' a n f' ∧ tz_fk a s s' := by
  rcases id A with ⟨h1, rfl, rfl⟩ | ⟨⟨h1, h2⟩, h3⟩
  · have sh : tz_sh a = some (.inl (0, 768)) := by rcases h1 with rfl | rfl <;> rfl
    have e : tz_ce (tz_ui s a f') a (.inl (0, 768)) = .inl (0, 768, .inl f') := (tz_ce_i ⟨rfl, rfl⟩).trans (by rw [tz_ui_a])
    refine ⟨tz_ui s a f', ?_, Or.inl ⟨h1, rfl, tz_ui_a⟩, rfl, fun x q => tz_ui_n (fun y => q ⟨y, by omega⟩), rfl, rfl, rfl, fun _ _ => rfl, rfl, rfl⟩
    rw [← e]
    exact tz_w sh (fun b sh' hb => tz_ce_ui b sh' hb) rfl
  · have hl := (List.getElem?_eq_some_iff.mp h2).1
    refine ⟨_, tz_w_x h1, Or.inr ⟨⟨h1, ?_⟩, h3⟩, rfl, fun x q => rfl, rfl, rfl, rfl, fun i q => ?_, ?_, rfl⟩
    · show (s.2.2.2.2.2.1.set (a - 334) _)[a - 334]? = _
      rw [List.getElem?_set, if_pos rfl, if_pos hl]
    · show (s.2.2.2.2.2.1.set (a - 334) _)[i]? = _
      rw [List.getElem?_set, if_neg (by omega)]
    · show (s.2.2.2.2.2.1.set (a - 334) _).map m_sz = _
      apply List.ext_getElem?
      intro i
      rw [List.getElem?_map, List.getElem?_map, List.getElem?_set]
      by_cases q : a - 334 = i
      · subst q
        rw [if_pos rfl, if_pos hl, h2]
        rfl
      · rw [if_neg q]
theorem bz_copy {s : tz_S} {b o n m w : Nat} {f g : Nat → Int32} (hb : tz_bo b o) (Z : bz_Z s b o n m f g) (hw : w * 48 ≤ m) : k_ok (F1_copyFrom b o (nI w) (tz_H s)) (fun h => ∃ s' n' f', h = tz_H s' ∧ bz_Z s' b o n' m f' g ∧ n ≤ n' ∧ w * 48 ≤ n' ∧ (∀ j, j < w * 48 → f' j = g j) ∧ tz_fm b s s' ∧ rm_s s' + rm_p n ≤ rm_s s + rm_p n' ∧ rm_c s' + rm_p n ≤ rm_c s + rm_p n') := by
  have hb1 : b = 313 ∨ b = 315 := by rcases hb with ⟨h, -⟩ | ⟨h, -⟩ <;> omega
  have ho1 : o = 313 ∨ o = 315 := by rcases hb with ⟨-, h⟩ | ⟨-, h⟩ <;> omega
  have hm := Z.2.2.2.2
  have e48 : nI w * 48 = nI (w * 48) := nI_mul w 48
  unfold F1_copyFrom F1_copyFrom_0
  rw [e48]
  refine k_g (tz_ioB hb1) (k_b (bz_room hb Z (c := w * 48) (by omega)) ?_)
  rintro _ ⟨s1, n1, f1, rfl, Z1, a1, a2, a3, a4, a5, a6⟩
  obtain ⟨A, B, hne, hn1, hm1⟩ := id Z1
  refine k_f (nI_pos (by omega)) (k_e (tz_grB hb1) (k_e A.len (k_f (nI_nlt a2 (by omega)) (k_e (tz_grB ho1) (k_e B.len (k_f (nI_nlt hw (by omega)) (k_e (tz_grB ho1) (k_e (tz_grB hb1) ?_))))))))
  obtain ⟨s2, e2, A2, F⟩ := A.w (f' := va_cpy g f1 0 0 (w * 48))
  have e : m_cpy (tz_H s1) (s1.2.2.2.2.1 o) (s1.2.2.2.2.1 b) 0 0 (nI (w * 48)) = some (tz_H s2) := by
    have z0 : ¬ (0 : Int32) < 0 := by decide
    have z1 : (0 : Int32).toNatClampNeg = 0 := rfl
    unfold m_cpy
    rw [A.c, B.c]
    show (if ¬ (0 : Int32) < 0 ∧ ¬ (0 : Int32) < 0 ∧ ¬ nI (w * 48) < 0 ∧ (0 : Int32).toNatClampNeg + (nI (w * 48)).toNatClampNeg ≤ m ∧ (0 : Int32).toNatClampNeg + (nI (w * 48)).toNatClampNeg ≤ n1 then some (m_w (tz_H s1) (s1.2.2.2.2.1 b) (.inl (0, n1, .inl (va_cpy g f1 (0 : Int32).toNatClampNeg (0 : Int32).toNatClampNeg (nI (w * 48)).toNatClampNeg)))) else none) = _
    rw [z1, nI_clamp (by omega), if_pos ⟨z0, z0, nI_pos (by omega), by omega, by omega⟩, e2]
  have er : s2.2.2.2.2.1 = s1.2.2.2.2.1 := F.2.2.2.2.1
  refine k_e e (k_s ⟨s2, n1, _, rfl, ⟨by rw [er]; exact A2, by rw [er]; exact B.off (n := n1) (f := f1) F (fun q => hne q.symm), by rw [er]; exact hne, hn1, hm1⟩, a1, a2, fun j hj => ?_, a4.trans (F.fm A), ?_, ?_⟩)
  · unfold va_cpy
    rw [if_pos ⟨Nat.zero_le _, by omega⟩, Nat.sub_zero, Nat.zero_add]
  · have : rm_s s2 = rm_s s1 := by unfold rm_s; rw [F.2.2.2.2.2.2.1, F.2.2.2.2.2.2.2]
    rw [this]; exact a5
  · have : rm_c s2 = rm_c s1 := by unfold rm_c; rw [F.2.2.2.2.2.2.2, ← List.length_map (f := m_sz), F.2.2.2.2.2.2.1, List.length_map]
    rw [this]; exact a6
theorem cz_undo0 {s : tz_S} (hu : s.1 200 9 = 0) : F11_undo 200 (tz_H s) = some (0, tz_H s) := by
  unfold F11_undo F11_undo_0
  rw [io_200, gz_s, gi_200_9, bz_s, hu, iz_t rfl]
theorem cz_undo1 {s : tz_S} {W : m_W} (hu : s.1 200 9 = 1) (H : tz_HR s 253 W) (he : W 14 0 3 = 0 ∨ W 14 0 3 = 1) : k_ok (F11_undo 200 (tz_H s)) (fun z => ∃ s1, z = (1, tz_H (tz_uf s1 200 9 0)) ∧ tz_fb 223 s s1 ∧ tz_HR s1 223 W) := by
  unfold F11_undo F11_undo_0
  refine k_g io_200 (k_e gi_200_9 (k_f (by rw [hu]; decide) (k_e gr_200_4 (k_e gr_200_5 (k_b (tz_copy (Or.inl rfl) (Or.inr (Or.inl rfl)) (by decide) H he) ?_)))))
  rintro _ ⟨s1, rfl, F, H1⟩
  exact k_e (pf_200_9 (Or.inl rfl)) (k_s ⟨s1, rfl, F, H1⟩)
theorem bz_Z.fb {s s' : tz_S} {b o n m c : Nat} {f g : Nat → Int32} (Z : bz_Z s b o n m f g) (F : tz_fb c s s') (hc : tz_hb c) : bz_Z s' b o n m f g := by
  have r := tz_hb_r hc
  obtain ⟨z1, z2, z3, z4⟩ := Z
  have e : s'.2.2.2.2 = s.2.2.2.2 := F.2.2.2.2
  have A : ∀ {a n f}, bz_A s a n f → bz_A s' a n f := by
    intro a n f A
    rcases A with ⟨h1, h2, h3⟩ | ⟨h1, h2⟩
    · exact Or.inl ⟨h1, h2, (F.2.1 a (by omega)).trans h3⟩
    · exact Or.inr ⟨by rw [e]; exact h1, h2⟩
  unfold bz_Z
  rw [e]
  exact ⟨A z1, A z2, z3, z4⟩
theorem cz_keep {s : tz_S} {W : m_W} (H : tz_HR s 223 W) (V : vz W) {n m : Nat} {f g : Nat → Int32} (Z : bz_Z s 315 313 n m f g) (hw : (W 14 0 0).toNatClampNeg * 48 ≤ m) : k_ok (F11_keep 200 (tz_H s)) (fun z => ∃ s1 s2 n' f', z = tz_H (tz_uf s2 200 10 1) ∧ tz_fb 283 s s1 ∧ tz_HR s1 283 W ∧ tz_fm 315 s1 s2 ∧ bz_Z s2 315 313 n' m f' g ∧ n ≤ n' ∧ (W 14 0 0).toNatClampNeg * 48 ≤ n' ∧ (∀ j, j < (W 14 0 0).toNatClampNeg * 48 → f' j = g j) ∧ rm_s s2 + rm_p n ≤ rm_s s + rm_p n' ∧ rm_c s2 + rm_p n ≤ rm_c s + rm_p n') := by
  obtain ⟨ew, w5⟩ := V.week
  unfold F11_keep F11_keep_0
  refine k_g io_200 (k_e gr_200_6 (k_e gr_200_4 (k_b (tz_copy (Or.inr (Or.inr rfl)) (Or.inl rfl) (by decide) H V.en) ?_)))
  rintro _ ⟨s1, rfl, F, H1⟩
  have H2 : tz_HR s1 223 W := F.off (Or.inr (Or.inr rfl)) (Or.inl rfl) (by decide) H
  refine k_e gr_200_8 (k_e gr_200_7 (k_e gr_200_4 (k_e (cz_i0 H2.N) ?_)))
  have e1 : rm_s s1 = rm_s s ∧ rm_c s1 = rm_c s := by unfold rm_s rm_c; rw [F.2.2.2.2]; exact ⟨rfl, rfl⟩
  have B := bz_copy (s := s1) (w := (W 14 0 0).toNatClampNeg) (Or.inr ⟨rfl, rfl⟩) (Z.fb F (Or.inr (Or.inr rfl))) hw
  rw [← ew] at B
  refine k_b B ?_
  rintro _ ⟨s2, n', f', rfl, Z2, a1, a2, a3, a4, a5, a6⟩
  exact k_e (pf_200_10 (Or.inr rfl)) (k_s ⟨s1, s2, n', f', rfl, F, H1, a4, Z2, a1, a2, a3, by rw [← e1.1]; exact a5, by rw [← e1.2]; exact a6⟩)
theorem cz_again0 {s : tz_S} (hu : s.1 200 10 = 0) : F11_again 200 (tz_H s) = some (0, tz_H s) := by
  unfold F11_again F11_again_0
  rw [io_200, gz_s, gi_200_10, bz_s, hu, iz_t rfl]
theorem cz_again1 {s : tz_S} {W : m_W} (hu : s.1 200 10 = 1) (H : tz_HR s 283 W) (V : vz W) {n m : Nat} {f g : Nat → Int32} (Z : bz_Z s 313 315 n m f g) (hw : (W 14 0 0).toNatClampNeg * 48 ≤ m) : k_ok (F11_again 200 (tz_H s)) (fun z => ∃ s1 s2 n' f', z = (1, tz_H (tz_uf s2 200 9 0)) ∧ tz_fb 223 s s1 ∧ tz_HR s1 223 W ∧ tz_fm 313 s1 s2 ∧ bz_Z s2 313 315 n' m f' g ∧ n ≤ n' ∧ (W 14 0 0).toNatClampNeg * 48 ≤ n' ∧ (∀ j, j < (W 14 0 0).toNatClampNeg * 48 → f' j = g j) ∧ rm_s s2 + rm_p n ≤ rm_s s + rm_p n' ∧ rm_c s2 + rm_p n ≤ rm_c s + rm_p n') := by
  obtain ⟨ew, w5⟩ := V.week
  unfold F11_again F11_again_0
  refine k_g io_200 (k_e gi_200_10 (k_f (by rw [hu]; decide) (k_e gr_200_4 (k_e gr_200_6 (k_b (tz_copy (Or.inl rfl) (Or.inr (Or.inr rfl)) (by decide) H V.en) ?_)))))
  rintro _ ⟨s1, rfl, F, H1⟩
  have H2 : tz_HR s1 283 W := F.off (Or.inl rfl) (Or.inr (Or.inr rfl)) (by decide) H
  have gi : m_gi (tz_H s1) 283 3 0 = some (W 14 0 0) := by
    rw [gi_283_0]
    exact congrArg some H2.1.1
  refine k_e gr_200_7 (k_e gr_200_8 (k_e gr_200_6 (k_e gi ?_)))
  have e1 : rm_s s1 = rm_s s ∧ rm_c s1 = rm_c s := by unfold rm_s rm_c; rw [F.2.2.2.2]; exact ⟨rfl, rfl⟩
  have B := bz_copy (s := s1) (w := (W 14 0 0).toNatClampNeg) (Or.inl ⟨rfl, rfl⟩) (Z.fb F (Or.inl rfl)) hw
  rw [← ew] at B
  refine k_b B ?_
  rintro _ ⟨s2, n', f', rfl, Z2, a1, a2, a3, a4, a5, a6⟩
  exact k_e (pf_200_9 (Or.inl rfl)) (k_s ⟨s1, s2, n', f', rfl, F, H1, a4, Z2, a1, a2, a3, by rw [← e1.1]; exact a5, by rw [← e1.2]; exact a6⟩)
