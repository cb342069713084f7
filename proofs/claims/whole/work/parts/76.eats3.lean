/-! ===== a week: goods are used, both sides ===== -/
section
variable {s0 : tz_S} {th : Int32} {W : m_W} {h : m_H}
theorem rz_eat64 (R : rz_N s0 th W h) (V : vz W) {l s a m0 : Int32} (ha : 0 ≤ a) (hl : ¬ l = 0) (hm : m0.toInt = i_min a.toInt (sp_ls W l s (wz_n W 2))) : k_ok (F12_eats_64 317 l s m0 0 h) (rz_N s0 th (sp_uss W l s a (wz_n W 2)).2) := by
  have hn : wz_n W 2 ≤ 100 := V.c (k := 2) (by omega)
  have a0 := i_nn ha
  have ab := Int32.toInt_lt a
  unfold F12_eats_64
  refine wh_i (n := wz_n W 2) (fun (i : Nat) (z : Int32 × Int32 × m_H) => z.1.toInt = i_min a.toInt (sp_ls W l s (wz_n W 2)) - i_min a.toInt (sp_ls W l s i) ∧ z.2.1 = nI i ∧ rz_N s0 th (sp_uss W l s a i).2 z.2.2) _ ?_ ?_ m_N 0 _ (N_lt (by omega)) (Nat.zero_le _) ⟨?_, rfl, R⟩
  · rintro i ⟨x, y, h1⟩ hi ⟨q1, q2, R1⟩
    dsimp only at q1 q2 R1
    subst q2
    have V1 := (vz_uss V (l := l) (s := s) ha i (by omega)).1
    have hu := sp_uss_u V (s := s) ha hl i (by omega)
    have hc1 := (V1.cap (k := 2) (by omega)).1
    have n1 : wz_n (sp_uss W l s a i).2 2 = wz_n W 2 := sp_uss_n i
    have e1 : ∀ x, (sp_uss W l s a i).2 2 i x = W 2 i x := fun x => sp_uss_r i (Nat.le_refl _)
    have S1 : sp_ls W l s (i + 1) = sp_ls W l s i + sp_lv W l s i := rfl
    have lv := sp_lv_nn V (l := l) (s := s) hi
    have le1 := sp_ls_le V (l := l) (s := s) (i := i + 1) (j := wz_n W 2) (by omega) (Nat.le_refl _)
    have le0 : 0 ≤ sp_ls W l s i := sp_ls_le V (l := l) (s := s) (i := 0) (j := i) (by omega) (by omega)
    have bL := (sp_landed_i V (l := l) (s := s)).2.2
    have hs : sp_uss W l s a (i + 1) = sp_us l s a i (sp_uss W l s a i) := rfl
    unfold F12_eats_64b
    dsimp only
    refine k_e (rz_gr1 R1) (k_e (rz_c2 R1) ?_)
    rw [show (sp_uss W l s a i).2 22 0 0 = nI (wz_n (sp_uss W l s a i).2 2) from hc1, n1]
    refine k_f (nI_ge hi (by omega)) (k_if (fun c0 => k_s ?_) (fun c0 => ?_))
    · have c0' : x.toInt ≤ 0 := Int32.le_iff_toInt_le.mp c0
      rw [q1] at c0'
      have st : sp_uss W l s a (i + (wz_n W 2 - i)) = sp_uss W l s a i := by
        by_cases c : a.toInt ≤ sp_ls W l s i
        · refine sp_uss_stop (Int32.le_iff_toInt_le.mpr ?_) _
          rw [hu, i_min, if_pos c]
          exact Int.le_refl _
        · refine sp_uss_dry _ (fun j h1 h2 => ?_)
          have h2 : j < wz_n W 2 := by omega
          have m1 := sp_ls_le V (l := l) (s := s) (i := i) (j := j) h1 (by omega)
          have m2 := sp_ls_le V (l := l) (s := s) (i := j + 1) (j := wz_n W 2) (by omega) (Nat.le_refl _)
          have S2 : sp_ls W l s (j + 1) = sp_ls W l s j + sp_lv W l s j := rfl
          have lj := sp_lv_nn V (l := l) (s := s) h2
          unfold i_min at c0'
          rw [if_neg c] at c0'
          split at c0' <;> omega
      rw [show i + (wz_n W 2 - i) = wz_n W 2 by omega] at st
      show rz_N s0 th (sp_uss W l s a (wz_n W 2)).2 h1
      rw [st]
      exact R1
    have c0' : ¬ x.toInt ≤ 0 := fun y => c0 (Int32.le_iff_toInt_le.mpr y)
    rw [q1] at c0'
    have lt : ¬ a.toInt ≤ sp_ls W l s i := by
      intro c
      unfold i_min at c0'
      rw [if_pos c] at c0'
      split at c0' <;> omega
    have u : (sp_uss W l s a i).1.toInt = sp_ls W l s i := by rw [hu, i_min, if_neg lt]
    have na : ¬ a ≤ (sp_uss W l s a i).1 := fun y => lt (by have := Int32.le_iff_toInt_le.mp y; omega)
    have same : sp_lv W l s i = 0 → sp_uss W l s a (i + 1) = sp_uss W l s a i := fun v => sp_uss_dry 1 (fun j h1 h2 => by rw [show j = i by omega]; exact v)
    have skip : sp_lv W l s i = 0 → k_ok (some (.inl (x, nI i + 1, h1))) (m_KK (fun (z : Int32 × Int32 × m_H) => z.1.toInt = i_min a.toInt (sp_ls W l s (wz_n W 2)) - i_min a.toInt (sp_ls W l s (i + 1)) ∧ z.2.1 = nI (i + 1) ∧ rz_N s0 th (sp_uss W l s a (i + 1)).2 z.2.2) (rz_N s0 th (sp_uss W l s a (wz_n W 2)).2)) := by
      intro v
      refine k_s ⟨?_, (nI_succ i).symm, ?_⟩
      · rw [S1, v, Int.add_zero]; exact q1
      · rw [same v]; exact R1
    refine k_e (rz_isFor R1 rfl (by omega)) ?_
    rw [e1, e1]
    by_cases c1 : W 2 i 2 = l ∧ W 2 i 3 = 0
    case neg =>
      rw [if_neg c1]
      exact k_t rfl (skip (by unfold sp_lv; rw [if_neg (fun q => c1 ⟨q.1, q.2.1⟩)]))
    rw [if_pos c1]
    refine k_f (by decide) (k_e (rz_o0 R1 rfl (by omega)) ?_)
    rw [e1]
    refine k_if (fun c2 => ?_) (fun c2 => skip (by unfold sp_lv; rw [if_neg (fun q => c2 q.2.2)]))
    have v : sp_lv W l s i = (W 2 i 13).toInt := by unfold sp_lv; rw [if_pos ⟨c1.1, c1.2, c2⟩]
    refine k_e (rz_o13 R1 rfl (by omega)) ?_
    rw [e1]
    have mm : (m_min x (W 2 i 13)).toInt = if (W 2 i 13).toInt < x.toInt then (W 2 i 13).toInt else x.toInt := by
      unfold m_min
      split
      · next h => rw [if_pos (Int32.lt_iff_toInt_lt.mp h)]
      · next h => rw [if_neg (fun x => h (Int32.lt_iff_toInt_lt.mpr x))]
    have es : (a - (sp_uss W l s a i).1).toInt = a.toInt - (sp_uss W l s a i).1.toInt := i_sub (by omega) (by omega)
    have m2 : (m_min (a - (sp_uss W l s a i).1) (W 2 i 13)).toInt = if (W 2 i 13).toInt < a.toInt - sp_ls W l s i then (W 2 i 13).toInt else a.toInt - sp_ls W l s i := by
      unfold m_min
      rw [← u, ← es]
      split
      · next h => rw [if_pos (Int32.lt_iff_toInt_lt.mp h)]
      · next h => rw [if_neg (fun x => h (Int32.lt_iff_toInt_lt.mpr x))]
    have hx : x.toInt = i_min a.toInt (sp_ls W l s (wz_n W 2)) - sp_ls W l s i := by rw [q1, i_min, i_min, if_neg lt]
    have meq : m_min x (W 2 i 13) = m_min (a - (sp_uss W l s a i).1) (W 2 i 13) := by
      refine Int32.toInt_inj.mp ?_
      rw [mm, m2, hx]
      unfold i_min
      repeat' split
      all_goals omega
    refine k_b (rz_moves R1 rfl (by omega) (a := 3) (b := 4) rfl (by decide) rfl (by decide)) ?_
    intro h2 R2
    refine k_s ⟨?_, (nI_succ i).symm, ?_⟩
    · show (x - m_min x (W 2 i 13)).toInt = _
      have xb := Int32.toInt_lt x
      have xm : 0 ≤ (m_min x (W 2 i 13)).toInt ∧ (m_min x (W 2 i 13)).toInt ≤ x.toInt := by
        rw [mm]
        split <;> omega
      rw [i_sub (by omega) (by omega), mm, hx, S1, v]
      unfold i_min
      split <;> split <;> split <;> omega
    · rw [hs, sp_us, if_neg na]
      by_cases um : sp_um (sp_uss W l s a i).2 l s i
      · rw [if_pos um, e1]
        rw [meq] at R2
        exact R2
      · rw [if_neg um]
        have z : W 2 i 13 ≤ 0 := by
          refine Classical.byContradiction (fun z => um ?_)
          unfold sp_um
          rw [e1, e1, e1, e1]
          exact ⟨z, c1.1, c2, by rw [c1.1]; exact hl, c1.2⟩
        have z : (W 2 i 13).toInt ≤ 0 := Int32.le_iff_toInt_le.mp z
        have m00 : m_min x (W 2 i 13) = 0 := by
          refine Int32.toInt_inj.mp ?_
          rw [mm, if_pos (by omega)]
          show _ = (0 : Int)
          omega
        rw [m00, sp_mv_0 (by decide)] at R2
        exact R2
  · rintro ⟨x, y, h1⟩ ⟨q1, q2, R1⟩
    dsimp only at q1 q2 R1
    subst q2
    have V1 := (vz_uss V (l := l) (s := s) ha (wz_n W 2) (Nat.le_refl _)).1
    have hc1 := (V1.cap (k := 2) (by omega)).1
    unfold F12_eats_64b
    dsimp only
    refine k_e (rz_gr1 R1) (k_e (rz_c2 R1) ?_)
    rw [show (sp_uss W l s a (wz_n W 2)).2 22 0 0 = nI (wz_n (sp_uss W l s a (wz_n W 2)).2 2) from hc1, sp_uss_n]
    exact k_t (nI_le (Nat.le_refl _) (by omega)) (k_s R1)
  · have : sp_ls W l s 0 = 0 := rfl
    rw [hm, this]
    unfold i_min
    split <;> split <;> omega
end
