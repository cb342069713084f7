/-! ===== a week: goods are used; the reference's loop ===== -/
def sp_lv (W : m_W) (l s : Int32) (i : Nat) : Int := if W 2 i 2 = l ∧ W 2 i 3 = 0 ∧ W 2 i 0 = s then (W 2 i 13).toInt else 0
def sp_ls (W : m_W) (l s : Int32) (k : Nat) : Int := sp_it (fun i a => a + sp_lv W l s i) k 0
def i_min (a b : Int) : Int := if a ≤ b then a else b
theorem sp_uss_r {W : m_W} {l s a : Int32} {r x : Nat} : ∀ n, n ≤ r → (sp_uss W l s a n).2 2 r x = W 2 r x
  | 0, _ => rfl
  | n + 1, h => by
    show (sp_us l s a n (sp_uss W l s a n)).2 2 r x = _
    unfold sp_us
    split
    · exact sp_uss_r n (by omega)
    · split
      · show sp_mv _ n 3 4 _ 2 r x = _
        rw [sp_mv_r (by omega), sp_uss_r n (by omega)]
      · exact sp_uss_r n (by omega)
section
variable {s0 : tz_S} {th : Int32} {W : m_W} {h : m_H}
theorem sp_lv_nn (V : vz W) {l s : Int32} {i : Nat} (hi : i < wz_n W 2) : 0 ≤ sp_lv W l s i ∧ sp_lv W l s i ≤ 1000 := by
  unfold sp_lv
  split
  · exact V.pl (p := 3) hi (by decide) (by decide)
  · exact ⟨by decide, by decide⟩
theorem sp_ls_mono (V : vz W) {l s : Int32} {i : Nat} : ∀ m, i + m ≤ wz_n W 2 → sp_ls W l s i ≤ sp_ls W l s (i + m)
  | 0, _ => Int.le_refl _
  | m + 1, h => by
    have e : sp_ls W l s (i + (m + 1)) = sp_ls W l s (i + m) + sp_lv W l s (i + m) := rfl
    have := sp_ls_mono V (l := l) (s := s) (i := i) m (by omega)
    have := (sp_lv_nn V (l := l) (s := s) (i := i + m) (by omega)).1
    omega
theorem sp_ls_le (V : vz W) {l s : Int32} {i j : Nat} (h : i ≤ j) (hj : j ≤ wz_n W 2) : sp_ls W l s i ≤ sp_ls W l s j := by
  have := sp_ls_mono V (l := l) (s := s) (i := i) (j - i) (by omega)
  rw [show i + (j - i) = j by omega] at this
  exact this
theorem sp_landed_i (V : vz W) {l s : Int32} : (sp_landed W l s).toInt = sp_ls W l s (wz_n W 2) ∧ 0 ≤ sp_ls W l s (wz_n W 2) ∧ sp_ls W l s (wz_n W 2) ≤ 100000 := by
  have hn : wz_n W 2 ≤ 100 := V.c (k := 2) (by omega)
  have b : ∀ i, i < wz_n W 2 → 0 ≤ (if W 2 i 2 = l ∧ W 2 i 3 = 0 ∧ W 2 i 0 = s then W 2 i 13 else 0).toInt ∧ (if W 2 i 2 = l ∧ W 2 i 3 = 0 ∧ W 2 i 0 = s then W 2 i 13 else 0).toInt ≤ 1000 := by
    intro i hi
    split
    · exact V.pl (p := 3) hi (by decide) (by decide)
    · exact ⟨by decide, by decide⟩
  have sm := s32 (b := 1000) (by decide) (n := wz_n W 2) (by omega) b
  have e1 : sp_landed W l s = sp_it (fun i a => a + (if W 2 i 2 = l ∧ W 2 i 3 = 0 ∧ W 2 i 0 = s then W 2 i 13 else 0)) (wz_n W 2) 0 := by
    unfold sp_landed
    refine si_if (fun i hi a => ?_)
    by_cases q1 : W 2 i 2 = l ∧ W 2 i 3 = 0
    · by_cases q2 : W 2 i 0 = s
      · rw [if_pos q1, if_pos q2, if_pos ⟨q1.1, q1.2, q2⟩]
      · rw [if_pos q1, if_neg q2, if_neg (fun x => q2 x.2.2), Int32.add_zero]
    · rw [if_neg q1, if_neg (fun x => q1 ⟨x.1, x.2.1⟩), Int32.add_zero]
  have e2 : sp_ls W l s (wz_n W 2) = sp_it (fun i a => a + (if W 2 i 2 = l ∧ W 2 i 3 = 0 ∧ W 2 i 0 = s then W 2 i 13 else 0).toInt) (wz_n W 2) 0 := by
    unfold sp_ls sp_lv
    refine si_if (fun i hi a => ?_)
    split <;> rfl
  rw [e1, e2]
  exact ⟨sm.1, sm.2.1, by have := sm.2.2; omega⟩
theorem sp_uss_u (V : vz W) {l s a : Int32} (ha : 0 ≤ a) (hl : ¬ l = 0) : ∀ i, i ≤ wz_n W 2 → (sp_uss W l s a i).1.toInt = i_min a.toInt (sp_ls W l s i)
  | 0, _ => by
    have := i_nn ha
    show (0 : Int) = if a.toInt ≤ 0 then a.toInt else 0
    split <;> omega
  | i + 1, h => by
    have ih := sp_uss_u V (s := s) ha hl i (by omega)
    have hi : i < wz_n W 2 := by omega
    have lv := sp_lv_nn V (l := l) (s := s) hi
    have S1 : sp_ls W l s (i + 1) = sp_ls W l s i + sp_lv W l s i := rfl
    have s0 := sp_ls_le V (l := l) (s := s) (i := 0) (j := i) (by omega) (by omega)
    have s0 : 0 ≤ sp_ls W l s i := s0
    have e1 : ∀ x, (sp_uss W l s a i).2 2 i x = W 2 i x := fun x => sp_uss_r i (Nat.le_refl _)
    have e : sp_uss W l s a (i + 1) = sp_us l s a i (sp_uss W l s a i) := rfl
    have ab := Int32.toInt_lt a
    have a0 := i_nn ha
    unfold i_min at ih ⊢
    rw [e, S1]
    unfold sp_us
    by_cases q : a ≤ (sp_uss W l s a i).1
    · rw [if_pos q]
      have q' := Int32.le_iff_toInt_le.mp q
      rw [ih] at q' ⊢
      split at q' <;> split <;> omega
    · have q' : ¬ a.toInt ≤ (sp_uss W l s a i).1.toInt := fun y => q (Int32.le_iff_toInt_le.mpr y)
      rw [if_neg q]
      have u : (sp_uss W l s a i).1.toInt = sp_ls W l s i ∧ ¬ a.toInt ≤ sp_ls W l s i := by
        rw [ih] at q' ⊢
        split at q'
        · omega
        · next y => rw [if_neg y]; exact ⟨rfl, y⟩
      by_cases m : sp_um (sp_uss W l s a i).2 l s i
      · rw [if_pos m]
        unfold sp_um at m
        rw [e1, e1, e1, e1] at m
        have v : sp_lv W l s i = (W 2 i 13).toInt := by unfold sp_lv; rw [if_pos ⟨m.2.1, m.2.2.2.2, m.2.2.1⟩]
        have es : (a - (sp_uss W l s a i).1).toInt = a.toInt - (sp_uss W l s a i).1.toInt := i_sub (by omega) (by omega)
        have mm : (m_min (a - (sp_uss W l s a i).1) (W 2 i 13)).toInt = if (W 2 i 13).toInt < a.toInt - sp_ls W l s i then (W 2 i 13).toInt else a.toInt - sp_ls W l s i := by
          unfold m_min
          rw [← u.1, ← es]
          split
          · next h => rw [if_pos (Int32.lt_iff_toInt_lt.mp h)]
          · next h => rw [if_neg (fun x => h (Int32.lt_iff_toInt_lt.mpr x))]
        show ((sp_uss W l s a i).1 + m_min (a - (sp_uss W l s a i).1) ((sp_uss W l s a i).2 2 i 13)).toInt = _
        rw [e1]
        have mb : 0 ≤ (m_min (a - (sp_uss W l s a i).1) (W 2 i 13)).toInt ∧ (m_min (a - (sp_uss W l s a i).1) (W 2 i 13)).toInt ≤ a.toInt - sp_ls W l s i := by
          rw [mm]; split <;> omega
        rw [i_add (by omega) (by omega), mm, u.1, v]
        split <;> split <;> omega
      · rw [if_neg m, u.1]
        have v : sp_lv W l s i = 0 := by
          unfold sp_lv
          split
          · next y =>
            unfold sp_um at m
            rw [e1, e1, e1, e1] at m
            have z : W 2 i 13 ≤ 0 := by
              refine Classical.byContradiction (fun z => m ⟨z, y.1, y.2.2, ?_, y.2.1⟩)
              rw [y.1]; exact hl
            have z := Int32.le_iff_toInt_le.mp z
            have z : (W 2 i 13).toInt ≤ 0 := z
            have := (V.pl (p := 3) hi (by decide) (by decide)).1
            have : 0 ≤ (W 2 i 13).toInt := this
            omega
          · rfl
        rw [v]
        split <;> omega
theorem sp_uss_dry {l s a : Int32} {i : Nat} : ∀ m, (∀ j, i ≤ j → j < i + m → sp_lv W l s j = 0) → sp_uss W l s a (i + m) = sp_uss W l s a i
  | 0, _ => rfl
  | m + 1, h => by
    have ih := sp_uss_dry (a := a) m (fun j h1 h2 => h j h1 (by omega))
    have v := h (i + m) (by omega) (by omega)
    show sp_us l s a (i + m) (sp_uss W l s a (i + m)) = _
    have e1 : ∀ x, (sp_uss W l s a (i + m)).2 2 (i + m) x = W 2 (i + m) x := fun x => sp_uss_r (i + m) (Nat.le_refl _)
    have nm : ¬ sp_um (sp_uss W l s a (i + m)).2 l s (i + m) := by
      intro q
      unfold sp_um at q
      rw [e1, e1, e1, e1] at q
      unfold sp_lv at v
      rw [if_pos ⟨q.2.1, q.2.2.2.2, q.2.2.1⟩] at v
      exact q.1 (Int32.le_iff_toInt_le.mpr (by rw [v]; decide))
    unfold sp_us
    rw [if_neg nm, ite_self, ih]
theorem sp_mv_0 {t a b : Nat} (hab : ¬ a = b) : sp_mv W t a b 0 = W := by
  unfold sp_mv
  rw [Int32.sub_zero, Int32.add_zero, wz_up_same rfl, wz_up_same rfl]
end
