/-! ===== words that hold; what is looked at ===== -/
noncomputable def sp_hb (F T : Nat → Int32) (k : Int32) (i : Nat) : Bool := @decide (T (2 + 4 * i) = k ∧ sp_hold F T i) (Classical.propDecidable _)
theorem sp_hb_t {F T : Nat → Int32} {k : Int32} {i : Nat} (h : T (2 + 4 * i) = k ∧ sp_hold F T i) : sp_hb F T k i = true := @decide_eq_true _ (Classical.propDecidable _) h
theorem sp_hb_f {F T : Nat → Int32} {k : Int32} {i : Nat} (h : ¬ (T (2 + 4 * i) = k ∧ sp_hold F T i)) : sp_hb F T k i = false := @decide_eq_false _ (Classical.propDecidable _) h
def sp_fst (p : Nat → Bool) (n : Nat) : Nat → Int32
  | 0 => -1
  | k + 1 => if p (n - (k + 1)) = true then nI (n - (k + 1)) else sp_fst p n k
noncomputable def sp_why (W : m_W) (F : Nat → Int32) (k : Int32) : Int32 := match sp_text W with
  | none => -1
  | some t => sp_fst (sp_hb F (W 17 t) k) (W 17 t 1).toNatClampNeg (W 17 t 1).toNatClampNeg
noncomputable def sp_marks (W : m_W) (F : Nat → Int32) : Int32 := match sp_text W with
  | none => 0
  | some t => sp_it (fun i a => if sp_hb F (W 17 t) 1 i = true then a + W 17 t (3 + 4 * i) else a) (W 17 t 1).toNatClampNeg 0
noncomputable def sp_owe (W : m_W) (F : Nat → Int32) : Int32 := match sp_text W with
  | none => 0
  | some t => sp_it (fun i a => if sp_hb F (W 17 t) 2 i = true then m_max a (W 17 t (3 + 4 * i)) else a) (W 17 t 1).toNatClampNeg 0
def cz_L (s0 : tz_S) (W : m_W) (w : Option Nat) : Prop := match sp_text W with
  | none => w = none
  | some t => t < wz_n W 17 ∧ ∃ a, w = some a ∧ tz_Act s0.2.2.2.2.2.1 a (W 17 t)
def sp_fx (W : m_W) (l t : Nat) (c to : Int32) : Nat → Int32
  | 0 => nI l
  | 1 => nI t
  | 2 => W 14 0 0
  | 3 => c
  | 4 => c * W 0 t 0
  | 5 => sp_told W 1 (nI t) (W 14 0 0)
  | 6 => W 6 (8 * l + t) 1
  | 7 => W 5 l 0
  | 8 => sp_leased W (nI l)
  | _ => to
theorem vz.text {W : m_W} (V : vz W) {t : Nat} (ht : t < wz_n W 17) : vz_text (W 17 t) := V.2.2.2.2.2.2.2 t ht
section
variable {s0 : tz_S} {th : Int32} {W : m_W} {h : m_H} {F : Nat → Int32} {w : Option Nat}
theorem cz_why (K : cz_K s0 W F w h) (L : cz_L s0 W w) (V : vz W) {k : Int32} : k_ok (F2_why 211 k h) (fun z => ∃ h1, z = (sp_why W F k, h1) ∧ cz_K s0 W F w h1) := by
  unfold F2_why F2_why_0 sp_why
  refine k_g K.io (k_e K.law ?_)
  revert L
  unfold cz_L
  cases hq : sp_text W with
  | none =>
    rintro rfl
    show k_ok (F2_why_18 211 k 0 h) _
    unfold F2_why_18 F2_why_21
    exact ⟨_, wh_r (N := m_N - 1) (by unfold F2_why_21b; exact iz_t (show (0 : Int32) ≤ 0 by decide)), h, rfl, K⟩
  | some t =>
    rintro ⟨ht, a, rfl, A⟩
    obtain ⟨n, hn, hT, -⟩ := vz_text_line (V.text ht)
    show k_ok (m_b (m_go h 211 2 5) _) _
    refine k_e K.law (k_e rfl (k_e (K.act A).g1 ?_))
    dsimp only
    rw [hT, nI_clamp (by omega)]
    unfold F2_why_18 F2_why_21
    have key : ∀ j N h, j ≤ n → j < N → cz_K s0 W F (some a) h → k_ok (m_wh (fun s => F2_why_21b 211 k (nI n) s) N (nI (n - j), h)) (fun z => ∃ h1, z = (sp_fst (sp_hb F (W 17 t) k) n j, h1) ∧ cz_K s0 W F (some a) h1) := by
      intro j
      induction j with
      | zero =>
        intro N h _ hN K
        cases N with
        | zero => omega
        | succ N => exact ⟨_, wh_r (by unfold F2_why_21b; exact iz_t (nI_le (by omega) (by omega))), h, rfl, K⟩
      | succ j ih =>
        intro N h hj hN K
        cases N with
        | zero => omega
        | succ N =>
          obtain ⟨z, e, v, h1, rfl, K1, hv⟩ := cz_holds K A (V.text ht) (k := k) hT hn (i := n - (j + 1)) (by omega)
          unfold sp_fst
          have hb : F2_why_21b 211 k (nI n) (nI (n - (j + 1)), h) = m_if (v = 0) (some (.inl (nI (n - (j + 1)) + 1, h1))) (some (.inr (nI (n - (j + 1)), h1))) := by
            unfold F2_why_21b
            dsimp only
            rw [iz_f (nI_ge (by omega) (by omega)), e, bz_s]
          rcases hv with ⟨c1, c2, rfl⟩ | ⟨c, rfl⟩
          · rw [iz_f (by decide)] at hb
            rw [if_pos (sp_hb_t ⟨c1, c2⟩)]
            exact ⟨_, wh_r hb, h1, rfl, K1⟩
          · rw [iz_t rfl, ← nI_succ, show n - (j + 1) + 1 = n - j by omega] at hb
            rw [if_neg (by rw [sp_hb_f c]; decide)]
            obtain ⟨z2, e2, hz2⟩ := ih N h1 (by omega) (by omega) K1
            exact ⟨z2, wh_l hb e2, hz2⟩
    have := key n m_N h (Nat.le_refl n) (N_lt (by omega)) K
    rw [Nat.sub_self] at this
    exact this
theorem cz_marks (K : cz_K s0 W F w h) (L : cz_L s0 W w) (V : vz W) : k_ok (F2_sumOfMarks 211 h) (fun z => ∃ h1, z = (sp_marks W F, h1) ∧ cz_K s0 W F w h1) := by
  unfold F2_sumOfMarks F2_sumOfMarks_0 sp_marks
  refine k_g K.io (k_e K.law ?_)
  revert L
  unfold cz_L
  cases hq : sp_text W with
  | none =>
    rintro rfl
    show k_ok (F2_sumOfMarks_18 211 0 h) _
    unfold F2_sumOfMarks_18 F2_sumOfMarks_23
    exact ⟨_, wh_r (N := m_N - 1) (by unfold F2_sumOfMarks_23b; exact iz_t (show (0 : Int32) ≤ 0 by decide)), h, rfl, K⟩
  | some t =>
    rintro ⟨ht, a, rfl, A⟩
    obtain ⟨n, hn, hT, -⟩ := vz_text_line (V.text ht)
    show k_ok (m_b (m_go h 211 2 5) _) _
    refine k_e K.law (k_e rfl (k_e (K.act A).g1 ?_))
    dsimp only
    rw [hT, nI_clamp (by omega)]
    unfold F2_sumOfMarks_18 F2_sumOfMarks_23
    refine wh_i (n := n) (fun (i : Nat) (st : Int32 × Int32 × m_H) => st.1 = sp_it (fun i a => if sp_hb F (W 17 t) 1 i = true then a + W 17 t (3 + 4 * i) else a) i 0 ∧ st.2.1 = nI i ∧ cz_K s0 W F (some a) st.2.2) _ ?_ ?_ m_N 0 _ (N_lt (by omega)) (Nat.zero_le _) ⟨rfl, rfl, K⟩
    · rintro i ⟨x, y, h1⟩ hi ⟨rfl, rfl, K1⟩
      dsimp only at K1
      unfold F2_sumOfMarks_23b
      dsimp only
      refine k_f (nI_ge hi (by omega)) (k_b (cz_holds K1 A (V.text ht) (k := 1) hT hn hi) ?_)
      rintro _ ⟨v, h2, rfl, K2, hv⟩
      have hs : sp_it (fun i a => if sp_hb F (W 17 t) 1 i = true then a + W 17 t (3 + 4 * i) else a) (i + 1) 0 = if sp_hb F (W 17 t) 1 i = true then sp_it (fun i a => if sp_hb F (W 17 t) 1 i = true then a + W 17 t (3 + 4 * i) else a) i 0 + W 17 t (3 + 4 * i) else sp_it (fun i a => if sp_hb F (W 17 t) 1 i = true then a + W 17 t (3 + 4 * i) else a) i 0 := rfl
      rcases hv with ⟨c1, c2, rfl⟩ | ⟨c, rfl⟩
      · obtain ⟨n', m, e1, hn', hm, hend, hl, -⟩ := (K2.act A).line
        have en : n' = n := nI_e (by omega) (by omega) (e1.symm.trans hT)
        subst en
        refine k_f (show ¬ (1 : Int32) = 0 by decide) (k_e K2.law (k_e rfl (k_e (hl i hi).2.1 (k_s ⟨?_, (nI_succ i).symm, K2⟩))))
        rw [hs, if_pos (sp_hb_t ⟨c1, c2⟩)]
      · refine k_t rfl (k_s ⟨?_, (nI_succ i).symm, K2⟩)
        rw [hs, if_neg (by rw [sp_hb_f c]; decide)]
    · rintro ⟨x, y, h1⟩ ⟨rfl, rfl, K1⟩
      dsimp only at K1
      unfold F2_sumOfMarks_23b
      dsimp only
      exact k_t (nI_le (Nat.le_refl _) (by omega)) (k_s ⟨h1, rfl, K1⟩)
theorem cz_owe (K : cz_K s0 W F w h) (L : cz_L s0 W w) (V : vz W) : k_ok (F2_greatestOwe 211 h) (fun z => ∃ h1, z = (sp_owe W F, h1) ∧ cz_K s0 W F w h1) := by
  unfold F2_greatestOwe F2_greatestOwe_0 sp_owe
  refine k_g K.io (k_e K.law ?_)
  revert L
  unfold cz_L
  cases hq : sp_text W with
  | none =>
    rintro rfl
    show k_ok (F2_greatestOwe_18 211 0 h) _
    unfold F2_greatestOwe_18 F2_greatestOwe_23
    exact ⟨_, wh_r (N := m_N - 1) (by unfold F2_greatestOwe_23b; exact iz_t (show (0 : Int32) ≤ 0 by decide)), h, rfl, K⟩
  | some t =>
    rintro ⟨ht, a, rfl, A⟩
    obtain ⟨n, hn, hT, -⟩ := vz_text_line (V.text ht)
    show k_ok (m_b (m_go h 211 2 5) _) _
    refine k_e K.law (k_e rfl (k_e (K.act A).g1 ?_))
    dsimp only
    rw [hT, nI_clamp (by omega)]
    unfold F2_greatestOwe_18 F2_greatestOwe_23
    refine wh_i (n := n) (fun (i : Nat) (st : Int32 × Int32 × m_H) => st.1 = sp_it (fun i a => if sp_hb F (W 17 t) 2 i = true then m_max a (W 17 t (3 + 4 * i)) else a) i 0 ∧ st.2.1 = nI i ∧ cz_K s0 W F (some a) st.2.2) _ ?_ ?_ m_N 0 _ (N_lt (by omega)) (Nat.zero_le _) ⟨rfl, rfl, K⟩
    · rintro i ⟨x, y, h1⟩ hi ⟨rfl, rfl, K1⟩
      dsimp only at K1
      unfold F2_greatestOwe_23b
      dsimp only
      refine k_f (nI_ge hi (by omega)) (k_b (cz_holds K1 A (V.text ht) (k := 2) hT hn hi) ?_)
      rintro _ ⟨v, h2, rfl, K2, hv⟩
      have hs : sp_it (fun i a => if sp_hb F (W 17 t) 2 i = true then m_max a (W 17 t (3 + 4 * i)) else a) (i + 1) 0 = if sp_hb F (W 17 t) 2 i = true then m_max (sp_it (fun i a => if sp_hb F (W 17 t) 2 i = true then m_max a (W 17 t (3 + 4 * i)) else a) i 0) (W 17 t (3 + 4 * i)) else sp_it (fun i a => if sp_hb F (W 17 t) 2 i = true then m_max a (W 17 t (3 + 4 * i)) else a) i 0 := rfl
      rcases hv with ⟨c1, c2, rfl⟩ | ⟨c, rfl⟩
      · obtain ⟨n', m, e1, hn', hm, hend, hl, -⟩ := (K2.act A).line
        have en : n' = n := nI_e (by omega) (by omega) (e1.symm.trans hT)
        subst en
        refine k_f (show ¬ (1 : Int32) = 0 by decide) (k_e K2.law (k_e rfl (k_e (hl i hi).2.1 (k_s ⟨?_, (nI_succ i).symm, K2⟩))))
        rw [hs, if_pos (sp_hb_t ⟨c1, c2⟩)]
      · refine k_t rfl (k_s ⟨?_, (nI_succ i).symm, K2⟩)
        rw [hs, if_neg (by rw [sp_hb_f c]; decide)]
    · rintro ⟨x, y, h1⟩ ⟨rfl, rfl, K1⟩
      dsimp only at K1
      unfold F2_greatestOwe_23b
      dsimp only
      exact k_t (nI_le (Nat.le_refl _) (by omega)) (k_s ⟨h1, rfl, K1⟩)
/-! the reference -/
theorem rz_linesOf1 (R : rz_N s0 th W h) {t : Nat} (ht : t < 10) : F12_linesOf 317 (nI t) h = some (W 17 t 1) := by
  unfold F12_linesOf F12_linesOf_0
  rw [rz_io R, gz_s, iz_t (nI_pos' (by omega)), rz_gr1 R, bz_s, rz_tA, bz_s, rz_tg R (r := t) (c := 1) (x := 1) ht (by decide) rfl, bz_s]
theorem rz_linesOf0 (R : rz_N s0 th W h) : F12_linesOf 317 (-1) h = some 0 := by
  unfold F12_linesOf F12_linesOf_0
  rw [rz_io R, gz_s, iz_f (by decide)]
theorem rz_first (K : rz_K s0 th W F h) (V : vt W) {k : Int32} : k_ok (F12_firstOf 317 k h) (fun z => ∃ h1, z = (sp_why W F k, h1) ∧ rz_K s0 th W F h1) := by
  have hn17 : wz_n W 17 ≤ 10 := V.1.2
  obtain ⟨et, hti⟩ := rz_text K.N V
  unfold F12_firstOf F12_firstOf_0 F12_firstOf_7 sp_why
  refine k_g (rz_io K.N) (k_e et ?_)
  revert hti
  cases hq : sp_text W with
  | none =>
    intro _
    exact ⟨_, wh_r (N := m_N - 1) (by unfold F12_firstOf_7b; dsimp only; rw [rz_linesOf0 K.N, bz_s]; exact iz_t (show (0 : Int32) ≤ 0 by decide)), h, rfl, K⟩
  | some t =>
    intro hti
    have ht := hti t rfl
    obtain ⟨n, hn, hT, -⟩ := vz_text_line (V.2 t ht)
    dsimp only
    rw [hT, nI_clamp (by omega)]
    have key : ∀ j N h, j ≤ n → j < N → rz_K s0 th W F h → k_ok (m_wh (fun s => F12_firstOf_7b 317 k (nI t) s) N (nI (n - j), h)) (fun z => ∃ h1, z = (sp_fst (sp_hb F (W 17 t) k) n j, h1) ∧ rz_K s0 th W F h1) := by
      intro j
      induction j with
      | zero =>
        intro N h _ hN K
        cases N with
        | zero => omega
        | succ N => exact ⟨_, wh_r (by unfold F12_firstOf_7b; dsimp only; rw [rz_linesOf1 K.N (by omega), bz_s, hT]; exact iz_t (nI_le (by omega) (by omega))), h, rfl, K⟩
      | succ j ih =>
        intro N h hj hN K
        cases N with
        | zero => omega
        | succ N =>
          obtain ⟨z, e, v, h1, rfl, K1, hv⟩ := rz_holds K (by omega) (V.2 t ht) hT hn (i := n - (j + 1)) (by omega)
          unfold sp_fst
          have hb : F12_firstOf_7b 317 k (nI t) (nI (n - (j + 1)), h) = m_if (W 17 t (2 + 4 * (n - (j + 1))) = k) (m_if (v = 0) (some (.inl (nI (n - (j + 1)) + 1, h1))) (some (.inr (nI (n - (j + 1)), h1)))) (some (.inl (nI (n - (j + 1)) + 1, h))) := by
            unfold F12_firstOf_7b
            dsimp only
            rw [rz_linesOf1 K.N (by omega), bz_s, hT, iz_f (nI_ge (by omega) (by omega)), rz_gr1 K.N, bz_s, rz_lnA, bz_s, rz_ln0 K.N (by omega) (by omega), bz_s, e, bz_s]
          by_cases q : W 17 t (2 + 4 * (n - (j + 1))) = k
          · rw [iz_t q] at hb
            rcases hv with ⟨c2, rfl⟩ | ⟨c, rfl⟩
            · rw [iz_f (by decide)] at hb
              rw [if_pos (sp_hb_t ⟨q, c2⟩)]
              exact ⟨_, wh_r hb, h1, rfl, K1⟩
            · rw [iz_t rfl, ← nI_succ, show n - (j + 1) + 1 = n - j by omega] at hb
              rw [if_neg (by rw [sp_hb_f (fun x => c x.2)]; decide)]
              obtain ⟨z2, e2, hz2⟩ := ih N h1 (by omega) (by omega) K1
              exact ⟨z2, wh_l hb e2, hz2⟩
          · rw [iz_f q, ← nI_succ, show n - (j + 1) + 1 = n - j by omega] at hb
            rw [if_neg (by rw [sp_hb_f (fun x => q x.1)]; decide)]
            obtain ⟨z2, e2, hz2⟩ := ih N h (by omega) (by omega) K
            exact ⟨z2, wh_l hb e2, hz2⟩
    have := key n m_N h (Nat.le_refl n) (N_lt (by omega)) K
    rw [Nat.sub_self] at this
    exact this
theorem rz_all (K : rz_K s0 th W F h) (V : vt W) {k : Int32} (hk : k = 1 ∨ k = 2) : k_ok (F12_allOf 317 k h) (fun z => ∃ h1, z = (if k = 1 then sp_marks W F else sp_owe W F, h1) ∧ rz_K s0 th W F h1) := by
  have hn17 : wz_n W 17 ≤ 10 := V.1.2
  obtain ⟨et, hti⟩ := rz_text K.N V
  unfold F12_allOf F12_allOf_0 F12_allOf_10 sp_marks sp_owe
  refine k_g (rz_io K.N) (k_e et ?_)
  revert hti
  cases hq : sp_text W with
  | none =>
    intro _
    refine ⟨_, wh_r (N := m_N - 1) (by unfold F12_allOf_10b; dsimp only; rw [rz_linesOf0 K.N, bz_s]; exact iz_t (show (0 : Int32) ≤ 0 by decide)), h, ?_, K⟩
    dsimp only
    rw [ite_self]
  | some t =>
    intro hti
    have ht := hti t rfl
    obtain ⟨n, hn, hT, -⟩ := vz_text_line (V.2 t ht)
    dsimp only
    rw [hT, nI_clamp (by omega)]
    let g : Nat → Int32 → Int32 := fun i a => if sp_hb F (W 17 t) k i = true then (if k = 1 then a + W 17 t (3 + 4 * i) else m_max a (W 17 t (3 + 4 * i))) else a
    have hg : sp_it g n 0 = if k = 1 then sp_it (fun i a => if sp_hb F (W 17 t) 1 i = true then a + W 17 t (3 + 4 * i) else a) n 0 else sp_it (fun i a => if sp_hb F (W 17 t) 2 i = true then m_max a (W 17 t (3 + 4 * i)) else a) n 0 := by
      rcases hk with rfl | rfl
      · rfl
      · rfl
    rw [← hg]
    refine wh_i (n := n) (fun (i : Nat) (st : Int32 × Int32 × m_H) => st.1 = sp_it g i 0 ∧ st.2.1 = nI i ∧ rz_K s0 th W F st.2.2) _ ?_ ?_ m_N 0 _ (N_lt (by omega)) (Nat.zero_le _) ⟨rfl, rfl, K⟩
    · rintro i ⟨x, y, h1⟩ hi ⟨rfl, rfl, K1⟩
      dsimp only at K1
      unfold F12_allOf_10b
      dsimp only
      have hs : sp_it g (i + 1) 0 = if sp_hb F (W 17 t) k i = true then (if k = 1 then sp_it g i 0 + W 17 t (3 + 4 * i) else m_max (sp_it g i 0) (W 17 t (3 + 4 * i))) else sp_it g i 0 := rfl
      refine k_e (rz_linesOf1 K1.N (by omega)) ?_
      rw [hT]
      refine k_f (nI_ge hi (by omega)) (k_e (rz_gr1 K1.N) (k_e rz_lnA (k_e (rz_ln0 K1.N (by omega) (by omega)) ?_)))
      refine k_if (fun q => ?_) (fun q => k_s ⟨?_, (nI_succ i).symm, K1⟩)
      · refine k_b (rz_holds K1 (by omega) (V.2 t ht) hT hn hi) ?_
        rintro _ ⟨v, h2, rfl, K2, hv⟩
        rcases hv with ⟨c2, rfl⟩ | ⟨c, rfl⟩
        · refine k_f (show ¬ (1 : Int32) = 0 by decide) (k_if (fun q2 => ?_) (fun q2 => ?_))
          · refine k_e (rz_gr1 K2.N) (k_e rz_lnA (k_e (rz_ln1 K2.N (by omega) (by omega)) (k_s ⟨?_, (nI_succ i).symm, K2⟩)))
            rw [hs, if_pos (sp_hb_t ⟨q, c2⟩), if_pos q2]
          · refine k_e (rz_gr1 K2.N) (k_e rz_lnA (k_e (rz_ln1 K2.N (by omega) (by omega)) (k_s ⟨?_, (nI_succ i).symm, K2⟩)))
            rw [hs, if_pos (sp_hb_t ⟨q, c2⟩), if_neg q2]
        · refine k_t rfl (k_s ⟨?_, (nI_succ i).symm, K2⟩)
          rw [hs, if_neg (by rw [sp_hb_f (fun x => c x.2)]; decide)]
      · rw [hs, if_neg (by rw [sp_hb_f (fun x => q x.1)]; decide)]
    · rintro ⟨x, y, h1⟩ ⟨rfl, rfl, K1⟩
      dsimp only at K1
      unfold F12_allOf_10b
      dsimp only
      refine k_e (rz_linesOf1 K1.N (by omega)) ?_
      rw [hT]
      exact k_t (nI_le (Nat.le_refl _) (by omega)) (k_s ⟨h1, rfl, K1⟩)
end
