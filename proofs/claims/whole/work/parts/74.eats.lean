/-! ===== a week: goods are used ===== -/
abbrev sp_um (W : m_W) (l s : Int32) (i : Nat) : Prop := ¬ W 2 i 13 ≤ 0 ∧ W 2 i 2 = l ∧ W 2 i 0 = s ∧ ¬ W 2 i 2 = 0 ∧ W 2 i 3 = 0
def sp_us (l s a : Int32) (i : Nat) (p : Int32 × m_W) : Int32 × m_W := if a ≤ p.1 then p else if sp_um p.2 l s i then (p.1 + m_min (a - p.1) (p.2 2 i 13), sp_mv p.2 i 3 4 (m_min (a - p.1) (p.2 2 i 13))) else p
def sp_uss (W : m_W) (l s a : Int32) (i : Nat) : Int32 × m_W := sp_it (sp_us l s a) i (0, W)
section
variable {s0 : tz_S} {th : Int32} {W : m_W} {h : m_H}
theorem sp_us_n {l s a : Int32} {i k : Nat} {p : Int32 × m_W} : wz_n (sp_us l s a i p).2 k = wz_n p.2 k := by
  unfold sp_us
  split
  · rfl
  · split
    · show wz_n (sp_mv p.2 i 3 4 _) k = _
      unfold sp_mv
      rw [wz_n_up (by omega), wz_n_up (by omega)]
    · rfl
theorem sp_uss_n {l s a : Int32} {k : Nat} : ∀ i, wz_n (sp_uss W l s a i).2 k = wz_n W k
  | 0 => rfl
  | i + 1 => (sp_us_n (p := sp_uss W l s a i) (i := i)).trans (sp_uss_n i)
theorem sp_uss_stop {l s a : Int32} {i : Nat} (h : a ≤ (sp_uss W l s a i).1) : ∀ m, sp_uss W l s a (i + m) = sp_uss W l s a i
  | 0 => rfl
  | m + 1 => by
    show sp_us l s a (i + m) (sp_uss W l s a (i + m)) = _
    rw [sp_uss_stop h m]
    unfold sp_us
    rw [if_pos h]
theorem vz_mv34 (V : vz W) {i : Nat} (hi : i < wz_n W 2) {n : Int32} (n0 : 0 ≤ n.toInt) (n1 : n.toInt ≤ (W 2 i 13).toInt) : vz (sp_mv W i 3 4 n) := by
  have L := V.lot hi
  have P3 := V.pl (p := 3) hi (by decide) (by decide)
  have P4 := V.pl (p := 4) hi (by decide) (by decide)
  have P3 : 0 ≤ (W 2 i 13).toInt ∧ (W 2 i 13).toInt ≤ 1000 := P3
  have P4 : 0 ≤ (W 2 i 14).toInt ∧ (W 2 i 14).toInt ≤ 1000 := P4
  have g : ∀ x, sp_mv W i 3 4 n 2 i x = if x = 14 then W 2 i 14 + n else if x = 13 then W 2 i 13 - n else W 2 i x := fun x => sp_mv_e (by decide)
  have g13 : sp_mv W i 3 4 n 2 i 13 = W 2 i 13 - n := g 13
  have g14 : sp_mv W i 3 4 n 2 i 14 = W 2 i 14 + n := g 14
  have k : ∀ x, ¬ x = 13 → ¬ x = 14 → sp_mv W i 3 4 n 2 i x = W 2 i x := fun x h1 h2 => (g x).trans (by rw [if_neg h2, if_neg h1])
  have i13 : (W 2 i 13 - n).toInt = (W 2 i 13).toInt - n.toInt := i_sub (by omega) (by omega)
  have i14 : (W 2 i 14 + n).toInt = (W 2 i 14).toInt + n.toInt := i_add (by omega) (by omega)
  refine V.lotUp hi (fun k i' x hk => ?_) ?_ (k 2 (by decide) (by decide)) (k 3 (by decide) (by decide)) ?_
  · unfold sp_mv wz_up
    rw [if_neg (fun y => hk ⟨y.1, y.2.1⟩), if_neg (fun y => hk ⟨y.1, y.2.1⟩)]
  · obtain ⟨a0, a1, a2, a3, a5, a6, a7, a19, a9, as, al, ab, a17, ap⟩ := L
    unfold vz_lot
    rw [k 0 (by decide) (by decide), k 1 (by decide) (by decide), k 2 (by decide) (by decide), k 3 (by decide) (by decide), k 5 (by decide) (by decide), k 6 (by decide) (by decide), k 7 (by decide) (by decide), k 19 (by decide) (by decide), k 9 (by decide) (by decide), k 10 (by decide) (by decide), k 11 (by decide) (by decide), k 17 (by decide) (by decide)]
    refine ⟨a0, a1, a2, a3, a5, a6, a7, a19, a9, as, al, ab, a17, fun p hp h2 => ?_⟩
    by_cases y3 : p = 3
    · subst y3
      rw [g13]
      refine Int32.le_iff_toInt_le.mpr ?_
      rw [i13]; show (0 : Int) ≤ _; omega
    · by_cases y4 : p = 4
      · subst y4
        rw [g14]
        refine Int32.le_iff_toInt_le.mpr ?_
        rw [i14]; show (0 : Int) ≤ _; omega
      · rw [k (10 + p) (by omega) (by omega)]
        exact ap p hp h2
  · rw [sp_pls_e, sp_pls_e, g13, g14, k 10 (by decide) (by decide), k 11 (by decide) (by decide), k 15 (by decide) (by decide), k 16 (by decide) (by decide), k 17 (by decide) (by decide), k 18 (by decide) (by decide), k 1 (by decide) (by decide), i13, i14]
    omega
theorem vz_uss (V : vz W) {l s a : Int32} (ha : 0 ≤ a) : ∀ i, i ≤ wz_n W 2 → vz (sp_uss W l s a i).2 ∧ 0 ≤ (sp_uss W l s a i).1.toInt
  | 0, _ => ⟨V, (show (0 : Int) ≤ (0 : Int32).toInt by decide)⟩
  | i + 1, h => by
    obtain ⟨V1, u0⟩ := vz_uss V (l := l) (s := s) ha i (by omega)
    have hi1 : i < wz_n (sp_uss W l s a i).2 2 := by rw [sp_uss_n]; omega
    have e : sp_uss W l s a (i + 1) = sp_us l s a i (sp_uss W l s a i) := rfl
    rw [e]
    unfold sp_us
    split
    · exact ⟨V1, u0⟩
    · next q =>
      split
      · have P3 := V1.pl (p := 3) hi1 (by decide) (by decide)
        have P3 : 0 ≤ ((sp_uss W l s a i).2 2 i 13).toInt ∧ ((sp_uss W l s a i).2 2 i 13).toInt ≤ 1000 := P3
        have q' : ¬ a.toInt ≤ (sp_uss W l s a i).1.toInt := fun y => q (Int32.le_iff_toInt_le.mpr y)
        have ab := Int32.toInt_lt a
        have es : (a - (sp_uss W l s a i).1).toInt = a.toInt - (sp_uss W l s a i).1.toInt := i_sub (by omega) (by omega)
        have m : 0 ≤ (m_min (a - (sp_uss W l s a i).1) ((sp_uss W l s a i).2 2 i 13)).toInt ∧ (m_min (a - (sp_uss W l s a i).1) ((sp_uss W l s a i).2 2 i 13)).toInt ≤ ((sp_uss W l s a i).2 2 i 13).toInt ∧ (m_min (a - (sp_uss W l s a i).1) ((sp_uss W l s a i).2 2 i 13)).toInt ≤ a.toInt - (sp_uss W l s a i).1.toInt := by
          rw [← es]
          unfold m_min
          split
          · next h => exact ⟨P3.1, Int.le_refl _, Int.le_of_lt (Int32.lt_iff_toInt_lt.mp h)⟩
          · next h => exact ⟨by rw [es]; omega, Int32.le_iff_toInt_le.mp (Int32.not_lt.mp h), Int.le_refl _⟩
        refine ⟨vz_mv34 V1 hi1 m.1 m.2.1, ?_⟩
        show 0 ≤ ((sp_uss W l s a i).1 + _).toInt
        rw [i_add (by omega) (by omega)]
        omega
      · exact ⟨V1, u0⟩
theorem cz_useSort (R : cz_N s0 W h) (hn : wz_n W 2 ≤ 100) {l s a : Int32} : k_ok (F10_useSort 223 l s a h) (fun z => ∃ h1, z = ((sp_uss W l s a (wz_n W 2)).1, h1) ∧ cz_N s0 (sp_uss W l s a (wz_n W 2)).2 h1) := by
  unfold F10_useSort F10_useSort_0 F10_useSort_6
  refine wh_i (n := wz_n W 2) (fun (i : Nat) (z : Int32 × Int32 × m_H) => z.1 = (sp_uss W l s a i).1 ∧ z.2.1 = nI i ∧ cz_N s0 (sp_uss W l s a i).2 z.2.2) _ ?_ ?_ m_N 0 _ (N_lt (by omega)) (Nat.zero_le _) ⟨rfl, rfl, R⟩
  · rintro i ⟨x, y, h1⟩ hi ⟨q1, q2, R1⟩
    dsimp only at q1 q2 R1
    subst q1 q2
    have hi1 : i < wz_n (sp_uss W l s a i).2 2 := by rw [sp_uss_n]; exact hi
    have hs : sp_uss W l s a (i + 1) = sp_us l s a i (sp_uss W l s a i) := rfl
    have n1 : wz_n (sp_uss W l s a i).2 2 = wz_n W 2 := sp_uss_n i
    have st := fun q => @sp_uss_stop W l s a i q (wz_n W 2 - i)
    rw [show i + (wz_n W 2 - i) = wz_n W 2 by omega] at st
    generalize sp_uss W l s a i = p at R1 hi1 hs n1 st
    obtain ⟨u, W1⟩ := p
    dsimp only at R1 hi1 n1 st
    have skip : ¬ sp_um W1 l s i → k_ok (some (.inl (u, nI i + 1, h1))) (m_KK (fun (z : Int32 × Int32 × m_H) => z.1 = (sp_uss W l s a (i + 1)).1 ∧ z.2.1 = nI (i + 1) ∧ cz_N s0 (sp_uss W l s a (i + 1)).2 z.2.2) (fun (z : Int32 × m_H) => ∃ h1, z = ((sp_uss W l s a (wz_n W 2)).1, h1) ∧ cz_N s0 (sp_uss W l s a (wz_n W 2)).2 h1)) := by
      intro q
      refine k_s ?_
      rw [hs, sp_us]
      dsimp only
      rw [if_neg q, ite_self]
      exact ⟨rfl, (nI_succ i).symm, R1⟩
    unfold F10_useSort_6b
    dsimp only
    refine k_e (nz_gr223_8 R1) (k_e (cz_z2 R1) ?_)
    rw [n1]
    refine k_f (nI_ge hi (by omega)) (k_if (fun c0 => k_s ?_) (fun c0 => ?_))
    · rw [st c0]
      exact ⟨h1, rfl, R1⟩
    refine k_e (cz_crates R1 (q := 3) rfl hi1 rfl (by decide)) (k_if (fun c1 => skip (fun q => q.1 c1)) (fun c1 => ?_))
    refine k_e (nz_gr223_8 R1) (k_e (cz_g2_2 R1 rfl hi1) (k_if (fun c2 => ?_) (fun c2 => skip (fun q => c2 q.2.1))))
    refine k_e (nz_gr223_8 R1) (k_e (cz_g2_0 R1 rfl hi1) (k_if (fun c3 => ?_) (fun c3 => skip (fun q => c3 q.2.2.1))))
    refine k_e (cz_isLent R1 rfl hi1) ?_
    by_cases c4 : ¬ W1 2 i 2 = 0 ∧ W1 2 i 3 = 0
    · rw [if_pos c4]
      refine k_f (by decide) (k_e (cz_crates R1 (q := 3) rfl hi1 rfl (by decide)) (k_b (cz_move R1 rfl hi1 (a := 3) (b := 4) rfl (by decide) rfl (by decide)) ?_))
      intro h2 R2
      refine k_s ?_
      rw [hs, sp_us]
      dsimp only
      rw [if_neg c0, if_pos ⟨c1, c2, c3, c4⟩]
      exact ⟨rfl, (nI_succ i).symm, R2⟩
    · rw [if_neg c4]
      exact k_t rfl (skip (fun q => c4 ⟨q.2.2.2.1, q.2.2.2.2⟩))
  · rintro ⟨x, y, h1⟩ ⟨q1, q2, R1⟩
    dsimp only at q1 q2 R1
    subst q1 q2
    unfold F10_useSort_6b
    dsimp only
    refine k_e (nz_gr223_8 R1) (k_e (cz_z2 R1) ?_)
    rw [sp_uss_n]
    exact k_t (nI_le (Nat.le_refl _) (by omega)) (k_s ⟨h1, rfl, R1⟩)
end
