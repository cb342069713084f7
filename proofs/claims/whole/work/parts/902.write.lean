/-! ===== the BOOKS are written at a week's end ===== -/
def sp_lp (W : m_W) (l t : Int32) (i : Nat) : Int32 := sp_it (fun r a => if W 2 r 2 = l ∧ W 2 r 3 = 0 then (if W 2 r 0 = t then a + W 2 r 13 else a) else a) i 0
theorem sp_lp_s {W : m_W} {l t : Int32} {i : Nat} : sp_lp W l t (i + 1) = if W 2 i 2 = l ∧ W 2 i 3 = 0 then (if W 2 i 0 = t then sp_lp W l t i + W 2 i 13 else sp_lp W l t i) else sp_lp W l t i := rfl
theorem tz_fm.HR {s s' : tz_S} {b : Nat} {W : m_W} {o : Nat} (H : tz_HR s b W) (hb : tz_hb b) (F : tz_fm o s s') : tz_HR s' b W := by
  have r := tz_hb_r hb
  exact H.congx (fun a k _ _ => by rw [F.1]) (fun a h1 h2 => F.2.1 a (by omega) (by omega)) (by rw [F.2.2.2.1]) F.2.2.2.2.2.1
theorem tz_HR.N {s : tz_S} {W : m_W} (H : tz_HR s 223 W) : cz_N s W (tz_H s) := ⟨s, rfl, H, tz_fr.refl⟩
theorem cz_write (s : tz_S) (W : m_W) (H : tz_HR s 223 W) (V : vz W) {n m : Nat} {f g : Nat → Int32} (Z : bz_Z s 313 315 n m f g) (hw : W 14 0 0 < 500) : k_ok (F1_write 313 223 (tz_H s)) (fun h => ∃ s' n' f', h = tz_H s' ∧ bz_Z s' 313 315 n' m f' g ∧ n ≤ n' ∧ ((W 14 0 0).toNatClampNeg + 1) * 48 ≤ n' ∧ (∀ j, j < n → j < (W 14 0 0).toNatClampNeg * 48 → f' j = f j) ∧ (∀ l t, 1 ≤ l → l ≤ 5 → t ≤ 7 → f' ((W 14 0 0).toNatClampNeg * 48 + (8 * l + t)) = sp_landed W (nI l) (nI t)) ∧ tz_fm 313 s s' ∧ rm_s s' + rm_p n ≤ rm_s s + rm_p n' ∧ rm_c s' + rm_p n ≤ rm_c s + rm_p n') := by
  have hb : tz_bo 313 315 := Or.inl ⟨rfl, rfl⟩
  have hn2 : wz_n W 2 ≤ 100 := V.c (k := 2) (by omega)
  obtain ⟨ew, w5⟩ := V.week
  have w500 : (W 14 0 0).toNatClampNeg < 500 := by
    rcases Nat.lt_or_ge (W 14 0 0).toNatClampNeg 500 with q | q
    · exact q
    · rw [ew] at hw
      exact absurd hw (nI_nlt (b := 500) q (by omega))
  generalize (W 14 0 0).toNatClampNeg = w at ew w500 ⊢
  have e48 : nI w * 48 = nI (w * 48) := nI_mul w 48
  have e49 : nI (w * 48) + 48 = nI ((w + 1) * 48) := by
    show nI (w * 48) + nI 48 = _
    rw [nI_add]
    congr 1
    omega
  unfold F1_write F1_write_0
  refine k_g (tz_ioB (Or.inl rfl)) (k_e (cz_i0 H.N) ?_)
  rw [ew, e48, e49]
  refine k_b (bz_room hb Z (c := (w + 1) * 48) (by omega)) ?_
  rintro _ ⟨s1, n1, f1, rfl, Z1, a1, a2, a3, a4, a5, a6⟩
  have n24 := Z1.2.2.2.1
  unfold F1_write_18
  refine wh_i (n := 48) (fun (i : Nat) (z : Int32 × m_H) => z.1 = nI i ∧ ∃ s2 f2, z.2 = tz_H s2 ∧ bz_Z s2 313 315 n1 m f2 g ∧ (∀ j, j < w * 48 → f2 j = f1 j) ∧ (∀ j, j < i → f2 (w * 48 + j) = 0) ∧ tz_fm 313 s s2 ∧ rm_s s2 = rm_s s1 ∧ rm_c s2 = rm_c s1) _ ?_ ?_ m_N 0 _ (N_lt (by decide)) (Nat.zero_le _) ⟨rfl, s1, f1, rfl, Z1, fun _ _ => rfl, fun j hj => absurd hj (Nat.not_lt_zero j), a4, rfl, rfl⟩
  · rintro i ⟨y, h2⟩ hi ⟨q1, s2, f2, q2, Z2, b1, b2, b3, b4, b5⟩
    dsimp only at q1 q2
    subst q1 q2
    unfold F1_write_18b
    dsimp only
    refine k_f (show ¬ (48 : Int32) ≤ nI i from nI_ge (b := 48) hi (by decide)) ?_
    rw [nI_add]
    refine k_b (bz_set hb Z2 (show w * 48 + i < n1 by omega)) ?_
    rintro _ ⟨s3, rfl, Z3, c1, c2, c3⟩
    refine k_s ⟨(nI_succ i).symm, s3, _, rfl, Z3, fun j hj => ?_, fun j hj => ?_, b3.trans c1, c2.trans b4, c3.trans b5⟩
    · rw [pk_un (by omega)]
      exact b1 j hj
    · by_cases q : j = i
      · subst q
        exact pk_us
      · rw [pk_un (by omega)]
        exact b2 j (by omega)
  · rintro ⟨y, h2⟩ ⟨q1, s2, f2, q2, Z2, b1, b2, b3, b4, b5⟩
    dsimp only at q1 q2
    subst q1 q2
    unfold F1_write_18b
    dsimp only
    refine k_t (show (48 : Int32) ≤ nI 48 by decide) ?_
    suffices P : k_ok (F1_write_41 313 223 (nI (w * 48)) 0 (tz_H s2)) (fun h => ∃ s' n' f', h = tz_H s' ∧ bz_Z s' 313 315 n' m f' g ∧ n ≤ n' ∧ (w + 1) * 48 ≤ n' ∧ (∀ j, j < n → j < w * 48 → f' j = f j) ∧ (∀ l t, 1 ≤ l → l ≤ 5 → t ≤ 7 → f' (w * 48 + (8 * l + t)) = sp_landed W (nI l) (nI t)) ∧ tz_fm 313 s s' ∧ rm_s s' + rm_p n ≤ rm_s s + rm_p n' ∧ rm_c s' + rm_p n ≤ rm_c s + rm_p n') by
      obtain ⟨z, e, hz⟩ := P
      exact ⟨.inr z, by rw [e]; rfl, hz⟩
    unfold F1_write_41
    refine wh_i (n := wz_n W 2) (fun (i : Nat) (z : Int32 × m_H) => z.1 = nI i ∧ ∃ s4 f4, z.2 = tz_H s4 ∧ bz_Z s4 313 315 n1 m f4 g ∧ (∀ j, j < w * 48 → f4 j = f1 j) ∧ (∀ l t, 1 ≤ l → l ≤ 5 → t ≤ 7 → f4 (w * 48 + (8 * l + t)) = sp_lp W (nI l) (nI t) i) ∧ tz_fm 313 s s4 ∧ rm_s s4 = rm_s s1 ∧ rm_c s4 = rm_c s1) _ ?_ ?_ m_N 0 _ (N_lt (by omega)) (Nat.zero_le _) ⟨rfl, s2, f2, rfl, Z2, b1, fun l t h1 h2 h3 => b2 _ (by omega), b3, b4, b5⟩
    · rintro i ⟨y, h4⟩ hi ⟨q1, s4, f4, q2, Z4, c1, c2, c3, c4, c5⟩
      dsimp only at q1 q2
      subst q1 q2
      have R := (c3.HR H (Or.inl rfl)).N
      have L := V.lot hi
      obtain ⟨la, hla, ela⟩ := i_row (x := W 2 i 2) (n := 5) rfl L.2.2.1
      obtain ⟨so, hso, eso⟩ := i_row (x := W 2 i 0) (n := 7) rfl L.1
      have stay : (∀ l t, 1 ≤ l → l ≤ 5 → t ≤ 7 → sp_lp W (nI l) (nI t) (i + 1) = sp_lp W (nI l) (nI t) i) → k_ok (some (.inl (nI i + 1, tz_H s4))) (m_KK (fun (z : Int32 × m_H) => z.1 = nI (i + 1) ∧ ∃ s4 f4, z.2 = tz_H s4 ∧ bz_Z s4 313 315 n1 m f4 g ∧ (∀ j, j < w * 48 → f4 j = f1 j) ∧ (∀ l t, 1 ≤ l → l ≤ 5 → t ≤ 7 → f4 (w * 48 + (8 * l + t)) = sp_lp W (nI l) (nI t) (i + 1)) ∧ tz_fm 313 s s4 ∧ rm_s s4 = rm_s s1 ∧ rm_c s4 = rm_c s1) (fun h => ∃ s' n' f', h = tz_H s' ∧ bz_Z s' 313 315 n' m f' g ∧ n ≤ n' ∧ (w + 1) * 48 ≤ n' ∧ (∀ j, j < n → j < w * 48 → f' j = f j) ∧ (∀ l t, 1 ≤ l → l ≤ 5 → t ≤ 7 → f' (w * 48 + (8 * l + t)) = sp_landed W (nI l) (nI t)) ∧ tz_fm 313 s s' ∧ rm_s s' + rm_p n ≤ rm_s s + rm_p n' ∧ rm_c s' + rm_p n ≤ rm_c s + rm_p n')) := fun hh =>
        k_s ⟨(nI_succ i).symm, s4, f4, rfl, Z4, c1, fun l t h1 h2 h3 => (c2 l t h1 h2 h3).trans (hh l t h1 h2 h3).symm, c3, c4, c5⟩
      unfold F1_write_41b
      dsimp only
      refine k_e (nz_gr223_8 R) (k_e (cz_z2 R) (k_f (nI_ge hi (by omega)) (k_e (cz_crates R (q := 3) rfl hi rfl (by decide)) (k_if (fun q => stay (fun l t h1 h2 h3 => ?_)) (fun q => ?_)))))
      · have z : W 2 i 13 = 0 := Int32.le_antisymm q (L.2.2.2.2.2.2.2.2.2.2.2.2.2 3 (by decide) (by decide))
        rw [sp_lp_s, z, Int32.add_zero, ite_self, ite_self]
      refine k_e (cz_isLent R rfl hi) ?_
      by_cases c : ¬ W 2 i 2 = 0 ∧ W 2 i 3 = 0
      case neg =>
        rw [if_neg c]
        refine k_t rfl (stay (fun l t h1 h2 h3 => ?_))
        rw [sp_lp_s, if_neg (fun x => c ⟨by rw [x.1]; exact nI_ne0 h1 (by omega), x.2⟩)]
      rw [if_pos c]
      refine k_f (by decide) (k_e (nz_gr223_8 R) (k_e (cz_g2_2 R rfl hi) (k_e (nz_gr223_8 R) (k_e (cz_g2_0 R rfl hi) ?_))))
      rw [ela, eso]
      refine k_e cz_tradeRow ?_
      rw [nI_add]
      refine k_b (bz_raise hb Z4 (show w * 48 + (8 * la + so) < n1 by omega)) ?_
      rintro _ ⟨s5, rfl, Z5, d1, d2, d3⟩
      refine k_s ⟨(nI_succ i).symm, s5, _, rfl, Z5, fun j hj => ?_, fun l t h1 h2 h3 => ?_, c3.trans d1, d2.trans c4, d3.trans c5⟩
      · rw [pk_un (by omega)]
        exact c1 j hj
      · rw [sp_lp_s, ela, eso]
        by_cases q2 : la = l ∧ so = t
        · obtain ⟨rfl, rfl⟩ := q2
          rw [if_pos ⟨rfl, c.2⟩, if_pos rfl, pk_us, c2 la so h1 h2 h3]
        · rw [pk_un (by omega), c2 l t h1 h2 h3]
          by_cases q3 : la = l
          · rw [if_pos ⟨by rw [q3], c.2⟩, if_neg (fun x => q2 ⟨q3, nI_e (by omega) (by omega) x⟩)]
          · rw [if_neg (fun x => q3 (nI_e (by omega) (by omega) x.1))]
    · rintro ⟨y, h4⟩ ⟨q1, s4, f4, q2, Z4, c1, c2, c3, c4, c5⟩
      dsimp only at q1 q2
      subst q1 q2
      have R := (c3.HR H (Or.inl rfl)).N
      unfold F1_write_41b
      dsimp only
      refine k_e (nz_gr223_8 R) (k_e (cz_z2 R) (k_t (nI_le (Nat.le_refl _) (by omega)) (k_s ⟨s4, n1, f4, rfl, Z4, a1, a2, fun j h1 h2 => (c1 j h2).trans (a3 j h1), fun l t h1 h2 h3 => c2 l t h1 h2 h3, c3, ?_, ?_⟩)))
      · rw [c4]; exact a5
      · rw [c5]; exact a6
