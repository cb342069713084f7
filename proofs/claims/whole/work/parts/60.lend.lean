/-! ===== lend ===== -/
def sp_tks (t : Int32) (i : Nat) (p : Int32 × m_W) : Int32 × m_W :=
  if p.1 ≤ 0 then p else if p.2 2 i 2 = 0 ∧ p.2 2 i 0 = t then (p.1 - m_min p.1 (p.2 2 i 11), wz_up (wz_up p.2 2 i 11 (p.2 2 i 11 - m_min p.1 (p.2 2 i 11))) 2 i 1 (p.2 2 i 1 - m_min p.1 (p.2 2 i 11))) else p
def sp_tk (W : m_W) (t c : Int32) (n : Nat) : Int32 × m_W := sp_it (sp_tks t) n (c, W)
def sp_take (W : m_W) (t c : Int32) : m_W := (sp_tk W t c (wz_n W 2)).2
def sp_lend1 (W W1 : m_W) (t c l owe : Int32) (r : Nat) : m_W :=
  wz_up (wz_up (wz_up (wz_up (sp_lot0 W1 t c l 1) 2 (wz_n W 2) 6 (W 14 0 0)) 2 (wz_n W 2) 19 (sp_told W 1 t (W 14 0 0))) 2 (wz_n W 2) 20 owe) 3 r 4 (W 3 r 4 + c)
def sp_lend (W : m_W) (r : Nat) (c owe : Int32) : m_W := sp_lend1 W (sp_take W (W 3 r 1) c) (W 3 r 1) c (W 3 r 0) owe r
theorem sp_tk_k {W : m_W} {t c : Int32} {k r x : Nat} (h : ¬ (k = 2 ∧ (x = 1 ∨ x = 11))) : ∀ n, (sp_tk W t c n).2 k r x = W k r x
  | 0 => rfl
  | n + 1 => by
    show (sp_tks t n (sp_tk W t c n)).2 k r x = _
    unfold sp_tks
    split
    · exact sp_tk_k h n
    · split
      · show wz_up (wz_up _ 2 n 11 _) 2 n 1 _ k r x = _
        by_cases q : k = 2
        · rw [wz_up_c (fun e => h ⟨q, Or.inl e⟩), wz_up_c (fun e => h ⟨q, Or.inr e⟩), sp_tk_k h n]
        · rw [wz_up_k q, wz_up_k q, sp_tk_k h n]
      · exact sp_tk_k h n
theorem sp_tk_r {W : m_W} {t c : Int32} {r x : Nat} : ∀ n, n ≤ r → (sp_tk W t c n).2 2 r x = W 2 r x
  | 0, _ => rfl
  | n + 1, h => by
    show (sp_tks t n (sp_tk W t c n)).2 2 r x = _
    unfold sp_tks
    split
    · exact sp_tk_r n (by omega)
    · split
      · show wz_up (wz_up _ 2 n 11 _) 2 n 1 _ 2 r x = _
        rw [wz_up_r (by omega), wz_up_r (by omega), sp_tk_r n (by omega)]
      · exact sp_tk_r n (by omega)
theorem sp_tk_stop {W : m_W} {t c : Int32} {n : Nat} (h : (sp_tk W t c n).1 ≤ 0) : ∀ m, sp_tk W t c (n + m) = sp_tk W t c n
  | 0 => rfl
  | m + 1 => by
    show sp_tks t (n + m) (sp_tk W t c (n + m)) = _
    rw [sp_tk_stop h m]
    unfold sp_tks
    rw [if_pos h]
section
variable {s0 : tz_S} {th : Int32} {W : m_W} {h : m_H}
theorem sp_tk_n {t c : Int32} {n k : Nat} : wz_n (sp_tk W t c n).2 k = wz_n W k := by
  unfold wz_n
  rw [sp_tk_k (by omega)]
theorem cz_take (R : cz_N s0 W h) (hn : wz_n W 2 ≤ 100) {t c : Int32} : k_ok (F3_takeFromStock 223 t c h) (cz_N s0 (sp_take W t c)) := by
  unfold F3_takeFromStock F3_takeFromStock_0 F3_takeFromStock_5 sp_take
  refine k_g (nz_io223 R) ?_
  refine wh_i (n := wz_n W 2) (fun (i : Nat) (z : Int32 × Int32 × m_H) => z.1 = (sp_tk W t c i).1 ∧ z.2.1 = nI i ∧ cz_N s0 (sp_tk W t c i).2 z.2.2) _ ?_ ?_ m_N 0 _ (N_lt (by omega)) (Nat.zero_le _) ⟨rfl, rfl, R⟩
  · rintro i ⟨x, y, h1⟩ hi ⟨rfl, rfl, R1⟩
    dsimp only at R1
    have hs : sp_tk W t c (i + 1) = sp_tks t i (sp_tk W t c i) := rfl
    have en : wz_n (sp_tk W t c i).2 2 = wz_n W 2 := sp_tk_n
    have hi1 : i < wz_n (sp_tk W t c i).2 2 := by rw [en]; exact hi
    unfold F3_takeFromStock_5b
    dsimp only
    refine k_e (nz_gr223_8 R1) (k_e (cz_z2 R1) ?_)
    rw [en]
    refine k_f (nI_ge hi (by omega)) (k_if (fun q => k_s ?_) (fun q => ?_))
    · have := sp_tk_stop q (wz_n W 2 - i)
      rw [show i + (wz_n W 2 - i) = wz_n W 2 by omega] at this
      show cz_N s0 (sp_tk W t c (wz_n W 2)).2 h1
      rw [this]
      exact R1
    · rw [sp_tks, if_neg q] at hs
      refine k_e (cz_isStock R1 rfl hi1) ?_
      by_cases q2 : (sp_tk W t c i).2 2 i 2 = 0
      · rw [if_pos q2]
        refine k_f (by decide) (k_e (nz_gr223_8 R1) (k_e (cz_g2_0 R1 rfl hi1) (k_if (fun q3 => ?_) (fun q3 => k_s ⟨?_, (nI_succ i).symm, ?_⟩))))
        · rw [if_pos ⟨q2, q3⟩] at hs
          refine k_e (cz_cr1 R1 rfl hi1) (k_e (nz_gr223_8 R1) (k_b (cz_raise R1 (k := 2) (c := 11) (by decide) rfl rfl hi1 rfl (by decide)) ?_))
          intro h2 R2
          refine k_e (nz_gr223_8 R2) (k_b (cz_raise R2 (k := 2) (c := 1) (by decide) rfl rfl hi1 rfl (by decide)) ?_)
          intro h3 R3
          refine k_s ⟨by rw [hs], (nI_succ i).symm, ?_⟩
          rw [hs]
          rw [show wz_pi 2 11 = 11 from rfl, show wz_pi 2 1 = 1 from rfl, wz_up_c (show ¬ 1 = 11 by decide), ← Int32.sub_eq_add_neg, ← Int32.sub_eq_add_neg] at R3
          exact R3
        · rw [hs, if_neg (fun x => q3 x.2)]
        · rw [hs, if_neg (fun x => q3 x.2)]
          exact R1
      · rw [if_neg q2]
        refine k_t rfl (k_s ⟨?_, (nI_succ i).symm, ?_⟩)
        · rw [hs, if_neg (fun x => q2 x.1)]
        · rw [hs, if_neg (fun x => q2 x.1)]
          exact R1
  · rintro ⟨x, y, h1⟩ ⟨rfl, rfl, R1⟩
    dsimp only at R1
    have en : wz_n (sp_tk W t c (wz_n W 2)).2 2 = wz_n W 2 := sp_tk_n
    unfold F3_takeFromStock_5b
    dsimp only
    refine k_e (nz_gr223_8 R1) (k_e (cz_z2 R1) ?_)
    rw [en]
    exact k_t (nI_le (Nat.le_refl _) (by omega)) (k_s R1)
theorem rz_takeG {G : Nat → Int64} (K : rz_G s0 th W G h) (hc : W 22 0 0 = nI (wz_n W 2)) (hn : wz_n W 2 ≤ 100) {t c : Int32} : k_ok (F12_empties 317 t c h) (rz_G s0 th (sp_take W t c) G) := by
  unfold F12_empties F12_empties_0 F12_empties_5 sp_take
  refine k_g (rz_io K.N) ?_
  refine wh_i (n := wz_n W 2) (fun (i : Nat) (z : Int32 × Int32 × m_H) => z.1 = (sp_tk W t c i).1 ∧ z.2.1 = nI i ∧ rz_G s0 th (sp_tk W t c i).2 G z.2.2) _ ?_ ?_ m_N 0 _ (N_lt (by omega)) (Nat.zero_le _) ⟨rfl, rfl, K⟩
  · rintro i ⟨x, y, h1⟩ hi ⟨rfl, rfl, K1⟩
    dsimp only at K1
    have hs : sp_tk W t c (i + 1) = sp_tks t i (sp_tk W t c i) := rfl
    have ec : (sp_tk W t c i).2 22 0 0 = nI (wz_n W 2) := (sp_tk_k (by omega) i).trans hc
    unfold F12_empties_5b
    dsimp only
    refine k_e (rz_gr1 K1.N) (k_e (rz_c2 K1.N) ?_)
    rw [ec]
    refine k_f (nI_ge hi (by omega)) (k_if (fun q => k_s ?_) (fun q => ?_))
    · have := sp_tk_stop q (wz_n W 2 - i)
      rw [show i + (wz_n W 2 - i) = wz_n W 2 by omega] at this
      show rz_G s0 th (sp_tk W t c (wz_n W 2)).2 G h1
      rw [this]
      exact K1
    · rw [sp_tks, if_neg q] at hs
      refine k_e (rz_isStock K1.N rfl (by omega)) ?_
      have l1 := fun h => rz_lotAt (h := h) (x := nI i) (r := i) rfl (by omega) (y := 1) (c := 1) rfl (by decide)
      have l11 := fun h => rz_lotAt (h := h) (x := nI i) (r := i) rfl (by omega) (y := 11) (c := 11) rfl (by decide)
      by_cases q2 : (sp_tk W t c i).2 2 i 2 = 0
      · rw [if_pos q2]
        refine k_f (by decide) (k_e (rz_o0 K1.N rfl (by omega)) (k_if (fun q3 => ?_) (fun q3 => k_s ⟨?_, (nI_succ i).symm, ?_⟩)))
        · rw [if_pos ⟨q2, q3⟩] at hs
          refine k_e (rz_o11 K1.N rfl (by omega)) (k_e (rz_gr1 K1.N) (k_e (l11 h1).1 (k_e (rz_get K1.N rfl (l11 h1).2) (k_b (rz_gset K1 rfl (l11 h1).2) ?_))))
          intro h2 K2
          refine k_e (rz_gr1 K2.N) (k_e (l1 h2).1 (k_e (rz_get K2.N rfl (l1 h2).2) (k_b (rz_gset K2 rfl (l1 h2).2) ?_)))
          intro h3 K3
          refine k_s ⟨by rw [hs], (nI_succ i).symm, ?_⟩
          rw [hs]
          rw [wz_up_c (show ¬ 1 = 11 by decide)] at K3
          exact K3
        · rw [hs, if_neg (fun x => q3 x.2)]
        · rw [hs, if_neg (fun x => q3 x.2)]
          exact K1
      · rw [if_neg q2]
        refine k_t rfl (k_s ⟨?_, (nI_succ i).symm, ?_⟩)
        · rw [hs, if_neg (fun x => q2 x.1)]
        · rw [hs, if_neg (fun x => q2 x.1)]
          exact K1
  · rintro ⟨x, y, h1⟩ ⟨rfl, rfl, K1⟩
    dsimp only at K1
    have ec : (sp_tk W t c (wz_n W 2)).2 22 0 0 = nI (wz_n W 2) := (sp_tk_k (by omega) _).trans hc
    unfold F12_empties_5b
    dsimp only
    refine k_e (rz_gr1 K1.N) (k_e (rz_c2 K1.N) ?_)
    rw [ec]
    exact k_t (nI_le (Nat.le_refl _) (by omega)) (k_s K1)
end
