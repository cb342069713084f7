/-! ===== a week: orders are begun ===== -/
def sp_nd (W : m_W) (i c : Nat) : Int32 := W 2 i 1 * W 0 (W 2 i 0).toNatClampNeg c
def sp_bg (i : Nat) (W : m_W) : m_W := if W 2 i 2 = 0 ∧ W 2 i 5 = 0 ∧ sp_nd W i 1 ≤ W 14 0 1 then wz_up (wz_up W 14 0 1 (W 14 0 1 - sp_nd W i 1)) 2 i 5 1 else W
section
variable {s0 : tz_S} {th : Int32} {W : m_W} {h : m_H}
theorem vz_14c (V : vz W) {x : Nat} {v : Int32} (hx : x = 1 ∨ x = 2) : vz (wz_up W 14 0 x v) := by
  refine V.up14 (fun k i x hk => wz_up_k hk) ?_
  have G := V.2.2.2.2.1
  have e : ∀ y, y = 0 ∨ y = 3 ∨ y = 4 → wz_up W 14 0 x v 14 0 y = W 14 0 y := fun y hy => wz_up_c (by omega)
  have ek : ∀ k i y, ¬ k = 14 → wz_up W 14 0 x v k i y = W k i y := fun k i y hk => wz_up_k hk
  unfold vz_glob at G ⊢
  rw [show wz_n (wz_up W 14 0 x v) 10 = wz_n W 10 from rfl, show wz_n (wz_up W 14 0 x v) 8 = wz_n W 8 from rfl, e 0 (by decide), e 3 (by decide), e 4 (by decide)]
  simp only [ek 10 _ _ (by decide), ek 8 _ _ (by decide), ek 6 _ _ (by decide)]
  exact G
theorem vz_bg (V : vz W) {i : Nat} (hi : i < wz_n W 2) : vz (sp_bg i W) := by
  unfold sp_bg
  split
  · next c =>
    have V1 := vz_14c V (x := 1) (v := W 14 0 1 - sp_nd W i 1) (Or.inl rfl)
    have L := V1.lot (show i < wz_n (wz_up W 14 0 1 (W 14 0 1 - sp_nd W i 1)) 2 from hi)
    have e5 : wz_up W 14 0 1 (W 14 0 1 - sp_nd W i 1) 2 i 5 = 0 := (wz_up_k (by decide)).trans c.2.1
    have c2 : wz_up W 14 0 1 (W 14 0 1 - sp_nd W i 1) 2 i 2 = 0 := (wz_up_k (by decide)).trans c.1
    have hi1 : i < wz_n (wz_up W 14 0 1 (W 14 0 1 - sp_nd W i 1)) 2 := hi
    generalize wz_up W 14 0 1 (W 14 0 1 - sp_nd W i 1) = W1 at V1 L e5 c2 hi1
    have k : ∀ x, ¬ x = 5 → wz_up W1 2 i 5 1 2 i x = W1 2 i x := fun x hx => wz_up_c hx
    refine V1.lotUp hi1 (fun k i' x hk => ?_) ?_ (k 2 (by decide)) (k 3 (by decide)) ?_
    · unfold wz_up
      rw [if_neg (fun y => hk ⟨y.1, y.2.1⟩)]
    · obtain ⟨a0, a1, a2, a3, a5, a6, a7, a19, a9, as, al, ab, a17, ap⟩ := L
      unfold vz_lot
      rw [k 0 (by decide), k 1 (by decide), k 2 (by decide), k 3 (by decide), wz_up_s, k 6 (by decide), k 7 (by decide), k 19 (by decide), k 9 (by decide), k 10 (by decide), k 11 (by decide), k 17 (by decide)]
      obtain ⟨as1, as2, as3⟩ := as c2
      refine ⟨a0, a1, a2, a3, Or.inr rfl, a6, a7, a19, a9, fun _ => ⟨as1, fun y => absurd y (by decide), fun _ => Or.inr (as2 e5).1⟩, al, ab, a17, fun p hp h2 => ?_⟩
      rw [k (10 + p) (by omega)]
      exact ap p hp h2
    · rw [sp_pls_e, sp_pls_e, k 10 (by decide), k 11 (by decide), k 13 (by decide), k 14 (by decide), k 15 (by decide), k 16 (by decide), k 17 (by decide), k 18 (by decide), k 1 (by decide)]
  · exact V
theorem sp_bg_n {i k : Nat} : wz_n (sp_bg i W) k = wz_n W k := by
  unfold sp_bg
  split
  · rw [wz_n_up (by omega), wz_n_up (by omega)]
  · rfl
def sp_bgs (W : m_W) (i : Nat) : m_W := sp_it sp_bg i W
theorem sp_bgs_n {k : Nat} : ∀ i, wz_n (sp_bgs W i) k = wz_n W k
  | 0 => rfl
  | i + 1 => (sp_bg_n (W := sp_bgs W i) (i := i)).trans (sp_bgs_n i)
theorem vz_bgs (V : vz W) : ∀ i, i ≤ wz_n W 2 → vz (sp_bgs W i)
  | 0, _ => V
  | i + 1, h => vz_bg (vz_bgs V i (by omega)) (by rw [sp_bgs_n]; omega)
theorem cz_nd (R : cz_N s0 W h) (V : vz W) {i c : Nat} {y : Int32} (hi : i < wz_n W 2) (hy : y = nI c) (hc : c < 4) : F3_needOfAll 223 (nI i) y h = some (sp_nd W i c) := by
  obtain ⟨s, hs, es⟩ := i_row (x := W 2 i 0) (n := 7) rfl (V.lot hi).1
  unfold F3_needOfAll F3_needOfAll_0 sp_nd
  rw [nz_io223 R, gz_s, nz_gr223_8 R, bz_s, cz_g2_1 R rfl hi, bz_s, nz_gr223_6 R, bz_s, bz_s, cz_g2_0 R rfl hi, bz_s, es, cz_get R (k := 0) (c := c) (by decide) rfl rfl (show s < wz_n W 0 by rw [V.n0]; omega) hy hc, bz_s, nI_clamp (by omega)]
  rfl
theorem cz_begins (R : cz_N s0 W h) (V : vz W) : k_ok (F10_beginOrders 223 h) (cz_N s0 (sp_bgs W (wz_n W 2))) := by
  have hn : wz_n W 2 ≤ 100 := V.c (k := 2) (by omega)
  unfold F10_beginOrders F10_beginOrders_0 F10_beginOrders_2
  refine wh_i (n := wz_n W 2) (fun (i : Nat) (z : Int32 × m_H) => z.1 = nI i ∧ cz_N s0 (sp_bgs W i) z.2) _ ?_ ?_ m_N 0 _ (N_lt (by omega)) (Nat.zero_le _) ⟨rfl, R⟩
  · rintro i ⟨y, h1⟩ hi ⟨q1, R1⟩
    dsimp only at q1 R1
    subst q1
    have V1 := vz_bgs V i (by omega)
    have hi1 : i < wz_n (sp_bgs W i) 2 := by rw [sp_bgs_n]; exact hi
    have hs : sp_bgs W (i + 1) = sp_bg i (sp_bgs W i) := rfl
    have n1 : wz_n (sp_bgs W i) 2 = wz_n W 2 := sp_bgs_n i
    generalize sp_bgs W i = W1 at R1 V1 hi1 hs n1
    have no : ¬ (W1 2 i 2 = 0 ∧ W1 2 i 5 = 0 ∧ sp_nd W1 i 1 ≤ W1 14 0 1) → sp_bgs W (i + 1) = W1 := fun q => by rw [hs, sp_bg, if_neg q]
    unfold F10_beginOrders_2b
    dsimp only
    refine k_e (nz_gr223_8 R1) (k_e (cz_z2 R1) ?_)
    rw [n1]
    refine k_f (nI_ge hi (by omega)) (k_e (cz_notBegun R1 rfl hi1) ?_)
    by_cases c1 : W1 2 i 2 = 0 ∧ W1 2 i 5 = 0
    · rw [if_pos c1]
      refine k_f (by decide) (k_e (cz_nd R1 V1 (c := 1) hi1 rfl (by decide)) (k_e (cz_i1 R1) (k_if (fun c2 => k_s ⟨(nI_succ i).symm, ?_⟩) (fun c2 => ?_))))
      · rw [no (fun q => Int32.not_le.mpr c2 q.2.2)]
        exact R1
      · refine k_e (cz_i1 R1) (k_e (cz_nd R1 V1 (c := 1) hi1 rfl (by decide)) (k_b (cz_p1 R1) ?_))
        intro h2 R2
        refine k_e (nz_gr223_8 R2) (k_b (cz_s2_5 R2 rfl hi1) ?_)
        intro h3 R3
        refine k_s ⟨(nI_succ i).symm, ?_⟩
        rw [hs, sp_bg, if_pos ⟨c1.1, c1.2, Int32.not_lt.mp c2⟩]
        exact R3
    · rw [if_neg c1]
      refine k_t rfl (k_s ⟨(nI_succ i).symm, ?_⟩)
      rw [no (fun q => c1 ⟨q.1, q.2.1⟩)]
      exact R1
  · rintro ⟨y, h1⟩ ⟨q1, R1⟩
    dsimp only at q1 R1
    subst q1
    unfold F10_beginOrders_2b
    dsimp only
    refine k_e (nz_gr223_8 R1) (k_e (cz_z2 R1) ?_)
    rw [sp_bgs_n]
    exact k_t (nI_le (Nat.le_refl _) (by omega)) (k_s R1)
theorem rz_isOrder (R : rz_N s0 th W h) {t : Nat} (ht : t < 100) : F12_isOrder 317 (nI t) h = some (if W 2 t 2 = 0 ∧ ¬ W 2 t 10 ≤ 0 then 1 else 0) := by
  unfold F12_isOrder F12_isOrder_0
  rw [rz_io R, gz_s, rz_isStock R rfl ht, bz_s]
  by_cases q : W 2 t 2 = 0
  · rw [if_pos q, iz_f (by decide), rz_o10 R rfl ht, bz_s]
    by_cases q2 : W 2 t 10 ≤ 0
    · rw [iz_t q2, if_neg (fun x => x.2 q2)]
    · rw [iz_f q2, if_pos ⟨q, q2⟩]
  · rw [if_neg q, iz_t rfl, if_neg (fun x => q x.1)]
end
