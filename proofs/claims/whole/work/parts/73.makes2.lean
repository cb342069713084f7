/-! ===== a week: work on orders; the reference's makes ===== -/
def sp_wk1 (i : Nat) (W : m_W) : m_W := if W 2 i 4 + 1 < W 0 (W 2 i 0).toNatClampNeg 3 then wz_up W 2 i 4 (W 2 i 4 + 1) else sp_mv (wz_up W 2 i 4 (W 2 i 4 + 1)) i 0 1 (W 2 i 10)
def sp_wk (i : Nat) (p : Int32 × m_W) : Int32 × m_W := if ¬ p.2 2 i 10 ≤ 0 ∧ p.2 2 i 5 = 1 ∧ sp_nd p.2 i 2 ≤ p.1 then (p.1 - sp_nd p.2 i 2, sp_wk1 i p.2) else p
def sp_wks (W : m_W) (i : Nat) : Int32 × m_W := sp_it sp_wk i (W 14 0 2, W)
section
variable {s0 : tz_S} {th : Int32} {W : m_W} {h : m_H}
theorem vz_lot4 (V : vz W) {i : Nat} (hi : i < wz_n W 2) {v : Int32} : vz (wz_up W 2 i 4 v) := by
  have L := V.lot hi
  have k : ∀ x, ¬ x = 4 → wz_up W 2 i 4 v 2 i x = W 2 i x := fun x hx => wz_up_c hx
  refine V.lotUp hi (fun k i' x hk => ?_) ?_ (k 2 (by decide)) (k 3 (by decide)) ?_
  · unfold wz_up
    rw [if_neg (fun y => hk ⟨y.1, y.2.1⟩)]
  · unfold vz_lot at L ⊢
    rw [k 0 (by decide), k 1 (by decide), k 2 (by decide), k 3 (by decide), k 5 (by decide), k 6 (by decide), k 7 (by decide), k 19 (by decide), k 9 (by decide), k 10 (by decide), k 11 (by decide), k 17 (by decide)]
    obtain ⟨a0, a1, a2, a3, a5, a6, a7, a19, a9, as, al, ab, a17, ap⟩ := L
    refine ⟨a0, a1, a2, a3, a5, a6, a7, a19, a9, as, al, ab, a17, fun p hp h2 => ?_⟩
    rw [k (10 + p) (by omega)]
    exact ap p hp h2
  · rw [sp_pls_e, sp_pls_e, k 10 (by decide), k 11 (by decide), k 13 (by decide), k 14 (by decide), k 15 (by decide), k 16 (by decide), k 17 (by decide), k 18 (by decide), k 1 (by decide)]
theorem sp_mv_e {t a b : Nat} {n : Int32} (hab : ¬ a = b) {x : Nat} : sp_mv W t a b n 2 t x = if x = 10 + b then W 2 t (10 + b) + n else if x = 10 + a then W 2 t (10 + a) - n else W 2 t x := by
  unfold sp_mv
  rw [wz_up_x, wz_up_x, if_neg (show ¬ 10 + b = 10 + a by omega), wz_up_x]
theorem vz_wk1 (V : vz W) {i : Nat} (hi : i < wz_n W 2) (c0 : ¬ W 2 i 10 ≤ 0) (c5 : W 2 i 5 = 1) : vz (sp_wk1 i W) := by
  unfold sp_wk1
  split
  · exact vz_lot4 V hi
  · have V1 := vz_lot4 V hi (v := W 2 i 4 + 1)
    have hi1 : i < wz_n (wz_up W 2 i 4 (W 2 i 4 + 1)) 2 := hi
    have e10 : wz_up W 2 i 4 (W 2 i 4 + 1) 2 i 10 = W 2 i 10 := wz_up_c (by decide)
    have e5 : wz_up W 2 i 4 (W 2 i 4 + 1) 2 i 5 = 1 := (wz_up_c (by decide)).trans c5
    generalize W 2 i 10 = n at e10 c0
    generalize wz_up W 2 i 4 (W 2 i 4 + 1) = W1 at V1 hi1 e10 e5
    have L := V1.lot hi1
    have P := V1.pls hi1
    have P0 := V1.pl (p := 0) hi1 (by decide) (by decide)
    have P1 := V1.pl (p := 1) hi1 (by decide) (by decide)
    have P0 : 0 ≤ (W1 2 i 10).toInt ∧ (W1 2 i 10).toInt ≤ 1000 := P0
    have P1 : 0 ≤ (W1 2 i 11).toInt ∧ (W1 2 i 11).toInt ≤ 1000 := P1
    have g : ∀ x, sp_mv W1 i 0 1 n 2 i x = if x = 11 then W1 2 i 11 + n else if x = 10 then W1 2 i 10 - n else W1 2 i x := fun x => sp_mv_e (by decide)
    have g10 : sp_mv W1 i 0 1 n 2 i 10 = 0 := (g 10).trans (by rw [if_neg (by decide), if_pos rfl, e10, Int32.sub_self])
    have g11 : sp_mv W1 i 0 1 n 2 i 11 = W1 2 i 11 + n := g 11
    have k : ∀ x, ¬ x = 10 → ¬ x = 11 → sp_mv W1 i 0 1 n 2 i x = W1 2 i x := fun x h1 h2 => (g x).trans (by rw [if_neg h2, if_neg h1])
    obtain ⟨a0, a1, a2, a3, a5, a6, a7, a19, a9, as, al, ab, a17, ap⟩ := L
    have st : W1 2 i 2 = 0 := by
      by_cases q : W1 2 i 2 = 0
      · exact q
      · have := al q
        rw [e10] at this
        rw [this] at c0
        exact absurd (by decide) c0
    rw [e10] at P0
    have i11 : (W1 2 i 11 + n).toInt = (W1 2 i 11).toInt + n.toInt := i_add (by omega) (by omega)
    refine V1.lotUp hi1 (fun k i' x hk => ?_) ?_ (k 2 (by decide) (by decide)) (k 3 (by decide) (by decide)) ?_
    · unfold sp_mv wz_up
      rw [if_neg (fun y => hk ⟨y.1, y.2.1⟩), if_neg (fun y => hk ⟨y.1, y.2.1⟩)]
    · unfold vz_lot
      rw [k 0 (by decide) (by decide), k 1 (by decide) (by decide), k 2 (by decide) (by decide), k 3 (by decide) (by decide), k 5 (by decide) (by decide), k 6 (by decide) (by decide), k 7 (by decide) (by decide), k 19 (by decide) (by decide), k 9 (by decide) (by decide), g10, g11, k 17 (by decide) (by decide)]
      obtain ⟨as1, as2, as3⟩ := as st
      refine ⟨a0, a1, a2, a3, a5, a6, a7, a19, a9, fun _ => ⟨as1, fun y => ?_, fun _ => Or.inl rfl⟩, fun q => absurd st q, fun q => ?_, a17, fun p hp h2 => ?_⟩
      · rw [e5] at y; exact absurd y (by decide)
      · rw [as1] at q; exact absurd q (by decide)
      · by_cases y0 : p = 0
        · subst y0; rw [g10]; decide
        · by_cases y1 : p = 1
          · subst y1
            rw [g11]
            refine Int32.le_iff_toInt_le.mpr ?_
            rw [i11]; show (0 : Int) ≤ _; omega
          · rw [k (10 + p) (by omega) (by omega)]
            exact ap p hp h2
    · rw [sp_pls_e, sp_pls_e, g10, g11, k 13 (by decide) (by decide), k 14 (by decide) (by decide), k 15 (by decide) (by decide), k 16 (by decide) (by decide), k 17 (by decide) (by decide), k 18 (by decide) (by decide), k 1 (by decide) (by decide), i11, e10]
      have : (0 : Int32).toInt = 0 := rfl
      omega
theorem sp_wk_n {i k : Nat} {p : Int32 × m_W} : wz_n (sp_wk i p).2 k = wz_n p.2 k := by
  unfold sp_wk
  split
  · show wz_n (sp_wk1 i p.2) k = _
    unfold sp_wk1 sp_mv
    split
    · rw [wz_n_up (by omega)]
    · rw [wz_n_up (by omega), wz_n_up (by omega), wz_n_up (by omega)]
  · rfl
theorem sp_wks_n {k : Nat} : ∀ i, wz_n (sp_wks W i).2 k = wz_n W k
  | 0 => rfl
  | i + 1 => (sp_wk_n (p := sp_wks W i) (i := i)).trans (sp_wks_n i)
theorem vz_wks (V : vz W) : ∀ i, i ≤ wz_n W 2 → vz (sp_wks W i).2
  | 0, _ => V
  | i + 1, h => by
    have V1 := vz_wks V i (by omega)
    have hi1 : i < wz_n (sp_wks W i).2 2 := by rw [sp_wks_n]; omega
    show vz (sp_wk i (sp_wks W i)).2
    unfold sp_wk
    split
    · next c => exact vz_wk1 V1 hi1 c.1 c.2.1
    · exact V1
theorem cz_workOn (R : cz_N s0 W h) (V : vz W) {i : Nat} (hi : i < wz_n W 2) : k_ok (F10_workOn 223 (nI i) h) (cz_N s0 (sp_wk1 i W)) := by
  obtain ⟨s, hs, es⟩ := i_row (x := W 2 i 0) (n := 7) rfl (V.lot hi).1
  unfold F10_workOn F10_workOn_0 sp_wk1
  refine k_e (nz_gr223_8 R) (k_b (cz_raise R (k := 2) (c := 4) (by decide) rfl rfl hi rfl (by decide)) ?_)
  intro h1 R1
  rw [show wz_pi 2 4 = 4 from rfl] at R1
  have hi1 : i < wz_n (wz_up W 2 i 4 (W 2 i 4 + 1)) 2 := hi
  refine k_e (nz_gr223_8 R1) (k_e (cz_g2_4 R1 rfl hi1) (k_e (nz_gr223_6 R1) (k_e (nz_gr223_8 R1) (k_e (cz_g2_0 R1 rfl hi1) ?_))))
  rw [wz_up_s, wz_up_c (show ¬ 0 = 4 by decide), es]
  refine k_e (cz_g0_3 R1 rfl (show s < wz_n W 0 by rw [V.n0]; omega)) ?_
  rw [wz_up_k (show ¬ 0 = 2 by decide), nI_clamp (by omega)]
  refine k_if (fun q => k_s ?_) (fun q => ?_)
  · rw [if_pos q]; exact R1
  · rw [if_neg q]
    refine k_e (cz_crates R1 (q := 0) rfl hi1 rfl (by decide)) ?_
    rw [wz_up_c (show ¬ 10 + 0 = 4 by decide)]
    refine k_b (cz_move R1 rfl hi1 (a := 0) (b := 1) rfl (by decide) rfl (by decide)) ?_
    intro h2 R2
    exact k_s R2
theorem cz_workAll (R : cz_N s0 W h) (V : vz W) : k_ok (F10_workOnOrders 223 h) (cz_N s0 (sp_wks W (wz_n W 2)).2) := by
  have hn : wz_n W 2 ≤ 100 := V.c (k := 2) (by omega)
  unfold F10_workOnOrders F10_workOnOrders_0 F10_workOnOrders_7
  refine k_e (cz_i2 R) ?_
  refine wh_i (n := wz_n W 2) (fun (i : Nat) (z : Int32 × Int32 × m_H) => z.1 = (sp_wks W i).1 ∧ z.2.1 = nI i ∧ cz_N s0 (sp_wks W i).2 z.2.2) _ ?_ ?_ m_N 0 _ (N_lt (by omega)) (Nat.zero_le _) ⟨rfl, rfl, R⟩
  · rintro i ⟨x, y, h1⟩ hi ⟨q1, q2, R1⟩
    dsimp only at q1 q2 R1
    subst q1 q2
    have V1 := vz_wks V i (by omega)
    have hi1 : i < wz_n (sp_wks W i).2 2 := by rw [sp_wks_n]; exact hi
    have hs : sp_wks W (i + 1) = sp_wk i (sp_wks W i) := rfl
    have n1 : wz_n (sp_wks W i).2 2 = wz_n W 2 := sp_wks_n i
    generalize sp_wks W i = p at R1 V1 hi1 hs n1
    obtain ⟨m, W1⟩ := p
    dsimp only at R1 V1 hi1 n1
    have no : ¬ (¬ W1 2 i 10 ≤ 0 ∧ W1 2 i 5 = 1 ∧ sp_nd W1 i 2 ≤ m) → sp_wks W (i + 1) = (m, W1) := fun q => by rw [hs, sp_wk, if_neg q]
    unfold F10_workOnOrders_7b
    dsimp only
    refine k_e (nz_gr223_8 R1) (k_e (cz_z2 R1) ?_)
    rw [n1]
    refine k_f (nI_ge hi (by omega)) (k_e (cz_crates R1 (q := 0) rfl hi1 rfl (by decide)) (k_if (fun c0 => ?_) (fun c0 => ?_)))
    · unfold F10_workOnOrders_44 F10_workOnOrders_45
      refine k_t rfl (k_s ?_)
      rw [no (fun q => q.1 c0)]
      exact ⟨rfl, (nI_succ i).symm, R1⟩
    · refine k_e (nz_gr223_8 R1) (k_e (cz_g2_5 R1 rfl hi1) (k_if (fun c5 => ?_) (fun c5 => ?_)))
      · unfold F10_workOnOrders_45
        refine k_f (by decide) (k_e (cz_nd R1 V1 (c := 2) hi1 rfl (by decide)) (k_if (fun c2 => k_s ?_) (fun c2 => ?_)))
        · rw [no (fun q => Int32.not_le.mpr c2 q.2.2)]
          exact ⟨rfl, (nI_succ i).symm, R1⟩
        · refine k_e (cz_nd R1 V1 (c := 2) hi1 rfl (by decide)) (k_b (cz_workOn R1 V1 hi1) ?_)
          intro h2 R2
          refine k_s ?_
          rw [hs, sp_wk, if_pos ⟨c0, c5, Int32.not_lt.mp c2⟩]
          exact ⟨rfl, (nI_succ i).symm, R2⟩
      · unfold F10_workOnOrders_44 F10_workOnOrders_45
        refine k_t rfl (k_s ?_)
        rw [no (fun q => c5 q.2.1)]
        exact ⟨rfl, (nI_succ i).symm, R1⟩
  · rintro ⟨x, y, h1⟩ ⟨q1, q2, R1⟩
    dsimp only at q1 q2 R1
    subst q1 q2
    unfold F10_workOnOrders_7b
    dsimp only
    refine k_e (nz_gr223_8 R1) (k_e (cz_z2 R1) ?_)
    rw [sp_wks_n]
    exact k_t (nI_le (Nat.le_refl _) (by omega)) (k_s R1)
/-! the reference -/
theorem rz_lsort (R : rz_N s0 th W h) (V : vz W) {i c : Nat} {y : Int32} (hi : i < wz_n W 2) (hy : y = nI c) (hc : c < 4) : F12_sortOf 317 (W 2 i 0) y h = some (W 0 (W 2 i 0).toNatClampNeg c) := by
  obtain ⟨s, hs, es⟩ := i_row (x := W 2 i 0) (n := 7) rfl (V.lot hi).1
  rw [rz_sortOf R es (by omega) hy hc, es, nI_clamp (by omega)]
theorem rz_make1 (R : rz_N s0 th W h) (V : vz W) {i : Nat} (hi : i < wz_n W 2) : k_ok (F12_makes_2b 317 (nI i, h)) (fun z => ∃ h1, z = .inl (nI (i + 1), h1) ∧ rz_N s0 th (sp_bg i W) h1) := by
  have hn : wz_n W 2 ≤ 100 := V.c (k := 2) (by omega)
  have hc := (V.cap (k := 2) (by omega)).1
  have L := V.lot hi
  have i1 : i < 100 := by omega
  have no : ¬ (W 2 i 2 = 0 ∧ W 2 i 5 = 0 ∧ sp_nd W i 1 ≤ W 14 0 1) → sp_bg i W = W := fun q => by rw [sp_bg, if_neg q]
  have stop : ¬ (W 2 i 2 = 0 ∧ W 2 i 5 = 0 ∧ sp_nd W i 1 ≤ W 14 0 1) → k_ok (some (.inl (nI i + 1, h))) (fun z : (Int32 × m_H) ⊕ m_H => ∃ h1, z = .inl (nI (i + 1), h1) ∧ rz_N s0 th (sp_bg i W) h1) := fun q => k_s ⟨h, by rw [nI_succ], by rw [no q]; exact R⟩
  unfold F12_makes_2b
  dsimp only
  refine k_e (rz_gr1 R) (k_e (rz_c2 R) ?_)
  rw [show W 22 0 0 = nI (wz_n W 2) from hc]
  refine k_f (nI_ge hi (by omega)) (k_e (rz_o1 R rfl i1) (k_e (rz_o0 R rfl i1) (k_e (rz_lsort R V (c := 1) hi rfl (by decide)) (k_e (rz_isOrder R i1) ?_))))
  by_cases c1 : W 2 i 2 = 0 ∧ ¬ W 2 i 10 ≤ 0
  case neg =>
    rw [if_neg c1]
    refine k_t rfl (stop (fun q => c1 ⟨q.1, ?_⟩))
    have := L.2.2.2.2.2.2.2.2.2.1 q.1
    have a := this.2.1 q.2.1
    rw [a.1]
    intro y
    have := Int32.le_iff_toInt_le.mp a.2.1
    have := Int32.le_iff_toInt_le.mp y
    have e1 : (1 : Int32).toInt = 1 := rfl
    have e0 : (0 : Int32).toInt = 0 := rfl
    omega
  rw [if_pos c1]
  refine k_f (by decide) (k_e (rz_o5 R rfl i1) (k_if (fun c5 => stop (fun q => by rw [q.2.1] at c5; exact absurd c5 (by decide))) (fun c5 => ?_)))
  have c5 : W 2 i 5 = 0 := L.2.2.2.2.1.elim id (fun y => absurd y c5)
  refine k_e (rz_gr1 R) (k_e (rz_w1 R) (k_if (fun c2 => ?_) (fun c2 => stop (fun q => c2 q.2.2))))
  refine k_e (rz_gr1 R) (k_e (rz_w1 R) (k_b (rz_ws1 R) ?_))
  intro h1 R1
  have l5 := fun h => rz_lotAt (h := h) (x := nI i) rfl i1 (y := 5) (c := 5) rfl (by decide)
  refine k_e (rz_gr1 R1) (k_e (l5 h1).1 (k_b (rz_set R1 rfl (l5 h1).2) ?_))
  intro h2 R2
  refine k_s ⟨h2, by rw [nI_succ], ?_⟩
  rw [sp_bg, if_pos ⟨c1.1, c5, c2⟩]
  exact R2
theorem rz_make2 (R : rz_N s0 th W h) (V : vz W) {i : Nat} {m : Int32} (hi : i < wz_n W 2) : k_ok (F12_makes_100b 317 (m, nI i, h)) (fun z => ∃ h1, z = .inl ((sp_wk i (m, W)).1, nI (i + 1), h1) ∧ rz_N s0 th (sp_wk i (m, W)).2 h1) := by
  have hn : wz_n W 2 ≤ 100 := V.c (k := 2) (by omega)
  have hc := (V.cap (k := 2) (by omega)).1
  have L := V.lot hi
  have i1 : i < 100 := by omega
  have stop : ¬ (¬ W 2 i 10 ≤ 0 ∧ W 2 i 5 = 1 ∧ sp_nd W i 2 ≤ m) → k_ok (some (.inl (m, nI i + 1, h))) (fun z : (Int32 × Int32 × m_H) ⊕ m_H => ∃ h1, z = .inl ((sp_wk i (m, W)).1, nI (i + 1), h1) ∧ rz_N s0 th (sp_wk i (m, W)).2 h1) := fun q => by
    rw [sp_wk, if_neg q]
    exact k_s ⟨h, by rw [nI_succ], R⟩
  unfold F12_makes_100b
  dsimp only
  refine k_e (rz_gr1 R) (k_e (rz_c2 R) ?_)
  rw [show W 22 0 0 = nI (wz_n W 2) from hc]
  refine k_f (nI_ge hi (by omega)) (k_e (rz_o1 R rfl i1) (k_e (rz_o0 R rfl i1) (k_e (rz_lsort R V (c := 2) hi rfl (by decide)) (k_e (rz_isOrder R i1) ?_))))
  by_cases c1 : W 2 i 2 = 0 ∧ ¬ W 2 i 10 ≤ 0
  case neg =>
    rw [if_neg c1]
    refine k_t rfl (stop (fun q => c1 ⟨?_, q.1⟩))
    by_cases y : W 2 i 2 = 0
    · exact y
    · have := L.2.2.2.2.2.2.2.2.2.2.1 y
      exact absurd (by rw [this]; decide) q.1
  rw [if_pos c1]
  refine k_f (by decide) (k_e (rz_o5 R rfl i1) (k_if (fun c5 => stop (fun q => by rw [q.2.1] at c5; exact absurd c5 (by decide))) (fun c5 => ?_)))
  have c5 : W 2 i 5 = 1 := L.2.2.2.2.1.elim (fun y => absurd y c5) id
  have e10 : W 2 i 10 = W 2 i 1 := ((L.2.2.2.2.2.2.2.2.2.1 c1.1).2.2 c5).elim (fun y => absurd (by rw [y]; decide) c1.2) id
  refine k_if (fun c2 => ?_) (fun c2 => stop (fun q => c2 q.2.2))
  have c2' : sp_nd W i 2 ≤ m := c2
  rw [sp_wk, if_pos ⟨c1.2, c5, c2'⟩]
  unfold sp_wk1
  have l4 := fun h => rz_lotAt (h := h) (x := nI i) rfl i1 (y := 4) (c := 4) rfl (by decide)
  refine k_e (rz_gr1 R) (k_e (l4 h).1 (k_e (rz_get R rfl (l4 h).2) (k_b (rz_set R rfl (l4 h).2) ?_)))
  intro h1 R1
  refine k_e (rz_o4 R1 rfl i1) (k_e (rz_o0 R1 rfl i1) (k_e (rz_lsort R1 (vz_lot4 V hi) (c := 3) hi rfl (by decide)) ?_))
  rw [wz_up_s, wz_up_c (show ¬ 0 = 4 by decide), wz_up_k (show ¬ 0 = 2 by decide)]
  refine k_if (fun q => k_s ⟨h1, by rw [nI_succ]; rfl, ?_⟩) (fun q => ?_)
  · dsimp only
    rw [if_pos q]
    exact R1
  · rw [if_neg q]
    refine k_e (rz_o1 R1 rfl i1) ?_
    rw [wz_up_c (show ¬ 1 = 4 by decide)]
    refine k_b (rz_moves R1 rfl i1 (a := 0) (b := 1) rfl (by decide) rfl (by decide)) ?_
    intro h2 R2
    rw [← e10] at R2
    exact k_s ⟨h2, by rw [nI_succ]; rfl, R2⟩
theorem rz_makes (R : rz_N s0 th W h) (V : vz W) : k_ok (F12_makes 317 h) (rz_N s0 th (sp_wks (sp_bgs W (wz_n W 2)) (wz_n W 2)).2) := by
  have hn : wz_n W 2 ≤ 100 := V.c (k := 2) (by omega)
  unfold F12_makes F12_makes_0 F12_makes_2
  refine k_g (rz_io R) ?_
  refine wh_i (n := wz_n W 2) (fun (i : Nat) (z : Int32 × m_H) => z.1 = nI i ∧ rz_N s0 th (sp_bgs W i) z.2) _ ?_ ?_ m_N 0 _ (N_lt (by omega)) (Nat.zero_le _) ⟨rfl, R⟩
  · rintro i ⟨y, h1⟩ hi ⟨q1, R1⟩
    dsimp only at q1 R1
    subst q1
    refine k_m (rz_make1 R1 (vz_bgs V i (by omega)) (by rw [sp_bgs_n]; exact hi)) ?_
    rintro _ ⟨h2, rfl, R2⟩
    exact ⟨rfl, R2⟩
  · rintro ⟨y, h1⟩ ⟨q1, R1⟩
    dsimp only at q1 R1
    subst q1
    have V1 := vz_bgs V (wz_n W 2) (Nat.le_refl _)
    have n1 : wz_n (sp_bgs W (wz_n W 2)) 2 = wz_n W 2 := sp_bgs_n _
    have hc1 := (V1.cap (k := 2) (by omega)).1
    generalize sp_bgs W (wz_n W 2) = W1 at R1 V1 n1 hc1
    unfold F12_makes_2b
    dsimp only
    refine k_e (rz_gr1 R1) (k_e (rz_c2 R1) ?_)
    rw [show W1 22 0 0 = nI (wz_n W1 2) from hc1, n1]
    refine k_t (nI_le (Nat.le_refl _) (by omega)) (k_e (rz_gr1 R1) (k_e (rz_w2 R1) ?_))
    suffices P : k_ok (F12_makes_100 317 (W1 14 0 2) 0 h1) (rz_N s0 th (sp_wks W1 (wz_n W 2)).2) by
      obtain ⟨z, e, hz⟩ := P
      exact ⟨.inr z, by rw [e]; rfl, hz⟩
    unfold F12_makes_100
    refine wh_i (n := wz_n W 2) (fun (i : Nat) (z : Int32 × Int32 × m_H) => z.1 = (sp_wks W1 i).1 ∧ z.2.1 = nI i ∧ rz_N s0 th (sp_wks W1 i).2 z.2.2) _ ?_ ?_ m_N 0 _ (N_lt (by omega)) (Nat.zero_le _) ⟨rfl, rfl, R1⟩
    · rintro i ⟨x, y, h2⟩ hi ⟨q1, q2, R2⟩
      dsimp only at q1 q2 R2
      subst q1 q2
      refine k_m (rz_make2 (m := (sp_wks W1 i).1) R2 (vz_wks V1 i (by omega)) (by rw [sp_wks_n, n1]; exact hi)) ?_
      rintro _ ⟨h3, rfl, R3⟩
      exact ⟨rfl, rfl, R3⟩
    · rintro ⟨x, y, h2⟩ ⟨q1, q2, R2⟩
      dsimp only at q1 q2 R2
      subst q1 q2
      have V2 := vz_wks V1 (wz_n W 2) (by omega)
      have hc2 := (V2.cap (k := 2) (by omega)).1
      unfold F12_makes_100b
      dsimp only
      refine k_e (rz_gr1 R2) (k_e (rz_c2 R2) ?_)
      rw [show (sp_wks W1 (wz_n W 2)).2 22 0 0 = nI (wz_n (sp_wks W1 (wz_n W 2)).2 2) from hc2, sp_wks_n, n1]
      exact k_t (nI_le (Nat.le_refl _) (by omega)) (k_s R2)
end
