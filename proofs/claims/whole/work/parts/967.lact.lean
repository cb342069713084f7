/-! ===== act: the law ===== -/
section
variable {s s' : tz_S} {W W' : m_W} {b0 i : Option m_W} {n m N : Nat} {f g : Nat → Int32} {T : Nat → Nat} {q : Nat} {e e' : Int32} {x y : Int32}
theorem JC.fa (J : JC s W b0 i n m f g T q e) (F : tz_fa s s') (H : tz_HR s' 223 W') (h0 : s'.1 201 1 = 0) (he : s'.1 200 11 = e') : JC s' W' b0 i n m f g T 0 e' := by
  obtain ⟨j1, j2, j3, j4, j5, j6⟩ := J
  obtain ⟨F1, F2, F3, F4, l, F5, F6, F7, F8⟩ := F
  have c : ∀ {x : Nat} {X : m_W}, 253 ≤ x → tz_HR s x X → tz_HR s' x X := fun hx H => H.congx (fun a k h1 h2 => F1 a k (by omega) (by omega)) (fun a h1 h2 => F2 a (by omega)) (F3 _ (by omega)).2 (xs_px F5)
  have f1 : ∀ k, ¬ k = 11 → s'.1 200 k = s.1 200 k := fun k hk => F1 200 k (by omega) (fun z => hk z.2)
  refine ⟨H, ?_, ?_, j4.px (F2 314 (by omega)) (F2 316 (by omega)) F5 (by rw [F4]) (by rw [F4]), ⟨h0, fun j hj => absurd hj (Nat.not_lt_zero j)⟩, he⟩
  · cases b0 with
    | none => exact (f1 9 (by decide)).trans j2
    | some B => exact ⟨(f1 9 (by decide)).trans j2.1, c (by decide) j2.2⟩
  · cases i with
    | none => exact (f1 10 (by decide)).trans j3
    | some B => exact ⟨(f1 10 (by decide)).trans j3.1, c (by decide) j3.2⟩
theorem tz_fa.CF (F : tz_fa s s') : CF s s' := ⟨fun a k z => F.1 a k (by omega) (by omega), fun a z => F.2.1 a (by omega)⟩
theorem JM.fa (M : JM s n m N) (F : tz_fa s s') : JM s' n m (N + 1) := by
  obtain ⟨F1, F2, F3, F4, l, F5, F6, F7, F8⟩ := F
  unfold JM rm_s rm_c at M ⊢
  rw [F5, F8, List.map_append, List.sum_append, List.length_append]
  omega
theorem JM.fau (M : JM s n m N) (F : tz_fa s s') : JM (tz_uj s' (s'.2.2.2.2.2.2.1 + 1, s'.2.2.2.2.2.2.2 + 6)) n m (N + 1) := by
  obtain ⟨F1, F2, F3, F4, l, F5, F6, F7, F8⟩ := F
  unfold JM rm_s rm_c at M ⊢
  show (s'.2.2.2.2.2.1.map m_sz).sum + (s'.2.2.2.2.2.2.2 + 6) ≤ _ ∧ s'.2.2.2.2.2.1.length + (s'.2.2.2.2.2.2.1 + 1) ≤ _
  rw [F5, F8, List.map_append, List.sum_append, List.length_append]
  omega
theorem JR.af (J : JR s W b0 i T q e) (F : AF s s') (H : tz_WR s' 318 W') (h7 : s'.1 317 7 = 0) (he : s'.1 317 12 = e') : JR s' W' b0 i T 0 e' := by
  obtain ⟨j1, j2, j3, j5, j6⟩ := J
  refine ⟨H, ?_, ?_, ⟨h7, fun j hj => absurd hj (Nat.not_lt_zero j)⟩, he⟩
  · cases b0 with
    | none => exact (F.2.1 5 (by omega)).trans j2
    | some B => exact ⟨(F.2.1 5 (by omega)).trans j2.1, tz_WR_cong j2.2 F.2.2.2.1⟩
  · cases i with
    | none => exact (F.2.1 4 (by omega)).trans j3
    | some B => exact ⟨(F.2.1 4 (by omega)).trans j3.1, tz_WR_cong j3.2 F.2.2.1⟩
theorem gT_fit (J : JC s W b0 i n m f g T q e) (hq : q ≤ 400) (hT : ∀ j, j < q → T j < 256) {q1 : Nat} {c : gC} {Y : gY} (eT : gText T q = .inl (q1, c, Y)) : c.length ≤ 400 ∧ Y.1 ≤ 12 := by
  have fit := gRead_fit (T := T) (n := q) 12 (lx_q T q 0) [] (0, fun _ => (0, 0, 0)) (lx_q_le (T := T) (n := q) 0) (Nat.zero_le _) (Nat.le_refl 12) _ eT
  dsimp only at fit
  obtain ⟨s1, e1, f1, f2, f3, f4⟩ := cz_useUp J.2.2.2.2.1
  have H1 : tz_HR s1 223 W := J.1.cong (fun a k h1 _ => f1 a k (by omega)) (fun a _ _ => by rw [f2]) (by rw [f2]) (by rw [f2])
  obtain ⟨h', -, m', K, R⟩ := cz_read2 H1 tz_fr.refl f4 (fun j hj => by rw [f2]; exact J.2.2.2.2.1.2 j hj) hq hT
  rw [eT] at R
  obtain ⟨i', -, eq, -⟩ := R
  dsimp only at eq
  have ql : q1 ≤ q := by rw [← eq]; exact lx_q_le (T := T) (n := q) i'
  exact ⟨by omega, fit.2⟩
/-- behind the reference's act -/
def AQ (N : Nat) (s' : tz_S) (c : Int32) (z2 : Int32 × m_H) : Prop := ∃ s2, z2.2 = tz_H s2 ∧ JJ s2 (N + 1) ∧ s2.1 317 0 = c ∧ (c = 0 → s2.2.2.1 333 0 = m_i2l z2.1)
theorem lw_act (J : JC s W b0 i n m f g T q e) (R0 : JR s W b0 i T q e) (P : JP W b0 i n m f g T q) (M : JM s n m N) : k_ok (F13_act 200 x 333 (tz_H s)) (fun z => ∃ s', z.2 = tz_H s' ∧ k_ok (F12_act 317 x (tz_H s')) (AQ N s' z.1)) := by
  obtain ⟨-, -, -, -, -, hq, hT⟩ := id P
  have t17 := P.1.cap (k := 17) (by omega)
  have c17 : wz_n W 17 ≤ 10 := t17.2
  have P0 : JP W b0 i n m f g T 0 := P.tq (Nat.zero_le _) (fun j hj => absurd hj (Nat.not_lt_zero j))
  have rz : ∀ s1, CF s s1 → k_ok (F12_act 317 x (tz_H s1)) (rz_A2 s1 W T q (wz_n W 17) x) := fun s1 cf => by
    have R1 := R0.cf cf
    exact rz_act2 R1.1 R1.2.2.2.1 hq hT c17 t17.1
  unfold F13_act F13_act_0
  refine k_b (cz_acts J.2.2.2.2.1 J.1 hq hT) ?_
  rintro ⟨v, h⟩ ⟨s1, F, h0, D⟩
  have cf := F.CF
  rcases D with ⟨hx, ez, e11, H⟩ | ⟨hx, e1, eT, ez, e11, H⟩ | ⟨hx, q1, c1, Y, eT, t10, ez, e11, H⟩ | ⟨hx, q1, c1, Y, eT, t10, ez, e11, H⟩
  · cases ez
    unfold m_sx
    dsimp only
    refine k_t rfl (k_s ⟨_, tz_junk, ?_⟩)
    have cf2 : CF s (tz_uj s1 (s1.2.2.2.2.2.2.1 + 1, s1.2.2.2.2.2.2.2 + 6)) := cf.trans CF.uj
    refine k_m (rz _ cf2) ?_
    rintro ⟨v2, h2⟩ ⟨s2, eh, A, h7, -, D2⟩
    rcases D2 with ⟨-, ev, th, h12, H2⟩ | ⟨y, -⟩ | ⟨y, -⟩ | ⟨y, -⟩
    · refine ⟨s2, eh, ⟨W, b0, i, n, m, f, g, T, 0, e, ((J.fa F H h0 (e11.trans J.2.2.2.2.2)).uj).rf A.1, (R0.cf cf2).af A H2 h7 (h12.trans (R0.cf cf2).2.2.2.2), P0, (M.fau F).rf A.1⟩, th, fun z => absurd z (show ¬ (1 : Int32) = 0 by decide)⟩
    · exact absurd y hx
    · exact absurd y hx
    · exact absurd y hx
  · cases ez
    unfold m_sx
    dsimp only
    refine k_t rfl (k_s ⟨_, tz_junk, ?_⟩)
    have cf2 : CF s (tz_uj s1 (s1.2.2.2.2.2.2.1 + 1, s1.2.2.2.2.2.2.2 + 6)) := cf.trans CF.uj
    refine k_m (rz _ cf2) ?_
    rintro ⟨v2, h2⟩ ⟨s2, eh, A, h7, -, D2⟩
    rcases D2 with ⟨y, -⟩ | ⟨-, e2, eT2, ev, th, h12, H2⟩ | ⟨-, q2, c2, Y2, eT2, -⟩ | ⟨-, q2, c2, Y2, D, eT2, -⟩
    · exact absurd hx y
    · rw [eT] at eT2
      cases eT2
      exact ⟨s2, eh, ⟨W, b0, i, n, m, f, g, T, 0, nI e1, ((J.fa F H h0 e11).uj).rf A.1, (R0.cf cf2).af A H2 h7 h12, P0, (M.fau F).rf A.1⟩, th, fun z => absurd z (show ¬ (1 : Int32) = 0 by decide)⟩
    · rw [eT] at eT2; cases eT2
    · rw [eT] at eT2; cases eT2
  · cases ez
    unfold m_sx
    dsimp only
    refine k_f (by decide) (k_t rfl (k_s ⟨_, tz_junk, ?_⟩))
    have cf2 : CF s (tz_uj s1 (s1.2.2.2.2.2.2.1 + 1, s1.2.2.2.2.2.2.2 + 6)) := cf.trans CF.uj
    refine k_m (rz _ cf2) ?_
    rintro ⟨v2, h2⟩ ⟨s2, eh, A, h7, -, D2⟩
    rcases D2 with ⟨y, -⟩ | ⟨-, e2, eT2, -⟩ | ⟨-, q2, c2, Y2, eT2, -, ev, th, h12, H2⟩ | ⟨-, q2, c2, Y2, D, eT2, t9, -⟩
    · exact absurd hx y
    · rw [eT] at eT2; cases eT2
    · exact ⟨s2, eh, ⟨W, b0, i, n, m, f, g, T, 0, -1, ((J.fa F H h0 e11).uj).rf A.1, (R0.cf cf2).af A H2 h7 h12, P0, (M.fau F).rf A.1⟩, th, fun z => absurd z (show ¬ (2 : Int32) = 0 by decide)⟩
    · omega
  · cases ez
    unfold m_sx
    dsimp only
    refine k_e (w_out _) (k_s ⟨tz_ul s1 333 (vp_updL (s1.2.2.1 333) 0 (m_i2l (nI Y.1))), rfl, ?_⟩)
    have cf2 : CF s (tz_ul s1 333 (vp_updL (s1.2.2.1 333) 0 (m_i2l (nI Y.1)))) := cf.trans CF.ul
    refine k_m (rz _ cf2) ?_
    rintro ⟨v2, h2⟩ ⟨s2, eh, A, h7, -, D2⟩
    rcases D2 with ⟨y, -⟩ | ⟨-, e2, eT2, -⟩ | ⟨-, q2, c2, Y2, eT2, t9, -⟩ | ⟨-, q2, c2, Y2, D, eT2, -, ev, th, h12, xr, H2⟩
    · exact absurd hx y
    · rw [eT] at eT2; cases eT2
    · omega
    · rw [eT] at eT2
      cases eT2
      obtain ⟨lc, ly⟩ := gT_fit J hq hT eT
      have vt1 := tx_vz xr ⟨Int32.le_trans P.1.wk.1 hx.1, hx.2⟩ ly lc (gText_ok hT eT)
      have P1 : JP (sp_act W (wz_n W 17) x (nI Y.1) D) b0 i n m f g T 0 := P0.kpt (kp_k (fun k r c hk => sp_act_n (by omega) (by omega))) (vz_act P.1 t10 vt1)
      refine ⟨s2, eh, ⟨_, b0, i, n, m, f, g, T, 0, -1, ((J.fa F (H D xr) h0 e11).rf RF.ul).rf A.1, (R0.cf cf2).af A H2 h7 h12, P1, ((M.fa F).rf RF.ul).rf A.1⟩, th, fun _ => ?_⟩
      dsimp only at ev ⊢
      rw [A.2.2.2.2, ev]
      exact w_got
theorem fin_A {c : Int32} {z2 : Int32 × m_H} (Q : AQ N s' c z2) : k_ok (m_b (F12_thrown 317 z2.2) fun v1 => m_if (v1 = c) (m_if (c = 0) (m_b (m_al z2.2 333 0) fun v2 => m_if ((lg_cmp v2 (m_i2l z2.1)) = 0) (some (.inl (x, z2.2))) (some (.inr (0, z2.2)))) (some (.inl (x, z2.2)))) (some (.inr (0, z2.2)))) (jLP x N) := by
  obtain ⟨v, h⟩ := z2
  obtain ⟨s2, eh, K, th, o⟩ := Q
  dsimp only at eh o ⊢
  subst eh
  refine k_e thrown_e (k_t th (k_if (fun z => ?_) (fun z => k_s ⟨s2, rfl, K⟩)))
  exact k_e out_e (k_t ((lg_cmp_eq _ _).mpr (o z)) (k_s ⟨s2, rfl, K⟩))
end
