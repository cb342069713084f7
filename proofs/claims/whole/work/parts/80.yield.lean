/-! ===== a week: yields ===== -/
def sp_yd (i : Nat) (W : m_W) : m_W := if W 10 i 2 < W 14 0 0 - W 10 i 1 then W else wz_up (wz_up W 10 i 5 (W 10 i 5 + W 10 i 4)) 14 0 4 (W 14 0 4 + W 10 i 4)
def sp_yds (W : m_W) (i : Nat) : m_W := sp_it sp_yd i W
section
variable {s0 : tz_S} {th : Int32} {W : m_W} {h : m_H}
/-- the class keeps no sum of what was brought -/
theorem cz_brought (R : cz_N s0 W h) {v : Int32} : cz_N s0 (wz_up W 14 0 4 v) h := by
  obtain ⟨s, rfl, ⟨⟨f1, f2, f3, f4⟩, ⟨g1, g2, g3, g4, g5⟩, H⟩, fr⟩ := R
  have k : ∀ {k r c}, ¬ k = 14 → wz_up W 14 0 4 v k r c = W k r c := fun hk => wz_up_k hk
  have n : ∀ k, wz_n (wz_up W 14 0 4 v) k = wz_n W k := fun k => wz_n_up (by omega)
  refine ⟨s, rfl, ⟨⟨f1.trans (wz_up_c (by decide)).symm, f2.trans (wz_up_c (by decide)).symm, f3.trans (wz_up_c (by decide)).symm, f4.trans (wz_up_c (by decide)).symm⟩, ⟨g1.trans (k (by decide)).symm, ?_, ?_, ?_, g5⟩, fun j hj => ?_⟩, fr⟩
  · rw [k (by decide), n]; exact g2
  · rw [n]; exact g3
  · rw [n, show wz_up W 14 0 4 v 17 = W 17 from funext fun i => funext fun x => k (by decide)]; exact g4
  · rw [n, k (by omega)]
    refine ⟨?_, (H j hj).2⟩
    rw [show (fun r c => wz_up W 14 0 4 v j r (wz_pi j c)) = (fun r c => W j r (wz_pi j c)) from funext fun r => funext fun c => k (by omega)]
    exact (H j hj).1
theorem sp_yd_n {i k : Nat} : wz_n (sp_yd i W) k = wz_n W k := by
  unfold sp_yd
  split
  · rfl
  · rw [wz_n_up (by omega), wz_n_up (by omega)]
theorem sp_yds_n {k : Nat} : ∀ i, wz_n (sp_yds W i) k = wz_n W k
  | 0 => rfl
  | i + 1 => (sp_yd_n (W := sp_yds W i) (i := i)).trans (sp_yds_n i)
theorem cz_yd (R : cz_N s0 W h) {i : Nat} (hi : i < wz_n W 10) (hn : wz_n W 10 ≤ 10) : k_ok (F10_collectYields_2b 223 (nI i, h)) (fun z => ∃ h1, z = .inl (nI (i + 1), h1) ∧ cz_N s0 (sp_yd i W) h1) := by
  unfold F10_collectYields_2b sp_yd
  dsimp only
  refine k_e (nz_gr223_16 R) (k_e (cz_size R (k := 10) (by decide) rfl) (k_f (nI_ge hi (by omega)) (k_e (cz_i0 R) (k_e (nz_gr223_16 R) (k_e (cz_g10_1 R rfl hi) (k_e (nz_gr223_16 R) (k_e (cz_g10_2 R rfl hi) (k_if (fun q => ?_) (fun q => ?_)))))))))
  · rw [if_pos q]
    exact k_s ⟨h, by rw [nI_succ], R⟩
  · rw [if_neg q]
    refine k_e (nz_gr223_16 R) (k_e (nz_gr223_16 R) (k_e (cz_g10_4 R rfl hi) (k_b (cz_raise R (k := 10) (c := 5) (by decide) rfl rfl hi rfl (by decide)) ?_)))
    intro h1 R1
    exact k_s ⟨h1, by rw [nI_succ], cz_brought R1⟩
theorem rz_bs (R : rz_N s0 th W h) {r c : Nat} {x : Int32} (hr : r < 10) (hc : c < 6) (hx : x = nI c) : m_ai h 0 318 (4169 + 6 * nI r + x) = some (W 10 r c) := by
  subst hx
  exact rz_get R (ix10 r c) ⟨by decide, hr, hc⟩
theorem rz_yd (R : rz_N s0 th W h) (hc : W 30 0 0 = nI (wz_n W 10)) {i : Nat} (hi : i < wz_n W 10) (hn : wz_n W 10 ≤ 10) (hw : W 10 i 1 + 1 ≤ W 14 0 0) (hw2 : W 14 0 0 ≤ 500) (h0 : 0 ≤ W 10 i 1) (h2 : 1 ≤ W 10 i 2 ∧ W 10 i 2 ≤ 500) (h1 : W 10 i 1 ≤ 500) : k_ok (F12_goesOn_218b 317 (nI i, h)) (fun z => ∃ h1, z = .inl (nI (i + 1), h1) ∧ rz_N s0 th (sp_yd i W) h1) := by
  have i10 : i < 10 := by omega
  unfold F12_goesOn_218b sp_yd
  dsimp only
  refine k_e (rz_gr1 R) (k_e (rz_c10 R) ?_)
  rw [hc]
  refine k_f (nI_ge hi (by omega)) ?_
  refine k_e (show F12_baseAt (nI i) h = some (4169 + 6 * nI i) from rfl) (k_e (k_wk R) ?_)
  refine k_e (rz_gr1 R) (k_e (rz_bs R (c := 1) i10 (by decide) rfl) (k_e (rz_gr1 R) (k_e (rz_bs R (c := 1) i10 (by decide) rfl) (k_e (rz_gr1 R) (k_e (rz_bs R (c := 2) i10 (by decide) rfl) ?_)))))
  have a0 := i_nn h0
  have a1 : (W 10 i 1).toInt ≤ 500 := Int32.le_iff_toInt_le.mp h1
  have a2 : (1 : Int) ≤ (W 10 i 2).toInt := Int32.le_iff_toInt_le.mp h2.1
  have a3 : (W 10 i 2).toInt ≤ 500 := Int32.le_iff_toInt_le.mp h2.2
  have a4 : (W 14 0 0).toInt ≤ 500 := Int32.le_iff_toInt_le.mp hw2
  have e1 : (1 : Int32).toInt = 1 := rfl
  have b1 : (W 10 i 1 + 1).toInt = (W 10 i 1).toInt + 1 := by rw [i_add (by rw [e1]; omega) (by rw [e1]; omega), e1]
  have a5 : (W 10 i 1).toInt + 1 ≤ (W 14 0 0).toInt := by rw [← b1]; exact Int32.le_iff_toInt_le.mp hw
  have b2 : (W 10 i 1 + W 10 i 2).toInt = (W 10 i 1).toInt + (W 10 i 2).toInt := i_add (by omega) (by omega)
  have b3 : (W 14 0 0 - W 10 i 1).toInt = (W 14 0 0).toInt - (W 10 i 1).toInt := i_sub (by omega) (by omega)
  refine k_i (fun q => ?_) (fun q => ?_)
  · have nq : ¬ W 10 i 2 < W 14 0 0 - W 10 i 1 := by
      intro y
      have y := Int32.lt_iff_toInt_lt.mp y
      have q2 := Int32.le_iff_toInt_le.mp q.2
      omega
    rw [if_neg nq]
    refine k_e (rz_gr1 R) (k_e (rz_bs R (c := 5) i10 (by decide) rfl) (k_e (rz_gr1 R) (k_e (rz_bs R (c := 4) i10 (by decide) rfl) (k_b (rz_set R (k := 10) (r := i) (c := 5) (ix10 i 5) ⟨by decide, i10, by decide⟩) ?_))))
    intro h1 R1
    refine k_e (rz_gr1 R1) (k_e (rz_w4 R1) (k_e (rz_gr1 R1) (k_e (rz_bs R1 (c := 4) i10 (by decide) rfl) ?_)))
    rw [wz_up_k (show ¬ 14 = 10 by decide), wz_up_c (show ¬ 4 = 5 by decide)]
    refine k_b (rz_ws4 R1) ?_
    intro h2 R2
    exact k_s ⟨h2, by rw [nI_succ], R2⟩
  · have nq : W 10 i 2 < W 14 0 0 - W 10 i 1 := by
      refine Int32.lt_iff_toInt_lt.mpr ?_
      refine Int.not_le.mp (fun y => q ⟨hw, Int32.le_iff_toInt_le.mpr (by omega)⟩)
    rw [if_pos nq]
    exact k_s ⟨h, by rw [nI_succ], R⟩
end
