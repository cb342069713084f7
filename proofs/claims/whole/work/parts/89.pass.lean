/-! ===== a week: how it goes by, the class and the reference ===== -/
def sp_wk0 (W : m_W) : m_W := wz_up W 14 0 0 (W 14 0 0 + 1)
def sp_mk (W : m_W) : m_W := (sp_wks (sp_bgs W (wz_n W 2)) (wz_n W 2)).2
def sp_seas (W : m_W) : m_W := sp_gos W (wz_n W 4)
def sp_pass (W : m_W) : m_W := if W 14 0 3 = 0 then sp_half (sp_seas (sp_mk (sp_wk0 W))) else sp_wk0 W
def vh (W : m_W) : Prop := ∀ i, i < wz_n W 10 → W 10 i 1 + 1 ≤ W 14 0 0
section
variable {s0 : tz_S} {th : Int32} {W : m_W} {h : m_H}
theorem i_up1 {a b : Int32} (h : a ≤ b) (hb : b ≤ 500) : a + 1 ≤ b + 1 ∧ (b + 1).toInt = b.toInt + 1 ∧ a ≤ b + 1 := by
  have h1 := Int32.le_iff_toInt_le.mp h
  have h2 : b.toInt ≤ 500 := Int32.le_iff_toInt_le.mp hb
  have e1 : (1 : Int32).toInt = 1 := rfl
  have l1 := Int32.le_toInt a
  have l2 := Int32.le_toInt b
  have ea : (a + 1).toInt = a.toInt + 1 := by rw [i_add (by rw [e1]; omega) (by rw [e1]; omega), e1]
  have eb : (b + 1).toInt = b.toInt + 1 := by rw [i_add (by rw [e1]; omega) (by rw [e1]; omega), e1]
  exact ⟨Int32.le_iff_toInt_le.mpr (by omega), eb, Int32.le_iff_toInt_le.mpr (by omega)⟩
theorem vz_wk0 (V : vz W) (hw : W 14 0 0 < 500) : vz (sp_wk0 W) ∧ vg (sp_wk0 W) 0 ∧ vh (sp_wk0 W) := by
  have G := V.2.2.2.2.1
  have hw' : (W 14 0 0).toInt < 500 := Int32.lt_iff_toInt_lt.mp hw
  have w0 := i_nn V.wk.1
  have u := fun a h => i_up1 (a := a) (b := W 14 0 0) h V.wk.2
  have eb := (u _ (Int32.le_refl _)).2.1
  have ek : ∀ k i x, ¬ k = 14 → sp_wk0 W k i x = W k i x := fun k i x hk => wz_up_k hk
  have e0 : sp_wk0 W 14 0 0 = W 14 0 0 + 1 := wz_up_s
  have ec : ∀ x, ¬ x = 0 → sp_wk0 W 14 0 x = W 14 0 x := fun x hx => wz_up_c hx
  have n : ∀ k, wz_n (sp_wk0 W) k = wz_n W k := fun k => wz_n_up (by omega)
  refine ⟨V.up14 ek ?_, fun r hr => ?_, fun i hi => ?_⟩
  · unfold vz_glob at G ⊢
    rw [n, n, e0, ec 3 (by decide), ec 4 (by decide)]
    simp only [ek 10 _ _ (by decide), ek 8 _ _ (by decide), ek 6 _ _ (by decide)]
    refine ⟨⟨Int32.le_iff_toInt_le.mpr ?_, Int32.le_iff_toInt_le.mpr ?_⟩, G.2.1, G.2.2.1, fun r hr => (u _ (G.2.2.2.1 r hr)).2.2, fun r hr => (u _ (G.2.2.2.2.1 r hr)).2.2, fun r hr => ⟨(G.2.2.2.2.2 r hr).1, ?_⟩⟩
    · rw [eb]; show (0 : Int) ≤ _; omega
    · rw [eb]; show _ ≤ (500 : Int); omega
    · have := (G.2.2.2.2.2 r hr).2
      rw [eb]
      omega
  · have := (G.2.2.2.2.2 r hr).2
    rw [e0, ek _ _ _ (by decide), eb]
    omega
  · rw [n] at hi
    rw [e0, ek _ _ _ (by decide)]
    exact (u _ (G.2.2.2.1 i hi)).1
theorem sp_bg_k {i k r x : Nat} (h2 : ¬ k = 2) (h14 : ¬ (k = 14 ∧ x = 1)) : sp_bg i W k r x = W k r x := by
  unfold sp_bg
  split
  · unfold wz_up
    rw [if_neg (fun q => h2 q.1), if_neg (fun q => h14 ⟨q.1, q.2.2⟩)]
  · rfl
theorem sp_bgs_k {k r x : Nat} (h2 : ¬ k = 2) (h14 : ¬ (k = 14 ∧ x = 1)) : ∀ i, sp_bgs W i k r x = W k r x
  | 0 => rfl
  | i + 1 => (sp_bg_k (W := sp_bgs W i) h2 h14).trans (sp_bgs_k h2 h14 i)
theorem sp_wk_k {i k r x : Nat} {p : Int32 × m_W} (h2 : ¬ k = 2) : (sp_wk i p).2 k r x = p.2 k r x := by
  unfold sp_wk
  split
  · show sp_wk1 i p.2 k r x = _
    unfold sp_wk1
    split
    · exact wz_up_k h2
    · rw [sp_mv_k h2]; exact wz_up_k h2
  · rfl
theorem sp_wks_k {k r x : Nat} (h2 : ¬ k = 2) : ∀ i, (sp_wks W i).2 k r x = W k r x
  | 0 => rfl
  | i + 1 => (sp_wk_k (p := sp_wks W i) h2).trans (sp_wks_k h2 i)
theorem sp_mk_k {k r x : Nat} (h2 : ¬ k = 2) (h14 : ¬ (k = 14 ∧ x = 1)) : sp_mk W k r x = W k r x := by
  unfold sp_mk
  rw [sp_wks_k h2, sp_bgs_k h2 h14]
theorem sp_mk_n {k : Nat} : wz_n (sp_mk W) k = wz_n W k := wz_n_cong (sp_mk_k (by omega) (by omega))
theorem sp_go1_k {s k r x : Nat} (h2 : ¬ k = 2) (h4 : ¬ k = 4) (h5 : ¬ k = 5) (h6 : ¬ k = 6) : sp_go1 s W k r x = W k r x := by
  unfold sp_go1 sp_go
  split
  · split
    · split
      · split
        · unfold sp_abr sp_clr
          rw [wz_up_k h4, wz_up_k h4, sp_un_k h2, sp_tm_k (by omega) (by omega)]
          exact wz_up_k h4
        · unfold sp_home sp_clr
          rw [wz_up_k h4, wz_up_k h4, wz_up_k h4, sp_un_k h2]
          exact wz_up_k h4
      · exact wz_up_k h4
    · unfold sp_sink sp_clr
      rw [wz_up_k h4, wz_up_k h4, wz_up_k h4, wz_up_k h4, sp_un_k h2]
  · rfl
theorem sp_gos_k {k r x : Nat} (h2 : ¬ k = 2) (h4 : ¬ k = 4) (h5 : ¬ k = 5) (h6 : ¬ k = 6) : ∀ i, sp_gos W i k r x = W k r x
  | 0 => rfl
  | i + 1 => (sp_go1_k (W := sp_gos W i) h2 h4 h5 h6).trans (sp_gos_k h2 h4 h5 h6 i)
theorem vz_mk (V : vz W) : vz (sp_mk W) := by
  have V1 := vz_bgs V (wz_n W 2) (Nat.le_refl _)
  exact vz_wks V1 (wz_n W 2) (by rw [sp_bgs_n]; exact Nat.le_refl _)
theorem vz_seas (V : vz W) (hg : vg W 0) (hv : vh W) : vz (sp_seas W) ∧ vh (sp_seas W) := by
  refine ⟨(vz_gos V hg _ (Nat.le_refl _)).1, fun i hi => ?_⟩
  unfold sp_seas at hi ⊢
  rw [sp_gos_n] at hi
  rw [sp_gos_k (by decide) (by decide) (by decide) (by decide), sp_gos_k (by decide) (by decide) (by decide) (by decide)]
  exact hv i hi
theorem cz_ships (R : cz_N s0 W h) (V : vz W) (hg : vg W 0) : k_ok (F10_pass_28 223 0 h) (cz_N s0 (sp_half (sp_seas W))) := by
  have hn : wz_n W 4 ≤ 12 := V.c (k := 4) (by omega)
  unfold F10_pass_28
  refine wh_i (n := wz_n W 4) (fun (i : Nat) (z : Int32 × m_H) => z.1 = nI i ∧ cz_N s0 (sp_gos W i) z.2) _ ?_ ?_ m_N 0 _ (N_lt (by omega)) (Nat.zero_le _) ⟨rfl, R⟩
  · rintro i ⟨y, h1⟩ hi ⟨q1, R1⟩
    dsimp only at q1 R1
    subst q1
    obtain ⟨V1, g1⟩ := vz_gos V hg i (by omega)
    have hi1 : i < wz_n (sp_gos W i) 4 := by rw [sp_gos_n]; exact hi
    have n1 : wz_n (sp_gos W i) 4 = wz_n W 4 := sp_gos_n i
    have hs : sp_gos W (i + 1) = sp_go1 i (sp_gos W i) := rfl
    rw [hs]
    generalize sp_gos W i = W1 at R1 V1 hi1 n1
    have key : W1 4 i 2 = 1 ∨ W1 4 i 2 = 3 → k_ok (m_b (F10_goBySea 223 (nI i) h1) fun h12 => some (Sum.inl ((nI i + 1), h12))) (m_KK (fun (z : Int32 × m_H) => z.1 = nI (i + 1) ∧ cz_N s0 (sp_go1 i W1) z.2) (cz_N s0 (sp_half (sp_seas W)))) := by
      intro q
      refine k_b (cz_go R1 V1 hi1 q) ?_
      intro h2 R2
      refine k_s ⟨(nI_succ i).symm, ?_⟩
      unfold sp_go1
      rw [if_pos q]
      exact R2
    unfold F10_pass_28b
    dsimp only
    refine k_e (nz_gr223_10 R1) (k_e (cz_z4 R1) ?_)
    rw [n1]
    refine k_f (nI_ge hi (by omega)) (k_e (nz_gr223_10 R1) (k_e (cz_g4_2 R1 rfl hi1) (k_if (fun q => key (Or.inl q)) (fun q => k_if (fun q3 => key (Or.inr q3)) (fun q3 => k_s ⟨(nI_succ i).symm, ?_⟩)))))
    unfold sp_go1
    rw [if_neg (fun x => x.elim q q3)]
    exact R1
  · rintro ⟨y, h1⟩ ⟨q1, R1⟩
    dsimp only at q1 R1
    subst q1
    have V1 := (vz_gos V hg _ (Nat.le_refl _)).1
    unfold F10_pass_28b
    dsimp only
    refine k_e (nz_gr223_10 R1) (k_e (cz_z4 R1) ?_)
    rw [sp_gos_n]
    refine k_t (nI_le (Nat.le_refl _) (by omega)) ?_
    obtain ⟨z, e, hz⟩ := cz_half R1 V1
    exact ⟨.inr z, by rw [e]; rfl, hz⟩
theorem cz_pass (R : cz_N s0 W h) (V : vz W) (hw : W 14 0 0 < 500) : k_ok (F10_pass 223 h) (cz_N s0 (sp_pass W)) := by
  obtain ⟨V0, g0, v0⟩ := vz_wk0 V hw
  unfold F10_pass F10_pass_0 sp_pass
  refine k_e (cz_i0 R) (k_b (cz_p0 R) ?_)
  intro h1 R1
  have R1 : cz_N s0 (sp_wk0 W) h1 := R1
  have e3 : sp_wk0 W 14 0 3 = W 14 0 3 := wz_up_c (by decide)
  refine k_e (cz_i3 R1) ?_
  rw [e3]
  refine k_if (fun q => ?_) (fun q => ?_)
  · rw [if_pos q]
    refine k_b (cz_begins R1 V0) ?_
    intro h2 R2
    refine k_b (cz_workAll R2 (vz_bgs V0 _ (Nat.le_refl _))) ?_
    intro h3 R3
    rw [sp_bgs_n] at R3
    have R3 : cz_N s0 (sp_mk (sp_wk0 W)) h3 := R3
    exact cz_ships R3 (vz_mk V0) (fun r hr => by rw [sp_mk_k (by decide) (by decide), sp_mk_k (by decide) (by decide)]; exact g0 r hr)
  · rw [if_neg q]
    exact k_s R1
/-! the reference -/
theorem rz_ships (R : rz_N s0 th W h) (V : vz W) (hg : vg W 0) (hv : vh W) : k_ok (F12_goesOn_83 317 0 h) (rz_N s0 th (sp_half (sp_seas W))) := by
  have hn : wz_n W 4 ≤ 12 := V.c (k := 4) (by omega)
  have hc := (V.cap (k := 4) (by omega)).1
  have e24 : ∀ i, sp_gos W i 24 0 0 = nI (wz_n W 4) := fun i => by
    rw [sp_gos_k (by decide) (by decide) (by decide) (by decide)]
    exact hc
  unfold F12_goesOn_83
  refine wh_i (n := wz_n W 4) (fun (i : Nat) (z : Int32 × m_H) => z.1 = nI i ∧ rz_N s0 th (sp_gos W i) z.2) _ ?_ ?_ m_N 0 _ (N_lt (by omega)) (Nat.zero_le _) ⟨rfl, R⟩
  · rintro i ⟨y, h1⟩ hi ⟨q1, R1⟩
    dsimp only at q1 R1
    subst q1
    obtain ⟨V1, g1⟩ := vz_gos V hg i (by omega)
    have hi1 : i < wz_n (sp_gos W i) 4 := by rw [sp_gos_n]; exact hi
    have x24 := e24 i
    have hs : sp_gos W (i + 1) = sp_go1 i (sp_gos W i) := rfl
    rw [hs]
    generalize sp_gos W i = W1 at R1 V1 hi1 x24
    have key : W1 4 i 2 = 1 ∨ W1 4 i 2 = 3 → k_ok (m_b (F12_goes 317 (nI i) h1) fun h12 => some (Sum.inl ((nI i + 1), h12))) (m_KK (fun (z : Int32 × m_H) => z.1 = nI (i + 1) ∧ rz_N s0 th (sp_go1 i W1) z.2) (rz_N s0 th (sp_half (sp_seas W)))) := by
      intro q
      refine k_b (rz_go R1 V1 hi1 q) ?_
      intro h2 R2
      refine k_s ⟨(nI_succ i).symm, ?_⟩
      unfold sp_go1
      rw [if_pos q]
      exact R2
    unfold F12_goesOn_83b
    dsimp only
    refine k_e (rz_gr1 R1) (k_e (rz_c4 R1) ?_)
    rw [x24]
    refine k_f (nI_ge hi (by omega)) (k_e (rz_i2 R1 rfl (by omega)) (k_if (fun q => key (Or.inl q)) (fun q => k_e (rz_i2 R1 rfl (by omega)) (k_if (fun q3 => key (Or.inr q3)) (fun q3 => k_s ⟨(nI_succ i).symm, ?_⟩)))))
    unfold sp_go1
    rw [if_neg (fun x => x.elim q q3)]
    exact R1
  · rintro ⟨y, h1⟩ ⟨q1, R1⟩
    dsimp only at q1 R1
    subst q1
    obtain ⟨V1, v1⟩ := vz_seas V hg hv
    unfold F12_goesOn_83b
    dsimp only
    refine k_e (rz_gr1 R1) (k_e (rz_c4 R1) ?_)
    rw [e24]
    refine k_t (nI_le (Nat.le_refl _) (by omega)) ?_
    obtain ⟨z, e, hz⟩ := rz_half R1 V1 v1
    exact ⟨.inr z, by rw [e]; rfl, hz⟩
theorem rz_pass (R : rz_N s0 th (sp_wk0 W) h) (V : vz W) (hw : W 14 0 0 < 500) (he : W 14 0 3 = 0) : k_ok (m_b (F12_makes 317 h) fun h10 => F12_goesOn_83 317 0 h10) (rz_N s0 th (sp_pass W)) := by
  obtain ⟨V0, g0, v0⟩ := vz_wk0 V hw
  unfold sp_pass
  rw [if_pos he]
  refine k_b (rz_makes R V0) ?_
  intro h1 R1
  have R1 : rz_N s0 th (sp_mk (sp_wk0 W)) h1 := R1
  refine rz_ships R1 (vz_mk V0) (fun r hr => by rw [sp_mk_k (by decide) (by decide), sp_mk_k (by decide) (by decide)]; exact g0 r hr) (fun i hi => ?_)
  rw [sp_mk_n] at hi
  rw [sp_mk_k (by decide) (by decide), sp_mk_k (by decide) (by decide)]
  exact v0 i hi
end
/-! what always holds, behind a week -/
section
variable {W : m_W}
theorem vz_yd (V : vz W) {i : Nat} (hi : i < wz_n W 10) : vz (sp_yd i W) := by
  unfold sp_yd
  split
  · exact V
  · have G := V.2.2.2.2.1
    have ek : ∀ {k r x}, ¬ k = 10 → ¬ k = 14 → wz_up (wz_up W 10 i 5 (W 10 i 5 + W 10 i 4)) 14 0 4 (W 14 0 4 + W 10 i 4) k r x = W k r x := fun h1 h2 => by rw [wz_up_k h2, wz_up_k h1]
    have e10 : ∀ {r x}, ¬ x = 5 → wz_up (wz_up W 10 i 5 (W 10 i 5 + W 10 i 4)) 14 0 4 (W 14 0 4 + W 10 i 4) 10 r x = W 10 r x := fun h => by rw [wz_up_k (by decide), wz_up_c h]
    have e14 : ∀ {x}, ¬ x = 4 → wz_up (wz_up W 10 i 5 (W 10 i 5 + W 10 i 4)) 14 0 4 (W 14 0 4 + W 10 i 4) 14 0 x = W 14 0 x := fun h => by rw [wz_up_c h, wz_up_k (by decide)]
    refine V.same (fun k => ek (by omega) (by omega)) (fun r x => ek (by decide) (by decide)) (fun r x => ek (by decide) (by decide)) (fun r x => ek (by decide) (by decide)) (fun k hk r x h1 => ?_) (fun k hk h2 h4 r hr => ?_) ?_
    · by_cases q : k = 10
      · subst q
        rw [wz_up_k (by decide), wz_up_r (by omega)]
      · exact ek q (by omega)
    · by_cases q : k = 10
      · subst q
        have L := V.row hk hr
        have L : (1 ≤ W 10 r 0 ∧ W 10 r 0 ≤ 5) ∧ 0 ≤ W 10 r 1 ∧ (1 ≤ W 10 r 2 ∧ W 10 r 2 ≤ 500) ∧ (0 ≤ W 10 r 3 ∧ W 10 r 3 ≤ 10000) ∧ (0 ≤ W 10 r 4 ∧ W 10 r 4 ≤ 1000) := L
        unfold vz_row
        rw [e10 (by decide), e10 (by decide), e10 (by decide), e10 (by decide), e10 (by decide)]
        exact L
      · rw [show wz_up (wz_up W 10 i 5 (W 10 i 5 + W 10 i 4)) 14 0 4 (W 14 0 4 + W 10 i 4) k r = W k r from funext fun x => ek q (by omega)]
        exact V.row hk hr
    · have sm : ∀ n, i < n → sp_it (fun r a => a + wz_up (wz_up W 10 i 5 (W 10 i 5 + W 10 i 4)) 14 0 4 (W 14 0 4 + W 10 i 4) 10 r 5) n 0 = sp_it (fun r a => a + W 10 r 5) n 0 + W 10 i 4 := by
        intro n
        induction n with
        | zero => intro h; exact absurd h (Nat.not_lt_zero i)
        | succ n ih =>
          intro h
          rw [sp_it_s, sp_it_s, wz_up_k (show ¬ 10 = 14 by decide)]
          by_cases q : i = n
          · subst q
            rw [wz_up_s, si_if (f := fun r a => a + wz_up (wz_up W 10 i 5 (W 10 i 5 + W 10 i 4)) 14 0 4 (W 14 0 4 + W 10 i 4) 10 r 5) (g := fun r a => a + W 10 r 5) (n := i) (fun j hj a => by rw [wz_up_k (by decide), wz_up_r (by omega)]), Int32.add_assoc]
          · rw [wz_up_r (fun x => q x.symm), ih (by omega), Int32.add_assoc, Int32.add_assoc, Int32.add_comm (W 10 i 4)]
      unfold vz_glob at G ⊢
      rw [show wz_n (wz_up (wz_up W 10 i 5 (W 10 i 5 + W 10 i 4)) 14 0 4 (W 14 0 4 + W 10 i 4)) 10 = wz_n W 10 from wz_n_cong (ek (by decide) (by decide)), show wz_n (wz_up (wz_up W 10 i 5 (W 10 i 5 + W 10 i 4)) 14 0 4 (W 14 0 4 + W 10 i 4)) 8 = wz_n W 8 from wz_n_cong (ek (by decide) (by decide)), sm _ hi, wz_up_s, e14 (x := 0) (by decide), e14 (x := 3) (by decide)]
      refine ⟨G.1, G.2.1, by rw [G.2.2.1], fun r hr => ?_, fun r hr => ?_, fun r hr => ?_⟩
      · rw [e10 (by decide)]; exact G.2.2.2.1 r hr
      · rw [ek (by decide) (by decide)]; exact G.2.2.2.2.1 r hr
      · rw [ek (by decide) (by decide)]; exact G.2.2.2.2.2 r hr
theorem vz_yds (V : vz W) : ∀ i, i ≤ wz_n W 10 → vz (sp_yds W i)
  | 0, _ => V
  | i + 1, h => vz_yd (vz_yds V i (by omega)) (by rw [sp_yds_n]; omega)
theorem vz_half (V : vz W) : vz (sp_half W) := by
  have V2 := vz_moods (vz_lands V 5 (Nat.le_refl _)) 5 (Nat.le_refl _)
  exact vz_yds V2 _ (by rw [sp_moods_n, sp_lands_n]; exact Nat.le_refl _)
theorem vz_pass (V : vz W) (hw : W 14 0 0 < 500) : vz (sp_pass W) := by
  obtain ⟨V0, g0, v0⟩ := vz_wk0 V hw
  unfold sp_pass
  split
  · refine vz_half (vz_seas (vz_mk V0) (fun r hr => by rw [sp_mk_k (by decide) (by decide), sp_mk_k (by decide) (by decide)]; exact g0 r hr) (fun i hi => ?_)).1
    rw [sp_mk_n] at hi
    rw [sp_mk_k (by decide) (by decide), sp_mk_k (by decide) (by decide)]
    exact v0 i hi
  · exact V0
end
