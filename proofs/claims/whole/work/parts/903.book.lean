/-! ===== a week: the BOOKS of the reference; its weeks ===== -/
def sp_bkp (W : m_W) (w l i : Nat) : m_W := fun k r c => if k = 16 ∧ r = w ∧ 8 ≤ c ∧ c < 8 * l + i then sp_landed W (nI (c / 8)) (nI (c % 8)) else W k r c
def sp_bk (W : m_W) : m_W := sp_bkp W (W 14 0 0).toNatClampNeg 6 0
def sp_week (W : m_W) : m_W := sp_pass (sp_bk W)
def sp_wst (_ : Nat) (W : m_W) : m_W := if W 14 0 0 < 500 then sp_week W else W
def sp_wkn (W : m_W) (j : Nat) : m_W := sp_it sp_wst j W
def sp_weeks (W : m_W) (a : Int32) : (Int32 × Option m_W) ⊕ Nat :=
  if 0 ≤ a ∧ a ≤ 60 then if 0 < a ∧ W 14 0 0 < 500 then .inl (sp_wkn W a.toNatClampNeg 14 0 0, some (sp_wkn W a.toNatClampNeg)) else .inl (W 14 0 0, none) else .inr 1
section
variable {s0 : tz_S} {th : Int32} {W X : m_W} {h : m_H}
theorem sp_bkp_k {w l i k r c : Nat} (hk : ¬ k = 16) : sp_bkp W w l i k r c = W k r c := if_neg (fun q => hk q.1)
theorem sp_bkp_0 {w : Nat} : sp_bkp W w 1 0 = W := by
  funext k r c
  exact if_neg (fun q => by omega)
theorem sp_bkp_8 {w l : Nat} : sp_bkp W w l 8 = sp_bkp W w (l + 1) 0 := by
  funext k r c
  unfold sp_bkp
  rw [show 8 * (l + 1) + 0 = 8 * l + 8 by omega]
theorem sp_bkp_s {w l i : Nat} (hi : i < 8) (hl : 1 ≤ l) : wz_up (sp_bkp W w l i) 16 w (8 * l + i) (sp_landed W (nI l) (nI i)) = sp_bkp W w l (i + 1) := by
  funext k r c
  unfold wz_up sp_bkp
  by_cases q : k = 16 ∧ r = w ∧ c = 8 * l + i
  · obtain ⟨rfl, rfl, rfl⟩ := q
    rw [if_pos ⟨rfl, rfl, rfl⟩, if_pos ⟨rfl, rfl, by omega, by omega⟩, show (8 * l + i) / 8 = l by omega, show (8 * l + i) % 8 = i by omega]
  · rw [if_neg q]
    by_cases q2 : k = 16 ∧ r = w ∧ 8 ≤ c ∧ c < 8 * l + i
    · rw [if_pos q2, if_pos ⟨q2.1, q2.2.1, q2.2.2.1, by omega⟩]
    · rw [if_neg q2, if_neg (fun x => q2 ⟨x.1, x.2.1, x.2.2.1, by have := x.2.2.2; have : ¬ c = 8 * l + i := fun y => q ⟨x.1, x.2.1, y⟩; omega⟩)]
/-- all but the BOOKS -/
theorem vz.b16 (V : vz W) (e : ∀ k r c, ¬ k = 16 → X k r c = W k r c) : vz X := by
  refine V.same (fun k => e _ _ _ (by omega)) (fun i x => e _ _ _ (by decide)) (fun i x => e _ _ _ (by decide)) (fun i x => e _ _ _ (by decide)) (fun k hk i x _ => e _ _ _ (by omega)) (fun k hk _ _ i hi => ?_) (vz_glob_cong V.2.2.2.2.1 (fun k i x hk => e _ _ _ (by omega)) (fun k => e _ _ _ (by omega)))
  rw [show X k i = W k i from funext fun x => e _ _ _ (by omega)]
  exact V.row hk hi
theorem tz_HR.b16 {s : tz_S} {b : Nat} (H : tz_HR s b W) (e : ∀ k r c, ¬ k = 16 → X k r c = W k r c) : tz_HR s b X := by
  obtain ⟨⟨f1, f2, f3, f4⟩, ⟨g1, g2, g3, g4, g5⟩, h⟩ := H
  have n : ∀ k, wz_n X k = wz_n W k := fun k => wz_n_cong (e _ _ _ (by omega))
  refine ⟨⟨f1.trans (e _ _ _ (by decide)).symm, f2.trans (e _ _ _ (by decide)).symm, f3.trans (e _ _ _ (by decide)).symm, f4.trans (e _ _ _ (by decide)).symm⟩, ⟨g1.trans (e _ _ _ (by decide)).symm, ?_, ?_, ?_, g5⟩, fun j hj => ?_⟩
  · rw [e _ _ _ (by decide), n]; exact g2
  · rw [n]; exact g3
  · rw [n, show X 17 = W 17 from funext fun i => funext fun x => e _ _ _ (by decide)]; exact g4
  · rw [n, e _ _ _ (by omega), show (fun r c => X j r (wz_pi j c)) = (fun r c => W j r (wz_pi j c)) from funext fun r => funext fun c => e _ _ _ (by omega)]
    exact h j hj
theorem sp_landed_cong {l t : Int32} (e : ∀ k r c, ¬ k = 16 → X k r c = W k r c) : sp_landed X l t = sp_landed W l t := by
  unfold sp_landed
  rw [wz_n_cong (e 22 0 0 (by decide))]
  refine si_if (fun i hi a => ?_)
  rw [e _ _ _ (by decide), e _ _ _ (by decide), e _ _ _ (by decide), e _ _ _ (by decide)]
theorem sp_bk_k {k r c : Nat} (hk : ¬ k = 16) : sp_bk W k r c = W k r c := sp_bkp_k hk
theorem vz_bk (V : vz W) : vz (sp_bk W) := V.b16 (fun _ _ _ h => sp_bk_k h)
theorem sp_mood_k {l k r x : Nat} (h : ¬ k = 5) : sp_mood l W k r x = W k r x := by
  unfold sp_mood
  split
  · rfl
  · exact wz_up_k h
theorem sp_moods_k {k r x : Nat} (h : ¬ k = 5) : ∀ i, sp_moods W i k r x = W k r x
  | 0 => rfl
  | i + 1 => (sp_mood_k (W := sp_moods W i) (l := i + 1) h).trans (sp_moods_k h i)
theorem sp_half_k {k r x : Nat} (h2 : ¬ k = 2) (h5 : ¬ k = 5) (h10 : ¬ k = 10) (h14 : ¬ (k = 14 ∧ x = 4)) : sp_half W k r x = W k r x := by
  unfold sp_half
  rw [sp_yds_k (fun q => h10 q.1) h14, sp_moods_k h5, sp_lands_k h2 h5]
theorem sp_pass_k {k r x : Nat} (h2 : ¬ k = 2) (h4 : ¬ k = 4) (h5 : ¬ k = 5) (h6 : ¬ k = 6) (h10 : ¬ k = 10) (h14 : ¬ k = 14) : sp_pass W k r x = W k r x := by
  unfold sp_pass sp_seas
  split
  · rw [sp_half_k h2 h5 h10 (fun q => h14 q.1), sp_gos_k h2 h4 h5 h6, sp_mk_k h2 (fun q => h14 q.1)]
    exact wz_up_k h14
  · exact wz_up_k h14
theorem sp_pass_w : sp_pass W 14 0 0 = W 14 0 0 + 1 := by
  unfold sp_pass sp_seas
  split
  · rw [sp_half_k (by decide) (by decide) (by decide) (by decide), sp_gos_k (by decide) (by decide) (by decide) (by decide), sp_mk_k (by decide) (by decide)]
    exact wz_up_s
  · exact wz_up_s
theorem sp_week_w : sp_week W 14 0 0 = W 14 0 0 + 1 := by
  unfold sp_week
  rw [sp_pass_w, sp_bk_k (by decide)]
theorem vz_week (V : vz W) (hw : W 14 0 0 < 500) : vz (sp_week W) := vz_pass (vz_bk V) (by rw [sp_bk_k (by decide)]; exact hw)
theorem vz_wkn (V : vz W) : ∀ j, vz (sp_wkn W j)
  | 0 => V
  | j + 1 => by
    show vz (sp_wst j (sp_wkn W j))
    unfold sp_wst
    split
    · next h => exact vz_week (vz_wkn V j) h
    · exact vz_wkn V j
theorem sp_wkn_stop {j : Nat} (h : ¬ sp_wkn W j 14 0 0 < 500) : ∀ m, sp_wkn W (j + m) = sp_wkn W j
  | 0 => rfl
  | m + 1 => by
    show sp_wst (j + m) (sp_wkn W (j + m)) = _
    rw [sp_wkn_stop h m]
    unfold sp_wst
    rw [if_neg h]
/-! the reference -/
theorem rz_books1 (V : vz W) (hw : W 14 0 0 < 500) {l : Nat} (hl1 : 1 ≤ l) (hl : l < 6) {o : Int32} (R1 : rz_N s0 th (sp_bkp W (W 14 0 0).toNatClampNeg l 0) h) : k_ok (F12_goesOn_15 317 o (nI l) 0 h) (fun z => ∃ h1, z = .inl (nI (l + 1), h1) ∧ rz_N s0 th (sp_bkp W (W 14 0 0).toNatClampNeg (l + 1) 0) h1) := by
  obtain ⟨ew, w5⟩ := V.week
  have w500 : (W 14 0 0).toNatClampNeg < 500 := by
    rcases Nat.lt_or_ge (W 14 0 0).toNatClampNeg 500 with q | q
    · exact q
    · rw [ew] at hw
      exact absurd hw (nI_nlt (b := 500) q (by omega))
  unfold F12_goesOn_15
  refine wh_i (n := 8) (fun (i : Nat) (z : Int32 × m_H) => z.1 = nI i ∧ rz_N s0 th (sp_bkp W (W 14 0 0).toNatClampNeg l i) z.2) _ ?_ ?_ m_N 0 _ (N_lt (by decide)) (Nat.zero_le _) ⟨rfl, R1⟩
  · rintro i ⟨y, h1⟩ hi ⟨q1, R2⟩
    dsimp only at q1 R2
    subst q1
    have ek : ∀ k r c, ¬ k = 16 → sp_bkp W (W 14 0 0).toNatClampNeg l i k r c = W k r c := fun k r c hk => sp_bkp_k hk
    unfold F12_goesOn_15b
    dsimp only
    refine k_f (i8f hi) (k_e (rz_gr1 R2) (k_e (k_wk R2) (k_e (rz_landedOf R2 (V.b16 ek)) ?_)))
    rw [sp_landed_cong ek, ek 14 0 0 (by decide)]
    have e : 4326 + 48 * W 14 0 0 + 8 * nI l + nI i = nI (wz_ix 16 (W 14 0 0).toNatClampNeg (8 * l + i)) := by
      rw [ew, nI_clamp (by omega)]
      show nI 4326 + nI 48 * nI _ + nI 8 * nI l + nI i = nI (4326 + (48 * _ + (8 * l + i)))
      rw [nI_mul, nI_mul, nI_add, nI_add, nI_add]
      congr 1
      omega
    rw [e]
    refine k_b (rz_set R2 rfl ⟨by decide, w500, show 8 * l + i < 48 by omega⟩) ?_
    intro h2 R3
    rw [sp_bkp_s hi hl1] at R3
    exact k_s ⟨(nI_succ i).symm, R3⟩
  · rintro ⟨y, h1⟩ ⟨q1, R2⟩
    dsimp only at q1 R2
    subst q1
    unfold F12_goesOn_15b
    dsimp only
    rw [sp_bkp_8] at R2
    exact k_t i8t (k_s ⟨h1, by rw [nI_succ], R2⟩)
theorem rz_goesOn (R : rz_N s0 th W h) (V : vz W) (hw : W 14 0 0 < 500) : k_ok (F12_goesOn 317 h) (rz_N s0 th (sp_week W)) := by
  unfold F12_goesOn F12_goesOn_0
  refine k_g (rz_io R) (k_e (k_ov R) ?_)
  unfold F12_goesOn_7
  refine wh_i (n := 6) (fun (i : Nat) (z : Int32 × m_H) => 1 ≤ i ∧ z.1 = nI i ∧ rz_N s0 th (sp_bkp W (W 14 0 0).toNatClampNeg i 0) z.2) _ ?_ ?_ m_N 1 _ (N_lt (by decide)) (by decide) ⟨Nat.le_refl _, rfl, by rw [sp_bkp_0]; exact R⟩
  · rintro i ⟨y, h1⟩ hi ⟨q0, q1, R1⟩
    dsimp only at q1 R1
    subst q1
    unfold F12_goesOn_7b
    dsimp only
    refine k_f (i6f hi) (k_m (?_ : k_ok (F12_goesOn_15 317 _ (nI i) 0 h1) (fun z => ∃ h2, z = .inl (nI (i + 1), h2) ∧ rz_N s0 th (sp_bkp W (W 14 0 0).toNatClampNeg (i + 1) 0) h2)) ?_)
    · exact rz_books1 V hw q0 hi R1
    · rintro _ ⟨h2, rfl, R2⟩
      exact ⟨by omega, rfl, R2⟩
  · rintro ⟨y, h1⟩ ⟨q0, q1, R1⟩
    dsimp only at q1 R1
    subst q1
    have R1 : rz_N s0 th (sp_bk W) h1 := R1
    have V1 := vz_bk V
    have e3 : sp_bk W 14 0 3 = W 14 0 3 := sp_bk_k (by decide)
    have e0 : sp_bk W 14 0 0 = W 14 0 0 := sp_bk_k (by decide)
    unfold F12_goesOn_7b sp_week
    rw [← e0] at hw
    rw [← e3]
    generalize sp_bk W = X at R1 V1 hw
    dsimp only
    refine k_t i6t (k_e (rz_gr1 R1) (k_e (rz_w0 R1) (k_b (rz_ws0 R1) ?_)))
    intro h2 R2
    have R2 : rz_N s0 th (sp_wk0 X) h2 := R2
    rcases V1.en with q | q
    · rw [q]
      refine k_t (by decide) ?_
      obtain ⟨z, e, hz⟩ := rz_pass R2 V1 hw q
      refine ⟨.inr z, ?_, hz⟩
      have e2 : ∀ (o : Option m_H), m_b o (fun h10 => (F12_goesOn_83 317 0 h10).map (Sum.inr : m_H → (Int32 × m_H) ⊕ m_H)) = (m_b o (fun h10 => F12_goesOn_83 317 0 h10)).map Sum.inr := by
        intro o
        cases o <;> rfl
      rw [e2, e]
      rfl
    · rw [q]
      refine k_f (by decide) (k_s ?_)
      unfold sp_pass
      rw [if_neg (by rw [q]; decide)]
      exact R2
end
