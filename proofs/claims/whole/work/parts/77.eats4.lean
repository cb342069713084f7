/-! ===== a week: what one land uses of one sort ===== -/
def sp_wt (W : m_W) (l s : Nat) : Int32 := if 0 ≤ W 5 l 1 then W 6 (8 * l + s) 0 else W 6 (8 * l + s) 0 / 2
def sp_eaP (W : m_W) (l s : Nat) : Int32 × m_W := sp_uss W (nI l) (nI s) (sp_wt W l s) (wz_n W 2)
def sp_eat (l s : Nat) (W : m_W) : m_W := if W 6 (8 * l + s) 0 ≤ 0 then W else wz_up (sp_eaP W l s).2 5 l 0 (W 5 l 0 + (W 6 (8 * l + s) 0 - (sp_eaP W l s).1))
theorem i_half : ∀ n ∈ List.range 1001, nI n / 2 = nI (n / 2) := by decide +kernel
theorem sp_uss_k {W : m_W} {l s a : Int32} {k r x : Nat} (h : ¬ k = 2) : ∀ n, (sp_uss W l s a n).2 k r x = W k r x
  | 0 => rfl
  | n + 1 => by
    show (sp_us l s a n (sp_uss W l s a n)).2 k r x = _
    unfold sp_us
    split
    · exact sp_uss_k h n
    · split
      · show sp_mv _ n 3 4 _ k r x = _
        rw [sp_mv_k h, sp_uss_k h n]
      · exact sp_uss_k h n
theorem sp_uss_cm {W : m_W} {l s a v : Int32} {k r x : Nat} (h : ¬ k = 2) : ∀ n, sp_uss (wz_up W k r x v) l s a n = ((sp_uss W l s a n).1, wz_up (sp_uss W l s a n).2 k r x v)
  | 0 => rfl
  | n + 1 => by
    show sp_us l s a n (sp_uss (wz_up W k r x v) l s a n) = ((sp_us l s a n (sp_uss W l s a n)).1, wz_up (sp_us l s a n (sp_uss W l s a n)).2 k r x v)
    rw [sp_uss_cm h n]
    generalize sp_uss W l s a n = p
    obtain ⟨u, W1⟩ := p
    have e : ∀ i y, wz_up W1 k r x v 2 i y = W1 2 i y := fun i y => wz_up_k (fun q => h q.symm)
    have um : sp_um (wz_up W1 k r x v) l s n ↔ sp_um W1 l s n := by
      show (¬ wz_up W1 k r x v 2 n 13 ≤ 0 ∧ _) ↔ _
      rw [e, e, e, e]
    unfold sp_us
    dsimp only
    by_cases q : a ≤ u
    · rw [if_pos q, if_pos q]
    · rw [if_neg q, if_neg q]
      by_cases m : sp_um W1 l s n
      · rw [if_pos m, if_pos (um.mpr m), e, sp_mv_cm h]
      · rw [if_neg m, if_neg (fun y => m (um.mp y))]
section
variable {s0 : tz_S} {th : Int32} {W : m_W} {h : m_H}
theorem vz_wt (V : vz W) {l s : Nat} (hl : l < 6) (hs : s < 8) : 0 ≤ sp_wt W l s ∧ 0 ≤ W 6 (8 * l + s) 0 := by
  have r := V.row (k := 6) (by omega) (r := 8 * l + s) (by rw [V.n6]; omega)
  have r : 0 ≤ W 6 (8 * l + s) 0 ∧ W 6 (8 * l + s) 0 ≤ 1000 := r
  obtain ⟨n, hn, e⟩ := i_row (n := 1000) rfl r
  refine ⟨?_, r.1⟩
  unfold sp_wt
  split
  · exact r.1
  · rw [e, i_half n (List.mem_range.mpr (by omega))]
    exact nI_pos' (by omega)
theorem vz_5c (V : vz W) {l : Nat} {v : Int32} (hl : l < 6) : vz (wz_up W 5 l 0 v) := by
  refine V.rowUp (k := 5) (by decide) (by decide) (by decide) (fun k' i x hk => wz_up_k hk) (fun i x hi => wz_up_r (by rw [V.n5] at hi; omega)) (fun i hi => ?_) (vz_glob_cong V.2.2.2.2.1 (fun k i x hk => wz_up_k (by omega)) (fun k => wz_up_k (by omega)))
  have r := V.row (k := 5) (by omega) hi
  have r : W 5 i 1 ≤ 0 ∧ (0 ≤ W 5 i 3 ∧ W 5 i 3 ≤ 100000) ∧ -100 ≤ W 5 i 1 := r
  show wz_up W 5 l 0 v 5 i 1 ≤ 0 ∧ (0 ≤ wz_up W 5 l 0 v 5 i 3 ∧ wz_up W 5 l 0 v 5 i 3 ≤ 100000) ∧ -100 ≤ wz_up W 5 l 0 v 5 i 1
  rw [wz_up_c (by decide), wz_up_c (by decide)]
  exact r
theorem vz_eat (V : vz W) {l s : Nat} (hl : l < 6) (hs : s < 8) : vz (sp_eat l s W) := by
  unfold sp_eat
  split
  · exact V
  · exact vz_5c (vz_uss V (vz_wt V hl hs).1 _ (Nat.le_refl _)).1 hl
theorem rz_eats (R : rz_N s0 th W h) (V : vz W) {l s : Nat} (hl1 : 1 ≤ l) (hl : l < 6) (hs : s < 8) : k_ok (F12_eats 317 (nI l) (nI s) h) (rz_N s0 th (sp_eat l s W)) := by
  have hb := rz_both (h := h) (l := l) (t := s) (c := 0) hl hs (by decide)
  have nl : ¬ nI l = 0 := fun q => by have := nI_e (m := 0) (by omega) (by decide) q; omega
  obtain ⟨w0, n0⟩ := vz_wt V hl hs
  obtain ⟨L1, L2, L3⟩ := sp_landed_i V (l := nI l) (s := nI s)
  have hu := sp_uss_u V (s := nI s) w0 nl (wz_n W 2) (Nat.le_refl _)
  have mu : m_min (sp_wt W l s) (sp_landed W (nI l) (nI s)) = (sp_eaP W l s).1 := by
    refine Int32.toInt_inj.mp ?_
    unfold sp_eaP
    rw [hu]
    unfold m_min i_min
    split
    · next q =>
      have := Int32.lt_iff_toInt_lt.mp q
      split <;> omega
    · next q =>
      have : ¬ (sp_landed W (nI l) (nI s)).toInt < (sp_wt W l s).toInt := fun y => q (Int32.lt_iff_toInt_lt.mpr y)
      rw [if_pos (by omega)]
  have main : k_ok (F12_eats_33 317 (nI l) (nI s) (W 6 (8 * l + s) 0) (sp_wt W l s) h) (rz_N s0 th (sp_eat l s W)) := by
    unfold F12_eats_33
    refine k_e (rz_landedOf R V) (k_e (rz_gr1 R) (k_e (rz_l5 R (c := 0) hl (by decide)).1 (k_e (rz_l5 R (c := 0) hl (by decide)).2 (k_b (rz_set R rfl ⟨by decide, hl, by decide⟩) ?_))))
    intro h1 R1
    rw [mu] at R1 ⊢
    have V1 := vz_5c V (l := l) (v := W 5 l 0 + (W 6 (8 * l + s) 0 - (sp_eaP W l s).1)) hl
    have n1 : wz_n (wz_up W 5 l 0 (W 5 l 0 + (W 6 (8 * l + s) 0 - (sp_eaP W l s).1))) 2 = wz_n W 2 := wz_n_up (by decide)
    have ls : sp_ls (wz_up W 5 l 0 (W 5 l 0 + (W 6 (8 * l + s) 0 - (sp_eaP W l s).1))) (nI l) (nI s) (wz_n W 2) = sp_ls W (nI l) (nI s) (wz_n W 2) := by
      unfold sp_ls
      refine si_if (fun i hi a => ?_)
      unfold sp_lv
      rw [wz_up_k (by decide), wz_up_k (by decide), wz_up_k (by decide), wz_up_k (by decide)]
    refine k_m (rz_eat64 R1 V1 (a := sp_wt W l s) w0 nl (by rw [n1, ls]; exact hu)) ?_
    intro h2 R2
    rw [n1, sp_uss_cm (by decide)] at R2
    dsimp only at R2
    unfold sp_eat
    by_cases z : W 6 (8 * l + s) 0 ≤ 0
    · rw [if_pos z]
      have z0 : W 6 (8 * l + s) 0 = 0 := Int32.le_antisymm z n0
      have wt0 : sp_wt W l s = 0 := by
        unfold sp_wt
        rw [z0]
        split <;> rfl
      have st : sp_uss W (nI l) (nI s) 0 (wz_n W 2) = (0, W) := by
        have := @sp_uss_stop W (nI l) (nI s) 0 0 (by show (0 : Int32) ≤ 0; decide) (wz_n W 2)
        rw [Nat.zero_add] at this
        exact this
      unfold sp_eaP at R2
      rw [wt0, st, z0, Int32.sub_zero, Int32.add_zero, wz_up_same rfl] at R2
      exact R2
    · rw [if_neg z]
      exact R2
  unfold F12_eats F12_eats_0
  refine k_g (rz_io R) (k_e (rz_gr1 R) (k_e hb.1 (k_e (rz_get R rfl hb.2) (k_e (rz_gr1 R) (k_e (rz_l5 R (c := 1) hl (by decide)).1 (k_e (rz_l5 R (c := 1) hl (by decide)).2 ?_))))))
  refine k_if (fun q => ?_) (fun q => ?_)
  · have e : sp_wt W l s = W 6 (8 * l + s) 0 := by unfold sp_wt; rw [if_pos q]
    rw [e] at main
    exact main
  · have e : sp_wt W l s = W 6 (8 * l + s) 0 / 2 := by unfold sp_wt; rw [if_neg q]
    rw [e] at main
    exact k_e (show m_dv (W 6 (8 * l + s) 0) 2 = some (W 6 (8 * l + s) 0 / 2) from if_neg (by decide)) main
end
