/-! ===== allot: the reference, as a whole ===== -/
section
variable {s0 s1 : tz_S} {th : Int32} {W W1 : m_W} {h : m_H}
def rz_cI (s0 : tz_S) (W : m_W) (i : Nat) (z : Int32 × m_H) : Prop := z.1 = nI i ∧ ∃ s1, tz_fcq s0 s1 ∧ rz_N s1 0 W z.2 ∧ ∀ j, j < i → s1.2.1 325 j = sp_cM W j ∧ s1.2.1 326 j = 0
theorem rz_allot (R : rz_N s0 th W h) (V : vz W) {x : Int32} : k_ok (F12_allot 317 x h) (hz_D s0 e03 W (sp_allot W x)) := by
  have hc3 := (V.cap (k := 3) (by omega)).1
  have hn3 : wz_n W 3 ≤ 60 := V.c (k := 3) (by omega)
  unfold F12_allot F12_allot_0 sp_allot
  refine k_g (rz_io R) ?_
  refine k_b (rz_th R) ?_
  intro h1 R1
  refine k_e k_ns (k_ww R1 (0 ≤ x ∧ x ≤ 7) rfl (fun c1 => ?_) (fun c1 h2 R2 => k_s (by rw [if_neg c1]; exact R2)))
  refine k_ovr R1 V (fun c2 => ?_) (fun c2 h2 R2 => k_s (by rw [if_pos c1, if_neg c2]; exact R2))
  rw [if_pos c1, if_pos c2]
  obtain ⟨tx, htx, ex⟩ := i_row (n := 7) rfl c1
  unfold F12_allot_33
  refine wh_i (n := wz_n W 3) (rz_cI s0 W) (rz_aQ s0 W x) ?_ ?_ m_N 0 _ (N_lt (by omega)) (Nat.zero_le _) ⟨rfl, s0, ⟨rfl, fun _ _ => rfl, rfl⟩, R1, fun j hj => absurd hj (by omega)⟩
  · rintro i ⟨y, h2⟩ hi ⟨q1, s1, fc, R2, A⟩
    dsimp only at q1 R2
    subst q1
    obtain ⟨l, t, el, hl1, hl, et, ht⟩ := V.ask hi
    have q := rz_q3 R2 (r := i) (by omega)
    unfold F12_allot_33b
    dsimp only
    refine k_e (rz_gr1 R2) (k_e (rz_c3 R2) ?_)
    rw [show W 23 0 0 = nI (wz_n W 3) from hc3]
    refine k_f (nI_ge hi (by omega)) (k_e (rz_gr1 R2) (k_e q.1 (k_e q.2.2.2.1 (k_b (rz_looksAt R2 V rfl (by omega) el hl et ht) ?_))))
    intro h3 K
    refine k_e (rz_gr17 K.N) (k_b (rz_all K V.vt (k := 1) (Or.inl rfl)) ?_)
    rintro _ ⟨h4, rfl, K4⟩
    rw [if_pos rfl]
    refine k_b (rz_as K4.N (Or.inl rfl) sh_325 ⟨rfl, rfl⟩ (show i < 60 by omega) (by decide)) ?_
    intro h5 R5
    refine k_e (rz_gr18 R5) (k_b (rz_as R5 (Or.inr rfl) sh_326 ⟨rfl, rfl⟩ (show i < 60 by omega) (by decide)) ?_)
    intro h6 R6
    refine k_s ⟨(nI_succ i).symm, _, (fc.ui (Or.inl rfl)).ui (Or.inr rfl), R6, fun j hj => ?_⟩
    rw [tz_ui_n (by decide), tz_ui_a, tz_ui_a, tz_ui_n (by decide), nr3_0]
    by_cases e : j = i
    · subst e
      rw [pk_us, pk_us]
      refine ⟨?_, rfl⟩
      unfold sp_cM
      rw [el, et, nI_clamp (n := l) (by omega), nI_clamp (n := t) (by omega)]
      rfl
    · rw [pk_un e, pk_un e]
      exact A j (by omega)
  · rintro ⟨y, h2⟩ ⟨q1, s1, fc, R2, A⟩
    dsimp only at q1 R2
    subst q1
    have A2 : rz_W s1 W x (sp_cP W x) (sp_cM W) := by
      refine ⟨fun i hi => (A i hi).1, fun i => ?_⟩
      rw [sp_cP_iff]
      exact ⟨fun q => ⟨q.1, (A i q.1).2, q.2⟩, fun q => ⟨q.1, q.2.2⟩⟩
    unfold F12_allot_33b
    dsimp only
    refine k_e (rz_gr1 R2) (k_e (rz_c3 R2) ?_)
    rw [show W 23 0 0 = nI (wz_n W 3) from hc3]
    refine k_t (nI_le (Nat.le_refl _) (by omega)) (k_e (rz_nextFor R2 V A2) ?_)
    unfold F12_allot_93
    obtain ⟨b1, b2, b3⟩ := sp_stock_i V (t := x)
    have P := rz_allot93 (s0 := s0) V (x := x) ⟨tx, htx, ex⟩ (z := (0, nx_I (sp_nx W (sp_cM W) (sp_cP W x) 60), h2)) ⟨sp_cP W x, W, s1, rfl, rfl, V, fun i hi => sp_cP_iff.mp hi, sp_cnt_le 60, (show (0 : Int) ≤ (0 : Int32).toInt by decide), ?_, Or.inl ⟨rfl, rfl, fc⟩, A2, R2⟩
    · obtain ⟨z, e, hz⟩ := P
      exact ⟨.inr z, by rw [e]; rfl, hz⟩
    · have : (0 : Int32).toInt = 0 := rfl
      show (0 : Int32).toInt + (sp_stock W x).toInt ≤ 100000
      omega
end
