/-! ===== load: the reference, whole ===== -/
section
variable {s0 : tz_S} {th : Int32} {W : m_W} {h : m_H}
theorem rz_load (R : rz_N s0 th W h) (V : vz W) {a b c : Int32} : k_ok (F12_load 317 a b c h) (hz_D s0 e03 W (sp_load W a b c)) := by
  have hn : wz_n W 4 ≤ 12 := V.c (k := 4) (by omega)
  have hn2 : wz_n W 2 ≤ 100 := V.c (k := 2) (by omega)
  unfold F12_load F12_load_0 sp_load
  refine k_g (rz_io R) ?_
  refine k_b (rz_th R) ?_
  intro h1 R1
  refine k_e (rz_noShip R1 V) ?_
  by_cases c1 : 0 ≤ a ∧ a < nI (wz_n W 4)
  case neg =>
    rw [if_neg c1, if_neg c1]
    refine k_f (by decide) ?_
    unfold F12_load_22 F12_load_27
    exact k_thr R1 (fun h2 R2 => k_s R2)
  rw [if_pos c1, if_pos c1]
  refine k_t rfl (k_e (rz_noLot R1 V) ?_)
  by_cases c2 : 0 ≤ b ∧ b < nI (wz_n W 2)
  case neg =>
    rw [if_neg c2, if_neg c2]
    refine k_f (by decide) ?_
    unfold F12_load_22 F12_load_27
    exact k_thr R1 (fun h2 R2 => k_s R2)
  rw [if_pos c2, if_pos c2]
  refine k_t rfl ?_
  unfold F12_load_27
  refine k_thr0 R1 (k_ovr R1 V (fun c3 => ?_) (fun c3 h2 R2 => k_s (by rw [if_neg c3]; exact R2)))
  rw [if_pos c3]
  obtain ⟨s, hs, rfl⟩ := i_rowlt (by omega) c1
  obtain ⟨t, ht, rfl⟩ := i_rowlt (by omega) c2
  rw [nI_clamp (n := s) (by omega), nI_clamp (n := t) (by omega)]
  have L := V.lot ht
  obtain ⟨e6, h8⟩ := V.has hs
  have no : ¬ sp_mayLoad W s t c → hz_D s0 e03 W (if sp_mayLoad W s t c then .inl (1, some (sp_put W s t c)) else .inl (0, none)) (0, h1) := fun q => by
    rw [if_neg q]
    exact ⟨rfl, R1.C⟩
  refine k_if (fun q1 => ?_) (fun q1 => k_s (no (fun x => q1 x.2.1)))
  have go : ∀ p, p = sp_fm W s → sp_fits W s t → c ≤ W 2 t (10 + p) → k_ok (F12_load_200 317 (nI s) (nI t) c (nI p) h1) (hz_D s0 e03 W (if sp_mayLoad W s t c then .inl (1, some (sp_put W s t c)) else .inl (0, none))) := fun p hp ft hc => rz_load200 R1 V hs ht hp (by rw [hp]; unfold sp_fm; split <;> decide) ft q1 hc
  refine k_e (rz_its R1 rfl (by omega) (y := 2) (c := 2) rfl (by decide)) (k_if (fun q2 => ?_) (fun q2 => ?_))
  · have fm : sp_fm W s = 1 := if_pos q2
    unfold F12_load_67
    refine k_f (by decide) ?_
    unfold F12_load_84
    refine k_e (rz_isStock R1 rfl (by omega)) ?_
    by_cases q3 : W 2 t 2 = 0
    · rw [if_pos q3]
      exact k_f (by decide) (k_s (no (fun x => x.1.elim (fun y => y.2.1.1 q3) (fun y => y.1 q2))))
    rw [if_neg q3]
    refine k_t rfl (k_e (rz_o3 R1 rfl (by omega)) (k_if (fun q4 => ?_) (fun q4 => ?_)))
    · unfold F12_load_109
      exact k_t rfl (k_s (no (fun x => x.1.elim (fun y => absurd (y.2.1.2.symm.trans q4) (by decide)) (fun y => y.1 q2))))
    · have q4' : W 2 t 3 = 0 := L.2.2.2.1.elim id (fun x => absurd x q4)
      unfold F12_load_109
      refine k_f (by decide) (k_f (by decide) ?_)
      unfold F12_load_124
      refine k_e (rz_of R1 rfl (by omega) (y := 10 + 1) (c := 11) rfl (by decide)) ?_
      refine k_if (fun q5 => k_s (no (fun x => absurd x.2.2.1 (by rw [fm]; exact Int32.not_le.mpr q5)))) (fun q5 => k_f (by decide) ?_)
      have q5' : c ≤ W 2 t (10 + 1) := Int32.not_lt.mp q5
      unfold F12_load_162
      refine k_f (by decide) (k_e (rz_its R1 rfl (by omega) (y := 6) (c := 6) rfl (by decide)) (k_if (fun q6 => ?_) (fun q6 => ?_)))
      · have z6 : W 4 s 6 = 0 := by
          rw [e6] at q6 ⊢
          rcases Nat.eq_zero_or_pos (W 4 s 6).toNatClampNeg with z | z
          · rw [z]; rfl
          · exact absurd q6 (nI_ge z (by omega))
        exact go 1 fm.symm (Or.inl ⟨q2, ⟨q3, q4'⟩, Or.inl z6⟩) q5'
      · have n6 : ¬ W 4 s 6 = 0 := fun z => q6 (by rw [z]; decide)
        have h6 : 0 < (W 4 s 6).toNatClampNeg := Nat.pos_of_ne_zero (fun q => n6 (by rw [e6, q]; rfl))
        obtain ⟨t1, ht1, et⟩ := V.ship hs h6
        have et : W 4 s 7 = nI t1 := et
        have e7 : W 2 (W 4 s 7).toNatClampNeg 2 = W 2 t1 2 := by rw [et, nI_clamp (by omega)]
        refine k_e (rz_its R1 rfl (by omega) (y := 7) (c := 7) rfl (by decide)) (k_e (rz_o2 R1 (r := t1) et (by omega)) (k_e (rz_o2 R1 rfl (by omega)) (k_if (fun q7 => ?_) (fun q7 => ?_))))
        · exact go 1 fm.symm (Or.inl ⟨q2, ⟨q3, q4'⟩, Or.inr (e7.trans q7)⟩) q5'
        · exact k_s (no (fun x => x.1.elim (fun y => y.2.2.elim n6 (fun z => q7 (e7.symm.trans z))) (fun y => y.1 q2)))
  · unfold F12_load_67
    refine k_t rfl (k_e (rz_its R1 rfl (by omega) (y := 2) (c := 2) rfl (by decide)) (k_if (fun q3 => ?_) (fun q3 => k_s (no (fun x => x.1.elim (fun y => q2 y.1) (fun y => q3 y.2.1))))))
    have fm : sp_fm W s = 3 := if_neg q2
    unfold F12_load_84
    refine k_e (rz_isStock R1 rfl (by omega)) ?_
    by_cases q4 : W 2 t 2 = 0
    · rw [if_pos q4]
      exact k_f (by decide) (k_s (no (fun x => x.1.elim (fun y => q2 y.1) (fun y => absurd ((L.2.2.2.2.2.2.2.2.2.1 q4).1.symm.trans y.2.2.1) (by decide)))))
    rw [if_neg q4]
    refine k_t rfl (k_e (rz_o3 R1 rfl (by omega)) (k_if (fun q5 => ?_) (fun q5 => ?_)))
    · unfold F12_load_109
      refine k_f (by decide) (k_t rfl ?_)
      unfold F12_load_124
      refine k_e (rz_of R1 rfl (by omega) (y := 10 + 3) (c := 13) rfl (by decide)) ?_
      refine k_if (fun q6 => k_s (no (fun x => absurd x.2.2.1 (by rw [fm]; exact Int32.not_le.mpr q6)))) (fun q6 => k_t rfl ?_)
      refine k_e (rz_o2 R1 rfl (by omega)) (k_e (rz_its R1 rfl (by omega) (y := 3) (c := 3) rfl (by decide)) (k_if (fun q7 => ?_) (fun q7 => k_s (no (fun x => x.1.elim (fun y => q2 y.1) (fun y => q7 y.2.2.2.symm))))))
      unfold F12_load_162
      exact k_t rfl (go 3 fm.symm (Or.inr ⟨q2, q3, q5, q7.symm⟩) (Int32.not_lt.mp q6))
    · unfold F12_load_109
      exact k_t rfl (k_s (no (fun x => x.1.elim (fun y => q2 y.1) (fun y => q5 y.2.2.1))))
end
