/-! ===== give ===== -/
def sp_on (W : m_W) (t : Nat) (c l g : Int32) : m_W :=
  wz_up (wz_up (wz_up (sp_lot0 (sp_mv W t 3 5 c) (W 2 t 0) c l 3) 2 (wz_n W 2) 8 (nI t)) 2 (wz_n W 2) 9 g) 6 (8 * l.toNatClampNeg + (W 2 t 0).toNatClampNeg) 2 (W 6 (8 * l.toNatClampNeg + (W 2 t 0).toNatClampNeg) 2 + c)
noncomputable def sp_given (W : m_W) (t : Nat) (c l : Int32) : Int32 := sp_why W (sp_fx W (W 2 t 2).toNatClampNeg (W 2 t 0).toNatClampNeg c l) 3
abbrev sp_giv (W : m_W) (t : Nat) (c l : Int32) : Prop := (¬ W 2 t 2 = 0 ∧ W 2 t 3 = 0) ∧ (1 ≤ c ∧ c ≤ W 2 t 13) ∧ ¬ l = 0 ∧ ¬ l = W 2 t 2 ∧ wz_n W 2 < 100
noncomputable def sp_give (W : m_W) (a c l g : Int32) : (Int32 × Option m_W) ⊕ Nat :=
  if 0 ≤ a ∧ a < nI (wz_n W 2) then if 0 ≤ l ∧ l ≤ 5 then if W 14 0 3 = 0 then
    if sp_giv W a.toNatClampNeg c l then (if sp_given W a.toNatClampNeg c l = -1 then (if g = 0 then .inl (-1, none) else .inl (nI (wz_n W 2), some (sp_on W a.toNatClampNeg c l 1)))
      else .inl (nI (wz_n W 2), some (sp_on W a.toNatClampNeg c l 0))) else .inl (-1, none)
  else .inr 3 else .inr 0 else .inr 0
section
variable {s0 : tz_S} {th : Int32} {W : m_W} {h : m_H}
theorem cz_addLotz (R : cz_N s0 W h) (z : ∀ c, c < 21 → W 2 (wz_n W 2) c = 0) {a b l p : Int32} {q : Nat} (hp : p = nI q) (hq : q < 9) (hn : wz_n W 2 < 100) : k_ok (F3_addLot 223 a b l p h) (fun z => ∃ h1, z = (nI (wz_n W 2), h1) ∧ cz_N s0 (sp_lot0 W a b l q) h1) := by
  unfold F3_addLot F3_addLot_0
  refine k_g (nz_io223 R) (k_e (nz_gr223_8 R) ?_)
  refine k_b (cz_add R (k := 2) (by decide) rfl hn (fun c hc => z c hc)) ?_
  rintro _ ⟨h1, rfl, R1⟩
  have hl : wz_n W 2 < wz_n (wz_up W (20 + 2) 0 0 (nI (wz_n W 2 + 1))) 2 := by
    show _ < (nI (wz_n W 2 + 1)).toNatClampNeg
    rw [nI_clamp (by omega)]
    omega
  refine k_e (nz_gr223_8 R1) ?_
  refine k_b (cz_s2_0 R1 rfl hl) ?_
  intro h2 R2
  refine k_e (nz_gr223_8 R2) ?_
  refine k_b (cz_s2_1 R2 rfl hl) ?_
  intro h3 R3
  refine k_e (nz_gr223_8 R3) ?_
  refine k_b (cz_s2_2 R3 rfl hl) ?_
  intro h4 R4
  refine k_e (nz_gr223_8 R4) ?_
  refine k_b (cz_s2_6 R4 rfl hl) ?_
  intro h5 R5
  refine k_e (nz_gr223_8 R5) ?_
  refine k_b (cz_s2_8 R5 rfl hl) ?_
  intro h6 R6
  refine k_e (nz_gr223_8 R6) ?_
  have e1 : (10 : Int32) + p = nI (10 + q) := by rw [hp]; exact nI_add 10 q
  refine k_b (cz_set R6 (k := 2) (c := 10 + q) (by decide) rfl rfl hl e1 (show 10 + q < 21 by omega)) ?_
  intro h7 R7
  rw [wz_pi2 q (List.mem_range.mpr hq)] at R7
  exact k_s ⟨h7, rfl, R7⟩
/-! the reference, with what is looked at kept -/
theorem rz_gset {G : Nat → Int64} (K : rz_G s0 th W G h) {k r c : Nat} {j u : Int32} (hj : j = nI (wz_ix k r c)) (hv : wz_v k r c) : k_ok (m_si h 0 318 j u) (rz_G s0 th (wz_up W k r c u) G) := by
  obtain ⟨s, rfl, H, ht, F, e⟩ := K
  have hlt := wz_ix_lt hv
  refine ⟨_, tz_si sh_318 ⟨rfl, rfl⟩ (by rw [hj]; exact nI_in1 (by omega) (by decide)), _, rfl, ?_, ht, F.trans (tz_fq.ui (Or.inl rfl)), e⟩
  rw [hj, nI_clamp (by omega)]
  exact WR_ui H hv
theorem rz_beginsG {G : Nat → Int64} (R : rz_G s0 th W G h) (hc : W 22 0 0 = nI (wz_n W 2)) (zz : ∀ c, c < 21 → W 2 (wz_n W 2) c = 0) {a b l p : Int32} {q : Nat} (hp : p = nI q) (hq : q < 9) (hn : wz_n W 2 < 100) : k_ok (F12_begins 317 a b l p h) (fun z => ∃ h1, z = (nI (wz_n W 2), h1) ∧ rz_G s0 th (sp_lot0 W a b l q) G h1) := by
  unfold F12_begins F12_begins_0
  refine k_g (rz_io R.N) (k_e (rz_gr1 R.N) (k_e (rz_c2 R.N) (k_e (rz_gr1 R.N) (k_e (rz_c2 R.N) ?_))))
  rw [hc, ← nI_succ]
  refine k_b (rz_gset R (k := 22) (r := 0) (c := 0) rfl ⟨by decide, by decide, by decide⟩) ?_
  intro h1 R1
  unfold F12_begins_25
  refine wh_i (n := 21) (fun i s => s.1 = nI i ∧ rz_G s0 th (wz_up W 22 0 0 (nI (wz_n W 2 + 1))) G s.2) _ ?_ ?_ m_N 0 _ (N_lt (by decide)) (Nat.zero_le _) ⟨rfl, R1⟩
  · rintro i ⟨x, h2⟩ hi ⟨rfl, R2⟩
    dsimp only at R2
    unfold F12_begins_25b
    dsimp only
    refine k_f (nI_ge hi (by decide)) ?_
    have lt := rz_lotAt (h := h2) (x := nI (wz_n W 2)) rfl hn (y := nI i) rfl hi
    refine k_e (rz_gr1 R2.N) (k_e lt.1 ?_)
    refine k_b (rz_gset R2 (u := 0) rfl lt.2) ?_
    intro h3 R3
    rw [wz_up_same (show wz_up W 22 0 0 (nI (wz_n W 2 + 1)) 2 (wz_n W 2) i = 0 from (zz i hi))] at R3
    exact k_s ⟨(nI_succ i).symm, R3⟩
  · rintro ⟨x, h2⟩ ⟨rfl, R2⟩
    dsimp only at R2
    unfold F12_begins_25b
    dsimp only
    have lt := fun h c (hc : c < 21) => rz_lotAt (h := h) (x := nI (wz_n W 2)) rfl hn (y := nI c) rfl hc
    refine k_t (by decide) (k_e (rz_gr1 R2.N) (k_e (lt h2 0 (by decide)).1 ?_))
    refine k_b (rz_gset R2 rfl (lt h2 0 (by decide)).2) ?_
    intro h3 R3
    refine k_e (rz_gr1 R3.N) (k_e (lt h3 1 (by decide)).1 ?_)
    refine k_b (rz_gset R3 rfl (lt h3 1 (by decide)).2) ?_
    intro h4 R4
    refine k_e (rz_gr1 R4.N) (k_e (lt h4 2 (by decide)).1 ?_)
    refine k_b (rz_gset R4 rfl (lt h4 2 (by decide)).2) ?_
    intro h5 R5
    refine k_e (rz_gr1 R5.N) (k_e (lt h5 6 (by decide)).1 ?_)
    refine k_b (rz_gset R5 rfl (lt h5 6 (by decide)).2) ?_
    intro h6 R6
    refine k_e (rz_gr1 R6.N) (k_e (lt h6 8 (by decide)).1 ?_)
    refine k_b (rz_gset R6 rfl (lt h6 8 (by decide)).2) ?_
    intro h7 R7
    have e1 : (10 : Int32) + p = nI (10 + q) := by rw [hp]; exact nI_add 10 q
    have l2 := rz_lotAt (h := h7) (x := nI (wz_n W 2)) rfl hn e1 (show 10 + q < 21 by omega)
    refine k_e (rz_gr1 R7.N) (k_e l2.1 ?_)
    refine k_b (rz_gset R7 rfl l2.2) ?_
    intro h8 R8
    exact k_s ⟨h8, rfl, R8⟩
end
