/-! ===== a text: the reference reads a line ===== -/
def dru (s : tz_S) (x : Nat) (v : Int32) : tz_S := tz_ui s 318 (upd (s.2.1 318) x v)
theorem nI_p2 (a : Nat) : nI a + 2 = nI (a + 2) := nI_add a 2
theorem nI_p3 (a : Nat) : nI a + 3 = nI (a + 3) := nI_add a 3
theorem nI_11 (a : Nat) : nI a + 1 = nI (a + 1) := nI_add a 1
def gEq (Y : gY) (c : gC) : Prop := nI c.length = if Y.1 = 0 then 0 else (Y.2 (Y.1 - 1)).2.2
def rLR (s0 : tz_S) (W : m_W) (T : Nat → Nat) (n : Nat) (r : gL) (z : Int32 × m_H) : Prop := match r with
  | .inl y => z.1 = 1 ∧ ∃ d, rq s0 W T n y.2.2 y.1 d y.2.1 z.2
  | .inr e => z.1 = 0 ∧ rf s0 W e z.2
section
variable {s0 s : tz_S} {W : m_W} {T : Nat → Nat} {n p b d q x j : Nat} {Y : gY} {c : gC} {h : m_H} {v : Int32}
theorem dr_si (h1 : x < 37677) : m_si (tz_H s) 0 318 (nI x) v = some (tz_H (dru s x v)) := by
  have := tz_si (s := s) (x := v) sh_318 ⟨rfl, rfl⟩ (nI_in1 (show x < 37677 by omega) (by decide))
  rw [nI_clamp (by omega)] at this
  exact this
theorem dr_ai (h1 : x < 37677) : m_ai (tz_H s) 0 318 (nI x) = some (s.2.1 318 x) := (tz_ai sh_318 ⟨rfl, rfl⟩ (nI_in1 (show x < 37677 by omega) (by decide))).trans (by rw [nI_clamp (by omega)])
theorem dru_s : (dru s x v).2.1 318 x = v := by
  unfold dru
  rw [tz_ui_a, pk_us]
theorem dru_n (q : ¬ j = x) : (dru s x v).2.1 318 j = s.2.1 318 j := by
  unfold dru
  rw [tz_ui_a, pk_un q]
theorem dru_W (hx : 36827 ≤ x) (H : tz_WR s 318 W) : tz_WR (dru s x v) 318 W := rg_W hx H
theorem dru_T (t : rgt s T n) : rgt (dru s x v) T n := rg_T t
theorem dru_F (F : tz_fq s0 s) : tz_fq s0 (dru s x v) := F.trans (tz_fq.ui (Or.inl rfl))
theorem dru_C (hx : x < 36877) (t : rgc s c) : rgc (dru s x v) c := ⟨t.1, fun j hj => by
  rw [dru_n (by omega), dru_n (by omega)]
  exact t.2 j hj⟩
theorem rf_si (R : rf s0 W q h) (h0 : 36827 ≤ x) (h1 : x < 37677) : k_ok (m_si h 0 318 (nI x) v) (fun h' => rf s0 W q h' ∧ m_gr h' 317 9 1 = some 318 ∧ m_ai h' 0 318 (nI x) = some v) := by
  obtain ⟨s, rfl, H, F, e0, e10⟩ := R
  exact ⟨_, dr_si h1, ⟨_, rfl, dru_W h0 H, dru_F F, e0, e10⟩, gr_317_1, (dr_ai h1).trans (congrArg some dru_s)⟩
/-- a cell of the line that is being read is set -/
theorem rg_amt {a e : Int32} (P : rg s0 W T n (gY_add Y v a e) p b d c h) {a' e' : Int32} : k_ok (m_si h 0 318 (nI (36830 + 4 * Y.1)) a') (fun h' => rg s0 W T n (gY_add Y v a' e) p b d c h' ∧ m_ai h' 0 318 (nI (36830 + 4 * Y.1)) = some a') ∧ k_ok (m_si h 0 318 (nI (36832 + 4 * Y.1)) e') (rg s0 W T n (gY_add Y v a e') p b d c) := by
  obtain ⟨s, rfl, H, F, t, e8, e10, e11, ec, ey⟩ := P
  have h12 : Y.1 + 1 ≤ 12 := ey.1
  refine ⟨⟨_, dr_si (by omega), ⟨_, rfl, dru_W (by omega) H, dru_F F, dru_T t, e8, e10, e11, dru_C (by omega) ec, h12, fun j hj => ?_⟩, (dr_ai (by omega)).trans (congrArg some dru_s)⟩, ⟨_, dr_si (by omega), _, rfl, dru_W (by omega) H, dru_F F, dru_T t, e8, e10, e11, dru_C (by omega) ec, h12, fun j hj => ?_⟩⟩
  · have old := ey.2 j hj
    have hj : j < Y.1 + 1 := hj
    have pj : ¬ j = 0 → ¬ j - 1 = Y.1 := fun z w => by omega
    unfold gY_add at old ⊢
    dsimp only at old ⊢
    by_cases w : j = Y.1
    · subst w
      rw [if_pos rfl] at old ⊢
      rw [dru_n (by omega), dru_s, dru_n (by omega), dru_n (by omega)]
      refine ⟨old.1, rfl, ?_, old.2.2.2⟩
      by_cases z : Y.1 = 0
      · rw [if_pos z]; rw [if_pos z] at old; exact old.2.2.1
      · rw [if_neg z, if_neg (pj z)]; rw [if_neg z, if_neg (pj z)] at old; exact old.2.2.1
    · rw [if_neg w] at old ⊢
      rw [dru_n (by omega), dru_n (by omega), dru_n (by omega), dru_n (by omega)]
      refine ⟨old.1, old.2.1, ?_, old.2.2.2⟩
      by_cases z : j = 0
      · rw [if_pos z]; rw [if_pos z] at old; exact old.2.2.1
      · rw [if_neg z, if_neg (pj z)]; rw [if_neg z, if_neg (pj z)] at old; exact old.2.2.1
  · have old := ey.2 j hj
    have hj : j < Y.1 + 1 := hj
    have pj : ¬ j = 0 → ¬ j - 1 = Y.1 := fun z w => by omega
    unfold gY_add at old ⊢
    dsimp only at old ⊢
    by_cases w : j = Y.1
    · subst w
      rw [if_pos rfl] at old ⊢
      rw [dru_n (by omega), dru_n (by omega), dru_n (by omega), dru_s]
      refine ⟨old.1, old.2.1, ?_, rfl⟩
      by_cases z : Y.1 = 0
      · rw [if_pos z]; rw [if_pos z] at old; exact old.2.2.1
      · rw [if_neg z, if_neg (pj z)]; rw [if_neg z, if_neg (pj z)] at old; exact old.2.2.1
    · rw [if_neg w] at old ⊢
      rw [dru_n (by omega), dru_n (by omega), dru_n (by omega), dru_n (by omega)]
      refine ⟨old.1, old.2.1, ?_, old.2.2.2⟩
      by_cases z : j = 0
      · rw [if_pos z]; rw [if_pos z] at old; exact old.2.2.1
      · rw [if_neg z, if_neg (pj z)]; rw [if_neg z, if_neg (pj z)] at old; exact old.2.2.1
theorem rg_72 {Q : m_H → Option (Int32 × m_H)} {R : Int32 × m_H → Prop} (P : rg s0 W T n Y p b d c h) (hy : Y.1 < 12) (hE : gEq Y c) {kd : Int32} (K : ∀ h', rg s0 W T n (gY_add Y kd 0 (nI c.length)) p b d c h' → k_ok (Q h') R) : k_ok (m_b (m_gr h 317 9 1) fun v1 => m_b (m_si h 0 v1 (nI (36829 + 4 * Y.1)) kd) fun h3 => m_b (m_gr h3 317 9 1) fun v5 => m_b (m_si h3 0 v5 (nI (36829 + 4 * Y.1) + 1) 0) fun h7 => m_b (m_gr h7 317 9 1) fun v9 => m_b (m_gi h7 317 9 14) fun v11 => m_b (m_si h7 0 v9 (nI (36829 + 4 * Y.1) + 2) v11) fun h13 => m_b (m_gr h13 317 9 1) fun v15 => m_b (m_gi h13 317 9 14) fun v17 => m_b (m_si h13 0 v15 (nI (36829 + 4 * Y.1) + 3) v17) fun h19 => Q h19) R := by
  obtain ⟨s, rfl, H, F, t, e8, e10, e11, ec, ey⟩ := P
  rw [nI_11, nI_p2, nI_p3]
  refine k_e gr_317_1 (k_e (dr_si (by omega)) (k_e gr_317_1 (k_e (dr_si (by omega)) (k_e gr_317_1 (k_e (gi_317_14.trans (congrArg some ec.1)) (k_e (dr_si (by omega)) (k_e gr_317_1 (k_e (gi_317_14.trans (congrArg some ec.1)) (k_e (dr_si (by omega)) (K _ ?_))))))))))
  refine ⟨_, rfl, dru_W (by omega) (dru_W (by omega) (dru_W (by omega) (dru_W (by omega) H))), dru_F (dru_F (dru_F (dru_F F))), dru_T (dru_T (dru_T (dru_T t))), e8, e10, e11, dru_C (by omega) (dru_C (by omega) (dru_C (by omega) (dru_C (by omega) ec))), hy, fun j hj => ?_⟩
  have hj : j < Y.1 + 1 := hj
  have pj : ¬ j = 0 → ¬ j - 1 = Y.1 := fun z w => by omega
  unfold gY_add
  dsimp only
  by_cases w : j = Y.1
  · subst w
    rw [if_pos rfl, show 36830 + 4 * Y.1 = 36829 + 4 * Y.1 + 1 by omega, show 36831 + 4 * Y.1 = 36829 + 4 * Y.1 + 2 by omega, show 36832 + 4 * Y.1 = 36829 + 4 * Y.1 + 3 by omega, dru_n (by omega), dru_n (by omega), dru_n (by omega), dru_s, dru_n (by omega), dru_n (by omega), dru_s, dru_n (by omega), dru_s, dru_s]
    refine ⟨rfl, rfl, ?_, rfl⟩
    unfold gEq at hE
    by_cases z : Y.1 = 0
    · rw [if_pos z]; rw [if_pos z] at hE; exact hE
    · rw [if_neg z, if_neg (pj z)]; rw [if_neg z] at hE; exact hE
  · have old := ey.2 j (by omega)
    rw [if_neg w, dru_n (by omega), dru_n (by omega), dru_n (by omega), dru_n (by omega), dru_n (by omega), dru_n (by omega), dru_n (by omega), dru_n (by omega), dru_n (by omega), dru_n (by omega), dru_n (by omega), dru_n (by omega), dru_n (by omega), dru_n (by omega), dru_n (by omega), dru_n (by omega)]
    refine ⟨old.1, old.2.1, ?_, old.2.2.2⟩
    by_cases z : j = 0
    · rw [if_pos z]; rw [if_pos z] at old; exact old.2.2.1
    · rw [if_neg z, if_neg (pj z)]; rw [if_neg z] at old; exact old.2.2.1
end
