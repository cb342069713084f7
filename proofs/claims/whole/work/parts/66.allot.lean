/-! ===== allot: the class ===== -/
def sp_min (W : m_W) (x : Int32) (r : Nat) : Int32 := m_min (sp_stock W x) (W 3 r 2 - W 3 r 4)
def sp_lF (W : m_W) (r : Nat) (c : Int32) : Nat → Int32 := sp_fx W (W 3 r 0).toNatClampNeg (W 3 r 1).toNatClampNeg c 0
noncomputable def sp_al (x : Int32) (M : Nat → Int32) : Nat → Int32 → (Nat → Bool) → m_W → Int32 × m_W
  | 0, m, _, W => (m, W)
  | k + 1, m, P, W => if sp_stock W x ≤ 0 ∨ ¬ wz_n W 2 < 100 then (m, W) else match sp_nx W M P 60 with
    | none => (m, W)
    | some r => if sp_why W (sp_lF W r (sp_min W x r)) 0 = -1 then sp_al x M k m (sp_rm P r) W else sp_al x M k (m + sp_min W x r) (sp_rm P r) (sp_lend W r (sp_min W x r) (sp_owe W (sp_lF W r (sp_min W x r))))
noncomputable def sp_alA (W : m_W) (x : Int32) : Int32 × m_W := sp_al x (sp_cM W) 60 0 (sp_cP W x) W
noncomputable def sp_allot (W : m_W) (x : Int32) : (Int32 × Option m_W) ⊕ Nat :=
  if 0 ≤ x ∧ x ≤ 7 then if W 14 0 3 = 0 then (if (sp_alA W x).1 = 0 then .inl (0, none) else .inl ((sp_alA W x).1, some (sp_alA W x).2)) else .inr 3 else .inr 0
/-- those who wait, still want -/
def sp_ok (W : m_W) (x : Int32) (P : Nat → Bool) : Prop := ∀ i, P i = true → i < wz_n W 3 ∧ ¬ W 3 i 2 - W 3 i 4 ≤ 0 ∧ W 3 i 1 = x
theorem sp_rm_t {P : Nat → Bool} {r i : Nat} (h : sp_rm P r i = true) : P i = true ∧ ¬ i = r := by
  unfold sp_rm at h
  by_cases q : i = r
  · rw [if_pos q] at h; cases h
  · rw [if_neg q] at h; exact ⟨h, q⟩
section
variable {W : m_W}
/-- what one lending does to the count -/
theorem sp_step (V : vz W) {x : Int32} {P : Nat → Bool} {r : Nat} {owe : Int32} (O : sp_ok W x P) (hr : P r = true) (hs : ¬ sp_stock W x ≤ 0) (hn : wz_n W 2 < 100) :
    1 ≤ (sp_min W x r).toInt ∧ (sp_min W x r).toInt ≤ (sp_stock W x).toInt ∧ vz (sp_lend W r (sp_min W x r) owe) ∧ (sp_stock (sp_lend W r (sp_min W x r) owe) x).toInt = (sp_stock W x).toInt - (sp_min W x r).toInt ∧ sp_ok (sp_lend W r (sp_min W x r) owe) x (sp_rm P r) := by
  obtain ⟨o1, o2, o3⟩ := O r hr
  have s1 : 1 ≤ (sp_stock W x).toInt := by
    have : ¬ (sp_stock W x).toInt ≤ 0 := fun y => hs (Int32.le_iff_toInt_le.mpr y)
    omega
  have s2 : 1 ≤ (W 3 r 2 - W 3 r 4).toInt := by
    have : ¬ (W 3 r 2 - W 3 r 4).toInt ≤ 0 := fun y => o2 (Int32.le_iff_toInt_le.mpr y)
    omega
  have m3 : 1 ≤ (sp_min W x r).toInt ∧ (sp_min W x r).toInt ≤ (sp_stock W x).toInt ∧ (sp_min W x r).toInt ≤ (W 3 r 2 - W 3 r 4).toInt := by
    unfold sp_min m_min
    split
    · next h => exact ⟨s2, Int.le_of_lt (Int32.lt_iff_toInt_lt.mp h), Int.le_refl _⟩
    · next h => exact ⟨s1, Int.le_refl _, Int32.le_iff_toInt_le.mp (Int32.not_lt.mp h)⟩
  obtain ⟨c, hc⟩ : ∃ c, sp_min W x r = c := ⟨_, rfl⟩
  rw [hc] at m3 ⊢
  obtain ⟨m1, m2, m3⟩ := m3
  have V' : vz (sp_lend W r c owe) := vz_lend V o1 (Int32.le_iff_toInt_le.mpr m1) (Int32.le_iff_toInt_le.mpr m3) hn
  refine ⟨m1, m2, V', ?_, ?_⟩
  · obtain ⟨a1, a2, a3⟩ := sp_stock_i V (t := x)
    obtain ⟨b1, b2, b3⟩ := sp_stock_i V' (t := x)
    have S := (sp_tk_sum V (t := x) (c := c) (Int32.le_iff_toInt_le.mpr (show (0 : Int) ≤ c.toInt by omega)) (wz_n W 2) (Nat.le_refl _)).2.2
    rw [if_pos (by omega)] at S
    rw [b1, a1, sp_lend_w2 hn]
    have e : sp_ss (sp_lend W r c owe) x (wz_n W 2 + 1) = sp_ss (sp_lend W r c owe) x (wz_n W 2) + sp_sv (sp_lend W r c owe) x (wz_n W 2) := rfl
    have nz : ¬ W 3 r 0 = 0 := by
      obtain ⟨l, t, el, hl1, hl, -⟩ := V.ask o1
      intro y
      rw [el] at y
      have := nI_e (m := 0) (by omega) (by decide) y
      omega
    have z : sp_sv (sp_lend W r c owe) x (wz_n W 2) = 0 := by
      unfold sp_sv
      rw [if_neg (fun y => nz ((show sp_lend W r c owe 2 (wz_n W 2) 2 = W 3 r 0 from @sp_lend_n W r c owe 2).symm.trans y.1))]
    rw [e, z, sp_ss_cong (W := (sp_tk W x c (wz_n W 2)).2) (wz_n W 2) (fun i hi => ?_), S, Int.add_zero]
    unfold sp_sv
    rw [sp_lend_2 (by omega), sp_lend_2 (by omega), sp_lend_2 (by omega)]
    unfold sp_take
    rw [o3]
  · intro i hi
    obtain ⟨h1, h2⟩ := sp_rm_t hi
    obtain ⟨p1, p2, p3⟩ := O i h1
    refine ⟨by rw [sp_lend_wn (by decide)]; exact p1, ?_, ?_⟩
    · rw [sp_lend_3, sp_lend_3, if_neg (fun y => h2 y.1), if_neg (fun y => h2 y.1)]
      exact p2
    · rw [sp_lend_3, if_neg (fun y => h2 y.1)]
      exact p3
end
section
variable {s0 s1 : tz_S} {th : Int32} {W W1 : m_W} {h : m_H}
def cz_aD (s0 : tz_S) (W : m_W) (m : Int32) (W1 : m_W) (s1 : tz_S) : Prop := (m = 0 ∧ W1 = W ∧ tz_fc s0 s1) ∨ (¬ m = 0 ∧ tz_fo s0 s1 ∧ tz_HR s1 253 W ∧ s1.1 200 9 = 1)
theorem cz_aD.ui {m : Int32} {f : Nat → Int32} (D : cz_aD s0 W m W1 s1) : cz_aD s0 W m W1 (tz_ui s1 213 f) := by
  rcases D with ⟨a, b, c⟩ | ⟨a, b, c, d⟩
  · exact Or.inl ⟨a, b, c.ui (Or.inr rfl)⟩
  · refine Or.inr ⟨a, ⟨b.1, b.2.1, fun x q => (tz_ui_n (s := s1) (by omega)).trans (b.2.2.1 x q), b.2.2.2.1, b.2.2.2.2⟩, ?_, d⟩
    exact c.cong (fun _ _ _ _ => rfl) (fun x q1 q2 => tz_ui_n (by omega)) rfl rfl
theorem tz_fd.fo {s0 s1 s2 : tz_S} (a : tz_fc s0 s1) (b : tz_fd s1 s2) : tz_fo s0 s2 := by
  obtain ⟨b1, b2, b3, b4, b5⟩ := b
  obtain ⟨a1, a2, a3⟩ := a
  refine ⟨fun x k q1 q2 => (b1 x k q1 q2).trans (by rw [a1]), b2.trans (by rw [a1]), fun x q => (b3 x (by omega)).trans (a2 x (by omega)), fun x q => ?_, b5.trans (by rw [a3])⟩
  have := b4 x q
  rw [a3] at this
  exact this
def cz_aI (s0 : tz_S) (W : m_W) (x : Int32) (i : Nat) (z : Int32 × Int32 × Int32 × m_H) : Prop := ∃ P W1 s1, z.2.2.1 = nI i ∧ z.1 = sp_stock W1 x ∧ sp_al x (sp_cM W) (60 - i) z.2.1 P W1 = sp_alA W x ∧ vz W1 ∧ sp_ok W1 x P ∧ 0 ≤ z.2.1.toInt ∧ z.2.1.toInt + (sp_stock W1 x).toInt ≤ 100000 ∧ cz_aD s0 W z.2.1 W1 s1 ∧ cz_W s1 P (sp_cM W) ∧ cz_N s1 W1 z.2.2.2
def cz_aQ (s0 : tz_S) (W : m_W) (x : Int32) (z : (Int32 ⊕ Nat) × m_H) : Prop := fz_D s0 W (if (sp_alA W x).1 = 0 then .inl (0, none) else .inl ((sp_alA W x).1, some (sp_alA W x).2)) z
theorem cz_aQ.of {x m : Int32} (e : (m, W1) = sp_alA W x) (D : cz_aD s0 W m W1 s1) (R : cz_N s1 W1 h) : cz_aQ s0 W x (.inl m, h) := by
  unfold cz_aQ
  rw [← e]
  dsimp only
  rcases D with ⟨a, b, c⟩ | ⟨a, b, c, d⟩
  · subst b
    rw [if_pos a, a]
    exact ⟨h, rfl, s1, c, R⟩
  · rw [if_neg a]
    exact ⟨h, rfl, s1, b, c, d, R⟩
theorem cz_alend (R : cz_N s1 W1 h) {w : Option Nat} {F : Nat → Int32} (K : cz_K s1 W1 F w h) (L : cz_L s1 W1 w) (V : vz W1) {r i : Nat} {rest m c : Int32} (hr : r < wz_n W1 3) (hn : wz_n W1 2 < 100) : k_ok (F11_allot_130 200 rest m (nI i) (nI r) c h) (fun z => ∃ h1, z = .inl (rest - c, m + c, nI (i + 1), h1) ∧ cz_N s1 (sp_lend W1 r c (sp_owe W1 F)) h1) := by
  unfold F11_allot_130
  refine k_e (nz_gr200_4 R) (k_e (nz_gr200_2 R) (k_b (cz_owe K L V) ?_))
  rintro _ ⟨h1, rfl, K1⟩
  refine k_b (cz_lend K1.N (fun c hc => V.z (k := 2) (by decide) (Nat.le_refl _) hn hc) hr hn) ?_
  intro h2 R2
  refine k_s ⟨h2, ?_, R2⟩
  rw [nI_succ]
end
