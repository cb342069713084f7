/-! ===== LASTS: the reference ===== -/
theorem m_rok01 : m_rok .boolean 0 = true ∧ m_rok .boolean 1 = true := by decide +kernel
section
variable {s0 : tz_S} {th : Int32} {W : m_W} {h : m_H}
theorem rz_ch (R : rz_N s0 th W h) {i c : Nat} (hi : i < 8) (hc : c < 4) {j : Int32} (hj : j = nI (4249 + 4 * i + c)) : m_ai h 0 318 j = some (W 12 i c) := by
  refine rz_get R (k := 12) (r := i) (c := c) ?_ ⟨by decide, hi, hc⟩
  rw [hj]
  show nI (4249 + 4 * i + c) = nI (4249 + (4 * i + c))
  rw [Nat.add_assoc]
theorem rz_yr (R : rz_N s0 th W h) {r y c : Nat} (hr : r < 3) (hy : y < 5) (hc : c < 3) {j : Int32} (hj : j = nI (4281 + 15 * r + 3 * y + c)) : m_ai h 0 318 j = some (W 13 (5 * r + y) c) := by
  refine rz_get R (k := 13) (r := 5 * r + y) (c := c) ?_ ⟨by decide, show 5 * r + y < 15 by omega, hc⟩
  rw [hj]
  show nI (4281 + 15 * r + 3 * y + c) = nI (4281 + (3 * (5 * r + y) + c))
  congr 1
  omega
theorem rz_setHas (R : rz_N s0 th W h) (hcn : W 32 0 0 = nI (wz_n W 12)) (hn : wz_n W 12 ≤ 8) {b y c : Nat} {z : Int32} (hc : c < 4) (hz : z = nI c) : F12_setHas 317 (nI b) (nI y) z h = some (sp_yr W b y c) := by
  unfold F12_setHas F12_setHas_0 F12_setHas_6
  rw [rz_io R, gz_s]
  refine wh_s (fun i => (sp_yrs W b y c i, nI i)) _ (wz_n W 12) 0 m_N (N_lt (by omega)) (Nat.zero_le _) ?_ ?_
  · intro i _ hi
    have e : sp_yrs W b y c (i + 1) = sp_yr1 W b y c i (sp_yrs W b y c i) := rfl
    rw [e]
    generalize sp_yrs W b y c i = a
    have g1 := rz_ch R (i := i) (c := 1) (j := 4249 + 4 * nI i + 1) (by omega) (by decide) (by show nI 4249 + nI 4 * nI i + nI 1 = _; rw [nI_mul, nI_add, nI_add])
    have g2 := rz_ch R (i := i) (c := c) (j := 4249 + 4 * nI i + z) (by omega) hc (by show nI 4249 + nI 4 * nI i + z = _; rw [hz, nI_mul, nI_add, nI_add])
    unfold F12_setHas_6b sp_yr1
    dsimp only
    rw [rz_gr1 R, bz_s, rz_c12 R, bz_s, hcn, iz_f (nI_ge hi (by omega)), nI_succ]
    by_cases q : ((nI b >>> (nI i &&& 31)) &&& 1) = 1
    · rw [iz_t q, bz_s, g1, bz_s]
      by_cases q2 : nI y < W 12 i 1
      · rw [iz_t q2, if_neg (fun x => x.2 q2), Int32.add_zero]
      · rw [iz_f q2, if_pos ⟨q, q2⟩, bz_s, g2, bz_s]
    · rw [iz_f q, if_neg (fun x => q x.1), Int32.add_zero]
  · unfold F12_setHas_6b
    dsimp only
    rw [rz_gr1 R, bz_s, rz_c12 R, bz_s, hcn, iz_t (nI_le (Nat.le_refl _) (by omega))]
    rfl
theorem rz_costOf (R : rz_N s0 th W h) (hcn : W 32 0 0 = nI (wz_n W 12)) (hn : wz_n W 12 ≤ 8) {b : Nat} : F12_costOf 317 (nI b) h = some (sp_co W b) := by
  unfold F12_costOf F12_costOf_0 F12_costOf_4
  rw [rz_io R, gz_s]
  refine wh_s (fun y => (sp_it (fun y a => a + sp_yr W b y 0) y 0, nI y)) _ 5 0 m_N (N_lt (by omega)) (Nat.zero_le _) ?_ ?_
  · intro y _ hy
    unfold F12_costOf_4b
    dsimp only
    rw [iz_f (show ¬ (5 : Int32) ≤ nI y from nI_ge (b := 5) hy (by decide)), rz_setHas R hcn hn (b := b) (y := y) (z := 0) (c := 0) (by decide) rfl, bz_s, nI_succ, sp_it_s]
  · unfold F12_costOf_4b
    dsimp only
    rw [iz_t (show (5 : Int32) ≤ nI 5 by decide)]
    rfl
theorem rz_lasting1 (R : rz_N s0 th W h) (hcn : W 32 0 0 = nI (wz_n W 12)) (hn : wz_n W 12 ≤ 8) {b y : Nat} (hy : y < 5) {a : Int32} : F12_lasting_12 317 (nI b) a (nI y) 0 h = some (.inl (sp_it (fun r a => if a = 0 then 0 else if sp_lk W b y r then 1 else 0) 3 a, nI y + 1)) := by
  unfold F12_lasting_12
  refine wh_s (fun r => (sp_it (fun r a => if a = 0 then 0 else if sp_lk W b y r then 1 else 0) r a, nI r)) _ 3 0 m_N (N_lt (by omega)) (Nat.zero_le _) ?_ ?_
  · intro r _ hr
    rw [sp_it_s]
    generalize sp_it (fun r a => if a = 0 then 0 else if sp_lk W b y r then (1 : Int32) else 0) r a = f
    have e0 : 4281 + 15 * nI r + 3 * nI y = nI (4281 + 15 * r + 3 * y) := by
      show nI 4281 + nI 15 * nI r + nI 3 * nI y = _
      rw [nI_mul, nI_mul, nI_add, nI_add]
    have g0 := rz_yr R (r := r) (y := y) (c := 0) (j := 4281 + 15 * nI r + 3 * nI y) hr hy (by decide) (by rw [e0]; rfl)
    have g1 := rz_yr R (r := r) (y := y) (c := 1) (j := 4281 + 15 * nI r + 3 * nI y + 1) hr hy (by decide) (by rw [e0]; exact nI_1 _)
    have g2 := rz_yr R (r := r) (y := y) (c := 2) (j := 4281 + 15 * nI r + 3 * nI y + 2) hr hy (by decide) (by rw [e0]; exact nI_add _ 2)
    unfold F12_lasting_12b
    dsimp only
    rw [iz_f (show ¬ (3 : Int32) ≤ nI r from nI_ge (b := 3) hr (by decide)), nI_succ]
    by_cases q : f = 0
    · rw [iz_t q, if_pos q]
    · rw [iz_f q, if_neg q, rz_setHas R hcn hn (b := b) (y := y) (z := 0) (c := 0) (by decide) rfl, bz_s, rz_gr1 R, bz_s, g0, bz_s]
      by_cases q1 : W 13 (5 * r + y) 0 < sp_yr W b y 0
      · rw [iz_t q1, if_neg (fun z => z.1 q1)]
      · rw [iz_f q1, rz_setHas R hcn hn (b := b) (y := y) (z := 2) (c := 2) (by decide) rfl, bz_s, bz_s, g1, bz_s]
        by_cases q2 : sp_yr W b y 2 < W 13 (5 * r + y) 1
        · rw [iz_t q2, if_neg (fun z => z.2.1 q2)]
        · rw [iz_f q2, rz_setHas R hcn hn (b := b) (y := y) (z := 3) (c := 3) (by decide) rfl, bz_s, bz_s, g2, bz_s]
          by_cases q3 : sp_yr W b y 3 < W 13 (5 * r + y) 2
          · rw [iz_t q3, if_neg (fun z => z.2.2 q3)]
          · rw [iz_f q3, if_pos ⟨q1, q2, q3⟩]
  · unfold F12_lasting_12b
    dsimp only
    rw [iz_t (show (3 : Int32) ≤ nI 3 by decide)]
theorem rz_lasting (R : rz_N s0 th W h) (hcn : W 32 0 0 = nI (wz_n W 12)) (hn : wz_n W 12 ≤ 8) {b : Nat} : F12_lasting 317 (nI b) h = some (sp_lkv W b) := by
  unfold F12_lasting F12_lasting_0 F12_lasting_4
  rw [rz_io R, gz_s]
  refine wh_s (fun y => (sp_it (fun y a => sp_it (fun r a => if a = 0 then 0 else if sp_lk W b y r then 1 else 0) 3 a) y 1, nI y)) _ 5 0 m_N (N_lt (by omega)) (Nat.zero_le _) ?_ ?_
  · intro y _ hy
    unfold F12_lasting_4b
    dsimp only
    rw [iz_f (show ¬ (5 : Int32) ≤ nI y from nI_ge (b := 5) hy (by decide)), rz_lasting1 R hcn hn hy, sp_it_s (n := y), nI_succ]
  · have e : sp_it (fun y a => sp_it (fun r a => if a = 0 then 0 else if sp_lk W b y r then 1 else 0) 3 a) 5 1 = sp_lkv W b := rfl
    rw [e]
    unfold F12_lasting_4b
    dsimp only
    rw [iz_t (show (5 : Int32) ≤ nI 5 by decide)]
    rcases sp_lkv_e (W := W) (b := b) with ⟨e, -⟩ | ⟨e, -⟩
    · rw [e, m_rok01.2, gz_s]
    · rw [e, m_rok01.1, gz_s]
theorem sp_l1_ok {b : Nat} {a : Int32 × Int32} (hb : b < 512) (ha : a.1 = -1 ∨ ∃ b0, b0 < 512 ∧ a.1 = nI b0 ∧ a.2 = sp_co W b0) : (sp_l1 W b a).1 = -1 ∨ ∃ b0, b0 < 512 ∧ (sp_l1 W b a).1 = nI b0 ∧ (sp_l1 W b a).2 = sp_co W b0 := by
  unfold sp_l1
  split
  · exact Or.inr ⟨b, hb, rfl, rfl⟩
  · exact ha
theorem rz_last1 (R : rz_N s0 th W h) (hcn : W 32 0 0 = nI (wz_n W 12)) (hn : wz_n W 12 ≤ 8) {b : Nat} (hb : b < 2 ^ wz_n W 12) {a : Int32 × Int32} (ha : a.1 = -1 ∨ ∃ b0, b0 < 512 ∧ a.1 = nI b0 ∧ a.2 = sp_co W b0) : F12_lasts_9b 317 h (a.1, nI b) = some (.inl ((sp_l1 W b a).1, nI (b + 1))) := by
  obtain ⟨e2, l2⟩ := bt_2 (wz_n W 12) (List.mem_range.mpr (by omega))
  obtain ⟨a1, a2⟩ := a
  dsimp only at ha
  have neg : a1 = -1 ↔ a1 < 0 := i_neg (ha.imp_right (fun ⟨b0, h1, h2, _⟩ => ⟨b0, h1, h2⟩))
  unfold F12_lasts_9b sp_l1
  dsimp only
  rw [rz_gr1 R, bz_s, rz_c12 R, bz_s, hcn, e2, iz_f (nI_ge hb (by omega)), rz_lasting R hcn hn, bz_s, nI_succ]
  by_cases c : sp_lkv W b = 0
  · rw [iz_t c, if_neg (fun z => z.2 c)]
  rw [iz_f c, rz_costOf R hcn hn, bz_s]
  by_cases d : a1 < 0
  · rw [iz_t d, if_pos ⟨Or.inl (neg.mpr d), c⟩]
  have d' : ¬ a1 = -1 := fun z => d (neg.mp z)
  obtain ⟨b0, h1, h2, h3⟩ := ha.resolve_left d'
  rw [iz_f d, h2, rz_costOf R hcn hn, bz_s, ← h3]
  by_cases q1 : a2 < sp_co W b
  · have q2 : ¬ sp_co W b < a2 := fun z => Int32.lt_irrefl (Int32.lt_trans q1 z)
    have q3 : ¬ sp_co W b = a2 := fun z => by rw [z] at q1; exact Int32.lt_irrefl q1
    rw [iz_t q1, if_neg (fun z => z.1.elim (fun z => d' (h2.trans z)) (fun z => z.elim q2 (fun z => q3 z.1)))]
  rw [iz_f q1, bz_s]
  by_cases q3 : sp_co W b = a2
  · have q2 : ¬ sp_co W b < a2 := fun z => by rw [q3] at z; exact Int32.lt_irrefl z
    rw [iz_t q3, F14_e, bz_s, F14_e, bz_s]
    by_cases q4 : sp_bc (nI b) < sp_bc (nI b0)
    · rw [iz_t q4, if_pos ⟨Or.inr (Or.inr ⟨q3, q4⟩), c⟩]
    · rw [iz_f q4, if_neg (fun z => z.1.elim (fun z => d' (h2.trans z)) (fun z => z.elim q2 (fun z => q4 z.2)))]
  · have q2 : sp_co W b < a2 := Int32.not_le.mp (fun z => (Int32.lt_or_eq_of_le z).elim q1 (fun z => q3 z.symm))
    rw [iz_f q3, if_pos ⟨Or.inr (Or.inl q2), c⟩]
theorem rz_lasts (R : rz_N s0 th W h) (V : vz W) : k_ok (F12_lasts 317 h) (fun z => ∃ h1, z = (sp_lasts W, h1) ∧ rz_N s0 0 W h1) := by
  have hcn := V.cap (k := 12) (by omega)
  have hn : wz_n W 12 ≤ 8 := hcn.2
  have hc : W 32 0 0 = nI (wz_n W 12) := hcn.1
  obtain ⟨e2, l2⟩ := bt_2 (wz_n W 12) (List.mem_range.mpr (by omega))
  unfold F12_lasts F12_lasts_0
  refine k_g (rz_io R) (k_b (rz_th R) ?_)
  intro h1 R1
  unfold F12_lasts_9
  refine wh_i (n := 2 ^ wz_n W 12) (fun (b : Nat) (z : Int32 × Int32) => z = ((sp_ls1 W b).1, nI b) ∧ ((sp_ls1 W b).1 = -1 ∨ ∃ b0, b0 < 512 ∧ (sp_ls1 W b).1 = nI b0 ∧ (sp_ls1 W b).2 = sp_co W b0)) _ ?_ ?_ m_N 0 _ (N_lt (by omega)) (Nat.zero_le _) ⟨rfl, Or.inl rfl⟩
  · rintro b _ hb ⟨rfl, ha⟩
    have e : sp_ls1 W (b + 1) = sp_l1 W b (sp_ls1 W b) := rfl
    rw [e]
    generalize sp_ls1 W b = a at ha
    rw [rz_last1 R1 hc hn hb ha]
    exact k_s ⟨rfl, sp_l1_ok (by omega) ha⟩
  · rintro _ ⟨rfl, ha⟩
    unfold F12_lasts_9b
    dsimp only
    refine k_e (rz_gr1 R1) (k_e (rz_c12 R1) ?_)
    rw [hc, e2]
    exact k_t (nI_le (Nat.le_refl _) (by omega)) (k_s ⟨h1, rfl, R1⟩)
end
