/-! ===== sort, price, cost, works, way, risk, need, tons ===== -/
def sp_sort (W : m_W) (a b c d e : Int32) : (Int64 × m_W) ⊕ Nat :=
  if 0 ≤ a ∧ a ≤ 7 then if 1 ≤ b ∧ b ≤ 20 then if 0 ≤ c ∧ c ≤ 50 then if 0 ≤ d ∧ d ≤ 50 then if 1 ≤ e ∧ e ≤ 9 then
    .inl (0, wz_up (wz_up (wz_up (wz_up W 0 a.toNatClampNeg 0 b) 0 a.toNatClampNeg 1 c) 0 a.toNatClampNeg 2 d) 0 a.toNatClampNeg 3 e)
  else .inr 1 else .inr 1 else .inr 1 else .inr 1 else .inr 0
def sp_price (W : m_W) (a b n : Int32) : (Int64 × m_W) ⊕ Nat :=
  if 0 ≤ a ∧ a ≤ 7 then if W 14 0 0 ≤ b ∧ b ≤ 500 then if 0 ≤ n ∧ n ≤ 1000 then .inl ((sp_tells W 1 a b n).1.toInt64, (sp_tells W 1 a b n).2) else .inr 1 else .inr 1 else .inr 0
def sp_cost (W : m_W) (a b : Int32) : (Int64 × m_W) ⊕ Nat := if 0 ≤ a ∧ a ≤ 7 then .inl ((sp_told W 1 a b).toInt64, W) else .inr 0
def sp_works (W : m_W) (a b : Int32) : (Int64 × m_W) ⊕ Nat :=
  if 0 ≤ a ∧ a ≤ 1000000 - W 14 0 1 then if 0 ≤ b ∧ b ≤ 1000000 then .inl ((W 14 0 1 + a).toInt64, wz_up (wz_up W 14 0 1 (W 14 0 1 + a)) 14 0 2 b) else .inr 1 else .inr 1
def sp_way (W : m_W) (a b : Int32) : (Int64 × m_W) ⊕ Nat :=
  if 0 ≤ a ∧ a ≤ 5 then if ¬ a = 0 then if 1 ≤ b ∧ b ≤ 6 then .inl (0, wz_up W 5 a.toNatClampNeg 2 b) else .inr 1 else .inr 1 else .inr 0
def sp_risk (W : m_W) (a b n : Int32) : (Int64 × m_W) ⊕ Nat :=
  if 0 ≤ a ∧ a ≤ 5 then if ¬ a = 0 then if W 14 0 0 ≤ b ∧ b ≤ 500 then if 0 ≤ n ∧ n ≤ 100 then .inl ((sp_tells W 7 a b n).1.toInt64, (sp_tells W 7 a b n).2) else .inr 1 else .inr 1 else .inr 1 else .inr 0
def sp_need (W : m_W) (a b n : Int32) : (Int64 × m_W) ⊕ Nat :=
  if 0 ≤ a ∧ a ≤ 5 then if 0 ≤ b ∧ b ≤ 7 then if ¬ a = 0 then if 0 ≤ n ∧ n ≤ 1000 then .inl (0, wz_up W 6 (8 * a.toNatClampNeg + b.toNatClampNeg) 0 n) else .inr 1 else .inr 1 else .inr 0 else .inr 0
def sp_tons (W : m_W) (a n : Int32) : (Int64 × m_W) ⊕ Nat :=
  if 0 ≤ a ∧ a ≤ 5 then if ¬ a = 0 then if 0 ≤ n ∧ n ≤ 100000 then .inl (0, wz_up W 5 a.toNatClampNeg 3 n) else .inr 1 else .inr 1 else .inr 0
section
variable {s0 : tz_S} {th : Int32} {W : m_W} {h : m_H}
theorem cz_sort (R : cz_N s0 W h) (V : vz W) {a b c d e : Int32} : k_ok (F11_sort 200 a b c d e h) (fz_V s0 W (sp_sort W a b c d e)) := by
  unfold F11_sort F11_sort_0 sp_sort
  refine k_g (nz_io200 R) ?_
  refine k_ts (fun c1 => ?_) (fun c1 => k_s (by rw [if_neg c1]; exact ⟨_, rfl, R⟩))
  refine k_o (fun c2 => ?_) (fun c2 => k_s (by rw [if_pos c1, if_neg c2]; exact ⟨_, rfl, R⟩))
  refine k_o (fun c3 => ?_) (fun c3 => k_s (by rw [if_pos c1, if_pos c2, if_neg c3]; exact ⟨_, rfl, R⟩))
  refine k_o (fun c4 => ?_) (fun c4 => k_s (by rw [if_pos c1, if_pos c2, if_pos c3, if_neg c4]; exact ⟨_, rfl, R⟩))
  refine k_o (fun c5 => ?_) (fun c5 => k_s (by rw [if_pos c1, if_pos c2, if_pos c3, if_pos c4, if_neg c5]; exact ⟨_, rfl, R⟩))
  rw [if_pos c1, if_pos c2, if_pos c3, if_pos c4, if_pos c5]
  obtain ⟨r, hr, rfl⟩ := i_row (n := 7) rfl c1
  have hn := V.n0
  rw [nI_clamp (by omega)]
  refine k_e (nz_gr200_4 R) ?_
  refine k_e (nz_gr223_6 R) ?_
  refine k_b (cz_s0_0 R rfl (show r < _ by omega)) ?_
  intro h1 R1
  refine k_e (nz_gr200_4 R1) ?_
  refine k_e (nz_gr223_6 R1) ?_
  refine k_b (cz_s0_1 R1 rfl (show r < _ by rw [wz_n_up (by omega)]; omega)) ?_
  intro h2 R2
  refine k_e (nz_gr200_4 R2) ?_
  refine k_e (nz_gr223_6 R2) ?_
  refine k_b (cz_s0_2 R2 rfl (show r < _ by rw [wz_n_up (by omega), wz_n_up (by omega)]; omega)) ?_
  intro h3 R3
  refine k_e (nz_gr200_4 R3) ?_
  refine k_e (nz_gr223_6 R3) ?_
  refine k_b (cz_s0_3 R3 rfl (show r < _ by rw [wz_n_up (by omega), wz_n_up (by omega), wz_n_up (by omega)]; omega)) ?_
  intro h4 R4
  exact k_s ⟨h4, rfl, R4⟩
theorem rz_sort (R : rz_N s0 th W h) {a b c d e : Int32} : k_ok (F12_sort 317 a b c d e h) (hz_V s0 e01 W (sp_sort W a b c d e)) := by
  unfold F12_sort F12_sort_0 sp_sort
  refine k_g (rz_io R) ?_
  refine k_b (rz_th R) ?_
  intro h1 R1
  refine k_e k_ns (k_ww R1 (0 ≤ a ∧ a ≤ 7) rfl (fun c1 => ?_) (fun c1 h2 R2 => k_s (by rw [if_neg c1]; exact R2)))
  refine k_i (fun c2 => ?_) (fun c2 => (by unfold F12_sort_60 F12_sort_65; exact k_thr R1 (fun h2 R2 => k_s (by rw [if_pos c1, if_neg c2]; exact R2))))
  refine k_i (fun c3 => ?_) (fun c3 => (by unfold F12_sort_60 F12_sort_65; exact k_thr R1 (fun h2 R2 => k_s (by rw [if_pos c1, if_pos c2, if_neg c3]; exact R2))))
  refine k_i (fun c4 => ?_) (fun c4 => (by unfold F12_sort_60 F12_sort_65; exact k_thr R1 (fun h2 R2 => k_s (by rw [if_pos c1, if_pos c2, if_pos c3, if_neg c4]; exact R2))))
  refine k_i (fun c5 => ?_) (fun c5 => (by unfold F12_sort_60 F12_sort_65; exact k_thr R1 (fun h2 R2 => k_s (by rw [if_pos c1, if_pos c2, if_pos c3, if_pos c4, if_neg c5]; exact R2))))
  rw [if_pos c1, if_pos c2, if_pos c3, if_pos c4, if_pos c5]
  unfold F12_sort_65
  refine k_thr0 R1 ?_
  obtain ⟨r, hr, rfl⟩ := i_row (n := 7) rfl c1
  rw [nI_clamp (by omega)]
  have hi : ∀ c, 5 + 4 * nI r + nI c = nI (wz_ix 0 r c) := ix0 r
  refine k_e (rz_gr1 R1) ?_
  refine k_b (rz_set R1 (k := 0) (r := r) (c := 0) (by rw [← hi]; exact (Int32.add_zero _).symm) ⟨by decide, show r < 8 by omega, by decide⟩) ?_
  intro h2 R2
  refine k_e (rz_gr1 R2) ?_
  refine k_b (rz_set R2 (k := 0) (r := r) (c := 1) (hi 1) ⟨by decide, show r < 8 by omega, by decide⟩) ?_
  intro h3 R3
  refine k_e (rz_gr1 R3) ?_
  refine k_b (rz_set R3 (k := 0) (r := r) (c := 2) (hi 2) ⟨by decide, show r < 8 by omega, by decide⟩) ?_
  intro h4 R4
  refine k_e (rz_gr1 R4) ?_
  refine k_b (rz_set R4 (k := 0) (r := r) (c := 3) (hi 3) ⟨by decide, show r < 8 by omega, by decide⟩) ?_
  intro h5 R5
  exact k_s R5
theorem cz_price (R : cz_N s0 W h) (V : vz W) {a b n : Int32} : k_ok (F11_price 200 a b n h) (fz_I s0 W (sp_price W a b n)) := by
  unfold F11_price F11_price_0 sp_price
  refine k_g (nz_io200 R) ?_
  refine k_ts (fun c1 => ?_) (fun c1 => k_s (by rw [if_neg c1]; exact ⟨_, rfl, R⟩))
  refine k_e (nz_gr200_4 R) ?_
  refine k_e (cz_i0 R) ?_
  refine k_o (fun c2 => ?_) (fun c2 => k_s (by rw [if_pos c1, if_neg c2]; exact ⟨_, rfl, R⟩))
  refine k_o (fun c3 => ?_) (fun c3 => k_s (by rw [if_pos c1, if_pos c2, if_neg c3]; exact ⟨_, rfl, R⟩))
  rw [if_pos c1, if_pos c2, if_pos c3]
  refine k_e (nz_gr200_4 R) ?_
  refine k_e (nz_gr223_7 R) ?_
  refine k_b (cz_tell R (Or.inl rfl) rfl (fun q c hc => V.z (k := 1) (by omega) (Nat.le_refl _) q hc)) ?_
  rintro _ ⟨h1, rfl, R1⟩
  exact k_s ⟨_, h1, rfl, rfl, R1⟩
theorem rz_price (R : rz_N s0 th W h) (V : vz W) {a b n : Int32} : k_ok (F12_price 317 a b n h) (hz_I s0 e01 W (sp_price W a b n)) := by
  unfold F12_price F12_price_0 sp_price
  refine k_g (rz_io R) ?_
  refine k_b (rz_th R) ?_
  intro h1 R1
  refine k_e k_ns (k_ww R1 (0 ≤ a ∧ a ≤ 7) rfl (fun c1 => ?_) (fun c1 h2 R2 => k_s (by rw [if_neg c1]; exact R2)))
  refine k_e (k_wk R1) ?_
  refine k_i (fun c2 => ?_) (fun c2 => (by unfold F12_price_43 F12_price_48; exact k_thr R1 (fun h2 R2 => k_s (by rw [if_pos c1, if_neg c2]; exact R2))))
  refine k_i (fun c3 => ?_) (fun c3 => (by unfold F12_price_43 F12_price_48; exact k_thr R1 (fun h2 R2 => k_s (by rw [if_pos c1, if_pos c2, if_neg c3]; exact R2))))
  rw [if_pos c1, if_pos c2, if_pos c3]
  unfold F12_price_48
  refine k_thr0 R1 ?_
  refine k_b (rz_tells R1 (Or.inl ⟨rfl, rfl⟩) (V.cap (by omega)).1 (V.c (by omega))) ?_
  rintro _ ⟨h2, rfl, R2⟩
  exact k_s ⟨rfl, R2⟩
theorem cz_cost (R : cz_N s0 W h) {a b : Int32} : k_ok (F11_cost 200 a b h) (fz_I s0 W (sp_cost W a b)) := by
  unfold F11_cost F11_cost_0 sp_cost
  refine k_g (nz_io200 R) ?_
  refine k_ts (fun c1 => ?_) (fun c1 => k_s (by rw [if_neg c1]; exact ⟨_, rfl, R⟩))
  rw [if_pos c1]
  refine k_e (nz_gr200_4 R) ?_
  unfold F3_priceIn F3_priceIn_0
  refine k_e (x := sp_told W 1 a b) ?_ (k_s ⟨_, h, rfl, rfl, R⟩)
  rw [nz_io223 R, gz_s, nz_gr223_7 R, bz_s, cz_told R (Or.inl rfl) rfl, bz_s]
theorem cz_priceIn (R : cz_N s0 W h) {a b : Int32} : F3_priceIn 223 a b h = some (sp_told W 1 a b) := by
  unfold F3_priceIn F3_priceIn_0
  rw [nz_io223 R, gz_s, nz_gr223_7 R, bz_s, cz_told R (Or.inl rfl) rfl, bz_s]
theorem cz_riskIn (R : cz_N s0 W h) {a b : Int32} : F3_riskIn 223 a b h = some (sp_told W 7 a b) := by
  unfold F3_riskIn F3_riskIn_0
  rw [nz_io223 R, gz_s, nz_gr223_13 R, bz_s, cz_told R (Or.inr rfl) rfl, bz_s]
theorem i_m1 {x : Int32} (h : 0 ≤ x) : ¬ x < -1 := by
  rw [Int32.not_lt]
  exact Int32.le_trans (by decide) h
theorem rz_toldP (R : rz_N s0 th W h) (V : vz W) {a b : Int32} : F12_toldOf 317 205 a b h = some (sp_told W 1 a b) :=
  rz_told R (Or.inl ⟨rfl, rfl⟩) (V.cap (by omega)).1 (V.c (by omega)) (fun r hr => i_m1 (V.row (k := 1) (by omega) hr).1)
theorem rz_toldR (R : rz_N s0 th W h) (V : vz W) {a b : Int32} : F12_toldOf 317 506 a b h = some (sp_told W 7 a b) :=
  rz_told R (Or.inr ⟨rfl, rfl⟩) (V.cap (by omega)).1 (V.c (by omega)) (fun r hr => i_m1 (V.row (k := 7) (by omega) hr).1)
theorem rz_priceOf (R : rz_N s0 th W h) (V : vz W) {a b : Int32} : F12_priceOf 317 a b h = some (sp_told W 1 a b) := by
  unfold F12_priceOf F12_priceOf_0
  rw [rz_io R, gz_s, rz_toldP R V, bz_s]
theorem rz_cost (R : rz_N s0 th W h) (V : vz W) {a b : Int32} : k_ok (F12_cost 317 a b h) (hz_I s0 e0 W (sp_cost W a b)) := by
  unfold F12_cost F12_cost_0 sp_cost
  refine k_g (rz_io R) ?_
  refine k_b (rz_th R) ?_
  intro h1 R1
  refine k_e k_ns (k_ww R1 (0 ≤ a ∧ a ≤ 7) rfl (fun c1 => ?_) (fun c1 h2 R2 => k_s (by rw [if_neg c1]; exact R2)))
  rw [if_pos c1]
  exact k_e (rz_priceOf R1 V) (k_s ⟨rfl, R1⟩)
theorem cz_works (R : cz_N s0 W h) {a b : Int32} : k_ok (F11_works 200 a b h) (fz_I s0 W (sp_works W a b)) := by
  unfold F11_works F11_works_0 sp_works
  refine k_g (nz_io200 R) ?_
  refine k_e (nz_gr200_4 R) ?_
  refine k_e (cz_i1 R) ?_
  refine k_o (fun c1 => ?_) (fun c1 => k_s (by rw [if_neg c1]; exact ⟨_, rfl, R⟩))
  refine k_o (fun c2 => ?_) (fun c2 => k_s (by rw [if_pos c1, if_neg c2]; exact ⟨_, rfl, R⟩))
  rw [if_pos c1, if_pos c2]
  refine k_e (nz_gr200_4 R) ?_
  refine k_e (cz_i1 R) ?_
  refine k_b (cz_p1 R) ?_
  intro h1 R1
  refine k_e (nz_gr200_4 R1) ?_
  refine k_b (cz_p2 R1) ?_
  intro h2 R2
  refine k_e (nz_gr200_4 R2) ?_
  refine k_e (cz_i1 R2) ?_
  refine k_s ⟨_, h2, rfl, ?_, R2⟩
  rw [wz_up_c (by omega), wz_up_s]
theorem rz_works (R : rz_N s0 th W h) {a b : Int32} : k_ok (F12_works 317 a b h) (hz_I s0 e1 W (sp_works W a b)) := by
  unfold F12_works F12_works_0 sp_works
  refine k_g (rz_io R) ?_
  refine k_b (rz_th R) ?_
  intro h1 R1
  refine k_if (fun c => (by unfold F12_works_33 F12_works_38; exact k_thr R1 (fun h2 R2 => k_s (by rw [if_neg (fun q => absurd q.1 (Int32.not_le.mpr c))]; exact R2)))) (fun c0 => ?_)
  refine k_e (rz_gr1 R1) ?_
  refine k_e (rz_w1 R1) ?_
  refine k_if (fun c => (by unfold F12_works_33 F12_works_38; exact k_thr R1 (fun h2 R2 => k_s (by rw [if_neg (fun q => absurd q.2 (Int32.not_le.mpr c))]; exact R2)))) (fun c01 => ?_)
  have c1 : 0 ≤ a ∧ a ≤ 1000000 - W 14 0 1 := ⟨Int32.not_lt.mp c0, Int32.not_lt.mp c01⟩
  refine k_i (fun c2 => ?_) (fun c2 => (by unfold F12_works_33 F12_works_38; exact k_thr R1 (fun h2 R2 => k_s (by rw [if_pos c1, if_neg c2]; exact R2))))
  rw [if_pos c1, if_pos c2]
  unfold F12_works_38
  refine k_thr0 R1 ?_
  refine k_e (rz_gr1 R1) ?_
  refine k_e (rz_w1 R1) ?_
  refine k_b (rz_ws1 R1) ?_
  intro h2 R2
  refine k_e (rz_gr1 R2) ?_
  refine k_b (rz_ws2 R2) ?_
  intro h3 R3
  refine k_e (rz_gr1 R3) ?_
  refine k_e (rz_w1 R3) ?_
  refine k_s ⟨?_, R3⟩
  rw [wz_up_c (by omega), wz_up_s]
theorem cz_way (R : cz_N s0 W h) (V : vz W) {a b : Int32} : k_ok (F11_way 200 a b h) (fz_V s0 W (sp_way W a b)) := by
  unfold F11_way F11_way_0 sp_way
  refine k_g (nz_io200 R) ?_
  refine k_tl (fun c1 => ?_) (fun c1 => k_s (by rw [if_neg c1]; exact ⟨_, rfl, R⟩))
  refine k_ta (fun c2 => ?_) (fun c2 => k_s (by rw [if_pos c1, if_neg (fun q => q c2)]; exact ⟨_, rfl, R⟩))
  refine k_o (fun c3 => ?_) (fun c3 => k_s (by rw [if_pos c1, if_pos c2, if_neg c3]; exact ⟨_, rfl, R⟩))
  rw [if_pos c1, if_pos c2, if_pos c3]
  obtain ⟨r, hr, rfl⟩ := i_row (n := 5) rfl c1
  have hn := V.n5
  rw [nI_clamp (by omega)]
  refine k_e (nz_gr200_4 R) ?_
  refine k_e (nz_gr223_11 R) ?_
  refine k_b (cz_s5_2 R rfl (show r < _ by omega)) ?_
  intro h1 R1
  exact k_s ⟨h1, rfl, R1⟩
theorem rz_way (R : rz_N s0 th W h) {a b : Int32} : k_ok (F12_way 317 a b h) (hz_V s0 e01 W (sp_way W a b)) := by
  unfold F12_way F12_way_0 sp_way
  refine k_g (rz_io R) ?_
  refine k_b (rz_th R) ?_
  intro h1 R1
  refine k_e k_nl (k_ww R1 (0 ≤ a ∧ a ≤ 5) rfl (fun c1 => ?_) (fun c1 h2 R2 => k_s (by rw [if_neg c1]; exact R2)))
  refine k_if (fun c2 => (by unfold F12_way_32 F12_way_37; exact k_thr R1 (fun h2 R2 => k_s (by rw [if_pos c1, if_neg (fun q => q c2)]; exact R2)))) (fun c2 => ?_)
  refine k_i (fun c3 => ?_) (fun c3 => (by unfold F12_way_32 F12_way_37; exact k_thr R1 (fun h2 R2 => k_s (by rw [if_pos c1, if_pos c2, if_neg c3]; exact R2))))
  rw [if_pos c1, if_pos c2, if_pos c3]
  unfold F12_way_37
  refine k_thr0 R1 ?_
  obtain ⟨r, hr, rfl⟩ := i_row (n := 5) rfl c1
  rw [nI_clamp (by omega)]
  refine k_e (rz_gr1 R1) ?_
  unfold F12_landAt F12_landAt_0
  refine k_e rfl ?_
  refine k_b (rz_set R1 (k := 5) (r := r) (c := 2) (ix5 r 2) ⟨by decide, show r < 6 by omega, by decide⟩) ?_
  intro h2 R2
  exact k_s R2
theorem cz_risk (R : cz_N s0 W h) (V : vz W) {a b n : Int32} : k_ok (F11_risk 200 a b n h) (fz_I s0 W (sp_risk W a b n)) := by
  unfold F11_risk F11_risk_0 sp_risk
  refine k_g (nz_io200 R) ?_
  refine k_tl (fun c1 => ?_) (fun c1 => k_s (by rw [if_neg c1]; exact ⟨_, rfl, R⟩))
  refine k_ta (fun c2 => ?_) (fun c2 => k_s (by rw [if_pos c1, if_neg (fun q => q c2)]; exact ⟨_, rfl, R⟩))
  refine k_e (nz_gr200_4 R) ?_
  refine k_e (cz_i0 R) ?_
  refine k_o (fun c3 => ?_) (fun c3 => k_s (by rw [if_pos c1, if_pos c2, if_neg c3]; exact ⟨_, rfl, R⟩))
  refine k_o (fun c4 => ?_) (fun c4 => k_s (by rw [if_pos c1, if_pos c2, if_pos c3, if_neg c4]; exact ⟨_, rfl, R⟩))
  rw [if_pos c1, if_pos c2, if_pos c3, if_pos c4]
  refine k_e (nz_gr200_4 R) ?_
  refine k_e (nz_gr223_13 R) ?_
  refine k_b (cz_tell R (Or.inr rfl) rfl (fun q c hc => V.z (k := 7) (by omega) (Nat.le_refl _) q hc)) ?_
  rintro _ ⟨h1, rfl, R1⟩
  exact k_s ⟨_, h1, rfl, rfl, R1⟩
theorem rz_risk (R : rz_N s0 th W h) (V : vz W) {a b n : Int32} : k_ok (F12_risk 317 a b n h) (hz_I s0 e01 W (sp_risk W a b n)) := by
  unfold F12_risk F12_risk_0 sp_risk
  refine k_g (rz_io R) ?_
  refine k_b (rz_th R) ?_
  intro h1 R1
  refine k_e k_nl (k_ww R1 (0 ≤ a ∧ a ≤ 5) rfl (fun c1 => ?_) (fun c1 h2 R2 => k_s (by rw [if_neg c1]; exact R2)))
  refine k_if (fun c2 => (by unfold F12_risk_46 F12_risk_51; exact k_thr R1 (fun h2 R2 => k_s (by rw [if_pos c1, if_neg (fun q => q c2)]; exact R2)))) (fun c2 => ?_)
  refine k_e (k_wk R1) ?_
  refine k_i (fun c3 => ?_) (fun c3 => (by unfold F12_risk_46 F12_risk_51; exact k_thr R1 (fun h2 R2 => k_s (by rw [if_pos c1, if_pos c2, if_neg c3]; exact R2))))
  refine k_i (fun c4 => ?_) (fun c4 => (by unfold F12_risk_46 F12_risk_51; exact k_thr R1 (fun h2 R2 => k_s (by rw [if_pos c1, if_pos c2, if_pos c3, if_neg c4]; exact R2))))
  rw [if_pos c1, if_pos c2, if_pos c3, if_pos c4]
  unfold F12_risk_51
  refine k_thr0 R1 ?_
  refine k_b (rz_tells R1 (Or.inr ⟨rfl, rfl⟩) (V.cap (by omega)).1 (V.c (by omega))) ?_
  rintro _ ⟨h2, rfl, R2⟩
  exact k_s ⟨rfl, R2⟩
theorem cz_tradeRow {l t : Nat} : F3_tradeRow (nI l) (nI t) h = some (nI (8 * l + t)) := by
  unfold F3_tradeRow F3_tradeRow_0
  show some (nI l * nI 8 + nI t) = _
  rw [nI_mul, nI_add, Nat.mul_comm]
theorem cz_need (R : cz_N s0 W h) (V : vz W) {a b n : Int32} : k_ok (F11_need 200 a b n h) (fz_V s0 W (sp_need W a b n)) := by
  unfold F11_need F11_need_0 sp_need
  refine k_g (nz_io200 R) ?_
  refine k_tl (fun c1 => ?_) (fun c1 => k_s (by rw [if_neg c1]; exact ⟨_, rfl, R⟩))
  refine k_ts (fun c2 => ?_) (fun c2 => k_s (by rw [if_pos c1, if_neg c2]; exact ⟨_, rfl, R⟩))
  refine k_ta (fun c3 => ?_) (fun c3 => k_s (by rw [if_pos c1, if_pos c2, if_neg (fun q => q c3)]; exact ⟨_, rfl, R⟩))
  refine k_o (fun c4 => ?_) (fun c4 => k_s (by rw [if_pos c1, if_pos c2, if_pos c3, if_neg c4]; exact ⟨_, rfl, R⟩))
  rw [if_pos c1, if_pos c2, if_pos c3, if_pos c4]
  obtain ⟨r, hr, rfl⟩ := i_row (n := 5) rfl c1
  obtain ⟨t, ht, rfl⟩ := i_row (n := 7) rfl c2
  have hn := V.n6
  rw [nI_clamp (by omega), nI_clamp (by omega)]
  refine k_e (nz_gr200_4 R) ?_
  refine k_e (nz_gr223_12 R) ?_
  refine k_e (cz_tradeRow) ?_
  refine k_b (cz_s6_0 R rfl (show 8 * r + t < _ by omega)) ?_
  intro h1 R1
  exact k_s ⟨h1, rfl, R1⟩
theorem rz_both {l t c : Nat} (hl : l < 6) (ht : t < 8) (hc : c < 3) : F12_both (nI (61 + 48 * c)) (nI l) (nI t) h = some (nI (wz_ix 6 (8 * l + t) c)) ∧ wz_v 6 (8 * l + t) c :=
  ⟨congrArg some (ix6 l t c), by decide, show 8 * l + t < 48 by omega, hc⟩
theorem rz_need (R : rz_N s0 th W h) {a b n : Int32} : k_ok (F12_need 317 a b n h) (hz_V s0 e01 W (sp_need W a b n)) := by
  unfold F12_need F12_need_0 sp_need
  refine k_g (rz_io R) ?_
  refine k_b (rz_th R) ?_
  intro h1 R1
  refine k_e k_nl ?_
  by_cases c1 : 0 ≤ a ∧ a ≤ 5
  · rw [if_pos c1]
    refine k_t rfl (k_e k_ns ?_)
    by_cases c2 : 0 ≤ b ∧ b ≤ 7
    · rw [if_pos c2]
      refine k_t rfl ?_
      unfold F12_need_25
      refine k_thr0 R1 ?_
      refine k_if (fun c3 => (by unfold F12_need_48 F12_need_53; exact k_thr R1 (fun h2 R2 => k_s (by rw [if_pos c1, if_pos c2, if_neg (fun q => q c3)]; exact R2)))) (fun c3 => ?_)
      refine k_i (fun c4 => ?_) (fun c4 => (by unfold F12_need_48 F12_need_53; exact k_thr R1 (fun h2 R2 => k_s (by rw [if_pos c1, if_pos c2, if_pos c3, if_neg c4]; exact R2))))
      rw [if_pos c1, if_pos c2, if_pos c3, if_pos c4]
      unfold F12_need_53
      refine k_thr0 R1 ?_
      obtain ⟨r, hr, rfl⟩ := i_row (n := 5) rfl c1
      obtain ⟨t, ht, rfl⟩ := i_row (n := 7) rfl c2
      rw [nI_clamp (by omega), nI_clamp (by omega)]
      have hb := rz_both (h := h1) (l := r) (t := t) (c := 0) (by omega) (by omega) (by omega)
      refine k_e (rz_gr1 R1) (k_e hb.1 ?_)
      refine k_b (rz_set R1 (k := 6) rfl hb.2) ?_
      intro h2 R2
      exact k_s R2
    · rw [if_neg c2]
      refine k_f (by decide) ?_
      unfold F12_need_20 F12_need_25
      exact k_thr R1 (fun h2 R2 => k_s (by rw [if_pos c1, if_neg c2]; exact R2))
  · rw [if_neg c1]
    refine k_f (by decide) ?_
    unfold F12_need_20 F12_need_25
    exact k_thr R1 (fun h2 R2 => k_s (by rw [if_neg c1]; exact R2))
theorem cz_tons (R : cz_N s0 W h) (V : vz W) {a n : Int32} : k_ok (F11_tons 200 a n h) (fz_V s0 W (sp_tons W a n)) := by
  unfold F11_tons F11_tons_0 sp_tons
  refine k_g (nz_io200 R) ?_
  refine k_tl (fun c1 => ?_) (fun c1 => k_s (by rw [if_neg c1]; exact ⟨_, rfl, R⟩))
  refine k_ta (fun c2 => ?_) (fun c2 => k_s (by rw [if_pos c1, if_neg (fun q => q c2)]; exact ⟨_, rfl, R⟩))
  refine k_o (fun c3 => ?_) (fun c3 => k_s (by rw [if_pos c1, if_pos c2, if_neg c3]; exact ⟨_, rfl, R⟩))
  rw [if_pos c1, if_pos c2, if_pos c3]
  obtain ⟨r, hr, rfl⟩ := i_row (n := 5) rfl c1
  have hn := V.n5
  rw [nI_clamp (by omega)]
  refine k_e (nz_gr200_4 R) ?_
  refine k_e (nz_gr223_11 R) ?_
  refine k_b (cz_s5_3 R rfl (show r < _ by omega)) ?_
  intro h1 R1
  exact k_s ⟨h1, rfl, R1⟩
theorem rz_tons (R : rz_N s0 th W h) {a n : Int32} : k_ok (F12_tons 317 a n h) (hz_V s0 e01 W (sp_tons W a n)) := by
  unfold F12_tons F12_tons_0 sp_tons
  refine k_g (rz_io R) ?_
  refine k_b (rz_th R) ?_
  intro h1 R1
  refine k_e k_nl (k_ww R1 (0 ≤ a ∧ a ≤ 5) rfl (fun c1 => ?_) (fun c1 h2 R2 => k_s (by rw [if_neg c1]; exact R2)))
  refine k_if (fun c2 => (by unfold F12_tons_33 F12_tons_38; exact k_thr R1 (fun h2 R2 => k_s (by rw [if_pos c1, if_neg (fun q => q c2)]; exact R2)))) (fun c2 => ?_)
  refine k_i (fun c3 => ?_) (fun c3 => (by unfold F12_tons_33 F12_tons_38; exact k_thr R1 (fun h2 R2 => k_s (by rw [if_pos c1, if_pos c2, if_neg c3]; exact R2))))
  rw [if_pos c1, if_pos c2, if_pos c3]
  unfold F12_tons_38
  refine k_thr0 R1 ?_
  obtain ⟨r, hr, rfl⟩ := i_row (n := 5) rfl c1
  rw [nI_clamp (by omega)]
  refine k_e (rz_gr1 R1) ?_
  unfold F12_landAt F12_landAt_0
  refine k_e rfl ?_
  refine k_b (rz_set R1 (k := 5) (r := r) (c := 3) (ix5 r 3) ⟨by decide, show r < 6 by omega, by decide⟩) ?_
  intro h2 R2
  exact k_s R2
end
