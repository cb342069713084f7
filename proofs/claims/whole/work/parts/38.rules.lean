/-! ===== what is refused, on both sides ===== -/
section
variable {s0 : tz_S} {th : Int32} {W : m_W} {h : m_H} {β : Type} {Q : β → Prop}
theorem oz {x lo hi : Int32} : F11_outside x lo hi h = some (if lo ≤ x ∧ x ≤ hi then 0 else 1) := by
  unfold F11_outside F11_outside_0
  by_cases h1 : x < lo
  · rw [iz_t h1, if_neg (fun q => absurd h1 (Int32.not_lt.mpr q.1))]
  · rw [iz_f h1]
    by_cases h2 : x ≤ hi
    · rw [iz_t h2, if_pos ⟨Int32.not_lt.mp h1, h2⟩]
    · rw [iz_f h2, if_neg (fun q => h2 q.2)]
theorem iz {x lo hi : Int32} : F12_in x lo hi h = some (if lo ≤ x ∧ x ≤ hi then 1 else 0) := by
  unfold F12_in F12_in_0
  by_cases h1 : x < lo
  · rw [iz_t h1, if_neg (fun q => absurd h1 (Int32.not_lt.mpr q.1))]
  · rw [iz_f h1]
    by_cases h2 : hi < x
    · rw [iz_t h2, if_neg (fun q => absurd h2 (Int32.not_lt.mpr q.2))]
    · rw [iz_f h2, if_pos ⟨Int32.not_lt.mp h1, Int32.not_lt.mp h2⟩]
theorem k_o {x lo hi : Int32} {a b : Option β} (k1 : lo ≤ x ∧ x ≤ hi → k_ok a Q) (k2 : ¬ (lo ≤ x ∧ x ≤ hi) → k_ok b Q) : k_ok (m_b (F11_outside x lo hi h) fun v => m_if (v = 0) a b) Q := by
  rw [oz]
  by_cases q : lo ≤ x ∧ x ≤ hi
  · rw [if_pos q]; exact k1 q
  · rw [if_neg q]; exact k2 q
theorem k_i {x lo hi : Int32} {a b : Option β} (k1 : lo ≤ x ∧ x ≤ hi → k_ok b Q) (k2 : ¬ (lo ≤ x ∧ x ≤ hi) → k_ok a Q) : k_ok (m_b (F12_in x lo hi h) fun v => m_if (v = 0) a b) Q := by
  rw [iz]
  by_cases q : lo ≤ x ∧ x ≤ hi
  · rw [if_pos q]; exact k1 q
  · rw [if_neg q]; exact k2 q
theorem k_ts {x : Int32} {A : (Unit ⊕ Nat) × m_H → Unit → Option β} {B : (Unit ⊕ Nat) × m_H → Nat → Option β} (k1 : 0 ≤ x ∧ x ≤ 7 → k_ok (A (.inl (), h) ()) Q) (k2 : ¬ (0 ≤ x ∧ x ≤ 7) → k_ok (B (.inr 0, m_junk h) 0) Q) : k_ok (m_b (F11_testSort x h) fun z => m_sx z.1 (fun u => A z u) fun E => B z E) Q := by
  unfold F11_testSort F11_testSort_0
  rw [oz]
  by_cases q : 0 ≤ x ∧ x ≤ 7
  · rw [if_pos q]; exact k1 q
  · rw [if_neg q]; exact k2 q
theorem k_tl {x : Int32} {A : (Unit ⊕ Nat) × m_H → Unit → Option β} {B : (Unit ⊕ Nat) × m_H → Nat → Option β} (k1 : 0 ≤ x ∧ x ≤ 5 → k_ok (A (.inl (), h) ()) Q) (k2 : ¬ (0 ≤ x ∧ x ≤ 5) → k_ok (B (.inr 0, m_junk h) 0) Q) : k_ok (m_b (F11_testLand x h) fun z => m_sx z.1 (fun u => A z u) fun E => B z E) Q := by
  unfold F11_testLand F11_testLand_0
  rw [oz]
  by_cases q : 0 ≤ x ∧ x ≤ 5
  · rw [if_pos q]; exact k1 q
  · rw [if_neg q]; exact k2 q
theorem k_tc {x : Int32} {A : (Unit ⊕ Nat) × m_H → Unit → Option β} {B : (Unit ⊕ Nat) × m_H → Nat → Option β} (k1 : 1 ≤ x ∧ x ≤ 1000 → k_ok (A (.inl (), h) ()) Q) (k2 : ¬ (1 ≤ x ∧ x ≤ 1000) → k_ok (B (.inr 1, m_junk h) 1) Q) : k_ok (m_b (F11_testCrates x h) fun z => m_sx z.1 (fun u => A z u) fun E => B z E) Q := by
  unfold F11_testCrates F11_testCrates_0
  rw [oz]
  by_cases q : 1 ≤ x ∧ x ≤ 1000
  · rw [if_pos q]; exact k1 q
  · rw [if_neg q]; exact k2 q
theorem k_ta {x : Int32} {A : (Unit ⊕ Nat) × m_H → Unit → Option β} {B : (Unit ⊕ Nat) × m_H → Nat → Option β} (k1 : ¬ x = 0 → k_ok (A (.inl (), h) ()) Q) (k2 : x = 0 → k_ok (B (.inr 1, m_junk h) 1) Q) : k_ok (m_b (F11_testAbroad x h) fun z => m_sx z.1 (fun u => A z u) fun E => B z E) Q := by
  unfold F11_testAbroad F11_testAbroad_0
  by_cases q : x = 0
  · rw [iz_t q]; exact k2 q
  · rw [iz_f q]; exact k1 q
theorem k_tt (R : cz_N s0 W h) {x : Int32} {A : (Unit ⊕ Nat) × m_H → Unit → Option β} {B : (Unit ⊕ Nat) × m_H → Nat → Option β} (k1 : 0 ≤ x ∧ x < nI (wz_n W 2) → k_ok (A (.inl (), h) ()) Q) (k2 : ¬ (0 ≤ x ∧ x < nI (wz_n W 2)) → k_ok (B (.inr 0, m_junk h) 0) Q) : k_ok (m_b (F11_testLot 200 x h) fun z => m_sx z.1 (fun u => A z u) fun E => B z E) Q := by
  unfold F11_testLot F11_testLot_0
  rw [nz_io200 R, gz_s, nz_gr200_4 R, bz_s, nz_gr223_8 R, bz_s, cz_h2 R, bz_s]
  by_cases q : x < 0 ∨ nI (wz_n W 2) ≤ x
  · rw [if_pos q]
    exact k2 (fun e => q.elim (fun a => absurd e.1 (Int32.not_le.mpr a)) (fun a => absurd e.2 (Int32.not_lt.mpr a)))
  · rw [if_neg q]
    exact k1 ⟨Int32.not_lt.mp (fun a => q (Or.inl a)), Int32.not_le.mp (fun a => q (Or.inr a))⟩
theorem k_tp (R : cz_N s0 W h) {x : Int32} {A : (Unit ⊕ Nat) × m_H → Unit → Option β} {B : (Unit ⊕ Nat) × m_H → Nat → Option β} (k1 : 0 ≤ x ∧ x < nI (wz_n W 4) → k_ok (A (.inl (), h) ()) Q) (k2 : ¬ (0 ≤ x ∧ x < nI (wz_n W 4)) → k_ok (B (.inr 0, m_junk h) 0) Q) : k_ok (m_b (F11_testShip 200 x h) fun z => m_sx z.1 (fun u => A z u) fun E => B z E) Q := by
  unfold F11_testShip F11_testShip_0
  rw [nz_io200 R, gz_s, nz_gr200_4 R, bz_s, nz_gr223_10 R, bz_s, cz_h4 R, bz_s]
  by_cases q : x < 0 ∨ nI (wz_n W 4) ≤ x
  · rw [if_pos q]
    exact k2 (fun e => q.elim (fun a => absurd e.1 (Int32.not_le.mpr a)) (fun a => absurd e.2 (Int32.not_lt.mpr a)))
  · rw [if_neg q]
    exact k1 ⟨Int32.not_lt.mp (fun a => q (Or.inl a)), Int32.not_le.mp (fun a => q (Or.inr a))⟩
theorem k_tr (R : cz_N s0 W h) {A : (Unit ⊕ Nat) × m_H → Unit → Option β} {B : (Unit ⊕ Nat) × m_H → Nat → Option β} (k1 : wz_n W 2 < 100 → k_ok (A (.inl (), h) ()) Q) (k2 : ¬ wz_n W 2 < 100 → k_ok (B (.inr 2, m_junk h) 2) Q) : k_ok (m_b (F11_testRoomForLot 200 h) fun z => m_sx z.1 (fun u => A z u) fun E => B z E) Q := by
  unfold F11_testRoomForLot F11_testRoomForLot_0
  rw [nz_io200 R, gz_s, nz_gr200_4 R, bz_s, nz_gr223_8 R, bz_s, cz_f2 R, bz_s]
  by_cases q : wz_n W 2 < wz_cap 2
  · rw [if_pos q]
    exact k1 q
  · rw [if_neg q]
    exact k2 q
theorem k_te (R : cz_N s0 W h) {A : (Unit ⊕ Nat) × m_H → Unit → Option β} {B : (Unit ⊕ Nat) × m_H → Nat → Option β} (k1 : W 14 0 3 = 0 → k_ok (A (.inl (), h) ()) Q) (k2 : ¬ W 14 0 3 = 0 → k_ok (B (.inr 3, m_junk h) 3) Q) : k_ok (m_b (F11_testNotEnded 200 h) fun z => m_sx z.1 (fun u => A z u) fun E => B z E) Q := by
  unfold F11_testNotEnded F11_testNotEnded_0
  rw [nz_io200 R, gz_s, nz_gr200_4 R, bz_s, cz_i3 R, bz_s]
  by_cases q : W 14 0 3 = 0
  · rw [iz_t q]
    exact k1 q
  · rw [iz_f q]
    exact k2 q
/-- the reference throws -/
theorem k_w0 (R : rz_N s0 th W h) {c : Int32} : F12_throwsIf 317 0 c h = some (0, h) := by
  unfold F12_throwsIf F12_throwsIf_0
  rw [rz_io R, gz_s, iz_t rfl]
  rfl
theorem k_w1 (R : rz_N s0 th W h) {c : Int32} : k_ok (F12_throwsIf 317 1 c h) (fun z => ∃ h1, z = (1, h1) ∧ rz_N s0 c W h1) := by
  unfold F12_throwsIf F12_throwsIf_0
  rw [rz_io R, gz_s, iz_f (by decide)]
  refine k_b (rz_th R) ?_
  intro h1 R1
  exact k_s ⟨h1, rfl, R1⟩
theorem k_ww (R : rz_N s0 th W h) {v c : Int32} {A B : Int32 × m_H → Option β} (p : Prop) [Decidable p] (hv : v = if p then 0 else 1) (k1 : p → k_ok (A (0, h)) Q) (k2 : ¬ p → ∀ h1, rz_N s0 c W h1 → k_ok (B (1, h1)) Q) : k_ok (m_b (F12_throwsIf 317 v c h) fun z => m_if (z.1 = 0) (A z) (B z)) Q := by
  subst hv
  by_cases q : p
  · rw [if_pos q]
    refine k_e (k_w0 R) ?_
    exact k_t rfl (k1 q)
  · rw [if_neg q]
    refine k_b (k_w1 R) ?_
    rintro _ ⟨h1, rfl, R1⟩
    exact k_f (show ¬ (1 : Int32) = 0 by decide) (k2 q h1 R1)
theorem k_ns {x : Int32} : F12_noSort x h = some (if 0 ≤ x ∧ x ≤ 7 then 0 else 1) := by
  unfold F12_noSort F12_noSort_0
  rw [iz, bz_s]
  by_cases q : 0 ≤ x ∧ x ≤ 7
  · rw [if_pos q, if_pos q, iz_f (by decide)]
  · rw [if_neg q, if_neg q, iz_t rfl]
theorem k_nl {x : Int32} : F12_noLand x h = some (if 0 ≤ x ∧ x ≤ 5 then 0 else 1) := by
  unfold F12_noLand F12_noLand_0
  rw [iz, bz_s]
  by_cases q : 0 ≤ x ∧ x ≤ 5
  · rw [if_pos q, if_pos q, iz_f (by decide)]
  · rw [if_neg q, if_neg q, iz_t rfl]
theorem k_wk (R : rz_N s0 th W h) : F12_week 317 h = some (W 14 0 0) := by
  unfold F12_week F12_week_0
  rw [rz_io R, gz_s, rz_gr1 R, bz_s, rz_w0 R, bz_s]
theorem k_ov (R : rz_N s0 th W h) : F12_isOver 317 h = some (if W 14 0 3 = 1 then 1 else 0) := by
  unfold F12_isOver F12_isOver_0
  rw [rz_io R, gz_s, rz_gr1 R, bz_s, rz_w3 R, bz_s]
  by_cases q : W 14 0 3 = 1
  · rw [iz_t q, if_pos q]
  · rw [iz_f q, if_neg q]
end
theorem i_row {x hi : Int32} {n : Nat} (hn : hi.toInt = n) (h : 0 ≤ x ∧ x ≤ hi) : ∃ r, r ≤ n ∧ x = nI r := nI_of2 hn (Int32.not_lt.mpr h.1) h.2
theorem i_rowlt {x : Int32} {n : Nat} (hn : n < 2 ^ 31) (h : 0 ≤ x ∧ x < nI n) : ∃ r, r < n ∧ x = nI r := by
  obtain ⟨j, h1, rfl⟩ := nI_of (Int32.not_lt.mpr h.1)
  exact ⟨j, (nI_ltI h1 hn).mp h.2, rfl⟩
