/-! ===== m_: the classes' words ===== -/
theorem m_Ts_of {w : Cond} (h : w ∈ lw_tbl) (g : goodWord w = true) : w ∈ m_Ts := List.mem_filter.mpr ⟨h, g⟩
theorem m_Ts_all {ws : List Cond} (h : ∀ w ∈ ws, w ∈ lw_tbl) (g : ws.all goodWord = true) : ∀ w ∈ ws, w ∈ m_Ts := fun w hw => m_Ts_of (h w hw) (List.all_eq_true.mp g w hw)
theorem m_Ts_in {w : Cond} (h : w ∈ m_Ts) : w ∈ lw_tbl := (List.mem_filter.mp h).1
theorem m_Ts_good : ∀ w ∈ m_Ts, goodWord w = true := fun _ h => (List.mem_filter.mp h).2
def m_clok (ci : Nat) (r : vw_C) : Prop := (∀ w ∈ u_ws r.1 r.2.1 r.2.2, w ∈ m_Ts) ∧ r.2.2 = m_fn ci ∧ (∀ k, k < r.2.2 → parseFieldDescriptor (r.2.1 k).2.2.1 = some (m_ft ci k)) ∧ (∀ a, a < r.2.2 → ∀ b, b < r.2.2 → a ≠ b → (r.2.1 a).2.1 ≠ (r.2.1 b).2.1) ∧
  Cond.instantiable r.1 r.2.2 ∈ m_Ts ∧ Cond.initialized r.1 ∈ m_Ts ∧ (∀ k, k < r.2.2 → defaultValue (m_ft ci k) = m_df (m_ft ci k)) ∧ ∀ k, k < r.2.2 → (r.2.1 k).1 = r.1
theorem m_cl0 : m_clok 0 (RX0, TX0, 6) := ⟨m_Ts_all (by decide +kernel) (by decide +kernel), rfl, tyX0_ok, nmX0, m_Ts_of (by decide +kernel) rfl, m_Ts_of (by decide +kernel) rfl, by decide +kernel, by decide +kernel⟩
theorem m_cl1 : m_clok 1 (RX1, TX1, 1) := ⟨m_Ts_all (by decide +kernel) (by decide +kernel), rfl, tyX1_ok, nmX1, m_Ts_of (by decide +kernel) rfl, m_Ts_of (by decide +kernel) rfl, by decide +kernel, by decide +kernel⟩
theorem m_cl2 : m_clok 2 (RX2, TX2, 6) := ⟨m_Ts_all (by decide +kernel) (by decide +kernel), rfl, tyX2_ok, nmX2, m_Ts_of (by decide +kernel) rfl, m_Ts_of (by decide +kernel) rfl, by decide +kernel, by decide +kernel⟩
theorem m_cl3 : m_clok 3 (RX3, TX3, 20) := ⟨m_Ts_all (by decide +kernel) (by decide +kernel), rfl, tyX3_ok, nmX3, m_Ts_of (by decide +kernel) rfl, m_Ts_of (by decide +kernel) rfl, by decide +kernel, by decide +kernel⟩
theorem m_cl4 : m_clok 4 (RX4, TX4, 8) := ⟨m_Ts_all (by decide +kernel) (by decide +kernel), rfl, tyX4_ok, nmX4, m_Ts_of (by decide +kernel) rfl, m_Ts_of (by decide +kernel) rfl, by decide +kernel, by decide +kernel⟩
theorem m_cl5 : m_clok 5 (RX7, TX7, 10) := ⟨m_Ts_all (by decide +kernel) (by decide +kernel), rfl, tyX7_ok, nmX7, m_Ts_of (by decide +kernel) rfl, m_Ts_of (by decide +kernel) rfl, by decide +kernel, by decide +kernel⟩
theorem m_cl6 : m_clok 6 (RX8, TX8, 3) := ⟨m_Ts_all (by decide +kernel) (by decide +kernel), rfl, tyX8_ok, nmX8, m_Ts_of (by decide +kernel) rfl, m_Ts_of (by decide +kernel) rfl, by decide +kernel, by decide +kernel⟩
theorem m_cl7 : m_clok 7 (RX9, TX9, 8) := ⟨m_Ts_all (by decide +kernel) (by decide +kernel), rfl, tyX9_ok, nmX9, m_Ts_of (by decide +kernel) rfl, m_Ts_of (by decide +kernel) rfl, by decide +kernel, by decide +kernel⟩
theorem m_cl8 : m_clok 8 (RX11, TX11, 12) := ⟨m_Ts_all (by decide +kernel) (by decide +kernel), rfl, tyX11_ok, nmX11, m_Ts_of (by decide +kernel) rfl, m_Ts_of (by decide +kernel) rfl, by decide +kernel, by decide +kernel⟩
theorem m_cl9 : m_clok 9 (RX12, TX12, 26) := ⟨m_Ts_all (by decide +kernel) (by decide +kernel), rfl, tyX12_ok, nmX12, m_Ts_of (by decide +kernel) rfl, m_Ts_of (by decide +kernel) rfl, by decide +kernel, by decide +kernel⟩
theorem m_cl_ok (ci : Nat) (r : vw_C) (h : m_cl[ci]? = some r) : m_clok ci r := by
  match ci, h with
  | 0, h => cases h; exact m_cl0
  | 1, h => cases h; exact m_cl1
  | 2, h => cases h; exact m_cl2
  | 3, h => cases h; exact m_cl3
  | 4, h => cases h; exact m_cl4
  | 5, h => cases h; exact m_cl5
  | 6, h => cases h; exact m_cl6
  | 7, h => cases h; exact m_cl7
  | 8, h => cases h; exact m_cl8
  | 9, h => cases h; exact m_cl9
  | n + 10, h => simp [m_cl] at h
