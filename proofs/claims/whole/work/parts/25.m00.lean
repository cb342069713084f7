/-! ===== m_: methods of class 0 by the tables (printed) ===== -/
theorem md0 : ∀ z ∈ mc0_0, decode (m_B 0) z.1 = .ok (z.2.1, z.2.2) := by decide +kernel
theorem mm0 : m_mok m_Z m_strs 0 := m_mok_of (i := 0) (own := RX0) (mn := "<init>") (I := mi0_0) (S := []) rfl rfl rfl (by decide +kernel) (by decide) mp0 md0 (by decide +kernel) (fun _ h => absurd h List.not_mem_nil) (fun _ h => absurd h List.not_mem_nil)
theorem md1 : ∀ z ∈ mc0_1, decode (m_B 1) z.1 = .ok (z.2.1, z.2.2) := by decide +kernel
theorem mm1 : m_mok m_Z m_strs 1 := m_mok_of (i := 1) (own := RX0) (mn := "kindOf") (I := mi0_1) (S := []) rfl rfl rfl (by decide +kernel) (by decide) mp0 md1 (by decide +kernel) (fun _ h => absurd h List.not_mem_nil) (fun _ h => absurd h List.not_mem_nil)
theorem md2 : ∀ z ∈ mc0_2, decode (m_B 2) z.1 = .ok (z.2.1, z.2.2) := by decide +kernel
theorem mm2 : m_mok m_Z m_strs 2 := m_mok_of (i := 2) (own := RX0) (mn := "numberOf") (I := mi0_2) (S := []) rfl rfl rfl (by decide +kernel) (by decide) mp0 md2 (by decide +kernel) (fun _ h => absurd h List.not_mem_nil) (fun _ h => absurd h List.not_mem_nil)
theorem md3 : ∀ z ∈ mc0_3, decode (m_B 3) z.1 = .ok (z.2.1, z.2.2) := by decide +kernel
theorem mm3 : m_mok m_Z m_strs 3 := m_mok_of (i := 3) (own := RX0) (mn := "endOf") (I := mi0_3) (S := []) rfl rfl rfl (by decide +kernel) (by decide) mp0 md3 (by decide +kernel) (fun _ h => absurd h List.not_mem_nil) (fun _ h => absurd h List.not_mem_nil)
