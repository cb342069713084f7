/-! ===== m_: methods of class 1 by the tables (printed) ===== -/
theorem md200 : ∀ z ∈ mc1_0, decode (m_B 200) z.1 = .ok (z.2.1, z.2.2) := by decide +kernel
theorem mm200 : m_mok m_Z m_strs 200 := m_mok_of (i := 200) (own := RX1) (mn := "<init>") (I := mi1_0) (S := []) rfl rfl rfl (by decide +kernel) (by decide) mp1 md200 (by decide +kernel) (fun _ h => absurd h List.not_mem_nil) (fun _ h => absurd h List.not_mem_nil)
theorem md201 : ∀ z ∈ mc1_1, decode (m_B 201) z.1 = .ok (z.2.1, z.2.2) := by decide +kernel
theorem mm201 : m_mok m_Z m_strs 201 := m_mok_of (i := 201) (own := RX1) (mn := "write") (I := mi1_1) (S := []) rfl rfl rfl (by decide +kernel) (by decide) mp1 md201 (by decide +kernel) (fun _ h => absurd h List.not_mem_nil) (fun _ h => absurd h List.not_mem_nil)
theorem md202 : ∀ z ∈ mc1_2, decode (m_B 202) z.1 = .ok (z.2.1, z.2.2) := by decide +kernel
theorem mm202 : m_mok m_Z m_strs 202 := m_mok_of (i := 202) (own := RX1) (mn := "raise") (I := mi1_2) (S := []) rfl rfl rfl (by decide +kernel) (by decide) mp1 md202 (by decide +kernel) (fun _ h => absurd h List.not_mem_nil) (fun _ h => absurd h List.not_mem_nil)
theorem md203 : ∀ z ∈ mc1_3, decode (m_B 203) z.1 = .ok (z.2.1, z.2.2) := by decide +kernel
theorem mm203 : m_mok m_Z m_strs 203 := m_mok_of (i := 203) (own := RX1) (mn := "makeRoom") (I := mi1_3) (S := []) rfl rfl rfl (by decide +kernel) (by decide) mp1 md203 (by decide +kernel) (fun _ h => absurd h List.not_mem_nil) (fun _ h => absurd h List.not_mem_nil)
theorem md204 : ∀ z ∈ mc1_4, decode (m_B 204) z.1 = .ok (z.2.1, z.2.2) := by decide +kernel
theorem mm204 : m_mok m_Z m_strs 204 := m_mok_of (i := 204) (own := RX1) (mn := "at") (I := mi1_4) (S := []) rfl rfl rfl (by decide +kernel) (by decide) mp1 md204 (by decide +kernel) (fun _ h => absurd h List.not_mem_nil) (fun _ h => absurd h List.not_mem_nil)
theorem md205 : ∀ z ∈ mc1_5, decode (m_B 205) z.1 = .ok (z.2.1, z.2.2) := by decide +kernel
theorem mm205 : m_mok m_Z m_strs 205 := m_mok_of (i := 205) (own := RX1) (mn := "copyFrom") (I := mi1_5) (S := []) rfl rfl rfl (by decide +kernel) (by decide) mp1 md205 (by decide +kernel) (fun _ h => absurd h List.not_mem_nil) (fun _ h => absurd h List.not_mem_nil)
