/-! ===== m_: methods of class 14 by the tables (printed) ===== -/
theorem md2800 : ∀ z ∈ mc14_0, decode (m_B 2800) z.1 = .ok (z.2.1, z.2.2) := by decide +kernel
theorem mm2800 : m_mok m_Z m_strs 2800 := m_mok_of (i := 2800) (own := RJ6) (mn := "bitCount") (I := mi14_0) (S := []) rfl rfl rfl (by decide +kernel) (by decide) mp14 md2800 (by decide +kernel) (fun _ h => absurd h List.not_mem_nil) (fun _ h => absurd h List.not_mem_nil)
