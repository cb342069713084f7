/-! ===== m_: methods of class 8 by the tables (printed) ===== -/
theorem md1600 : ∀ z ∈ mc8_0, decode (m_B 1600) z.1 = .ok (z.2.1, z.2.2) := by decide +kernel
theorem mm1600 : m_mok m_Z m_strs 1600 := m_mok_of (i := 1600) (own := RX8) (mn := "<init>") (I := mi8_0) (S := []) rfl rfl rfl (by decide +kernel) (by decide) mp8 md1600 (by decide +kernel) (fun _ h => absurd h List.not_mem_nil) (fun _ h => absurd h List.not_mem_nil)
theorem md1601 : ∀ z ∈ mc8_1, decode (m_B 1601) z.1 = .ok (z.2.1, z.2.2) := by decide +kernel
theorem mm1601 : m_mok m_Z m_strs 1601 := m_mok_of (i := 1601) (own := RX8) (mn := "has") (I := mi8_1) (S := []) rfl rfl rfl (by decide +kernel) (by decide) mp8 md1601 (by decide +kernel) (fun _ h => absurd h List.not_mem_nil) (fun _ h => absurd h List.not_mem_nil)
theorem md1602 : ∀ z ∈ mc8_2, decode (m_B 1602) z.1 = .ok (z.2.1, z.2.2) := by decide +kernel
theorem mm1602 : m_mok m_Z m_strs 1602 := m_mok_of (i := 1602) (own := RX8) (mn := "full") (I := mi8_2) (S := []) rfl rfl rfl (by decide +kernel) (by decide) mp8 md1602 (by decide +kernel) (fun _ h => absurd h List.not_mem_nil) (fun _ h => absurd h List.not_mem_nil)
theorem md1603 : ∀ z ∈ mc8_3, decode (m_B 1603) z.1 = .ok (z.2.1, z.2.2) := by decide +kernel
theorem mm1603 : m_mok m_Z m_strs 1603 := m_mok_of (i := 1603) (own := RX8) (mn := "reaches") (I := mi8_3) (S := []) rfl rfl rfl (by decide +kernel) (by decide) mp8 md1603 (by decide +kernel) (fun _ h => absurd h List.not_mem_nil) (fun _ h => absurd h List.not_mem_nil)
theorem md1604 : ∀ z ∈ mc8_4, decode (m_B 1604) z.1 = .ok (z.2.1, z.2.2) := by decide +kernel
theorem mm1604 : m_mok m_Z m_strs 1604 := m_mok_of (i := 1604) (own := RX8) (mn := "get") (I := mi8_4) (S := []) rfl rfl rfl (by decide +kernel) (by decide) mp8 md1604 (by decide +kernel) (fun _ h => absurd h List.not_mem_nil) (fun _ h => absurd h List.not_mem_nil)
theorem md1605 : ∀ z ∈ mc8_5, decode (m_B 1605) z.1 = .ok (z.2.1, z.2.2) := by decide +kernel
theorem mm1605 : m_mok m_Z m_strs 1605 := m_mok_of (i := 1605) (own := RX8) (mn := "set") (I := mi8_5) (S := []) rfl rfl rfl (by decide +kernel) (by decide) mp8 md1605 (by decide +kernel) (fun _ h => absurd h List.not_mem_nil) (fun _ h => absurd h List.not_mem_nil)
theorem md1606 : ∀ z ∈ mc8_6, decode (m_B 1606) z.1 = .ok (z.2.1, z.2.2) := by decide +kernel
theorem mm1606 : m_mok m_Z m_strs 1606 := m_mok_of (i := 1606) (own := RX8) (mn := "raise") (I := mi8_6) (S := []) rfl rfl rfl (by decide +kernel) (by decide) mp8 md1606 (by decide +kernel) (fun _ h => absurd h List.not_mem_nil) (fun _ h => absurd h List.not_mem_nil)
theorem md1607 : ∀ z ∈ mc8_7, decode (m_B 1607) z.1 = .ok (z.2.1, z.2.2) := by decide +kernel
theorem mm1607 : m_mok m_Z m_strs 1607 := m_mok_of (i := 1607) (own := RX8) (mn := "add") (I := mi8_7) (S := []) rfl rfl rfl (by decide +kernel) (by decide) mp8 md1607 (by decide +kernel) (fun _ h => absurd h List.not_mem_nil) (fun _ h => absurd h List.not_mem_nil)
theorem md1608 : ∀ z ∈ mc8_8, decode (m_B 1608) z.1 = .ok (z.2.1, z.2.2) := by decide +kernel
theorem mm1608 : m_mok m_Z m_strs 1608 := m_mok_of (i := 1608) (own := RX8) (mn := "rowsWith") (I := mi8_8) (S := []) rfl rfl rfl (by decide +kernel) (by decide) mp8 md1608 (by decide +kernel) (fun _ h => absurd h List.not_mem_nil) (fun _ h => absurd h List.not_mem_nil)
theorem md1609 : ∀ z ∈ mc8_9, decode (m_B 1609) z.1 = .ok (z.2.1, z.2.2) := by decide +kernel
theorem mm1609 : m_mok m_Z m_strs 1609 := m_mok_of (i := 1609) (own := RX8) (mn := "sumOf") (I := mi8_9) (S := []) rfl rfl rfl (by decide +kernel) (by decide) mp8 md1609 (by decide +kernel) (fun _ h => absurd h List.not_mem_nil) (fun _ h => absurd h List.not_mem_nil)
theorem md1610 : ∀ z ∈ mc8_10, decode (m_B 1610) z.1 = .ok (z.2.1, z.2.2) := by decide +kernel
theorem mm1610 : m_mok m_Z m_strs 1610 := m_mok_of (i := 1610) (own := RX8) (mn := "copyFrom") (I := mi8_10) (S := []) rfl rfl rfl (by decide +kernel) (by decide) mp8 md1610 (by decide +kernel) (fun _ h => absurd h List.not_mem_nil) (fun _ h => absurd h List.not_mem_nil)
