/-! ===== m_: methods of class 6 by the tables (printed) ===== -/
theorem md1200 : ∀ z ∈ mc6_0, decode (m_B 1200) z.1 = .ok (z.2.1, z.2.2) := by decide +kernel
theorem mm1200 : m_mok m_Z m_strs 1200 := m_mok_of (i := 1200) (own := RX6) (mn := "isIn") (I := mi6_0) (S := []) rfl rfl rfl (by decide +kernel) (by decide) mp6 md1200 (by decide +kernel) (fun _ h => absurd h List.not_mem_nil) (fun _ h => absurd h List.not_mem_nil)
theorem md1201 : ∀ z ∈ mc6_1, decode (m_B 1201) z.1 = .ok (z.2.1, z.2.2) := by decide +kernel
theorem mm1201 : m_mok m_Z m_strs 1201 := m_mok_of (i := 1201) (own := RX6) (mn := "ordersNotBegun") (I := mi6_1) (S := []) rfl rfl rfl (by decide +kernel) (by decide) mp6 md1201 (by decide +kernel) (fun _ h => absurd h List.not_mem_nil) (fun _ h => absurd h List.not_mem_nil)
theorem md1202 : ∀ z ∈ mc6_2, decode (m_B 1202) z.1 = .ok (z.2.1, z.2.2) := by decide +kernel
theorem mm1202 : m_mok m_Z m_strs 1202 := m_mok_of (i := 1202) (own := RX6) (mn := "bestOrdersOf") (I := mi6_2) (S := []) rfl rfl rfl (by decide +kernel) (by decide) mp6 md1202 (by decide +kernel) (fun _ h => absurd h List.not_mem_nil) (fun _ h => absurd h List.not_mem_nil)
theorem md1203 : ∀ z ∈ mc6_3, decode (m_B 1203) z.1 = .ok (z.2.1, z.2.2) := by decide +kernel
theorem mm1203 : m_mok m_Z m_strs 1203 := m_mok_of (i := 1203) (own := RX6) (mn := "sumIn") (I := mi6_3) (S := []) rfl rfl rfl (by decide +kernel) (by decide) mp6 md1203 (by decide +kernel) (fun _ h => absurd h List.not_mem_nil) (fun _ h => absurd h List.not_mem_nil)
theorem md1204 : ∀ z ∈ mc6_4, decode (m_B 1204) z.1 = .ok (z.2.1, z.2.2) := by decide +kernel
theorem mm1204 : m_mok m_Z m_strs 1204 := m_mok_of (i := 1204) (own := RX6) (mn := "pagesSigned") (I := mi6_4) (S := []) rfl rfl rfl (by decide +kernel) (by decide) mp6 md1204 (by decide +kernel) (fun _ h => absurd h List.not_mem_nil) (fun _ h => absurd h List.not_mem_nil)
theorem md1205 : ∀ z ∈ mc6_5, decode (m_B 1205) z.1 = .ok (z.2.1, z.2.2) := by decide +kernel
theorem mm1205 : m_mok m_Z m_strs 1205 := m_mok_of (i := 1205) (own := RX6) (mn := "choicesThatLast") (I := mi6_5) (S := []) rfl rfl rfl (by decide +kernel) (by decide) mp6 md1205 (by decide +kernel) (fun _ h => absurd h List.not_mem_nil) (fun _ h => absurd h List.not_mem_nil)
theorem md1206 : ∀ z ∈ mc6_6, decode (m_B 1206) z.1 = .ok (z.2.1, z.2.2) := by decide +kernel
theorem mm1206 : m_mok m_Z m_strs 1206 := m_mok_of (i := 1206) (own := RX6) (mn := "doesLast") (I := mi6_6) (S := []) rfl rfl rfl (by decide +kernel) (by decide) mp6 md1206 (by decide +kernel) (fun _ h => absurd h List.not_mem_nil) (fun _ h => absurd h List.not_mem_nil)
theorem md1207 : ∀ z ∈ mc6_7, decode (m_B 1207) z.1 = .ok (z.2.1, z.2.2) := by decide +kernel
theorem mm1207 : m_mok m_Z m_strs 1207 := m_mok_of (i := 1207) (own := RX6) (mn := "yearly") (I := mi6_7) (S := []) rfl rfl rfl (by decide +kernel) (by decide) mp6 md1207 (by decide +kernel) (fun _ h => absurd h List.not_mem_nil) (fun _ h => absurd h List.not_mem_nil)
