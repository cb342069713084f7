/-! ===== m_: methods of class 5 by the tables (printed) ===== -/
theorem md1000 : ∀ z ∈ mc5_0, decode (m_B 1000) z.1 = .ok (z.2.1, z.2.2) := by decide +kernel
theorem mm1000 : m_mok m_Z m_strs 1000 := m_mok_of (i := 1000) (own := RX5) (mn := "isLentTo") (I := mi5_0) (S := []) rfl rfl rfl (by decide +kernel) (by decide) mp5 md1000 (by decide +kernel) (fun _ h => absurd h List.not_mem_nil) (fun _ h => absurd h List.not_mem_nil)
theorem md1001 : ∀ z ∈ mc5_1, decode (m_B 1001) z.1 = .ok (z.2.1, z.2.2) := by decide +kernel
theorem mm1001 : m_mok m_Z m_strs 1001 := m_mok_of (i := 1001) (own := RX5) (mn := "owed") (I := mi5_1) (S := []) rfl rfl rfl (by decide +kernel) (by decide) mp5 md1001 (by decide +kernel) (fun _ h => absurd h List.not_mem_nil) (fun _ h => absurd h List.not_mem_nil)
theorem md1002 : ∀ z ∈ mc5_2, decode (m_B 1002) z.1 = .ok (z.2.1, z.2.2) := by decide +kernel
theorem mm1002 : m_mok m_Z m_strs 1002 := m_mok_of (i := 1002) (own := RX5) (mn := "owedFor") (I := mi5_2) (S := []) rfl rfl rfl (by decide +kernel) (by decide) mp5 md1002 (by decide +kernel) (fun _ h => absurd h List.not_mem_nil) (fun _ h => absurd h List.not_mem_nil)
theorem md1003 : ∀ z ∈ mc5_3, decode (m_B 1003) z.1 = .ok (z.2.1, z.2.2) := by decide +kernel
theorem mm1003 : m_mok m_Z m_strs 1003 := m_mok_of (i := 1003) (own := RX5) (mn := "lentAt") (I := mi5_3) (S := []) rfl rfl rfl (by decide +kernel) (by decide) mp5 md1003 (by decide +kernel) (fun _ h => absurd h List.not_mem_nil) (fun _ h => absurd h List.not_mem_nil)
theorem md1004 : ∀ z ∈ mc5_4, decode (m_B 1004) z.1 = .ok (z.2.1, z.2.2) := by decide +kernel
theorem mm1004 : m_mok m_Z m_strs 1004 := m_mok_of (i := 1004) (own := RX5) (mn := "landedOf") (I := mi5_4) (S := []) rfl rfl rfl (by decide +kernel) (by decide) mp5 md1004 (by decide +kernel) (fun _ h => absurd h List.not_mem_nil) (fun _ h => absurd h List.not_mem_nil)
theorem md1005 : ∀ z ∈ mc5_5, decode (m_B 1005) z.1 = .ok (z.2.1, z.2.2) := by decide +kernel
theorem mm1005 : m_mok m_Z m_strs 1005 := m_mok_of (i := 1005) (own := RX5) (mn := "landedAtEnd") (I := mi5_5) (S := []) rfl rfl rfl (by decide +kernel) (by decide) mp5 md1005 (by decide +kernel) (fun _ h => absurd h List.not_mem_nil) (fun _ h => absurd h List.not_mem_nil)
theorem md1006 : ∀ z ∈ mc5_6, decode (m_B 1006) z.1 = .ok (z.2.1, z.2.2) := by decide +kernel
theorem mm1006 : m_mok m_Z m_strs 1006 := m_mok_of (i := 1006) (own := RX5) (mn := "latestReturn") (I := mi5_6) (S := []) rfl rfl rfl (by decide +kernel) (by decide) mp5 md1006 (by decide +kernel) (fun _ h => absurd h List.not_mem_nil) (fun _ h => absurd h List.not_mem_nil)
theorem md1007 : ∀ z ∈ mc5_7, decode (m_B 1007) z.1 = .ok (z.2.1, z.2.2) := by decide +kernel
theorem mm1007 : m_mok m_Z m_strs 1007 := m_mok_of (i := 1007) (own := RX5) (mn := "sure") (I := mi5_7) (S := []) rfl rfl rfl (by decide +kernel) (by decide) mp5 md1007 (by decide +kernel) (fun _ h => absurd h List.not_mem_nil) (fun _ h => absurd h List.not_mem_nil)
theorem md1008 : ∀ z ∈ mc5_8, decode (m_B 1008) z.1 = .ok (z.2.1, z.2.2) := by decide +kernel
theorem mm1008 : m_mok m_Z m_strs 1008 := m_mok_of (i := 1008) (own := RX5) (mn := "landedWithoutReturn") (I := mi5_8) (S := []) rfl rfl rfl (by decide +kernel) (by decide) mp5 md1008 (by decide +kernel) (fun _ h => absurd h List.not_mem_nil) (fun _ h => absurd h List.not_mem_nil)
theorem md1009 : ∀ z ∈ mc5_9, decode (m_B 1009) z.1 = .ok (z.2.1, z.2.2) := by decide +kernel
theorem mm1009 : m_mok m_Z m_strs 1009 := m_mok_of (i := 1009) (own := RX5) (mn := "balanceBy") (I := mi5_9) (S := []) rfl rfl rfl (by decide +kernel) (by decide) mp5 md1009 (by decide +kernel) (fun _ h => absurd h List.not_mem_nil) (fun _ h => absurd h List.not_mem_nil)
theorem md1010 : ∀ z ∈ mc5_10, decode (m_B 1010) z.1 = .ok (z.2.1, z.2.2) := by decide +kernel
theorem mm1010 : m_mok m_Z m_strs 1010 := m_mok_of (i := 1010) (own := RX5) (mn := "worthOf") (I := mi5_10) (S := []) rfl rfl rfl (by decide +kernel) (by decide) mp5 md1010 (by decide +kernel) (fun _ h => absurd h List.not_mem_nil) (fun _ h => absurd h List.not_mem_nil)
theorem md1011 : ∀ z ∈ mc5_11, decode (m_B 1011) z.1 = .ok (z.2.1, z.2.2) := by decide +kernel
theorem mm1011 : m_mok m_Z m_strs 1011 := m_mok_of (i := 1011) (own := RX5) (mn := "cameBack") (I := mi5_11) (S := []) rfl rfl rfl (by decide +kernel) (by decide) mp5 md1011 (by decide +kernel) (fun _ h => absurd h List.not_mem_nil) (fun _ h => absurd h List.not_mem_nil)
theorem md1012 : ∀ z ∈ mc5_12, decode (m_B 1012) z.1 = .ok (z.2.1, z.2.2) := by decide +kernel
theorem mm1012 : m_mok m_Z m_strs 1012 := m_mok_of (i := 1012) (own := RX5) (mn := "unexplained") (I := mi5_12) (S := []) rfl rfl rfl (by decide +kernel) (by decide) mp5 md1012 (by decide +kernel) (fun _ h => absurd h List.not_mem_nil) (fun _ h => absurd h List.not_mem_nil)
theorem md1013 : ∀ z ∈ mc5_13, decode (m_B 1013) z.1 = .ok (z.2.1, z.2.2) := by decide +kernel
theorem mm1013 : m_mok m_Z m_strs 1013 := m_mok_of (i := 1013) (own := RX5) (mn := "landsWith") (I := mi5_13) (S := []) rfl rfl rfl (by decide +kernel) (by decide) mp5 md1013 (by decide +kernel) (fun _ h => absurd h List.not_mem_nil) (fun _ h => absurd h List.not_mem_nil)
theorem md1014 : ∀ z ∈ mc5_14, decode (m_B 1014) z.1 = .ok (z.2.1, z.2.2) := by decide +kernel
theorem mm1014 : m_mok m_Z m_strs 1014 := m_mok_of (i := 1014) (own := RX5) (mn := "firstNotPaid") (I := mi5_14) (S := []) rfl rfl rfl (by decide +kernel) (by decide) mp5 md1014 (by decide +kernel) (fun _ h => absurd h List.not_mem_nil) (fun _ h => absurd h List.not_mem_nil)
