/-! ===== m_: methods of class 7 by the tables (printed) ===== -/
theorem md1400 : ∀ z ∈ mc7_0, decode (m_B 1400) z.1 = .ok (z.2.1, z.2.2) := by decide +kernel
theorem mm1400 : m_mok m_Z m_strs 1400 := m_mok_of (i := 1400) (own := RX7) (mn := "<init>") (I := mi7_0) (S := []) rfl rfl rfl (by decide +kernel) (by decide) mp7 md1400 (by decide +kernel) (fun _ h => absurd h List.not_mem_nil) (fun _ h => absurd h List.not_mem_nil)
theorem md1401 : ∀ z ∈ mc7_1, decode (m_B 1401) z.1 = .ok (z.2.1, z.2.2) := by decide +kernel
theorem mm1401 : m_mok m_Z m_strs 1401 := m_mok_of (i := 1401) (own := RX7) (mn := "read") (I := mi7_1) (S := []) rfl rfl rfl (by decide +kernel) (by decide) mp7 md1401 (by decide +kernel) (fun _ h => absurd h List.not_mem_nil) (fun _ h => absurd h List.not_mem_nil)
theorem md1402 : ∀ z ∈ mc7_2, decode (m_B 1402) z.1 = .ok (z.2.1, z.2.2) := by decide +kernel
theorem mm1402 : m_mok m_Z m_strs 1402 := m_mok_of (i := 1402) (own := RX7) (mn := "readLine") (I := mi7_2) (S := []) rfl rfl rfl (by decide +kernel) (by decide) mp7 md1402 (by decide +kernel) (fun _ h => absurd h List.not_mem_nil) (fun _ h => absurd h List.not_mem_nil)
theorem md1403 : ∀ z ∈ mc7_3, decode (m_B 1403) z.1 = .ok (z.2.1, z.2.2) := by decide +kernel
theorem mm1403 : m_mok m_Z m_strs 1403 := m_mok_of (i := 1403) (own := RX7) (mn := "addLine") (I := mi7_3) (S := []) rfl rfl rfl (by decide +kernel) (by decide) mp7 md1403 (by decide +kernel) (fun _ h => absurd h List.not_mem_nil) (fun _ h => absurd h List.not_mem_nil)
theorem md1404 : ∀ z ∈ mc7_4, decode (m_B 1404) z.1 = .ok (z.2.1, z.2.2) := by decide +kernel
theorem mm1404 : m_mok m_Z m_strs 1404 := m_mok_of (i := 1404) (own := RX7) (mn := "readAny") (I := mi7_4) (S := []) rfl rfl rfl (by decide +kernel) (by decide) mp7 md1404 (by decide +kernel) (fun _ h => absurd h List.not_mem_nil) (fun _ h => absurd h List.not_mem_nil)
theorem md1405 : ∀ z ∈ mc7_5, decode (m_B 1405) z.1 = .ok (z.2.1, z.2.2) := by decide +kernel
theorem mm1405 : m_mok m_Z m_strs 1405 := m_mok_of (i := 1405) (own := RX7) (mn := "readAll") (I := mi7_5) (S := []) rfl rfl rfl (by decide +kernel) (by decide) mp7 md1405 (by decide +kernel) (fun _ h => absurd h List.not_mem_nil) (fun _ h => absurd h List.not_mem_nil)
theorem md1406 : ∀ z ∈ mc7_6, decode (m_B 1406) z.1 = .ok (z.2.1, z.2.2) := by decide +kernel
theorem mm1406 : m_mok m_Z m_strs 1406 := m_mok_of (i := 1406) (own := RX7) (mn := "readAtom") (I := mi7_6) (S := []) rfl rfl rfl (by decide +kernel) (by decide) mp7 md1406 (by decide +kernel) (fun _ h => absurd h List.not_mem_nil) (fun _ h => absurd h List.not_mem_nil)
theorem md1407 : ∀ z ∈ mc7_7, decode (m_B 1407) z.1 = .ok (z.2.1, z.2.2) := by decide +kernel
theorem mm1407 : m_mok m_Z m_strs 1407 := m_mok_of (i := 1407) (own := RX7) (mn := "readSum") (I := mi7_7) (S := []) rfl rfl rfl (by decide +kernel) (by decide) mp7 md1407 (by decide +kernel) (fun _ h => absurd h List.not_mem_nil) (fun _ h => absurd h List.not_mem_nil)
theorem md1408 : ∀ z ∈ mc7_8, decode (m_B 1408) z.1 = .ok (z.2.1, z.2.2) := by decide +kernel
theorem mm1408 : m_mok m_Z m_strs 1408 := m_mok_of (i := 1408) (own := RX7) (mn := "refuse") (I := mi7_8) (S := []) rfl rfl rfl (by decide +kernel) (by decide) mp7 md1408 (by decide +kernel) (fun _ h => absurd h List.not_mem_nil) (fun _ h => absurd h List.not_mem_nil)
theorem md1409 : ∀ z ∈ mc7_9, decode (m_B 1409) z.1 = .ok (z.2.1, z.2.2) := by decide +kernel
theorem mm1409 : m_mok m_Z m_strs 1409 := m_mok_of (i := 1409) (own := RX7) (mn := "lookAt") (I := mi7_9) (S := []) rfl rfl rfl (by decide +kernel) (by decide) mp7 md1409 (by decide +kernel) (fun _ h => absurd h List.not_mem_nil) (fun _ h => absurd h List.not_mem_nil)
theorem md1410 : ∀ z ∈ mc7_10, decode (m_B 1410) z.1 = .ok (z.2.1, z.2.2) := by decide +kernel
theorem mm1410 : m_mok m_Z m_strs 1410 := m_mok_of (i := 1410) (own := RX7) (mn := "write") (I := mi7_10) (S := []) rfl rfl rfl (by decide +kernel) (by decide) mp7 md1410 (by decide +kernel) (fun _ h => absurd h List.not_mem_nil) (fun _ h => absurd h List.not_mem_nil)
