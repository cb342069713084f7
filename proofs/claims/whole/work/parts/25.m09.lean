/-! ===== m_: methods of class 9 by the tables (printed) ===== -/
theorem md1800 : ∀ z ∈ mc9_0, decode (m_B 1800) z.1 = .ok (z.2.1, z.2.2) := by decide +kernel
theorem mm1800 : m_mok m_Z m_strs 1800 := m_mok_of (i := 1800) (own := RX9) (mn := "<init>") (I := mi9_0) (S := []) rfl rfl rfl (by decide +kernel) (by decide) mp9 md1800 (by decide +kernel) (fun _ h => absurd h List.not_mem_nil) (fun _ h => absurd h List.not_mem_nil)
theorem md1801 : ∀ z ∈ mc9_1, decode (m_B 1801) z.1 = .ok (z.2.1, z.2.2) := by decide +kernel
theorem mm1801 : m_mok m_Z m_strs 1801 := m_mok_of (i := 1801) (own := RX9) (mn := "put") (I := mi9_1) (S := []) rfl rfl rfl (by decide +kernel) (by decide) mp9 md1801 (by decide +kernel) (fun _ h => absurd h List.not_mem_nil) (fun _ h => absurd h List.not_mem_nil)
theorem md1802 : ∀ z ∈ mc9_2, decode (m_B 1802) z.1 = .ok (z.2.1, z.2.2) := by decide +kernel
theorem mm1802 : m_mok m_Z m_strs 1802 := m_mok_of (i := 1802) (own := RX9) (mn := "useUp") (I := mi9_2) (S := []) rfl rfl rfl (by decide +kernel) (by decide) mp9 md1802 (by decide +kernel) (fun _ h => absurd h List.not_mem_nil) (fun _ h => absurd h List.not_mem_nil)
theorem md1803 : ∀ z ∈ mc9_3, decode (m_B 1803) z.1 = .ok (z.2.1, z.2.2) := by decide +kernel
theorem mm1803 : m_mok m_Z m_strs 1803 := m_mok_of (i := 1803) (own := RX9) (mn := "split") (I := mi9_3) (S := []) rfl rfl rfl (by decide +kernel) (by decide) mp9 md1803 (by decide +kernel) (fun _ h => absurd h List.not_mem_nil) (fun _ h => absurd h List.not_mem_nil)
theorem md1804 : ∀ z ∈ mc9_4, decode (m_B 1804) z.1 = .ok (z.2.1, z.2.2) := by decide +kernel
theorem mm1804 : m_mok m_Z m_strs 1804 := m_mok_of (i := 1804) (own := RX9) (mn := "skipBlanks") (I := mi9_4) (S := []) rfl rfl rfl (by decide +kernel) (by decide) mp9 md1804 (by decide +kernel) (fun _ h => absurd h List.not_mem_nil) (fun _ h => absurd h List.not_mem_nil)
theorem md1805 : ∀ z ∈ mc9_5, decode (m_B 1805) z.1 = .ok (z.2.1, z.2.2) := by decide +kernel
theorem mm1805 : m_mok m_Z m_strs 1805 := m_mok_of (i := 1805) (own := RX9) (mn := "splitOff") (I := mi9_5) (S := []) rfl rfl rfl (by decide +kernel) (by decide) mp9 md1805 (by decide +kernel) (fun _ h => absurd h List.not_mem_nil) (fun _ h => absurd h List.not_mem_nil)
theorem md1806 : ∀ z ∈ mc9_6, decode (m_B 1806) z.1 = .ok (z.2.1, z.2.2) := by decide +kernel
theorem mm1806 : m_mok m_Z m_strs 1806 := m_mok_of (i := 1806) (own := RX9) (mn := "passNumber") (I := mi9_6) (S := []) rfl rfl rfl (by decide +kernel) (by decide) mp9 md1806 (by decide +kernel) (fun _ h => absurd h List.not_mem_nil) (fun _ h => absurd h List.not_mem_nil)
theorem md1807 : ∀ z ∈ mc9_7, decode (m_B 1807) z.1 = .ok (z.2.1, z.2.2) := by decide +kernel
theorem mm1807 : m_mok m_Z m_strs 1807 := m_mok_of (i := 1807) (own := RX9) (mn := "passWord") (I := mi9_7) (S := []) rfl rfl rfl (by decide +kernel) (by decide) mp9 md1807 (by decide +kernel) (fun _ h => absurd h List.not_mem_nil) (fun _ h => absurd h List.not_mem_nil)
theorem md1808 : ∀ z ∈ mc9_8, decode (m_B 1808) z.1 = .ok (z.2.1, z.2.2) := by decide +kernel
theorem mm1808 : m_mok m_Z m_strs 1808 := m_mok_of (i := 1808) (own := RX9) (mn := "wordFrom") (I := mi9_8) (S := []) rfl rfl rfl (by decide +kernel) (by decide) mp9 md1808 (by decide +kernel) (fun _ h => absurd h List.not_mem_nil) (fun _ h => absurd h List.not_mem_nil)
theorem md1809 : ∀ z ∈ mc9_9, decode (m_B 1809) z.1 = .ok (z.2.1, z.2.2) := by decide +kernel
theorem mm1809 : m_mok m_Z m_strs 1809 := m_mok_of (i := 1809) (own := RX9) (mn := "stands") (I := mi9_9) (S := []) rfl rfl rfl (by decide +kernel) (by decide) mp9 md1809 (by decide +kernel) (fun _ h => absurd h List.not_mem_nil) (fun _ h => absurd h List.not_mem_nil)
theorem md1810 : ∀ z ∈ mc9_10, decode (m_B 1810) z.1 = .ok (z.2.1, z.2.2) := by decide +kernel
theorem mm1810 : m_mok m_Z m_strs 1810 := m_mok_of (i := 1810) (own := RX9) (mn := "addThing") (I := mi9_10) (S := []) rfl rfl rfl (by decide +kernel) (by decide) mp9 md1810 (by decide +kernel) (fun _ h => absurd h List.not_mem_nil) (fun _ h => absurd h List.not_mem_nil)
theorem md1811 : ∀ z ∈ mc9_11, decode (m_B 1811) z.1 = .ok (z.2.1, z.2.2) := by decide +kernel
theorem mm1811 : m_mok m_Z m_strs 1811 := m_mok_of (i := 1811) (own := RX9) (mn := "numberAt") (I := mi9_11) (S := []) rfl rfl rfl (by decide +kernel) (by decide) mp9 md1811 (by decide +kernel) (fun _ h => absurd h List.not_mem_nil) (fun _ h => absurd h List.not_mem_nil)
theorem md1812 : ∀ z ∈ mc9_12, decode (m_B 1812) z.1 = .ok (z.2.1, z.2.2) := by decide +kernel
theorem mm1812 : m_mok m_Z m_strs 1812 := m_mok_of (i := 1812) (own := RX9) (mn := "byteAt") (I := mi9_12) (S := []) rfl rfl rfl (by decide +kernel) (by decide) mp9 md1812 (by decide +kernel) (fun _ h => absurd h List.not_mem_nil) (fun _ h => absurd h List.not_mem_nil)
theorem md1813 : ∀ z ∈ mc9_13, decode (m_B 1813) z.1 = .ok (z.2.1, z.2.2) := by decide +kernel
theorem mm1813 : m_mok m_Z m_strs 1813 := m_mok_of (i := 1813) (own := RX9) (mn := "isDigit") (I := mi9_13) (S := []) rfl rfl rfl (by decide +kernel) (by decide) mp9 md1813 (by decide +kernel) (fun _ h => absurd h List.not_mem_nil) (fun _ h => absurd h List.not_mem_nil)
theorem md1814 : ∀ z ∈ mc9_14, decode (m_B 1814) z.1 = .ok (z.2.1, z.2.2) := by decide +kernel
theorem mm1814 : m_mok m_Z m_strs 1814 := m_mok_of (i := 1814) (own := RX9) (mn := "isLetter") (I := mi9_14) (S := []) rfl rfl rfl (by decide +kernel) (by decide) mp9 md1814 (by decide +kernel) (fun _ h => absurd h List.not_mem_nil) (fun _ h => absurd h List.not_mem_nil)
theorem md1815 : ∀ z ∈ mc9_15, decode (m_B 1815) z.1 = .ok (z.2.1, z.2.2) := by decide +kernel
theorem mm1815 : m_mok m_Z m_strs 1815 := m_mok_of (i := 1815) (own := RX9) (mn := "wordNumbered") (I := mi9_15) (S := []) rfl rfl rfl (by decide +kernel) (by decide) mp9 md1815 (by decide +kernel) (fun _ h => absurd h List.not_mem_nil) (fun _ h => absurd h List.not_mem_nil)
theorem md1816 : ∀ z ∈ mc9_16, decode (m_B 1816) z.1 = .ok (z.2.1, z.2.2) := by decide +kernel
theorem mm1816 : m_mok m_Z m_strs 1816 := m_mok_of (i := 1816) (own := RX9) (mn := "factNumbered") (I := mi9_16) (S := []) rfl rfl rfl (by decide +kernel) (by decide) mp9 md1816 (by decide +kernel) (fun _ h => absurd h List.not_mem_nil) (fun _ h => absurd h List.not_mem_nil)
