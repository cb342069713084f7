/-! ===== m_: methods of class 2 by the tables (printed) ===== -/
theorem md400 : ∀ z ∈ mc2_0, decode (m_B 400) z.1 = .ok (z.2.1, z.2.2) := by decide +kernel
theorem mm400 : m_mok m_Z m_strs 400 := m_mok_of (i := 400) (own := RX2) (mn := "<init>") (I := mi2_0) (S := []) rfl rfl rfl (by decide +kernel) (by decide) mp2 md400 (by decide +kernel) (fun _ h => absurd h List.not_mem_nil) (fun _ h => absurd h List.not_mem_nil)
theorem md401 : ∀ z ∈ mc2_1, decode (m_B 401) z.1 = .ok (z.2.1, z.2.2) := by decide +kernel
theorem mm401 : m_mok m_Z m_strs 401 := m_mok_of (i := 401) (own := RX2) (mn := "call") (I := mi2_1) (S := []) rfl rfl rfl (by decide +kernel) (by decide) mp2 md401 (by decide +kernel) (fun _ h => absurd h List.not_mem_nil) (fun _ h => absurd h List.not_mem_nil)
theorem md402 : ∀ z ∈ mc2_2, decode (m_B 402) z.1 = .ok (z.2.1, z.2.2) := by decide +kernel
theorem mm402 : m_mok m_Z m_strs 402 := m_mok_of (i := 402) (own := RX2) (mn := "nextCalled") (I := mi2_2) (S := []) rfl rfl rfl (by decide +kernel) (by decide) mp2 md402 (by decide +kernel) (fun _ h => absurd h List.not_mem_nil) (fun _ h => absurd h List.not_mem_nil)
theorem md403 : ∀ z ∈ mc2_3, decode (m_B 403) z.1 = .ok (z.2.1, z.2.2) := by decide +kernel
theorem mm403 : m_mok m_Z m_strs 403 := m_mok_of (i := 403) (own := RX2) (mn := "isAhead") (I := mi2_3) (S := []) rfl rfl rfl (by decide +kernel) (by decide) mp2 md403 (by decide +kernel) (fun _ h => absurd h List.not_mem_nil) (fun _ h => absurd h List.not_mem_nil)
theorem md404 : ∀ z ∈ mc2_4, decode (m_B 404) z.1 = .ok (z.2.1, z.2.2) := by decide +kernel
theorem mm404 : m_mok m_Z m_strs 404 := m_mok_of (i := 404) (own := RX2) (mn := "hear") (I := mi2_4) (S := []) rfl rfl rfl (by decide +kernel) (by decide) mp2 md404 (by decide +kernel) (fun _ h => absurd h List.not_mem_nil) (fun _ h => absurd h List.not_mem_nil)
theorem md405 : ∀ z ∈ mc2_5, decode (m_B 405) z.1 = .ok (z.2.1, z.2.2) := by decide +kernel
theorem mm405 : m_mok m_Z m_strs 405 := m_mok_of (i := 405) (own := RX2) (mn := "gather") (I := mi2_5) (S := []) rfl rfl rfl (by decide +kernel) (by decide) mp2 md405 (by decide +kernel) (fun _ h => absurd h List.not_mem_nil) (fun _ h => absurd h List.not_mem_nil)
theorem md406 : ∀ z ∈ mc2_6, decode (m_B 406) z.1 = .ok (z.2.1, z.2.2) := by decide +kernel
theorem mm406 : m_mok m_Z m_strs 406 := m_mok_of (i := 406) (own := RX2) (mn := "state") (I := mi2_6) (S := []) rfl rfl rfl (by decide +kernel) (by decide) mp2 md406 (by decide +kernel) (fun _ h => absurd h List.not_mem_nil) (fun _ h => absurd h List.not_mem_nil)
theorem md407 : ∀ z ∈ mc2_7, decode (m_B 407) z.1 = .ok (z.2.1, z.2.2) := by decide +kernel
theorem mm407 : m_mok m_Z m_strs 407 := m_mok_of (i := 407) (own := RX2) (mn := "why") (I := mi2_7) (S := []) rfl rfl rfl (by decide +kernel) (by decide) mp2 md407 (by decide +kernel) (fun _ h => absurd h List.not_mem_nil) (fun _ h => absurd h List.not_mem_nil)
theorem md408 : ∀ z ∈ mc2_8, decode (m_B 408) z.1 = .ok (z.2.1, z.2.2) := by decide +kernel
theorem mm408 : m_mok m_Z m_strs 408 := m_mok_of (i := 408) (own := RX2) (mn := "sumOfMarks") (I := mi2_8) (S := []) rfl rfl rfl (by decide +kernel) (by decide) mp2 md408 (by decide +kernel) (fun _ h => absurd h List.not_mem_nil) (fun _ h => absurd h List.not_mem_nil)
theorem md409 : ∀ z ∈ mc2_9, decode (m_B 409) z.1 = .ok (z.2.1, z.2.2) := by decide +kernel
theorem mm409 : m_mok m_Z m_strs 409 := m_mok_of (i := 409) (own := RX2) (mn := "greatestOwe") (I := mi2_9) (S := []) rfl rfl rfl (by decide +kernel) (by decide) mp2 md409 (by decide +kernel) (fun _ h => absurd h List.not_mem_nil) (fun _ h => absurd h List.not_mem_nil)
theorem md410 : ∀ z ∈ mc2_10, decode (m_B 410) z.1 = .ok (z.2.1, z.2.2) := by decide +kernel
theorem mm410 : m_mok m_Z m_strs 410 := m_mok_of (i := 410) (own := RX2) (mn := "holds") (I := mi2_10) (S := []) rfl rfl rfl (by decide +kernel) (by decide) mp2 md410 (by decide +kernel) (fun _ h => absurd h List.not_mem_nil) (fun _ h => absurd h List.not_mem_nil)
theorem md411 : ∀ z ∈ mc2_11, decode (m_B 411) z.1 = .ok (z.2.1, z.2.2) := by decide +kernel
theorem mm411 : m_mok m_Z m_strs 411 := m_mok_of (i := 411) (own := RX2) (mn := "follow") (I := mi2_11) (S := []) rfl rfl rfl (by decide +kernel) (by decide) mp2 md411 (by decide +kernel) (fun _ h => absurd h List.not_mem_nil) (fun _ h => absurd h List.not_mem_nil)
theorem md412 : ∀ z ∈ mc2_12, decode (m_B 412) z.1 = .ok (z.2.1, z.2.2) := by decide +kernel
theorem mm412 : m_mok m_Z m_strs 412 := m_mok_of (i := 412) (own := RX2) (mn := "joined") (I := mi2_12) (S := []) rfl rfl rfl (by decide +kernel) (by decide) mp2 md412 (by decide +kernel) (fun _ h => absurd h List.not_mem_nil) (fun _ h => absurd h List.not_mem_nil)
theorem md413 : ∀ z ∈ mc2_13, decode (m_B 413) z.1 = .ok (z.2.1, z.2.2) := by decide +kernel
theorem mm413 : m_mok m_Z m_strs 413 := m_mok_of (i := 413) (own := RX2) (mn := "push") (I := mi2_13) (S := []) rfl rfl rfl (by decide +kernel) (by decide) mp2 md413 (by decide +kernel) (fun _ h => absurd h List.not_mem_nil) (fun _ h => absurd h List.not_mem_nil)
theorem md414 : ∀ z ∈ mc2_14, decode (m_B 414) z.1 = .ok (z.2.1, z.2.2) := by decide +kernel
theorem mm414 : m_mok m_Z m_strs 414 := m_mok_of (i := 414) (own := RX2) (mn := "pop") (I := mi2_14) (S := []) rfl rfl rfl (by decide +kernel) (by decide) mp2 md414 (by decide +kernel) (fun _ h => absurd h List.not_mem_nil) (fun _ h => absurd h List.not_mem_nil)
