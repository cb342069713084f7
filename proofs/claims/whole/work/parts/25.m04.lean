/-! ===== m_: methods of class 4 by the tables (printed) ===== -/
theorem md800 : ∀ z ∈ mc4_0, decode (m_B 800) z.1 = .ok (z.2.1, z.2.2) := by decide +kernel
theorem mm800 : m_mok m_Z m_strs 800 := m_mok_of (i := 800) (own := RX4) (mn := "<init>") (I := mi4_0) (S := []) rfl rfl rfl (by decide +kernel) (by decide) mp4 md800 (by decide +kernel) (fun _ h => absurd h List.not_mem_nil) (fun _ h => absurd h List.not_mem_nil)
theorem md801 : ∀ z ∈ mc4_1, decode (m_B 801) z.1 = .ok (z.2.1, z.2.2) := by decide +kernel
theorem mm801 : m_mok m_Z m_strs 801 := m_mok_of (i := 801) (own := RX4) (mn := "plan") (I := mi4_1) (S := []) rfl rfl rfl (by decide +kernel) (by decide) mp4 md801 (by decide +kernel) (fun _ h => absurd h List.not_mem_nil) (fun _ h => absurd h List.not_mem_nil)
theorem md802 : ∀ z ∈ mc4_2, decode (m_B 802) z.1 = .ok (z.2.1, z.2.2) := by decide +kernel
theorem mm802 : m_mok m_Z m_strs 802 := m_mok_of (i := 802) (own := RX4) (mn := "send") (I := mi4_2) (S := []) rfl rfl rfl (by decide +kernel) (by decide) mp4 md802 (by decide +kernel) (fun _ h => absurd h List.not_mem_nil) (fun _ h => absurd h List.not_mem_nil)
theorem md803 : ∀ z ∈ mc4_3, decode (m_B 803) z.1 = .ok (z.2.1, z.2.2) := by decide +kernel
theorem mm803 : m_mok m_Z m_strs 803 := m_mok_of (i := 803) (own := RX4) (mn := "lacking") (I := mi4_3) (S := []) rfl rfl rfl (by decide +kernel) (by decide) mp4 md803 (by decide +kernel) (fun _ h => absurd h List.not_mem_nil) (fun _ h => absurd h List.not_mem_nil)
theorem md804 : ∀ z ∈ mc4_4, decode (m_B 804) z.1 = .ok (z.2.1, z.2.2) := by decide +kernel
theorem mm804 : m_mok m_Z m_strs 804 := m_mok_of (i := 804) (own := RX4) (mn := "leastLost") (I := mi4_4) (S := []) rfl rfl rfl (by decide +kernel) (by decide) mp4 md804 (by decide +kernel) (fun _ h => absurd h List.not_mem_nil) (fun _ h => absurd h List.not_mem_nil)
theorem md805 : ∀ z ∈ mc4_5, decode (m_B 805) z.1 = .ok (z.2.1, z.2.2) := by decide +kernel
theorem mm805 : m_mok m_Z m_strs 805 := m_mok_of (i := 805) (own := RX4) (mn := "landOf") (I := mi4_5) (S := []) rfl rfl rfl (by decide +kernel) (by decide) mp4 md805 (by decide +kernel) (fun _ h => absurd h List.not_mem_nil) (fun _ h => absurd h List.not_mem_nil)
