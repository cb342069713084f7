/-! ===== m_: methods of class 10 by the tables (printed) ===== -/
theorem md2000 : ∀ z ∈ mc10_0, decode (m_B 2000) z.1 = .ok (z.2.1, z.2.2) := by decide +kernel
theorem mm2000 : m_mok m_Z m_strs 2000 := m_mok_of (i := 2000) (own := RX10) (mn := "pass") (I := mi10_0) (S := []) rfl rfl rfl (by decide +kernel) (by decide) mp10 md2000 (by decide +kernel) (fun _ h => absurd h List.not_mem_nil) (fun _ h => absurd h List.not_mem_nil)
theorem md2001 : ∀ z ∈ mc10_1, decode (m_B 2001) z.1 = .ok (z.2.1, z.2.2) := by decide +kernel
theorem mm2001 : m_mok m_Z m_strs 2001 := m_mok_of (i := 2001) (own := RX10) (mn := "beginOrders") (I := mi10_1) (S := []) rfl rfl rfl (by decide +kernel) (by decide) mp10 md2001 (by decide +kernel) (fun _ h => absurd h List.not_mem_nil) (fun _ h => absurd h List.not_mem_nil)
theorem md2002 : ∀ z ∈ mc10_2, decode (m_B 2002) z.1 = .ok (z.2.1, z.2.2) := by decide +kernel
theorem mm2002 : m_mok m_Z m_strs 2002 := m_mok_of (i := 2002) (own := RX10) (mn := "workOnOrders") (I := mi10_2) (S := []) rfl rfl rfl (by decide +kernel) (by decide) mp10 md2002 (by decide +kernel) (fun _ h => absurd h List.not_mem_nil) (fun _ h => absurd h List.not_mem_nil)
theorem md2003 : ∀ z ∈ mc10_3, decode (m_B 2003) z.1 = .ok (z.2.1, z.2.2) := by decide +kernel
theorem mm2003 : m_mok m_Z m_strs 2003 := m_mok_of (i := 2003) (own := RX10) (mn := "workOn") (I := mi10_3) (S := []) rfl rfl rfl (by decide +kernel) (by decide) mp10 md2003 (by decide +kernel) (fun _ h => absurd h List.not_mem_nil) (fun _ h => absurd h List.not_mem_nil)
theorem md2004 : ∀ z ∈ mc10_4, decode (m_B 2004) z.1 = .ok (z.2.1, z.2.2) := by decide +kernel
theorem mm2004 : m_mok m_Z m_strs 2004 := m_mok_of (i := 2004) (own := RX10) (mn := "goBySea") (I := mi10_4) (S := []) rfl rfl rfl (by decide +kernel) (by decide) mp10 md2004 (by decide +kernel) (fun _ h => absurd h List.not_mem_nil) (fun _ h => absurd h List.not_mem_nil)
theorem md2005 : ∀ z ∈ mc10_5, decode (m_B 2005) z.1 = .ok (z.2.1, z.2.2) := by decide +kernel
theorem mm2005 : m_mok m_Z m_strs 2005 := m_mok_of (i := 2005) (own := RX10) (mn := "sink") (I := mi10_5) (S := []) rfl rfl rfl (by decide +kernel) (by decide) mp10 md2005 (by decide +kernel) (fun _ h => absurd h List.not_mem_nil) (fun _ h => absurd h List.not_mem_nil)
theorem md2006 : ∀ z ∈ mc10_6, decode (m_B 2006) z.1 = .ok (z.2.1, z.2.2) := by decide +kernel
theorem mm2006 : m_mok m_Z m_strs 2006 := m_mok_of (i := 2006) (own := RX10) (mn := "arriveAbroad") (I := mi10_6) (S := []) rfl rfl rfl (by decide +kernel) (by decide) mp10 md2006 (by decide +kernel) (fun _ h => absurd h List.not_mem_nil) (fun _ h => absurd h List.not_mem_nil)
theorem md2007 : ∀ z ∈ mc10_7, decode (m_B 2007) z.1 = .ok (z.2.1, z.2.2) := by decide +kernel
theorem mm2007 : m_mok m_Z m_strs 2007 := m_mok_of (i := 2007) (own := RX10) (mn := "arriveHome") (I := mi10_7) (S := []) rfl rfl rfl (by decide +kernel) (by decide) mp10 md2007 (by decide +kernel) (fun _ h => absurd h List.not_mem_nil) (fun _ h => absurd h List.not_mem_nil)
theorem md2008 : ∀ z ∈ mc10_8, decode (m_B 2008) z.1 = .ok (z.2.1, z.2.2) := by decide +kernel
theorem mm2008 : m_mok m_Z m_strs 2008 := m_mok_of (i := 2008) (own := RX10) (mn := "unload") (I := mi10_8) (S := []) rfl rfl rfl (by decide +kernel) (by decide) mp10 md2008 (by decide +kernel) (fun _ h => absurd h List.not_mem_nil) (fun _ h => absurd h List.not_mem_nil)
theorem md2009 : ∀ z ∈ mc10_9, decode (m_B 2009) z.1 = .ok (z.2.1, z.2.2) := by decide +kernel
theorem mm2009 : m_mok m_Z m_strs 2009 := m_mok_of (i := 2009) (own := RX10) (mn := "useGoods") (I := mi10_9) (S := []) rfl rfl rfl (by decide +kernel) (by decide) mp10 md2009 (by decide +kernel) (fun _ h => absurd h List.not_mem_nil) (fun _ h => absurd h List.not_mem_nil)
theorem md2010 : ∀ z ∈ mc10_10, decode (m_B 2010) z.1 = .ok (z.2.1, z.2.2) := by decide +kernel
theorem mm2010 : m_mok m_Z m_strs 2010 := m_mok_of (i := 2010) (own := RX10) (mn := "useSort") (I := mi10_10) (S := []) rfl rfl rfl (by decide +kernel) (by decide) mp10 md2010 (by decide +kernel) (fun _ h => absurd h List.not_mem_nil) (fun _ h => absurd h List.not_mem_nil)
theorem md2011 : ∀ z ∈ mc10_11, decode (m_B 2011) z.1 = .ok (z.2.1, z.2.2) := by decide +kernel
theorem mm2011 : m_mok m_Z m_strs 2011 := m_mok_of (i := 2011) (own := RX10) (mn := "collectYields") (I := mi10_11) (S := []) rfl rfl rfl (by decide +kernel) (by decide) mp10 md2011 (by decide +kernel) (fun _ h => absurd h List.not_mem_nil) (fun _ h => absurd h List.not_mem_nil)
