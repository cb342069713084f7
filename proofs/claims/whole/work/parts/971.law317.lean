/-! ===== m_: the law decoded, piece 17 (printed) ===== -/
theorem md2635_17a : ∀ z ∈ mc13_35_17.take 25, decode (m_B 2635) z.1 = .ok (z.2.1, z.2.2) := by decide +kernel
theorem md2635_17b : ∀ z ∈ (mc13_35_17.drop 25).take 25, decode (m_B 2635) z.1 = .ok (z.2.1, z.2.2) := by decide +kernel
theorem md2635_17c : ∀ z ∈ (mc13_35_17.drop 50).take 25, decode (m_B 2635) z.1 = .ok (z.2.1, z.2.2) := by decide +kernel
theorem md2635_17d : ∀ z ∈ mc13_35_17.drop 75, decode (m_B 2635) z.1 = .ok (z.2.1, z.2.2) := by decide +kernel
theorem md2635_17 : ∀ z ∈ mc13_35_17, decode (m_B 2635) z.1 = .ok (z.2.1, z.2.2) := fa_4 md2635_17a md2635_17b md2635_17c md2635_17d
