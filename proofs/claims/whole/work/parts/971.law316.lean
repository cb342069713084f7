/-! ===== m_: the law decoded, piece 16 (printed) ===== -/
theorem md2635_16a : ∀ z ∈ mc13_35_16.take 25, decode (m_B 2635) z.1 = .ok (z.2.1, z.2.2) := by decide +kernel
theorem md2635_16b : ∀ z ∈ (mc13_35_16.drop 25).take 25, decode (m_B 2635) z.1 = .ok (z.2.1, z.2.2) := by decide +kernel
theorem md2635_16c : ∀ z ∈ (mc13_35_16.drop 50).take 25, decode (m_B 2635) z.1 = .ok (z.2.1, z.2.2) := by decide +kernel
theorem md2635_16d : ∀ z ∈ mc13_35_16.drop 75, decode (m_B 2635) z.1 = .ok (z.2.1, z.2.2) := by decide +kernel
theorem md2635_16 : ∀ z ∈ mc13_35_16, decode (m_B 2635) z.1 = .ok (z.2.1, z.2.2) := fa_4 md2635_16a md2635_16b md2635_16c md2635_16d
