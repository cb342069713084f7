/-! ===== m_: the law decoded, piece 18 (printed) ===== -/
theorem md2635_18a : ∀ z ∈ mc13_35_18.take 25, decode (m_B 2635) z.1 = .ok (z.2.1, z.2.2) := by decide +kernel
theorem md2635_18b : ∀ z ∈ (mc13_35_18.drop 25).take 25, decode (m_B 2635) z.1 = .ok (z.2.1, z.2.2) := by decide +kernel
theorem md2635_18c : ∀ z ∈ (mc13_35_18.drop 50).take 25, decode (m_B 2635) z.1 = .ok (z.2.1, z.2.2) := by decide +kernel
theorem md2635_18d : ∀ z ∈ mc13_35_18.drop 75, decode (m_B 2635) z.1 = .ok (z.2.1, z.2.2) := by decide +kernel
theorem md2635_18 : ∀ z ∈ mc13_35_18, decode (m_B 2635) z.1 = .ok (z.2.1, z.2.2) := fa_4 md2635_18a md2635_18b md2635_18c md2635_18d
