/-! ===== m_: the law decoded, piece 19 (printed) ===== -/
theorem md2635_19a : ∀ z ∈ mc13_35_19.take 25, decode (m_B 2635) z.1 = .ok (z.2.1, z.2.2) := by decide +kernel
theorem md2635_19b : ∀ z ∈ (mc13_35_19.drop 25).take 25, decode (m_B 2635) z.1 = .ok (z.2.1, z.2.2) := by decide +kernel
theorem md2635_19c : ∀ z ∈ (mc13_35_19.drop 50).take 25, decode (m_B 2635) z.1 = .ok (z.2.1, z.2.2) := by decide +kernel
theorem md2635_19d : ∀ z ∈ mc13_35_19.drop 75, decode (m_B 2635) z.1 = .ok (z.2.1, z.2.2) := by decide +kernel
theorem md2635_19 : ∀ z ∈ mc13_35_19, decode (m_B 2635) z.1 = .ok (z.2.1, z.2.2) := fa_4 md2635_19a md2635_19b md2635_19c md2635_19d
