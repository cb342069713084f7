/-! ===== m_: the law decoded, piece 8 (printed) ===== -/
theorem md2635_8 : ∀ z ∈ mc13_35_8, decode (m_B 2635) z.1 = .ok (z.2.1, z.2.2) := by decide +kernel
/-! ===== m_: the law decoded, piece 9 (printed) ===== -/
theorem md2635_9 : ∀ z ∈ mc13_35_9, decode (m_B 2635) z.1 = .ok (z.2.1, z.2.2) := by decide +kernel
/-! ===== m_: the law decoded, piece 10 (printed) ===== -/
theorem md2635_10 : ∀ z ∈ mc13_35_10, decode (m_B 2635) z.1 = .ok (z.2.1, z.2.2) := by decide +kernel
/-! ===== m_: the law decoded, piece 11 (printed) ===== -/
theorem md2635_11 : ∀ z ∈ mc13_35_11, decode (m_B 2635) z.1 = .ok (z.2.1, z.2.2) := by decide +kernel
