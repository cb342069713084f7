/-! ===== m_: the law decoded, piece 0 (printed) ===== -/
theorem md2635_0 : ∀ z ∈ mc13_35_0, decode (m_B 2635) z.1 = .ok (z.2.1, z.2.2) := by decide +kernel
/-! ===== m_: the law decoded, piece 1 (printed) ===== -/
theorem md2635_1 : ∀ z ∈ mc13_35_1, decode (m_B 2635) z.1 = .ok (z.2.1, z.2.2) := by decide +kernel
/-! ===== m_: the law decoded, piece 2 (printed) ===== -/
theorem md2635_2 : ∀ z ∈ mc13_35_2, decode (m_B 2635) z.1 = .ok (z.2.1, z.2.2) := by decide +kernel
/-! ===== m_: the law decoded, piece 3 (printed) ===== -/
theorem md2635_3 : ∀ z ∈ mc13_35_3, decode (m_B 2635) z.1 = .ok (z.2.1, z.2.2) := by decide +kernel
