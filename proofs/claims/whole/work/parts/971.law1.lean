/-! ===== m_: the law decoded, piece 4 (printed) ===== -/
theorem md2635_4 : ∀ z ∈ mc13_35_4, decode (m_B 2635) z.1 = .ok (z.2.1, z.2.2) := by decide +kernel
/-! ===== m_: the law decoded, piece 5 (printed) ===== -/
theorem md2635_5 : ∀ z ∈ mc13_35_5, decode (m_B 2635) z.1 = .ok (z.2.1, z.2.2) := by decide +kernel
/-! ===== m_: the law decoded, piece 6 (printed) ===== -/
theorem md2635_6 : ∀ z ∈ mc13_35_6, decode (m_B 2635) z.1 = .ok (z.2.1, z.2.2) := by decide +kernel
/-! ===== m_: the law decoded, piece 7 (printed) ===== -/
theorem md2635_7 : ∀ z ∈ mc13_35_7, decode (m_B 2635) z.1 = .ok (z.2.1, z.2.2) := by decide +kernel
