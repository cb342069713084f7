/-! ===== m_: the law decoded, piece 13 (printed) ===== -/
theorem md2635_13 : ∀ z ∈ mc13_35_13, decode (m_B 2635) z.1 = .ok (z.2.1, z.2.2) := by decide +kernel
