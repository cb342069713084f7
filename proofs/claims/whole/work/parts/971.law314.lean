/-! ===== m_: the law decoded, piece 14 (printed) ===== -/
theorem md2635_14 : ∀ z ∈ mc13_35_14, decode (m_B 2635) z.1 = .ok (z.2.1, z.2.2) := by decide +kernel
