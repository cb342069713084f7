/-! ===== m_: the law decoded, piece 15 (printed) ===== -/
theorem fa_4 {α : Type} {P : α → Prop} {l : List α} (a : ∀ z ∈ l.take 25, P z) (b : ∀ z ∈ (l.drop 25).take 25, P z) (c : ∀ z ∈ (l.drop 50).take 25, P z) (d : ∀ z ∈ l.drop 75, P z) : ∀ z ∈ l, P z := by
  intro z hz
  rw [← List.take_append_drop 25 l] at hz
  rcases List.mem_append.mp hz with h | h
  · exact a z h
  · rw [← List.take_append_drop 25 (l.drop 25)] at h
    rcases List.mem_append.mp h with h | h
    · exact b z h
    · rw [List.drop_drop, ← List.take_append_drop 25 (l.drop (25 + 25))] at h
      rcases List.mem_append.mp h with h | h
      · exact c z h
      · rw [List.drop_drop] at h
        exact d z h

theorem md2635_15a : ∀ z ∈ mc13_35_15.take 25, decode (m_B 2635) z.1 = .ok (z.2.1, z.2.2) := by decide +kernel
theorem md2635_15b : ∀ z ∈ (mc13_35_15.drop 25).take 25, decode (m_B 2635) z.1 = .ok (z.2.1, z.2.2) := by decide +kernel
theorem md2635_15c : ∀ z ∈ (mc13_35_15.drop 50).take 25, decode (m_B 2635) z.1 = .ok (z.2.1, z.2.2) := by decide +kernel
theorem md2635_15d : ∀ z ∈ mc13_35_15.drop 75, decode (m_B 2635) z.1 = .ok (z.2.1, z.2.2) := by decide +kernel
theorem md2635_15 : ∀ z ∈ mc13_35_15, decode (m_B 2635) z.1 = .ok (z.2.1, z.2.2) := fa_4 md2635_15a md2635_15b md2635_15c md2635_15d
