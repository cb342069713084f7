/-! ===== m_: every method by the tables (printed) ===== -/
def m_hck (own : String) (ic E : Nat) : Bool := (m_atX own ic (m_en E) (m_xi E) (m_xr E) m_nmsX).all (fun w => (goodWord w || m_isN w) && decide (w ∈ lw_tbl))
theorem m_hck_ok {own : String} {ic E : Nat} (h : m_hck own ic E = true) : ∀ w ∈ m_atX own ic (m_en E) (m_xi E) (m_xr E) m_nmsX, w ∈ m_Ts ∨ w ∈ m_Nt := by
  intro w hw
  have h1 := List.all_eq_true.mp h w hw
  simp only [Bool.or_eq_true, Bool.and_eq_true, decide_eq_true_eq] at h1
  obtain ⟨h1 | h1, h2⟩ := h1
  · exact Or.inl (m_Ts_of h2 h1)
  · exact Or.inr (List.mem_filter.mpr ⟨h2, h1⟩)
theorem m_hat0 : ∀ w ∈ m_atX RX11 211 (m_en 0) (m_xi 0) (m_xr 0) m_nmsX, w ∈ m_Ts ∨ w ∈ m_Nt := m_hck_ok (by decide +kernel)
theorem m_hgd0 : ∀ w ∈ Cond.classLink RX11 207 (m_en 0) :: Cond.initialized (m_en 0) :: m_atX RX11 211 (m_en 0) (m_xi 0) (m_xr 0) m_nmsX, vx_ot w = true := by decide +kernel
theorem m_hat1 : ∀ w ∈ m_atX RX11 87 (m_en 1) (m_xi 1) (m_xr 1) m_nmsX, w ∈ m_Ts ∨ w ∈ m_Nt := m_hck_ok (by decide +kernel)
theorem m_hgd1 : ∀ w ∈ Cond.classLink RX11 83 (m_en 1) :: Cond.initialized (m_en 1) :: m_atX RX11 87 (m_en 1) (m_xi 1) (m_xr 1) m_nmsX, vx_ot w = true := by decide +kernel
theorem m_hat2 : ∀ w ∈ m_atX RX11 105 (m_en 2) (m_xi 2) (m_xr 2) m_nmsX, w ∈ m_Ts ∨ w ∈ m_Nt := m_hck_ok (by decide +kernel)
theorem m_hgd2 : ∀ w ∈ Cond.classLink RX11 101 (m_en 2) :: Cond.initialized (m_en 2) :: m_atX RX11 105 (m_en 2) (m_xi 2) (m_xr 2) m_nmsX, vx_ot w = true := by decide +kernel
theorem m_hat3 : ∀ w ∈ m_atX RX11 488 (m_en 3) (m_xi 3) (m_xr 3) m_nmsX, w ∈ m_Ts ∨ w ∈ m_Nt := m_hck_ok (by decide +kernel)
theorem m_hgd3 : ∀ w ∈ Cond.classLink RX11 484 (m_en 3) :: Cond.initialized (m_en 3) :: m_atX RX11 488 (m_en 3) (m_xi 3) (m_xr 3) m_nmsX, vx_ot w = true := by decide +kernel
theorem m_hat4 : ∀ w ∈ m_atX RX11 175 (m_en 4) (m_xi 4) (m_xr 4) m_nmsX, w ∈ m_Ts ∨ w ∈ m_Nt := m_hck_ok (by decide +kernel)
theorem m_hgd4 : ∀ w ∈ Cond.classLink RX11 171 (m_en 4) :: Cond.initialized (m_en 4) :: m_atX RX11 175 (m_en 4) (m_xi 4) (m_xr 4) m_nmsX, vx_ot w = true := by decide +kernel
