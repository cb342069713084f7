/-! ===== m_: every method by the tables (printed) ===== -/
def m_hck (own : String) (ic E : Nat) : Bool := (vx_atS own ic (m_en E) m_nmsX).all (fun w => (goodWord w || m_isN w) && decide (w ∈ lw_tbl))
theorem m_hck_ok {own : String} {ic E : Nat} (h : m_hck own ic E = true) : ∀ w ∈ vx_atS own ic (m_en E) m_nmsX, w ∈ m_Ts ∨ w ∈ m_Nt := by
  intro w hw
  have h1 := List.all_eq_true.mp h w hw
  simp only [Bool.or_eq_true, Bool.and_eq_true, decide_eq_true_eq] at h1
  obtain ⟨h1 | h1, h2⟩ := h1
  · exact Or.inl (m_Ts_of h2 h1)
  · exact Or.inr (List.mem_filter.mpr ⟨h2, h1⟩)
theorem m_hat0 : ∀ w ∈ vx_atS RX11 211 (m_en 0) m_nmsX, w ∈ m_Ts ∨ w ∈ m_Nt := m_hck_ok (by decide +kernel)
theorem m_hgd0 : ∀ w ∈ Cond.classLink RX11 207 (m_en 0) :: Cond.initialized (m_en 0) :: vx_atS RX11 211 (m_en 0) m_nmsX, vx_ot w = true := by decide +kernel
theorem m_hat1 : ∀ w ∈ vx_atS RX11 87 (m_en 1) m_nmsX, w ∈ m_Ts ∨ w ∈ m_Nt := m_hck_ok (by decide +kernel)
theorem m_hgd1 : ∀ w ∈ Cond.classLink RX11 83 (m_en 1) :: Cond.initialized (m_en 1) :: vx_atS RX11 87 (m_en 1) m_nmsX, vx_ot w = true := by decide +kernel
theorem m_hat2 : ∀ w ∈ vx_atS RX11 105 (m_en 2) m_nmsX, w ∈ m_Ts ∨ w ∈ m_Nt := m_hck_ok (by decide +kernel)
theorem m_hgd2 : ∀ w ∈ Cond.classLink RX11 101 (m_en 2) :: Cond.initialized (m_en 2) :: vx_atS RX11 105 (m_en 2) m_nmsX, vx_ot w = true := by decide +kernel
theorem m_hat3 : ∀ w ∈ vx_atS RX11 488 (m_en 3) m_nmsX, w ∈ m_Ts ∨ w ∈ m_Nt := m_hck_ok (by decide +kernel)
theorem m_hgd3 : ∀ w ∈ Cond.classLink RX11 484 (m_en 3) :: Cond.initialized (m_en 3) :: vx_atS RX11 488 (m_en 3) m_nmsX, vx_ot w = true := by decide +kernel
theorem m_hat4 : ∀ w ∈ vx_atS RX11 175 (m_en 4) m_nmsX, w ∈ m_Ts ∨ w ∈ m_Nt := m_hck_ok (by decide +kernel)
theorem m_hgd4 : ∀ w ∈ Cond.classLink RX11 171 (m_en 4) :: Cond.initialized (m_en 4) :: vx_atS RX11 175 (m_en 4) m_nmsX, vx_ot w = true := by decide +kernel
theorem md0 : ∀ z ∈ mc0_0, decode (m_B 0) z.1 = .ok (z.2.1, z.2.2) := by decide +kernel
theorem mm0 : m_mok m_Z m_strs 0 := m_mok_of (i := 0) (own := RX0) (mn := "<init>") (I := mi0_0) (S := []) rfl rfl rfl (by decide +kernel) (by decide) mp0 md0 (by decide +kernel) (fun _ h => absurd h List.not_mem_nil) (fun _ h => absurd h List.not_mem_nil)
theorem md1 : ∀ z ∈ mc0_1, decode (m_B 1) z.1 = .ok (z.2.1, z.2.2) := by decide +kernel
theorem mm1 : m_mok m_Z m_strs 1 := m_mok_of (i := 1) (own := RX0) (mn := "kindOf") (I := mi0_1) (S := []) rfl rfl rfl (by decide +kernel) (by decide) mp0 md1 (by decide +kernel) (fun _ h => absurd h List.not_mem_nil) (fun _ h => absurd h List.not_mem_nil)
theorem md2 : ∀ z ∈ mc0_2, decode (m_B 2) z.1 = .ok (z.2.1, z.2.2) := by decide +kernel
theorem mm2 : m_mok m_Z m_strs 2 := m_mok_of (i := 2) (own := RX0) (mn := "numberOf") (I := mi0_2) (S := []) rfl rfl rfl (by decide +kernel) (by decide) mp0 md2 (by decide +kernel) (fun _ h => absurd h List.not_mem_nil) (fun _ h => absurd h List.not_mem_nil)
theorem md3 : ∀ z ∈ mc0_3, decode (m_B 3) z.1 = .ok (z.2.1, z.2.2) := by decide +kernel
theorem mm3 : m_mok m_Z m_strs 3 := m_mok_of (i := 3) (own := RX0) (mn := "endOf") (I := mi0_3) (S := []) rfl rfl rfl (by decide +kernel) (by decide) mp0 md3 (by decide +kernel) (fun _ h => absurd h List.not_mem_nil) (fun _ h => absurd h List.not_mem_nil)
theorem md200 : ∀ z ∈ mc1_0, decode (m_B 200) z.1 = .ok (z.2.1, z.2.2) := by decide +kernel
theorem mm200 : m_mok m_Z m_strs 200 := m_mok_of (i := 200) (own := RX1) (mn := "<init>") (I := mi1_0) (S := []) rfl rfl rfl (by decide +kernel) (by decide) mp1 md200 (by decide +kernel) (fun _ h => absurd h List.not_mem_nil) (fun _ h => absurd h List.not_mem_nil)
theorem md201 : ∀ z ∈ mc1_1, decode (m_B 201) z.1 = .ok (z.2.1, z.2.2) := by decide +kernel
theorem mm201 : m_mok m_Z m_strs 201 := m_mok_of (i := 201) (own := RX1) (mn := "write") (I := mi1_1) (S := []) rfl rfl rfl (by decide +kernel) (by decide) mp1 md201 (by decide +kernel) (fun _ h => absurd h List.not_mem_nil) (fun _ h => absurd h List.not_mem_nil)
theorem md202 : ∀ z ∈ mc1_2, decode (m_B 202) z.1 = .ok (z.2.1, z.2.2) := by decide +kernel
theorem mm202 : m_mok m_Z m_strs 202 := m_mok_of (i := 202) (own := RX1) (mn := "raise") (I := mi1_2) (S := []) rfl rfl rfl (by decide +kernel) (by decide) mp1 md202 (by decide +kernel) (fun _ h => absurd h List.not_mem_nil) (fun _ h => absurd h List.not_mem_nil)
theorem md203 : ∀ z ∈ mc1_3, decode (m_B 203) z.1 = .ok (z.2.1, z.2.2) := by decide +kernel
theorem mm203 : m_mok m_Z m_strs 203 := m_mok_of (i := 203) (own := RX1) (mn := "makeRoom") (I := mi1_3) (S := []) rfl rfl rfl (by decide +kernel) (by decide) mp1 md203 (by decide +kernel) (fun _ h => absurd h List.not_mem_nil) (fun _ h => absurd h List.not_mem_nil)
theorem md204 : ∀ z ∈ mc1_4, decode (m_B 204) z.1 = .ok (z.2.1, z.2.2) := by decide +kernel
theorem mm204 : m_mok m_Z m_strs 204 := m_mok_of (i := 204) (own := RX1) (mn := "at") (I := mi1_4) (S := []) rfl rfl rfl (by decide +kernel) (by decide) mp1 md204 (by decide +kernel) (fun _ h => absurd h List.not_mem_nil) (fun _ h => absurd h List.not_mem_nil)
theorem md205 : ∀ z ∈ mc1_5, decode (m_B 205) z.1 = .ok (z.2.1, z.2.2) := by decide +kernel
theorem mm205 : m_mok m_Z m_strs 205 := m_mok_of (i := 205) (own := RX1) (mn := "copyFrom") (I := mi1_5) (S := []) rfl rfl rfl (by decide +kernel) (by decide) mp1 md205 (by decide +kernel) (fun _ h => absurd h List.not_mem_nil) (fun _ h => absurd h List.not_mem_nil)
theorem md400 : ∀ z ∈ mc2_0, decode (m_B 400) z.1 = .ok (z.2.1, z.2.2) := by decide +kernel
theorem mm400 : m_mok m_Z m_strs 400 := m_mok_of (i := 400) (own := RX2) (mn := "<init>") (I := mi2_0) (S := []) rfl rfl rfl (by decide +kernel) (by decide) mp2 md400 (by decide +kernel) (fun _ h => absurd h List.not_mem_nil) (fun _ h => absurd h List.not_mem_nil)
theorem md401 : ∀ z ∈ mc2_1, decode (m_B 401) z.1 = .ok (z.2.1, z.2.2) := by decide +kernel
theorem mm401 : m_mok m_Z m_strs 401 := m_mok_of (i := 401) (own := RX2) (mn := "call") (I := mi2_1) (S := []) rfl rfl rfl (by decide +kernel) (by decide) mp2 md401 (by decide +kernel) (fun _ h => absurd h List.not_mem_nil) (fun _ h => absurd h List.not_mem_nil)
theorem md402 : ∀ z ∈ mc2_2, decode (m_B 402) z.1 = .ok (z.2.1, z.2.2) := by decide +kernel
theorem mm402 : m_mok m_Z m_strs 402 := m_mok_of (i := 402) (own := RX2) (mn := "nextCalled") (I := mi2_2) (S := []) rfl rfl rfl (by decide +kernel) (by decide) mp2 md402 (by decide +kernel) (fun _ h => absurd h List.not_mem_nil) (fun _ h => absurd h List.not_mem_nil)
theorem md403 : ∀ z ∈ mc2_3, decode (m_B 403) z.1 = .ok (z.2.1, z.2.2) := by decide +kernel
theorem mm403 : m_mok m_Z m_strs 403 := m_mok_of (i := 403) (own := RX2) (mn := "isAhead") (I := mi2_3) (S := []) rfl rfl rfl (by decide +kernel) (by decide) mp2 md403 (by decide +kernel) (fun _ h => absurd h List.not_mem_nil) (fun _ h => absurd h List.not_mem_nil)
theorem md404 : ∀ z ∈ mc2_4, decode (m_B 404) z.1 = .ok (z.2.1, z.2.2) := by decide +kernel
theorem mm404 : m_mok m_Z m_strs 404 := m_mok_of (i := 404) (own := RX2) (mn := "hear") (I := mi2_4) (S := []) rfl rfl rfl (by decide +kernel) (by decide) mp2 md404 (by decide +kernel) (fun _ h => absurd h List.not_mem_nil) (fun _ h => absurd h List.not_mem_nil)
theorem md405 : ∀ z ∈ mc2_5, decode (m_B 405) z.1 = .ok (z.2.1, z.2.2) := by decide +kernel
theorem mm405 : m_mok m_Z m_strs 405 := m_mok_of (i := 405) (own := RX2) (mn := "gather") (I := mi2_5) (S := []) rfl rfl rfl (by decide +kernel) (by decide) mp2 md405 (by decide +kernel) (fun _ h => absurd h List.not_mem_nil) (fun _ h => absurd h List.not_mem_nil)
theorem md406 : ∀ z ∈ mc2_6, decode (m_B 406) z.1 = .ok (z.2.1, z.2.2) := by decide +kernel
theorem mm406 : m_mok m_Z m_strs 406 := m_mok_of (i := 406) (own := RX2) (mn := "state") (I := mi2_6) (S := []) rfl rfl rfl (by decide +kernel) (by decide) mp2 md406 (by decide +kernel) (fun _ h => absurd h List.not_mem_nil) (fun _ h => absurd h List.not_mem_nil)
theorem md407 : ∀ z ∈ mc2_7, decode (m_B 407) z.1 = .ok (z.2.1, z.2.2) := by decide +kernel
theorem mm407 : m_mok m_Z m_strs 407 := m_mok_of (i := 407) (own := RX2) (mn := "why") (I := mi2_7) (S := []) rfl rfl rfl (by decide +kernel) (by decide) mp2 md407 (by decide +kernel) (fun _ h => absurd h List.not_mem_nil) (fun _ h => absurd h List.not_mem_nil)
theorem md408 : ∀ z ∈ mc2_8, decode (m_B 408) z.1 = .ok (z.2.1, z.2.2) := by decide +kernel
theorem mm408 : m_mok m_Z m_strs 408 := m_mok_of (i := 408) (own := RX2) (mn := "sumOfMarks") (I := mi2_8) (S := []) rfl rfl rfl (by decide +kernel) (by decide) mp2 md408 (by decide +kernel) (fun _ h => absurd h List.not_mem_nil) (fun _ h => absurd h List.not_mem_nil)
theorem md409 : ∀ z ∈ mc2_9, decode (m_B 409) z.1 = .ok (z.2.1, z.2.2) := by decide +kernel
theorem mm409 : m_mok m_Z m_strs 409 := m_mok_of (i := 409) (own := RX2) (mn := "greatestOwe") (I := mi2_9) (S := []) rfl rfl rfl (by decide +kernel) (by decide) mp2 md409 (by decide +kernel) (fun _ h => absurd h List.not_mem_nil) (fun _ h => absurd h List.not_mem_nil)
theorem md410 : ∀ z ∈ mc2_10, decode (m_B 410) z.1 = .ok (z.2.1, z.2.2) := by decide +kernel
theorem mm410 : m_mok m_Z m_strs 410 := m_mok_of (i := 410) (own := RX2) (mn := "holds") (I := mi2_10) (S := []) rfl rfl rfl (by decide +kernel) (by decide) mp2 md410 (by decide +kernel) (fun _ h => absurd h List.not_mem_nil) (fun _ h => absurd h List.not_mem_nil)
theorem md411 : ∀ z ∈ mc2_11, decode (m_B 411) z.1 = .ok (z.2.1, z.2.2) := by decide +kernel
theorem mm411 : m_mok m_Z m_strs 411 := m_mok_of (i := 411) (own := RX2) (mn := "follow") (I := mi2_11) (S := []) rfl rfl rfl (by decide +kernel) (by decide) mp2 md411 (by decide +kernel) (fun _ h => absurd h List.not_mem_nil) (fun _ h => absurd h List.not_mem_nil)
theorem md412 : ∀ z ∈ mc2_12, decode (m_B 412) z.1 = .ok (z.2.1, z.2.2) := by decide +kernel
theorem mm412 : m_mok m_Z m_strs 412 := m_mok_of (i := 412) (own := RX2) (mn := "joined") (I := mi2_12) (S := []) rfl rfl rfl (by decide +kernel) (by decide) mp2 md412 (by decide +kernel) (fun _ h => absurd h List.not_mem_nil) (fun _ h => absurd h List.not_mem_nil)
theorem md413 : ∀ z ∈ mc2_13, decode (m_B 413) z.1 = .ok (z.2.1, z.2.2) := by decide +kernel
theorem mm413 : m_mok m_Z m_strs 413 := m_mok_of (i := 413) (own := RX2) (mn := "push") (I := mi2_13) (S := []) rfl rfl rfl (by decide +kernel) (by decide) mp2 md413 (by decide +kernel) (fun _ h => absurd h List.not_mem_nil) (fun _ h => absurd h List.not_mem_nil)
theorem md414 : ∀ z ∈ mc2_14, decode (m_B 414) z.1 = .ok (z.2.1, z.2.2) := by decide +kernel
theorem mm414 : m_mok m_Z m_strs 414 := m_mok_of (i := 414) (own := RX2) (mn := "pop") (I := mi2_14) (S := []) rfl rfl rfl (by decide +kernel) (by decide) mp2 md414 (by decide +kernel) (fun _ h => absurd h List.not_mem_nil) (fun _ h => absurd h List.not_mem_nil)
theorem md600 : ∀ z ∈ mc3_0, decode (m_B 600) z.1 = .ok (z.2.1, z.2.2) := by decide +kernel
theorem mm600 : m_mok m_Z m_strs 600 := m_mok_of (i := 600) (own := RX3) (mn := "<init>") (I := mi3_0) (S := []) rfl rfl rfl (by decide +kernel) (by decide) mp3 md600 (by decide +kernel) (fun _ h => absurd h List.not_mem_nil) (fun _ h => absurd h List.not_mem_nil)
theorem md601 : ∀ z ∈ mc3_1, decode (m_B 601) z.1 = .ok (z.2.1, z.2.2) := by decide +kernel
theorem mm601 : m_mok m_Z m_strs 601 := m_mok_of (i := 601) (own := RX3) (mn := "setUp") (I := mi3_1) (S := []) rfl rfl rfl (by decide +kernel) (by decide) mp3 md601 (by decide +kernel) (fun _ h => absurd h List.not_mem_nil) (fun _ h => absurd h List.not_mem_nil)
theorem md602 : ∀ z ∈ mc3_2, decode (m_B 602) z.1 = .ok (z.2.1, z.2.2) := by decide +kernel
theorem mm602 : m_mok m_Z m_strs 602 := m_mok_of (i := 602) (own := RX3) (mn := "copyFrom") (I := mi3_2) (S := []) rfl rfl rfl (by decide +kernel) (by decide) mp3 md602 (by decide +kernel) (fun _ h => absurd h List.not_mem_nil) (fun _ h => absurd h List.not_mem_nil)
theorem md603 : ∀ z ∈ mc3_3, decode (m_B 603) z.1 = .ok (z.2.1, z.2.2) := by decide +kernel
theorem mm603 : m_mok m_Z m_strs 603 := m_mok_of (i := 603) (own := RX3) (mn := "tradeRow") (I := mi3_3) (S := []) rfl rfl rfl (by decide +kernel) (by decide) mp3 md603 (by decide +kernel) (fun _ h => absurd h List.not_mem_nil) (fun _ h => absurd h List.not_mem_nil)
theorem md604 : ∀ z ∈ mc3_4, decode (m_B 604) z.1 = .ok (z.2.1, z.2.2) := by decide +kernel
theorem mm604 : m_mok m_Z m_strs 604 := m_mok_of (i := 604) (own := RX3) (mn := "tell") (I := mi3_4) (S := []) rfl rfl rfl (by decide +kernel) (by decide) mp3 md604 (by decide +kernel) (fun _ h => absurd h List.not_mem_nil) (fun _ h => absurd h List.not_mem_nil)
theorem md605 : ∀ z ∈ mc3_5, decode (m_B 605) z.1 = .ok (z.2.1, z.2.2) := by decide +kernel
theorem mm605 : m_mok m_Z m_strs 605 := m_mok_of (i := 605) (own := RX3) (mn := "toldFor") (I := mi3_5) (S := []) rfl rfl rfl (by decide +kernel) (by decide) mp3 md605 (by decide +kernel) (fun _ h => absurd h List.not_mem_nil) (fun _ h => absurd h List.not_mem_nil)
theorem md606 : ∀ z ∈ mc3_6, decode (m_B 606) z.1 = .ok (z.2.1, z.2.2) := by decide +kernel
theorem mm606 : m_mok m_Z m_strs 606 := m_mok_of (i := 606) (own := RX3) (mn := "priceIn") (I := mi3_6) (S := []) rfl rfl rfl (by decide +kernel) (by decide) mp3 md606 (by decide +kernel) (fun _ h => absurd h List.not_mem_nil) (fun _ h => absurd h List.not_mem_nil)
theorem md607 : ∀ z ∈ mc3_7, decode (m_B 607) z.1 = .ok (z.2.1, z.2.2) := by decide +kernel
theorem mm607 : m_mok m_Z m_strs 607 := m_mok_of (i := 607) (own := RX3) (mn := "riskIn") (I := mi3_7) (S := []) rfl rfl rfl (by decide +kernel) (by decide) mp3 md607 (by decide +kernel) (fun _ h => absurd h List.not_mem_nil) (fun _ h => absurd h List.not_mem_nil)
theorem md608 : ∀ z ∈ mc3_8, decode (m_B 608) z.1 = .ok (z.2.1, z.2.2) := by decide +kernel
theorem mm608 : m_mok m_Z m_strs 608 := m_mok_of (i := 608) (own := RX3) (mn := "addAct") (I := mi3_8) (S := []) rfl rfl rfl (by decide +kernel) (by decide) mp3 md608 (by decide +kernel) (fun _ h => absurd h List.not_mem_nil) (fun _ h => absurd h List.not_mem_nil)
theorem md609 : ∀ z ∈ mc3_9, decode (m_B 609) z.1 = .ok (z.2.1, z.2.2) := by decide +kernel
theorem mm609 : m_mok m_Z m_strs 609 := m_mok_of (i := 609) (own := RX3) (mn := "actInForce") (I := mi3_9) (S := []) rfl rfl rfl (by decide +kernel) (by decide) mp3 md609 (by decide +kernel) (fun _ h => absurd h List.not_mem_nil) (fun _ h => absurd h List.not_mem_nil)
theorem md610 : ∀ z ∈ mc3_10, decode (m_B 610) z.1 = .ok (z.2.1, z.2.2) := by decide +kernel
theorem mm610 : m_mok m_Z m_strs 610 := m_mok_of (i := 610) (own := RX3) (mn := "linesOfWeek") (I := mi3_10) (S := []) rfl rfl rfl (by decide +kernel) (by decide) mp3 md610 (by decide +kernel) (fun _ h => absurd h List.not_mem_nil) (fun _ h => absurd h List.not_mem_nil)
theorem md611 : ∀ z ∈ mc3_11, decode (m_B 611) z.1 = .ok (z.2.1, z.2.2) := by decide +kernel
theorem mm611 : m_mok m_Z m_strs 611 := m_mok_of (i := 611) (own := RX3) (mn := "addLot") (I := mi3_11) (S := []) rfl rfl rfl (by decide +kernel) (by decide) mp3 md611 (by decide +kernel) (fun _ h => absurd h List.not_mem_nil) (fun _ h => absurd h List.not_mem_nil)
theorem md612 : ∀ z ∈ mc3_12, decode (m_B 612) z.1 = .ok (z.2.1, z.2.2) := by decide +kernel
theorem mm612 : m_mok m_Z m_strs 612 := m_mok_of (i := 612) (own := RX3) (mn := "isStock") (I := mi3_12) (S := []) rfl rfl rfl (by decide +kernel) (by decide) mp3 md612 (by decide +kernel) (fun _ h => absurd h List.not_mem_nil) (fun _ h => absurd h List.not_mem_nil)
theorem md613 : ∀ z ∈ mc3_13, decode (m_B 613) z.1 = .ok (z.2.1, z.2.2) := by decide +kernel
theorem mm613 : m_mok m_Z m_strs 613 := m_mok_of (i := 613) (own := RX3) (mn := "isBack") (I := mi3_13) (S := []) rfl rfl rfl (by decide +kernel) (by decide) mp3 md613 (by decide +kernel) (fun _ h => absurd h List.not_mem_nil) (fun _ h => absurd h List.not_mem_nil)
theorem md614 : ∀ z ∈ mc3_14, decode (m_B 614) z.1 = .ok (z.2.1, z.2.2) := by decide +kernel
theorem mm614 : m_mok m_Z m_strs 614 := m_mok_of (i := 614) (own := RX3) (mn := "isLent") (I := mi3_14) (S := []) rfl rfl rfl (by decide +kernel) (by decide) mp3 md614 (by decide +kernel) (fun _ h => absurd h List.not_mem_nil) (fun _ h => absurd h List.not_mem_nil)
theorem md615 : ∀ z ∈ mc3_15, decode (m_B 615) z.1 = .ok (z.2.1, z.2.2) := by decide +kernel
theorem mm615 : m_mok m_Z m_strs 615 := m_mok_of (i := 615) (own := RX3) (mn := "isOrderNotBegun") (I := mi3_15) (S := []) rfl rfl rfl (by decide +kernel) (by decide) mp3 md615 (by decide +kernel) (fun _ h => absurd h List.not_mem_nil) (fun _ h => absurd h List.not_mem_nil)
theorem md616 : ∀ z ∈ mc3_16, decode (m_B 616) z.1 = .ok (z.2.1, z.2.2) := by decide +kernel
theorem mm616 : m_mok m_Z m_strs 616 := m_mok_of (i := 616) (own := RX3) (mn := "crates") (I := mi3_16) (S := []) rfl rfl rfl (by decide +kernel) (by decide) mp3 md616 (by decide +kernel) (fun _ h => absurd h List.not_mem_nil) (fun _ h => absurd h List.not_mem_nil)
theorem md617 : ∀ z ∈ mc3_17, decode (m_B 617) z.1 = .ok (z.2.1, z.2.2) := by decide +kernel
theorem mm617 : m_mok m_Z m_strs 617 := m_mok_of (i := 617) (own := RX3) (mn := "move") (I := mi3_17) (S := []) rfl rfl rfl (by decide +kernel) (by decide) mp3 md617 (by decide +kernel) (fun _ h => absurd h List.not_mem_nil) (fun _ h => absurd h List.not_mem_nil)
theorem md618 : ∀ z ∈ mc3_18, decode (m_B 618) z.1 = .ok (z.2.1, z.2.2) := by decide +kernel
theorem mm618 : m_mok m_Z m_strs 618 := m_mok_of (i := 618) (own := RX3) (mn := "cratesAt") (I := mi3_18) (S := []) rfl rfl rfl (by decide +kernel) (by decide) mp3 md618 (by decide +kernel) (fun _ h => absurd h List.not_mem_nil) (fun _ h => absurd h List.not_mem_nil)
theorem md619 : ∀ z ∈ mc3_19, decode (m_B 619) z.1 = .ok (z.2.1, z.2.2) := by decide +kernel
theorem mm619 : m_mok m_Z m_strs 619 := m_mok_of (i := 619) (own := RX3) (mn := "needOfAll") (I := mi3_19) (S := []) rfl rfl rfl (by decide +kernel) (by decide) mp3 md619 (by decide +kernel) (fun _ h => absurd h List.not_mem_nil) (fun _ h => absurd h List.not_mem_nil)
theorem md620 : ∀ z ∈ mc3_20, decode (m_B 620) z.1 = .ok (z.2.1, z.2.2) := by decide +kernel
theorem mm620 : m_mok m_Z m_strs 620 := m_mok_of (i := 620) (own := RX3) (mn := "stockInPort") (I := mi3_20) (S := []) rfl rfl rfl (by decide +kernel) (by decide) mp3 md620 (by decide +kernel) (fun _ h => absurd h List.not_mem_nil) (fun _ h => absurd h List.not_mem_nil)
theorem md621 : ∀ z ∈ mc3_21, decode (m_B 621) z.1 = .ok (z.2.1, z.2.2) := by decide +kernel
theorem mm621 : m_mok m_Z m_strs 621 := m_mok_of (i := 621) (own := RX3) (mn := "takeFromStock") (I := mi3_21) (S := []) rfl rfl rfl (by decide +kernel) (by decide) mp3 md621 (by decide +kernel) (fun _ h => absurd h List.not_mem_nil) (fun _ h => absurd h List.not_mem_nil)
theorem md622 : ∀ z ∈ mc3_22, decode (m_B 622) z.1 = .ok (z.2.1, z.2.2) := by decide +kernel
theorem mm622 : m_mok m_Z m_strs 622 := m_mok_of (i := 622) (own := RX3) (mn := "lend") (I := mi3_22) (S := []) rfl rfl rfl (by decide +kernel) (by decide) mp3 md622 (by decide +kernel) (fun _ h => absurd h List.not_mem_nil) (fun _ h => absurd h List.not_mem_nil)
theorem md623 : ∀ z ∈ mc3_23, decode (m_B 623) z.1 = .ok (z.2.1, z.2.2) := by decide +kernel
theorem mm623 : m_mok m_Z m_strs 623 := m_mok_of (i := 623) (own := RX3) (mn := "giveOn") (I := mi3_23) (S := []) rfl rfl rfl (by decide +kernel) (by decide) mp3 md623 (by decide +kernel) (fun _ h => absurd h List.not_mem_nil) (fun _ h => absurd h List.not_mem_nil)
theorem md624 : ∀ z ∈ mc3_24, decode (m_B 624) z.1 = .ok (z.2.1, z.2.2) := by decide +kernel
theorem mm624 : m_mok m_Z m_strs 624 := m_mok_of (i := 624) (own := RX3) (mn := "close") (I := mi3_24) (S := []) rfl rfl rfl (by decide +kernel) (by decide) mp3 md624 (by decide +kernel) (fun _ h => absurd h List.not_mem_nil) (fun _ h => absurd h List.not_mem_nil)
theorem md625 : ∀ z ∈ mc3_25, decode (m_B 625) z.1 = .ok (z.2.1, z.2.2) := by decide +kernel
theorem mm625 : m_mok m_Z m_strs 625 := m_mok_of (i := 625) (own := RX3) (mn := "lackOf") (I := mi3_25) (S := []) rfl rfl rfl (by decide +kernel) (by decide) mp3 md625 (by decide +kernel) (fun _ h => absurd h List.not_mem_nil) (fun _ h => absurd h List.not_mem_nil)
theorem md626 : ∀ z ∈ mc3_26, decode (m_B 626) z.1 = .ok (z.2.1, z.2.2) := by decide +kernel
theorem mm626 : m_mok m_Z m_strs 626 := m_mok_of (i := 626) (own := RX3) (mn := "openRequests") (I := mi3_26) (S := []) rfl rfl rfl (by decide +kernel) (by decide) mp3 md626 (by decide +kernel) (fun _ h => absurd h List.not_mem_nil) (fun _ h => absurd h List.not_mem_nil)
theorem md627 : ∀ z ∈ mc3_27, decode (m_B 627) z.1 = .ok (z.2.1, z.2.2) := by decide +kernel
theorem mm627 : m_mok m_Z m_strs 627 := m_mok_of (i := 627) (own := RX3) (mn := "basesOf") (I := mi3_27) (S := []) rfl rfl rfl (by decide +kernel) (by decide) mp3 md627 (by decide +kernel) (fun _ h => absurd h List.not_mem_nil) (fun _ h => absurd h List.not_mem_nil)
theorem md628 : ∀ z ∈ mc3_28, decode (m_B 628) z.1 = .ok (z.2.1, z.2.2) := by decide +kernel
theorem mm628 : m_mok m_Z m_strs 628 := m_mok_of (i := 628) (own := RX3) (mn := "cargoLot") (I := mi3_28) (S := []) rfl rfl rfl (by decide +kernel) (by decide) mp3 md628 (by decide +kernel) (fun _ h => absurd h List.not_mem_nil) (fun _ h => absurd h List.not_mem_nil)
theorem md629 : ∀ z ∈ mc3_29, decode (m_B 629) z.1 = .ok (z.2.1, z.2.2) := by decide +kernel
theorem mm629 : m_mok m_Z m_strs 629 := m_mok_of (i := 629) (own := RX3) (mn := "cargoCrates") (I := mi3_29) (S := []) rfl rfl rfl (by decide +kernel) (by decide) mp3 md629 (by decide +kernel) (fun _ h => absurd h List.not_mem_nil) (fun _ h => absurd h List.not_mem_nil)
theorem md630 : ∀ z ∈ mc3_30, decode (m_B 630) z.1 = .ok (z.2.1, z.2.2) := by decide +kernel
theorem mm630 : m_mok m_Z m_strs 630 := m_mok_of (i := 630) (own := RX3) (mn := "tonsAboard") (I := mi3_30) (S := []) rfl rfl rfl (by decide +kernel) (by decide) mp3 md630 (by decide +kernel) (fun _ h => absurd h List.not_mem_nil) (fun _ h => absurd h List.not_mem_nil)
theorem md631 : ∀ z ∈ mc3_31, decode (m_B 631) z.1 = .ok (z.2.1, z.2.2) := by decide +kernel
theorem mm631 : m_mok m_Z m_strs 631 := m_mok_of (i := 631) (own := RX3) (mn := "tonsOf") (I := mi3_31) (S := []) rfl rfl rfl (by decide +kernel) (by decide) mp3 md631 (by decide +kernel) (fun _ h => absurd h List.not_mem_nil) (fun _ h => absurd h List.not_mem_nil)
theorem md632 : ∀ z ∈ mc3_32, decode (m_B 632) z.1 = .ok (z.2.1, z.2.2) := by decide +kernel
theorem mm632 : m_mok m_Z m_strs 632 := m_mok_of (i := 632) (own := RX3) (mn := "slotFor") (I := mi3_32) (S := []) rfl rfl rfl (by decide +kernel) (by decide) mp3 md632 (by decide +kernel) (fun _ h => absurd h List.not_mem_nil) (fun _ h => absurd h List.not_mem_nil)
theorem md633 : ∀ z ∈ mc3_33, decode (m_B 633) z.1 = .ok (z.2.1, z.2.2) := by decide +kernel
theorem mm633 : m_mok m_Z m_strs 633 := m_mok_of (i := 633) (own := RX3) (mn := "mayLoad") (I := mi3_33) (S := []) rfl rfl rfl (by decide +kernel) (by decide) mp3 md633 (by decide +kernel) (fun _ h => absurd h List.not_mem_nil) (fun _ h => absurd h List.not_mem_nil)
theorem md634 : ∀ z ∈ mc3_34, decode (m_B 634) z.1 = .ok (z.2.1, z.2.2) := by decide +kernel
theorem mm634 : m_mok m_Z m_strs 634 := m_mok_of (i := 634) (own := RX3) (mn := "fits") (I := mi3_34) (S := []) rfl rfl rfl (by decide +kernel) (by decide) mp3 md634 (by decide +kernel) (fun _ h => absurd h List.not_mem_nil) (fun _ h => absurd h List.not_mem_nil)
theorem md635 : ∀ z ∈ mc3_35, decode (m_B 635) z.1 = .ok (z.2.1, z.2.2) := by decide +kernel
theorem mm635 : m_mok m_Z m_strs 635 := m_mok_of (i := 635) (own := RX3) (mn := "landOfCargo") (I := mi3_35) (S := []) rfl rfl rfl (by decide +kernel) (by decide) mp3 md635 (by decide +kernel) (fun _ h => absurd h List.not_mem_nil) (fun _ h => absurd h List.not_mem_nil)
theorem md636 : ∀ z ∈ mc3_36, decode (m_B 636) z.1 = .ok (z.2.1, z.2.2) := by decide +kernel
theorem mm636 : m_mok m_Z m_strs 636 := m_mok_of (i := 636) (own := RX3) (mn := "putAboard") (I := mi3_36) (S := []) rfl rfl rfl (by decide +kernel) (by decide) mp3 md636 (by decide +kernel) (fun _ h => absurd h List.not_mem_nil) (fun _ h => absurd h List.not_mem_nil)
theorem md637 : ∀ z ∈ mc3_37, decode (m_B 637) z.1 = .ok (z.2.1, z.2.2) := by decide +kernel
theorem mm637 : m_mok m_Z m_strs 637 := m_mok_of (i := 637) (own := RX3) (mn := "maySail") (I := mi3_37) (S := []) rfl rfl rfl (by decide +kernel) (by decide) mp3 md637 (by decide +kernel) (fun _ h => absurd h List.not_mem_nil) (fun _ h => absurd h List.not_mem_nil)
theorem md638 : ∀ z ∈ mc3_38, decode (m_B 638) z.1 = .ok (z.2.1, z.2.2) := by decide +kernel
theorem mm638 : m_mok m_Z m_strs 638 := m_mok_of (i := 638) (own := RX3) (mn := "putToSea") (I := mi3_38) (S := []) rfl rfl rfl (by decide +kernel) (by decide) mp3 md638 (by decide +kernel) (fun _ h => absurd h List.not_mem_nil) (fun _ h => absurd h List.not_mem_nil)
theorem md800 : ∀ z ∈ mc4_0, decode (m_B 800) z.1 = .ok (z.2.1, z.2.2) := by decide +kernel
theorem mm800 : m_mok m_Z m_strs 800 := m_mok_of (i := 800) (own := RX4) (mn := "<init>") (I := mi4_0) (S := []) rfl rfl rfl (by decide +kernel) (by decide) mp4 md800 (by decide +kernel) (fun _ h => absurd h List.not_mem_nil) (fun _ h => absurd h List.not_mem_nil)
theorem md801 : ∀ z ∈ mc4_1, decode (m_B 801) z.1 = .ok (z.2.1, z.2.2) := by decide +kernel
theorem mm801 : m_mok m_Z m_strs 801 := m_mok_of (i := 801) (own := RX4) (mn := "plan") (I := mi4_1) (S := []) rfl rfl rfl (by decide +kernel) (by decide) mp4 md801 (by decide +kernel) (fun _ h => absurd h List.not_mem_nil) (fun _ h => absurd h List.not_mem_nil)
theorem md802 : ∀ z ∈ mc4_2, decode (m_B 802) z.1 = .ok (z.2.1, z.2.2) := by decide +kernel
theorem mm802 : m_mok m_Z m_strs 802 := m_mok_of (i := 802) (own := RX4) (mn := "send") (I := mi4_2) (S := []) rfl rfl rfl (by decide +kernel) (by decide) mp4 md802 (by decide +kernel) (fun _ h => absurd h List.not_mem_nil) (fun _ h => absurd h List.not_mem_nil)
theorem md803 : ∀ z ∈ mc4_3, decode (m_B 803) z.1 = .ok (z.2.1, z.2.2) := by decide +kernel
theorem mm803 : m_mok m_Z m_strs 803 := m_mok_of (i := 803) (own := RX4) (mn := "lacking") (I := mi4_3) (S := []) rfl rfl rfl (by decide +kernel) (by decide) mp4 md803 (by decide +kernel) (fun _ h => absurd h List.not_mem_nil) (fun _ h => absurd h List.not_mem_nil)
theorem md804 : ∀ z ∈ mc4_4, decode (m_B 804) z.1 = .ok (z.2.1, z.2.2) := by decide +kernel
theorem mm804 : m_mok m_Z m_strs 804 := m_mok_of (i := 804) (own := RX4) (mn := "leastLost") (I := mi4_4) (S := []) rfl rfl rfl (by decide +kernel) (by decide) mp4 md804 (by decide +kernel) (fun _ h => absurd h List.not_mem_nil) (fun _ h => absurd h List.not_mem_nil)
theorem md805 : ∀ z ∈ mc4_5, decode (m_B 805) z.1 = .ok (z.2.1, z.2.2) := by decide +kernel
theorem mm805 : m_mok m_Z m_strs 805 := m_mok_of (i := 805) (own := RX4) (mn := "landOf") (I := mi4_5) (S := []) rfl rfl rfl (by decide +kernel) (by decide) mp4 md805 (by decide +kernel) (fun _ h => absurd h List.not_mem_nil) (fun _ h => absurd h List.not_mem_nil)
theorem md1000 : ∀ z ∈ mc5_0, decode (m_B 1000) z.1 = .ok (z.2.1, z.2.2) := by decide +kernel
theorem mm1000 : m_mok m_Z m_strs 1000 := m_mok_of (i := 1000) (own := RX5) (mn := "isLentTo") (I := mi5_0) (S := []) rfl rfl rfl (by decide +kernel) (by decide) mp5 md1000 (by decide +kernel) (fun _ h => absurd h List.not_mem_nil) (fun _ h => absurd h List.not_mem_nil)
theorem md1001 : ∀ z ∈ mc5_1, decode (m_B 1001) z.1 = .ok (z.2.1, z.2.2) := by decide +kernel
theorem mm1001 : m_mok m_Z m_strs 1001 := m_mok_of (i := 1001) (own := RX5) (mn := "owed") (I := mi5_1) (S := []) rfl rfl rfl (by decide +kernel) (by decide) mp5 md1001 (by decide +kernel) (fun _ h => absurd h List.not_mem_nil) (fun _ h => absurd h List.not_mem_nil)
theorem md1002 : ∀ z ∈ mc5_2, decode (m_B 1002) z.1 = .ok (z.2.1, z.2.2) := by decide +kernel
theorem mm1002 : m_mok m_Z m_strs 1002 := m_mok_of (i := 1002) (own := RX5) (mn := "owedFor") (I := mi5_2) (S := []) rfl rfl rfl (by decide +kernel) (by decide) mp5 md1002 (by decide +kernel) (fun _ h => absurd h List.not_mem_nil) (fun _ h => absurd h List.not_mem_nil)
theorem md1003 : ∀ z ∈ mc5_3, decode (m_B 1003) z.1 = .ok (z.2.1, z.2.2) := by decide +kernel
theorem mm1003 : m_mok m_Z m_strs 1003 := m_mok_of (i := 1003) (own := RX5) (mn := "lentAt") (I := mi5_3) (S := []) rfl rfl rfl (by decide +kernel) (by decide) mp5 md1003 (by decide +kernel) (fun _ h => absurd h List.not_mem_nil) (fun _ h => absurd h List.not_mem_nil)
theorem md1004 : ∀ z ∈ mc5_4, decode (m_B 1004) z.1 = .ok (z.2.1, z.2.2) := by decide +kernel
theorem mm1004 : m_mok m_Z m_strs 1004 := m_mok_of (i := 1004) (own := RX5) (mn := "landedOf") (I := mi5_4) (S := []) rfl rfl rfl (by decide +kernel) (by decide) mp5 md1004 (by decide +kernel) (fun _ h => absurd h List.not_mem_nil) (fun _ h => absurd h List.not_mem_nil)
theorem md1005 : ∀ z ∈ mc5_5, decode (m_B 1005) z.1 = .ok (z.2.1, z.2.2) := by decide +kernel
theorem mm1005 : m_mok m_Z m_strs 1005 := m_mok_of (i := 1005) (own := RX5) (mn := "landedAtEnd") (I := mi5_5) (S := []) rfl rfl rfl (by decide +kernel) (by decide) mp5 md1005 (by decide +kernel) (fun _ h => absurd h List.not_mem_nil) (fun _ h => absurd h List.not_mem_nil)
theorem md1006 : ∀ z ∈ mc5_6, decode (m_B 1006) z.1 = .ok (z.2.1, z.2.2) := by decide +kernel
theorem mm1006 : m_mok m_Z m_strs 1006 := m_mok_of (i := 1006) (own := RX5) (mn := "latestReturn") (I := mi5_6) (S := []) rfl rfl rfl (by decide +kernel) (by decide) mp5 md1006 (by decide +kernel) (fun _ h => absurd h List.not_mem_nil) (fun _ h => absurd h List.not_mem_nil)
theorem md1007 : ∀ z ∈ mc5_7, decode (m_B 1007) z.1 = .ok (z.2.1, z.2.2) := by decide +kernel
theorem mm1007 : m_mok m_Z m_strs 1007 := m_mok_of (i := 1007) (own := RX5) (mn := "sure") (I := mi5_7) (S := []) rfl rfl rfl (by decide +kernel) (by decide) mp5 md1007 (by decide +kernel) (fun _ h => absurd h List.not_mem_nil) (fun _ h => absurd h List.not_mem_nil)
theorem md1008 : ∀ z ∈ mc5_8, decode (m_B 1008) z.1 = .ok (z.2.1, z.2.2) := by decide +kernel
theorem mm1008 : m_mok m_Z m_strs 1008 := m_mok_of (i := 1008) (own := RX5) (mn := "landedWithoutReturn") (I := mi5_8) (S := []) rfl rfl rfl (by decide +kernel) (by decide) mp5 md1008 (by decide +kernel) (fun _ h => absurd h List.not_mem_nil) (fun _ h => absurd h List.not_mem_nil)
theorem md1009 : ∀ z ∈ mc5_9, decode (m_B 1009) z.1 = .ok (z.2.1, z.2.2) := by decide +kernel
theorem mm1009 : m_mok m_Z m_strs 1009 := m_mok_of (i := 1009) (own := RX5) (mn := "balanceBy") (I := mi5_9) (S := []) rfl rfl rfl (by decide +kernel) (by decide) mp5 md1009 (by decide +kernel) (fun _ h => absurd h List.not_mem_nil) (fun _ h => absurd h List.not_mem_nil)
theorem md1010 : ∀ z ∈ mc5_10, decode (m_B 1010) z.1 = .ok (z.2.1, z.2.2) := by decide +kernel
theorem mm1010 : m_mok m_Z m_strs 1010 := m_mok_of (i := 1010) (own := RX5) (mn := "worthOf") (I := mi5_10) (S := []) rfl rfl rfl (by decide +kernel) (by decide) mp5 md1010 (by decide +kernel) (fun _ h => absurd h List.not_mem_nil) (fun _ h => absurd h List.not_mem_nil)
theorem md1011 : ∀ z ∈ mc5_11, decode (m_B 1011) z.1 = .ok (z.2.1, z.2.2) := by decide +kernel
theorem mm1011 : m_mok m_Z m_strs 1011 := m_mok_of (i := 1011) (own := RX5) (mn := "cameBack") (I := mi5_11) (S := []) rfl rfl rfl (by decide +kernel) (by decide) mp5 md1011 (by decide +kernel) (fun _ h => absurd h List.not_mem_nil) (fun _ h => absurd h List.not_mem_nil)
theorem md1012 : ∀ z ∈ mc5_12, decode (m_B 1012) z.1 = .ok (z.2.1, z.2.2) := by decide +kernel
theorem mm1012 : m_mok m_Z m_strs 1012 := m_mok_of (i := 1012) (own := RX5) (mn := "unexplained") (I := mi5_12) (S := []) rfl rfl rfl (by decide +kernel) (by decide) mp5 md1012 (by decide +kernel) (fun _ h => absurd h List.not_mem_nil) (fun _ h => absurd h List.not_mem_nil)
theorem md1013 : ∀ z ∈ mc5_13, decode (m_B 1013) z.1 = .ok (z.2.1, z.2.2) := by decide +kernel
theorem mm1013 : m_mok m_Z m_strs 1013 := m_mok_of (i := 1013) (own := RX5) (mn := "landsWith") (I := mi5_13) (S := []) rfl rfl rfl (by decide +kernel) (by decide) mp5 md1013 (by decide +kernel) (fun _ h => absurd h List.not_mem_nil) (fun _ h => absurd h List.not_mem_nil)
theorem md1014 : ∀ z ∈ mc5_14, decode (m_B 1014) z.1 = .ok (z.2.1, z.2.2) := by decide +kernel
theorem mm1014 : m_mok m_Z m_strs 1014 := m_mok_of (i := 1014) (own := RX5) (mn := "firstNotPaid") (I := mi5_14) (S := []) rfl rfl rfl (by decide +kernel) (by decide) mp5 md1014 (by decide +kernel) (fun _ h => absurd h List.not_mem_nil) (fun _ h => absurd h List.not_mem_nil)
theorem md1200 : ∀ z ∈ mc6_0, decode (m_B 1200) z.1 = .ok (z.2.1, z.2.2) := by decide +kernel
theorem mm1200 : m_mok m_Z m_strs 1200 := m_mok_of (i := 1200) (own := RX6) (mn := "isIn") (I := mi6_0) (S := []) rfl rfl rfl (by decide +kernel) (by decide) mp6 md1200 (by decide +kernel) (fun _ h => absurd h List.not_mem_nil) (fun _ h => absurd h List.not_mem_nil)
theorem md1201 : ∀ z ∈ mc6_1, decode (m_B 1201) z.1 = .ok (z.2.1, z.2.2) := by decide +kernel
theorem mm1201 : m_mok m_Z m_strs 1201 := m_mok_of (i := 1201) (own := RX6) (mn := "ordersNotBegun") (I := mi6_1) (S := []) rfl rfl rfl (by decide +kernel) (by decide) mp6 md1201 (by decide +kernel) (fun _ h => absurd h List.not_mem_nil) (fun _ h => absurd h List.not_mem_nil)
theorem md1202 : ∀ z ∈ mc6_2, decode (m_B 1202) z.1 = .ok (z.2.1, z.2.2) := by decide +kernel
theorem mm1202 : m_mok m_Z m_strs 1202 := m_mok_of (i := 1202) (own := RX6) (mn := "bestOrdersOf") (I := mi6_2) (S := []) rfl rfl rfl (by decide +kernel) (by decide) mp6 md1202 (by decide +kernel) (fun _ h => absurd h List.not_mem_nil) (fun _ h => absurd h List.not_mem_nil)
theorem md1203 : ∀ z ∈ mc6_3, decode (m_B 1203) z.1 = .ok (z.2.1, z.2.2) := by decide +kernel
theorem mm1203 : m_mok m_Z m_strs 1203 := m_mok_of (i := 1203) (own := RX6) (mn := "sumIn") (I := mi6_3) (S := []) rfl rfl rfl (by decide +kernel) (by decide) mp6 md1203 (by decide +kernel) (fun _ h => absurd h List.not_mem_nil) (fun _ h => absurd h List.not_mem_nil)
theorem md1204 : ∀ z ∈ mc6_4, decode (m_B 1204) z.1 = .ok (z.2.1, z.2.2) := by decide +kernel
theorem mm1204 : m_mok m_Z m_strs 1204 := m_mok_of (i := 1204) (own := RX6) (mn := "pagesSigned") (I := mi6_4) (S := []) rfl rfl rfl (by decide +kernel) (by decide) mp6 md1204 (by decide +kernel) (fun _ h => absurd h List.not_mem_nil) (fun _ h => absurd h List.not_mem_nil)
theorem md1205 : ∀ z ∈ mc6_5, decode (m_B 1205) z.1 = .ok (z.2.1, z.2.2) := by decide +kernel
theorem mm1205 : m_mok m_Z m_strs 1205 := m_mok_of (i := 1205) (own := RX6) (mn := "choicesThatLast") (I := mi6_5) (S := []) rfl rfl rfl (by decide +kernel) (by decide) mp6 md1205 (by decide +kernel) (fun _ h => absurd h List.not_mem_nil) (fun _ h => absurd h List.not_mem_nil)
theorem md1206 : ∀ z ∈ mc6_6, decode (m_B 1206) z.1 = .ok (z.2.1, z.2.2) := by decide +kernel
theorem mm1206 : m_mok m_Z m_strs 1206 := m_mok_of (i := 1206) (own := RX6) (mn := "doesLast") (I := mi6_6) (S := []) rfl rfl rfl (by decide +kernel) (by decide) mp6 md1206 (by decide +kernel) (fun _ h => absurd h List.not_mem_nil) (fun _ h => absurd h List.not_mem_nil)
theorem md1207 : ∀ z ∈ mc6_7, decode (m_B 1207) z.1 = .ok (z.2.1, z.2.2) := by decide +kernel
theorem mm1207 : m_mok m_Z m_strs 1207 := m_mok_of (i := 1207) (own := RX6) (mn := "yearly") (I := mi6_7) (S := []) rfl rfl rfl (by decide +kernel) (by decide) mp6 md1207 (by decide +kernel) (fun _ h => absurd h List.not_mem_nil) (fun _ h => absurd h List.not_mem_nil)
theorem md1400 : ∀ z ∈ mc7_0, decode (m_B 1400) z.1 = .ok (z.2.1, z.2.2) := by decide +kernel
theorem mm1400 : m_mok m_Z m_strs 1400 := m_mok_of (i := 1400) (own := RX7) (mn := "<init>") (I := mi7_0) (S := []) rfl rfl rfl (by decide +kernel) (by decide) mp7 md1400 (by decide +kernel) (fun _ h => absurd h List.not_mem_nil) (fun _ h => absurd h List.not_mem_nil)
theorem md1401 : ∀ z ∈ mc7_1, decode (m_B 1401) z.1 = .ok (z.2.1, z.2.2) := by decide +kernel
theorem mm1401 : m_mok m_Z m_strs 1401 := m_mok_of (i := 1401) (own := RX7) (mn := "read") (I := mi7_1) (S := []) rfl rfl rfl (by decide +kernel) (by decide) mp7 md1401 (by decide +kernel) (fun _ h => absurd h List.not_mem_nil) (fun _ h => absurd h List.not_mem_nil)
theorem md1402 : ∀ z ∈ mc7_2, decode (m_B 1402) z.1 = .ok (z.2.1, z.2.2) := by decide +kernel
theorem mm1402 : m_mok m_Z m_strs 1402 := m_mok_of (i := 1402) (own := RX7) (mn := "readLine") (I := mi7_2) (S := []) rfl rfl rfl (by decide +kernel) (by decide) mp7 md1402 (by decide +kernel) (fun _ h => absurd h List.not_mem_nil) (fun _ h => absurd h List.not_mem_nil)
theorem md1403 : ∀ z ∈ mc7_3, decode (m_B 1403) z.1 = .ok (z.2.1, z.2.2) := by decide +kernel
theorem mm1403 : m_mok m_Z m_strs 1403 := m_mok_of (i := 1403) (own := RX7) (mn := "addLine") (I := mi7_3) (S := []) rfl rfl rfl (by decide +kernel) (by decide) mp7 md1403 (by decide +kernel) (fun _ h => absurd h List.not_mem_nil) (fun _ h => absurd h List.not_mem_nil)
theorem md1404 : ∀ z ∈ mc7_4, decode (m_B 1404) z.1 = .ok (z.2.1, z.2.2) := by decide +kernel
theorem mm1404 : m_mok m_Z m_strs 1404 := m_mok_of (i := 1404) (own := RX7) (mn := "readAny") (I := mi7_4) (S := []) rfl rfl rfl (by decide +kernel) (by decide) mp7 md1404 (by decide +kernel) (fun _ h => absurd h List.not_mem_nil) (fun _ h => absurd h List.not_mem_nil)
theorem md1405 : ∀ z ∈ mc7_5, decode (m_B 1405) z.1 = .ok (z.2.1, z.2.2) := by decide +kernel
theorem mm1405 : m_mok m_Z m_strs 1405 := m_mok_of (i := 1405) (own := RX7) (mn := "readAll") (I := mi7_5) (S := []) rfl rfl rfl (by decide +kernel) (by decide) mp7 md1405 (by decide +kernel) (fun _ h => absurd h List.not_mem_nil) (fun _ h => absurd h List.not_mem_nil)
theorem md1406 : ∀ z ∈ mc7_6, decode (m_B 1406) z.1 = .ok (z.2.1, z.2.2) := by decide +kernel
theorem mm1406 : m_mok m_Z m_strs 1406 := m_mok_of (i := 1406) (own := RX7) (mn := "readAtom") (I := mi7_6) (S := []) rfl rfl rfl (by decide +kernel) (by decide) mp7 md1406 (by decide +kernel) (fun _ h => absurd h List.not_mem_nil) (fun _ h => absurd h List.not_mem_nil)
theorem md1407 : ∀ z ∈ mc7_7, decode (m_B 1407) z.1 = .ok (z.2.1, z.2.2) := by decide +kernel
theorem mm1407 : m_mok m_Z m_strs 1407 := m_mok_of (i := 1407) (own := RX7) (mn := "readSum") (I := mi7_7) (S := []) rfl rfl rfl (by decide +kernel) (by decide) mp7 md1407 (by decide +kernel) (fun _ h => absurd h List.not_mem_nil) (fun _ h => absurd h List.not_mem_nil)
theorem md1408 : ∀ z ∈ mc7_8, decode (m_B 1408) z.1 = .ok (z.2.1, z.2.2) := by decide +kernel
theorem mm1408 : m_mok m_Z m_strs 1408 := m_mok_of (i := 1408) (own := RX7) (mn := "refuse") (I := mi7_8) (S := []) rfl rfl rfl (by decide +kernel) (by decide) mp7 md1408 (by decide +kernel) (fun _ h => absurd h List.not_mem_nil) (fun _ h => absurd h List.not_mem_nil)
theorem md1409 : ∀ z ∈ mc7_9, decode (m_B 1409) z.1 = .ok (z.2.1, z.2.2) := by decide +kernel
theorem mm1409 : m_mok m_Z m_strs 1409 := m_mok_of (i := 1409) (own := RX7) (mn := "lookAt") (I := mi7_9) (S := []) rfl rfl rfl (by decide +kernel) (by decide) mp7 md1409 (by decide +kernel) (fun _ h => absurd h List.not_mem_nil) (fun _ h => absurd h List.not_mem_nil)
theorem md1410 : ∀ z ∈ mc7_10, decode (m_B 1410) z.1 = .ok (z.2.1, z.2.2) := by decide +kernel
theorem mm1410 : m_mok m_Z m_strs 1410 := m_mok_of (i := 1410) (own := RX7) (mn := "write") (I := mi7_10) (S := []) rfl rfl rfl (by decide +kernel) (by decide) mp7 md1410 (by decide +kernel) (fun _ h => absurd h List.not_mem_nil) (fun _ h => absurd h List.not_mem_nil)
theorem md1600 : ∀ z ∈ mc8_0, decode (m_B 1600) z.1 = .ok (z.2.1, z.2.2) := by decide +kernel
theorem mm1600 : m_mok m_Z m_strs 1600 := m_mok_of (i := 1600) (own := RX8) (mn := "<init>") (I := mi8_0) (S := []) rfl rfl rfl (by decide +kernel) (by decide) mp8 md1600 (by decide +kernel) (fun _ h => absurd h List.not_mem_nil) (fun _ h => absurd h List.not_mem_nil)
theorem md1601 : ∀ z ∈ mc8_1, decode (m_B 1601) z.1 = .ok (z.2.1, z.2.2) := by decide +kernel
theorem mm1601 : m_mok m_Z m_strs 1601 := m_mok_of (i := 1601) (own := RX8) (mn := "has") (I := mi8_1) (S := []) rfl rfl rfl (by decide +kernel) (by decide) mp8 md1601 (by decide +kernel) (fun _ h => absurd h List.not_mem_nil) (fun _ h => absurd h List.not_mem_nil)
theorem md1602 : ∀ z ∈ mc8_2, decode (m_B 1602) z.1 = .ok (z.2.1, z.2.2) := by decide +kernel
theorem mm1602 : m_mok m_Z m_strs 1602 := m_mok_of (i := 1602) (own := RX8) (mn := "full") (I := mi8_2) (S := []) rfl rfl rfl (by decide +kernel) (by decide) mp8 md1602 (by decide +kernel) (fun _ h => absurd h List.not_mem_nil) (fun _ h => absurd h List.not_mem_nil)
theorem md1603 : ∀ z ∈ mc8_3, decode (m_B 1603) z.1 = .ok (z.2.1, z.2.2) := by decide +kernel
theorem mm1603 : m_mok m_Z m_strs 1603 := m_mok_of (i := 1603) (own := RX8) (mn := "reaches") (I := mi8_3) (S := []) rfl rfl rfl (by decide +kernel) (by decide) mp8 md1603 (by decide +kernel) (fun _ h => absurd h List.not_mem_nil) (fun _ h => absurd h List.not_mem_nil)
theorem md1604 : ∀ z ∈ mc8_4, decode (m_B 1604) z.1 = .ok (z.2.1, z.2.2) := by decide +kernel
theorem mm1604 : m_mok m_Z m_strs 1604 := m_mok_of (i := 1604) (own := RX8) (mn := "get") (I := mi8_4) (S := []) rfl rfl rfl (by decide +kernel) (by decide) mp8 md1604 (by decide +kernel) (fun _ h => absurd h List.not_mem_nil) (fun _ h => absurd h List.not_mem_nil)
theorem md1605 : ∀ z ∈ mc8_5, decode (m_B 1605) z.1 = .ok (z.2.1, z.2.2) := by decide +kernel
theorem mm1605 : m_mok m_Z m_strs 1605 := m_mok_of (i := 1605) (own := RX8) (mn := "set") (I := mi8_5) (S := []) rfl rfl rfl (by decide +kernel) (by decide) mp8 md1605 (by decide +kernel) (fun _ h => absurd h List.not_mem_nil) (fun _ h => absurd h List.not_mem_nil)
theorem md1606 : ∀ z ∈ mc8_6, decode (m_B 1606) z.1 = .ok (z.2.1, z.2.2) := by decide +kernel
theorem mm1606 : m_mok m_Z m_strs 1606 := m_mok_of (i := 1606) (own := RX8) (mn := "raise") (I := mi8_6) (S := []) rfl rfl rfl (by decide +kernel) (by decide) mp8 md1606 (by decide +kernel) (fun _ h => absurd h List.not_mem_nil) (fun _ h => absurd h List.not_mem_nil)
theorem md1607 : ∀ z ∈ mc8_7, decode (m_B 1607) z.1 = .ok (z.2.1, z.2.2) := by decide +kernel
theorem mm1607 : m_mok m_Z m_strs 1607 := m_mok_of (i := 1607) (own := RX8) (mn := "add") (I := mi8_7) (S := []) rfl rfl rfl (by decide +kernel) (by decide) mp8 md1607 (by decide +kernel) (fun _ h => absurd h List.not_mem_nil) (fun _ h => absurd h List.not_mem_nil)
theorem md1608 : ∀ z ∈ mc8_8, decode (m_B 1608) z.1 = .ok (z.2.1, z.2.2) := by decide +kernel
theorem mm1608 : m_mok m_Z m_strs 1608 := m_mok_of (i := 1608) (own := RX8) (mn := "rowsWith") (I := mi8_8) (S := []) rfl rfl rfl (by decide +kernel) (by decide) mp8 md1608 (by decide +kernel) (fun _ h => absurd h List.not_mem_nil) (fun _ h => absurd h List.not_mem_nil)
theorem md1609 : ∀ z ∈ mc8_9, decode (m_B 1609) z.1 = .ok (z.2.1, z.2.2) := by decide +kernel
theorem mm1609 : m_mok m_Z m_strs 1609 := m_mok_of (i := 1609) (own := RX8) (mn := "sumOf") (I := mi8_9) (S := []) rfl rfl rfl (by decide +kernel) (by decide) mp8 md1609 (by decide +kernel) (fun _ h => absurd h List.not_mem_nil) (fun _ h => absurd h List.not_mem_nil)
theorem md1610 : ∀ z ∈ mc8_10, decode (m_B 1610) z.1 = .ok (z.2.1, z.2.2) := by decide +kernel
theorem mm1610 : m_mok m_Z m_strs 1610 := m_mok_of (i := 1610) (own := RX8) (mn := "copyFrom") (I := mi8_10) (S := []) rfl rfl rfl (by decide +kernel) (by decide) mp8 md1610 (by decide +kernel) (fun _ h => absurd h List.not_mem_nil) (fun _ h => absurd h List.not_mem_nil)
theorem md1800 : ∀ z ∈ mc9_0, decode (m_B 1800) z.1 = .ok (z.2.1, z.2.2) := by decide +kernel
theorem mm1800 : m_mok m_Z m_strs 1800 := m_mok_of (i := 1800) (own := RX9) (mn := "<init>") (I := mi9_0) (S := []) rfl rfl rfl (by decide +kernel) (by decide) mp9 md1800 (by decide +kernel) (fun _ h => absurd h List.not_mem_nil) (fun _ h => absurd h List.not_mem_nil)
theorem md1801 : ∀ z ∈ mc9_1, decode (m_B 1801) z.1 = .ok (z.2.1, z.2.2) := by decide +kernel
theorem mm1801 : m_mok m_Z m_strs 1801 := m_mok_of (i := 1801) (own := RX9) (mn := "put") (I := mi9_1) (S := []) rfl rfl rfl (by decide +kernel) (by decide) mp9 md1801 (by decide +kernel) (fun _ h => absurd h List.not_mem_nil) (fun _ h => absurd h List.not_mem_nil)
theorem md1802 : ∀ z ∈ mc9_2, decode (m_B 1802) z.1 = .ok (z.2.1, z.2.2) := by decide +kernel
theorem mm1802 : m_mok m_Z m_strs 1802 := m_mok_of (i := 1802) (own := RX9) (mn := "useUp") (I := mi9_2) (S := []) rfl rfl rfl (by decide +kernel) (by decide) mp9 md1802 (by decide +kernel) (fun _ h => absurd h List.not_mem_nil) (fun _ h => absurd h List.not_mem_nil)
theorem md1803 : ∀ z ∈ mc9_3, decode (m_B 1803) z.1 = .ok (z.2.1, z.2.2) := by decide +kernel
theorem mm1803 : m_mok m_Z m_strs 1803 := m_mok_of (i := 1803) (own := RX9) (mn := "split") (I := mi9_3) (S := []) rfl rfl rfl (by decide +kernel) (by decide) mp9 md1803 (by decide +kernel) (fun _ h => absurd h List.not_mem_nil) (fun _ h => absurd h List.not_mem_nil)
theorem md1804 : ∀ z ∈ mc9_4, decode (m_B 1804) z.1 = .ok (z.2.1, z.2.2) := by decide +kernel
theorem mm1804 : m_mok m_Z m_strs 1804 := m_mok_of (i := 1804) (own := RX9) (mn := "skipBlanks") (I := mi9_4) (S := []) rfl rfl rfl (by decide +kernel) (by decide) mp9 md1804 (by decide +kernel) (fun _ h => absurd h List.not_mem_nil) (fun _ h => absurd h List.not_mem_nil)
theorem md1805 : ∀ z ∈ mc9_5, decode (m_B 1805) z.1 = .ok (z.2.1, z.2.2) := by decide +kernel
theorem mm1805 : m_mok m_Z m_strs 1805 := m_mok_of (i := 1805) (own := RX9) (mn := "splitOff") (I := mi9_5) (S := []) rfl rfl rfl (by decide +kernel) (by decide) mp9 md1805 (by decide +kernel) (fun _ h => absurd h List.not_mem_nil) (fun _ h => absurd h List.not_mem_nil)
theorem md1806 : ∀ z ∈ mc9_6, decode (m_B 1806) z.1 = .ok (z.2.1, z.2.2) := by decide +kernel
theorem mm1806 : m_mok m_Z m_strs 1806 := m_mok_of (i := 1806) (own := RX9) (mn := "passNumber") (I := mi9_6) (S := []) rfl rfl rfl (by decide +kernel) (by decide) mp9 md1806 (by decide +kernel) (fun _ h => absurd h List.not_mem_nil) (fun _ h => absurd h List.not_mem_nil)
theorem md1807 : ∀ z ∈ mc9_7, decode (m_B 1807) z.1 = .ok (z.2.1, z.2.2) := by decide +kernel
theorem mm1807 : m_mok m_Z m_strs 1807 := m_mok_of (i := 1807) (own := RX9) (mn := "passWord") (I := mi9_7) (S := []) rfl rfl rfl (by decide +kernel) (by decide) mp9 md1807 (by decide +kernel) (fun _ h => absurd h List.not_mem_nil) (fun _ h => absurd h List.not_mem_nil)
theorem md1808 : ∀ z ∈ mc9_8, decode (m_B 1808) z.1 = .ok (z.2.1, z.2.2) := by decide +kernel
theorem mm1808 : m_mok m_Z m_strs 1808 := m_mok_of (i := 1808) (own := RX9) (mn := "wordFrom") (I := mi9_8) (S := []) rfl rfl rfl (by decide +kernel) (by decide) mp9 md1808 (by decide +kernel) (fun _ h => absurd h List.not_mem_nil) (fun _ h => absurd h List.not_mem_nil)
theorem md1809 : ∀ z ∈ mc9_9, decode (m_B 1809) z.1 = .ok (z.2.1, z.2.2) := by decide +kernel
theorem mm1809 : m_mok m_Z m_strs 1809 := m_mok_of (i := 1809) (own := RX9) (mn := "stands") (I := mi9_9) (S := []) rfl rfl rfl (by decide +kernel) (by decide) mp9 md1809 (by decide +kernel) (fun _ h => absurd h List.not_mem_nil) (fun _ h => absurd h List.not_mem_nil)
theorem md1810 : ∀ z ∈ mc9_10, decode (m_B 1810) z.1 = .ok (z.2.1, z.2.2) := by decide +kernel
theorem mm1810 : m_mok m_Z m_strs 1810 := m_mok_of (i := 1810) (own := RX9) (mn := "addThing") (I := mi9_10) (S := []) rfl rfl rfl (by decide +kernel) (by decide) mp9 md1810 (by decide +kernel) (fun _ h => absurd h List.not_mem_nil) (fun _ h => absurd h List.not_mem_nil)
theorem md1811 : ∀ z ∈ mc9_11, decode (m_B 1811) z.1 = .ok (z.2.1, z.2.2) := by decide +kernel
theorem mm1811 : m_mok m_Z m_strs 1811 := m_mok_of (i := 1811) (own := RX9) (mn := "numberAt") (I := mi9_11) (S := []) rfl rfl rfl (by decide +kernel) (by decide) mp9 md1811 (by decide +kernel) (fun _ h => absurd h List.not_mem_nil) (fun _ h => absurd h List.not_mem_nil)
theorem md1812 : ∀ z ∈ mc9_12, decode (m_B 1812) z.1 = .ok (z.2.1, z.2.2) := by decide +kernel
theorem mm1812 : m_mok m_Z m_strs 1812 := m_mok_of (i := 1812) (own := RX9) (mn := "byteAt") (I := mi9_12) (S := []) rfl rfl rfl (by decide +kernel) (by decide) mp9 md1812 (by decide +kernel) (fun _ h => absurd h List.not_mem_nil) (fun _ h => absurd h List.not_mem_nil)
theorem md1813 : ∀ z ∈ mc9_13, decode (m_B 1813) z.1 = .ok (z.2.1, z.2.2) := by decide +kernel
theorem mm1813 : m_mok m_Z m_strs 1813 := m_mok_of (i := 1813) (own := RX9) (mn := "isDigit") (I := mi9_13) (S := []) rfl rfl rfl (by decide +kernel) (by decide) mp9 md1813 (by decide +kernel) (fun _ h => absurd h List.not_mem_nil) (fun _ h => absurd h List.not_mem_nil)
theorem md1814 : ∀ z ∈ mc9_14, decode (m_B 1814) z.1 = .ok (z.2.1, z.2.2) := by decide +kernel
theorem mm1814 : m_mok m_Z m_strs 1814 := m_mok_of (i := 1814) (own := RX9) (mn := "isLetter") (I := mi9_14) (S := []) rfl rfl rfl (by decide +kernel) (by decide) mp9 md1814 (by decide +kernel) (fun _ h => absurd h List.not_mem_nil) (fun _ h => absurd h List.not_mem_nil)
theorem md1815 : ∀ z ∈ mc9_15, decode (m_B 1815) z.1 = .ok (z.2.1, z.2.2) := by decide +kernel
theorem mm1815 : m_mok m_Z m_strs 1815 := m_mok_of (i := 1815) (own := RX9) (mn := "wordNumbered") (I := mi9_15) (S := []) rfl rfl rfl (by decide +kernel) (by decide) mp9 md1815 (by decide +kernel) (fun _ h => absurd h List.not_mem_nil) (fun _ h => absurd h List.not_mem_nil)
theorem md1816 : ∀ z ∈ mc9_16, decode (m_B 1816) z.1 = .ok (z.2.1, z.2.2) := by decide +kernel
theorem mm1816 : m_mok m_Z m_strs 1816 := m_mok_of (i := 1816) (own := RX9) (mn := "factNumbered") (I := mi9_16) (S := []) rfl rfl rfl (by decide +kernel) (by decide) mp9 md1816 (by decide +kernel) (fun _ h => absurd h List.not_mem_nil) (fun _ h => absurd h List.not_mem_nil)
theorem md2000 : ∀ z ∈ mc10_0, decode (m_B 2000) z.1 = .ok (z.2.1, z.2.2) := by decide +kernel
theorem mm2000 : m_mok m_Z m_strs 2000 := m_mok_of (i := 2000) (own := RX10) (mn := "pass") (I := mi10_0) (S := []) rfl rfl rfl (by decide +kernel) (by decide) mp10 md2000 (by decide +kernel) (fun _ h => absurd h List.not_mem_nil) (fun _ h => absurd h List.not_mem_nil)
theorem md2001 : ∀ z ∈ mc10_1, decode (m_B 2001) z.1 = .ok (z.2.1, z.2.2) := by decide +kernel
theorem mm2001 : m_mok m_Z m_strs 2001 := m_mok_of (i := 2001) (own := RX10) (mn := "beginOrders") (I := mi10_1) (S := []) rfl rfl rfl (by decide +kernel) (by decide) mp10 md2001 (by decide +kernel) (fun _ h => absurd h List.not_mem_nil) (fun _ h => absurd h List.not_mem_nil)
theorem md2002 : ∀ z ∈ mc10_2, decode (m_B 2002) z.1 = .ok (z.2.1, z.2.2) := by decide +kernel
theorem mm2002 : m_mok m_Z m_strs 2002 := m_mok_of (i := 2002) (own := RX10) (mn := "workOnOrders") (I := mi10_2) (S := []) rfl rfl rfl (by decide +kernel) (by decide) mp10 md2002 (by decide +kernel) (fun _ h => absurd h List.not_mem_nil) (fun _ h => absurd h List.not_mem_nil)
theorem md2003 : ∀ z ∈ mc10_3, decode (m_B 2003) z.1 = .ok (z.2.1, z.2.2) := by decide +kernel
theorem mm2003 : m_mok m_Z m_strs 2003 := m_mok_of (i := 2003) (own := RX10) (mn := "workOn") (I := mi10_3) (S := []) rfl rfl rfl (by decide +kernel) (by decide) mp10 md2003 (by decide +kernel) (fun _ h => absurd h List.not_mem_nil) (fun _ h => absurd h List.not_mem_nil)
theorem md2004 : ∀ z ∈ mc10_4, decode (m_B 2004) z.1 = .ok (z.2.1, z.2.2) := by decide +kernel
theorem mm2004 : m_mok m_Z m_strs 2004 := m_mok_of (i := 2004) (own := RX10) (mn := "goBySea") (I := mi10_4) (S := []) rfl rfl rfl (by decide +kernel) (by decide) mp10 md2004 (by decide +kernel) (fun _ h => absurd h List.not_mem_nil) (fun _ h => absurd h List.not_mem_nil)
theorem md2005 : ∀ z ∈ mc10_5, decode (m_B 2005) z.1 = .ok (z.2.1, z.2.2) := by decide +kernel
theorem mm2005 : m_mok m_Z m_strs 2005 := m_mok_of (i := 2005) (own := RX10) (mn := "sink") (I := mi10_5) (S := []) rfl rfl rfl (by decide +kernel) (by decide) mp10 md2005 (by decide +kernel) (fun _ h => absurd h List.not_mem_nil) (fun _ h => absurd h List.not_mem_nil)
theorem md2006 : ∀ z ∈ mc10_6, decode (m_B 2006) z.1 = .ok (z.2.1, z.2.2) := by decide +kernel
theorem mm2006 : m_mok m_Z m_strs 2006 := m_mok_of (i := 2006) (own := RX10) (mn := "arriveAbroad") (I := mi10_6) (S := []) rfl rfl rfl (by decide +kernel) (by decide) mp10 md2006 (by decide +kernel) (fun _ h => absurd h List.not_mem_nil) (fun _ h => absurd h List.not_mem_nil)
theorem md2007 : ∀ z ∈ mc10_7, decode (m_B 2007) z.1 = .ok (z.2.1, z.2.2) := by decide +kernel
theorem mm2007 : m_mok m_Z m_strs 2007 := m_mok_of (i := 2007) (own := RX10) (mn := "arriveHome") (I := mi10_7) (S := []) rfl rfl rfl (by decide +kernel) (by decide) mp10 md2007 (by decide +kernel) (fun _ h => absurd h List.not_mem_nil) (fun _ h => absurd h List.not_mem_nil)
theorem md2008 : ∀ z ∈ mc10_8, decode (m_B 2008) z.1 = .ok (z.2.1, z.2.2) := by decide +kernel
theorem mm2008 : m_mok m_Z m_strs 2008 := m_mok_of (i := 2008) (own := RX10) (mn := "unload") (I := mi10_8) (S := []) rfl rfl rfl (by decide +kernel) (by decide) mp10 md2008 (by decide +kernel) (fun _ h => absurd h List.not_mem_nil) (fun _ h => absurd h List.not_mem_nil)
theorem md2009 : ∀ z ∈ mc10_9, decode (m_B 2009) z.1 = .ok (z.2.1, z.2.2) := by decide +kernel
theorem mm2009 : m_mok m_Z m_strs 2009 := m_mok_of (i := 2009) (own := RX10) (mn := "useGoods") (I := mi10_9) (S := []) rfl rfl rfl (by decide +kernel) (by decide) mp10 md2009 (by decide +kernel) (fun _ h => absurd h List.not_mem_nil) (fun _ h => absurd h List.not_mem_nil)
theorem md2010 : ∀ z ∈ mc10_10, decode (m_B 2010) z.1 = .ok (z.2.1, z.2.2) := by decide +kernel
theorem mm2010 : m_mok m_Z m_strs 2010 := m_mok_of (i := 2010) (own := RX10) (mn := "useSort") (I := mi10_10) (S := []) rfl rfl rfl (by decide +kernel) (by decide) mp10 md2010 (by decide +kernel) (fun _ h => absurd h List.not_mem_nil) (fun _ h => absurd h List.not_mem_nil)
theorem md2011 : ∀ z ∈ mc10_11, decode (m_B 2011) z.1 = .ok (z.2.1, z.2.2) := by decide +kernel
theorem mm2011 : m_mok m_Z m_strs 2011 := m_mok_of (i := 2011) (own := RX10) (mn := "collectYields") (I := mi10_11) (S := []) rfl rfl rfl (by decide +kernel) (by decide) mp10 md2011 (by decide +kernel) (fun _ h => absurd h List.not_mem_nil) (fun _ h => absurd h List.not_mem_nil)
theorem md2200 : ∀ z ∈ mc11_0, decode (m_B 2200) z.1 = .ok (z.2.1, z.2.2) := by decide +kernel
theorem mm2200 : m_mok m_Z m_strs 2200 := m_mok_of (i := 2200) (own := RX11) (mn := "<init>") (I := mi11_0) (S := []) rfl rfl rfl (by decide +kernel) (by decide) mp11 md2200 (by decide +kernel) (fun _ h => absurd h List.not_mem_nil) (fun _ h => absurd h List.not_mem_nil)
theorem md2201 : ∀ z ∈ mc11_1, decode (m_B 2201) z.1 = .ok (z.2.1, z.2.2) := by decide +kernel
theorem mm2201 : m_mok m_Z m_strs 2201 := m_mok_of (i := 2201) (own := RX11) (mn := "feed") (I := mi11_1) (S := []) rfl rfl rfl (by decide +kernel) (by decide) mp11 md2201 (by decide +kernel) (fun _ h => absurd h List.not_mem_nil) (fun _ h => absurd h List.not_mem_nil)
theorem md2202 : ∀ z ∈ mc11_2, decode (m_B 2202) z.1 = .ok (z.2.1, z.2.2) := by decide +kernel
theorem mm2202 : m_mok m_Z m_strs 2202 := m_mok_of (i := 2202) (own := RX11) (mn := "end") (I := mi11_2) (S := []) rfl rfl rfl (by decide +kernel) (by decide) mp11 md2202 (by decide +kernel) (fun _ h => absurd h List.not_mem_nil) (fun _ h => absurd h List.not_mem_nil)
theorem md2203 : ∀ z ∈ mc11_3, decode (m_B 2203) z.1 = .ok (z.2.1, z.2.2) := by decide +kernel
theorem mS2203 : ∀ x ∈ ([(24, 83, 1), (60, 83, 1), (82, 101, 2)] : List (Nat × Nat × Nat)), m_tok m_strs RX11 (m_B 2203) x.2.1 x.2.2 x.1 := List.forall_mem_cons.mpr ⟨⟨by decide, 85, 87, 10, "no such week for an act", List.mem_of_getElem? (i := 9) rfl, m_gi3 221 rfl rfl, m_gi1 15 rfl rfl, m_hat1, m_hgd1, by decide +kernel, Or.inl ⟨by decide +kernel, by decide +kernel, by decide +kernel⟩⟩, List.forall_mem_cons.mpr ⟨⟨by decide, 96, 87, 29, "the text is wrong", List.mem_of_getElem? (i := 28) rfl, m_gi3 221 rfl rfl, m_gi1 15 rfl rfl, m_hat1, m_hgd1, by decide +kernel, Or.inl ⟨by decide +kernel, by decide +kernel, by decide +kernel⟩⟩, List.forall_mem_cons.mpr ⟨⟨by decide, 103, 105, 30, "no more acts", List.mem_of_getElem? (i := 29) rfl, m_gi4 44 rfl rfl, m_gi1 16 rfl rfl, m_hat2, m_hgd2, by decide +kernel, Or.inl ⟨by decide +kernel, by decide +kernel, by decide +kernel⟩⟩, fun _ h => absurd h List.not_mem_nil⟩⟩⟩
theorem mm2203 : m_mok m_Z m_strs 2203 := m_mok_of (i := 2203) (own := RX11) (mn := "act") (I := mi11_3) (S := [(24, 83, 1), (60, 83, 1), (82, 101, 2)]) rfl rfl rfl (by decide +kernel) (by decide) mp11 md2203 (by decide +kernel) (mS2203) (fun _ h => absurd h List.not_mem_nil)
theorem md2204 : ∀ z ∈ mc11_4, decode (m_B 2204) z.1 = .ok (z.2.1, z.2.2) := by decide +kernel
theorem mm2204 : m_mok m_Z m_strs 2204 := m_mok_of (i := 2204) (own := RX11) (mn := "fault") (I := mi11_4) (S := []) rfl rfl rfl (by decide +kernel) (by decide) mp11 md2204 (by decide +kernel) (fun _ h => absurd h List.not_mem_nil) (fun _ h => absurd h List.not_mem_nil)
theorem md2205 : ∀ z ∈ mc11_5, decode (m_B 2205) z.1 = .ok (z.2.1, z.2.2) := by decide +kernel
theorem mS2205 : ∀ x ∈ ([(46, 83, 1)] : List (Nat × Nat × Nat)), m_tok m_strs RX11 (m_B 2205) x.2.1 x.2.2 x.1 := List.forall_mem_cons.mpr ⟨⟨by decide, 121, 87, 2, "no such number of a sort", List.mem_of_getElem? (i := 1) rfl, m_gi3 221 rfl rfl, m_gi1 15 rfl rfl, m_hat1, m_hgd1, by decide +kernel, Or.inl ⟨by decide +kernel, by decide +kernel, by decide +kernel⟩⟩, fun _ h => absurd h List.not_mem_nil⟩
theorem mm2205 : m_mok m_Z m_strs 2205 := m_mok_of (i := 2205) (own := RX11) (mn := "sort") (I := mi11_5) (S := [(46, 83, 1)]) rfl rfl rfl (by decide +kernel) (by decide) mp11 md2205 (by decide +kernel) (mS2205) (fun _ h => absurd h List.not_mem_nil)
theorem md2206 : ∀ z ∈ mc11_6, decode (m_B 2206) z.1 = .ok (z.2.1, z.2.2) := by decide +kernel
theorem mS2206 : ∀ x ∈ ([(32, 83, 1)] : List (Nat × Nat × Nat)), m_tok m_strs RX11 (m_B 2206) x.2.1 x.2.2 x.1 := List.forall_mem_cons.mpr ⟨⟨by decide, 133, 87, 3, "no such week or price", List.mem_of_getElem? (i := 2) rfl, m_gi3 221 rfl rfl, m_gi1 15 rfl rfl, m_hat1, m_hgd1, by decide +kernel, Or.inl ⟨by decide +kernel, by decide +kernel, by decide +kernel⟩⟩, fun _ h => absurd h List.not_mem_nil⟩
theorem mm2206 : m_mok m_Z m_strs 2206 := m_mok_of (i := 2206) (own := RX11) (mn := "price") (I := mi11_6) (S := [(32, 83, 1)]) rfl rfl rfl (by decide +kernel) (by decide) mp11 md2206 (by decide +kernel) (mS2206) (fun _ h => absurd h List.not_mem_nil)
theorem md2207 : ∀ z ∈ mc11_7, decode (m_B 2207) z.1 = .ok (z.2.1, z.2.2) := by decide +kernel
theorem mm2207 : m_mok m_Z m_strs 2207 := m_mok_of (i := 2207) (own := RX11) (mn := "cost") (I := mi11_7) (S := []) rfl rfl rfl (by decide +kernel) (by decide) mp11 md2207 (by decide +kernel) (fun _ h => absurd h List.not_mem_nil) (fun _ h => absurd h List.not_mem_nil)
theorem md2208 : ∀ z ∈ mc11_8, decode (m_B 2208) z.1 = .ok (z.2.1, z.2.2) := by decide +kernel
theorem mS2208 : ∀ x ∈ ([(28, 83, 1)] : List (Nat × Nat × Nat)), m_tok m_strs RX11 (m_B 2208) x.2.1 x.2.2 x.1 := List.forall_mem_cons.mpr ⟨⟨by decide, 150, 87, 4, "no such steel or hands", List.mem_of_getElem? (i := 3) rfl, m_gi3 221 rfl rfl, m_gi1 15 rfl rfl, m_hat1, m_hgd1, by decide +kernel, Or.inl ⟨by decide +kernel, by decide +kernel, by decide +kernel⟩⟩, fun _ h => absurd h List.not_mem_nil⟩
theorem mm2208 : m_mok m_Z m_strs 2208 := m_mok_of (i := 2208) (own := RX11) (mn := "works") (I := mi11_8) (S := [(28, 83, 1)]) rfl rfl rfl (by decide +kernel) (by decide) mp11 md2208 (by decide +kernel) (mS2208) (fun _ h => absurd h List.not_mem_nil)
theorem md2209 : ∀ z ∈ mc11_9, decode (m_B 2209) z.1 = .ok (z.2.1, z.2.2) := by decide +kernel
theorem mm2209 : m_mok m_Z m_strs 2209 := m_mok_of (i := 2209) (own := RX11) (mn := "order") (I := mi11_9) (S := []) rfl rfl rfl (by decide +kernel) (by decide) mp11 md2209 (by decide +kernel) (fun _ h => absurd h List.not_mem_nil) (fun _ h => absurd h List.not_mem_nil)
theorem md2210 : ∀ z ∈ mc11_10, decode (m_B 2210) z.1 = .ok (z.2.1, z.2.2) := by decide +kernel
theorem mS2210 : ∀ x ∈ ([(15, 171, 4)] : List (Nat × Nat × Nat)), m_tok m_strs RX11 (m_B 2210) x.2.1 x.2.2 x.1 := List.forall_mem_cons.mpr ⟨⟨by decide, 173, 175, 9, "no such thing of a lot", List.mem_of_getElem? (i := 8) rfl, m_gi4 101 rfl rfl, m_gi1 18 rfl rfl, m_hat4, m_hgd4, by decide +kernel, Or.inl ⟨by decide +kernel, by decide +kernel, by decide +kernel⟩⟩, fun _ h => absurd h List.not_mem_nil⟩
theorem mm2210 : m_mok m_Z m_strs 2210 := m_mok_of (i := 2210) (own := RX11) (mn := "lot") (I := mi11_10) (S := [(15, 171, 4)]) rfl rfl rfl (by decide +kernel) (by decide) mp11 md2210 (by decide +kernel) (mS2210) (fun _ h => absurd h List.not_mem_nil)
theorem md2211 : ∀ z ∈ mc11_11, decode (m_B 2211) z.1 = .ok (z.2.1, z.2.2) := by decide +kernel
theorem mS2211 : ∀ x ∈ ([(28, 83, 1), (51, 101, 2)] : List (Nat × Nat × Nat)), m_tok m_strs RX11 (m_B 2211) x.2.1 x.2.2 x.1 := List.forall_mem_cons.mpr ⟨⟨by decide, 188, 87, 33, "no such drawn number", List.mem_of_getElem? (i := 32) rfl, m_gi3 221 rfl rfl, m_gi1 15 rfl rfl, m_hat1, m_hgd1, by decide +kernel, Or.inl ⟨by decide +kernel, by decide +kernel, by decide +kernel⟩⟩, List.forall_mem_cons.mpr ⟨⟨by decide, 197, 105, 34, "no more requests", List.mem_of_getElem? (i := 33) rfl, m_gi4 44 rfl rfl, m_gi1 16 rfl rfl, m_hat2, m_hgd2, by decide +kernel, Or.inl ⟨by decide +kernel, by decide +kernel, by decide +kernel⟩⟩, fun _ h => absurd h List.not_mem_nil⟩⟩
theorem mm2211 : m_mok m_Z m_strs 2211 := m_mok_of (i := 2211) (own := RX11) (mn := "ask") (I := mi11_11) (S := [(28, 83, 1), (51, 101, 2)]) rfl rfl rfl (by decide +kernel) (by decide) mp11 md2211 (by decide +kernel) (mS2211) (fun _ h => absurd h List.not_mem_nil)
theorem md2212 : ∀ z ∈ mc11_12, decode (m_B 2212) z.1 = .ok (z.2.1, z.2.2) := by decide +kernel
theorem mS2212 : ∀ x ∈ ([(14, 207, 0), (33, 171, 4)] : List (Nat × Nat × Nat)), m_tok m_strs RX11 (m_B 2212) x.2.1 x.2.2 x.1 := List.forall_mem_cons.mpr ⟨⟨by decide, 209, 211, 35, "no such request", List.mem_of_getElem? (i := 34) rfl, m_gi3 151 rfl rfl, m_gi1 14 rfl rfl, m_hat0, m_hgd0, by decide +kernel, Or.inl ⟨by decide +kernel, by decide +kernel, by decide +kernel⟩⟩, List.forall_mem_cons.mpr ⟨⟨by decide, 212, 175, 36, "no such thing of a request", List.mem_of_getElem? (i := 35) rfl, m_gi4 101 rfl rfl, m_gi1 18 rfl rfl, m_hat4, m_hgd4, by decide +kernel, Or.inl ⟨by decide +kernel, by decide +kernel, by decide +kernel⟩⟩, fun _ h => absurd h List.not_mem_nil⟩⟩
theorem mm2212 : m_mok m_Z m_strs 2212 := m_mok_of (i := 2212) (own := RX11) (mn := "weigh") (I := mi11_12) (S := [(14, 207, 0), (33, 171, 4)]) rfl rfl rfl (by decide +kernel) (by decide) mp11 md2212 (by decide +kernel) (mS2212) (fun _ h => absurd h List.not_mem_nil)
theorem md2213 : ∀ z ∈ mc11_13, decode (m_B 2213) z.1 = .ok (z.2.1, z.2.2) := by decide +kernel
theorem mm2213 : m_mok m_Z m_strs 2213 := m_mok_of (i := 2213) (own := RX11) (mn := "weighed") (I := mi11_13) (S := []) rfl rfl rfl (by decide +kernel) (by decide) mp11 md2213 (by decide +kernel) (fun _ h => absurd h List.not_mem_nil) (fun _ h => absurd h List.not_mem_nil)
theorem md2214 : ∀ z ∈ mc11_14, decode (m_B 2214) z.1 = .ok (z.2.1, z.2.2) := by decide +kernel
theorem mm2214 : m_mok m_Z m_strs 2214 := m_mok_of (i := 2214) (own := RX11) (mn := "allot") (I := mi11_14) (S := []) rfl rfl rfl (by decide +kernel) (by decide) mp11 md2214 (by decide +kernel) (fun _ h => absurd h List.not_mem_nil) (fun _ h => absurd h List.not_mem_nil)
theorem md2215 : ∀ z ∈ mc11_15, decode (m_B 2215) z.1 = .ok (z.2.1, z.2.2) := by decide +kernel
theorem mS2215 : ∀ x ∈ ([(15, 83, 1)] : List (Nat × Nat × Nat)), m_tok m_strs RX11 (m_B 2215) x.2.1 x.2.2 x.1 := List.forall_mem_cons.mpr ⟨⟨by decide, 256, 87, 37, "no such label", List.mem_of_getElem? (i := 36) rfl, m_gi3 221 rfl rfl, m_gi1 15 rfl rfl, m_hat1, m_hgd1, by decide +kernel, Or.inr ⟨by decide +kernel, by decide +kernel, by decide +kernel⟩⟩, fun _ h => absurd h List.not_mem_nil⟩
theorem mm2215 : m_mok m_Z m_strs 2215 := m_mok_of (i := 2215) (own := RX11) (mn := "label") (I := mi11_15) (S := [(15, 83, 1)]) rfl rfl rfl (by decide +kernel) (by decide) mp11 md2215 (by decide +kernel) (mS2215) (fun _ h => absurd h List.not_mem_nil)
theorem md2216 : ∀ z ∈ mc11_16, decode (m_B 2216) z.1 = .ok (z.2.1, z.2.2) := by decide +kernel
theorem mm2216 : m_mok m_Z m_strs 2216 := m_mok_of (i := 2216) (own := RX11) (mn := "give") (I := mi11_16) (S := []) rfl rfl rfl (by decide +kernel) (by decide) mp11 md2216 (by decide +kernel) (fun _ h => absurd h List.not_mem_nil) (fun _ h => absurd h List.not_mem_nil)
theorem md2217 : ∀ z ∈ mc11_17, decode (m_B 2217) z.1 = .ok (z.2.1, z.2.2) := by decide +kernel
theorem mm2217 : m_mok m_Z m_strs 2217 := m_mok_of (i := 2217) (own := RX11) (mn := "back") (I := mi11_17) (S := []) rfl rfl rfl (by decide +kernel) (by decide) mp11 md2217 (by decide +kernel) (fun _ h => absurd h List.not_mem_nil) (fun _ h => absurd h List.not_mem_nil)
theorem md2218 : ∀ z ∈ mc11_18, decode (m_B 2218) z.1 = .ok (z.2.1, z.2.2) := by decide +kernel
theorem mS2218 : ∀ x ∈ ([(21, 83, 1), (45, 101, 2)] : List (Nat × Nat × Nat)), m_tok m_strs RX11 (m_B 2218) x.2.1 x.2.2 x.1 := List.forall_mem_cons.mpr ⟨⟨by decide, 272, 87, 38, "no such hold or luck", List.mem_of_getElem? (i := 37) rfl, m_gi3 221 rfl rfl, m_gi1 15 rfl rfl, m_hat1, m_hgd1, by decide +kernel, Or.inr ⟨by decide +kernel, by decide +kernel, by decide +kernel⟩⟩, List.forall_mem_cons.mpr ⟨⟨by decide, 277, 105, 39, "no more ships", List.mem_of_getElem? (i := 38) rfl, m_gi4 44 rfl rfl, m_gi1 16 rfl rfl, m_hat2, m_hgd2, by decide +kernel, Or.inr ⟨by decide +kernel, by decide +kernel, by decide +kernel⟩⟩, fun _ h => absurd h List.not_mem_nil⟩⟩
theorem mm2218 : m_mok m_Z m_strs 2218 := m_mok_of (i := 2218) (own := RX11) (mn := "ship") (I := mi11_18) (S := [(21, 83, 1), (45, 101, 2)]) rfl rfl rfl (by decide +kernel) (by decide) mp11 md2218 (by decide +kernel) (mS2218) (fun _ h => absurd h List.not_mem_nil)
theorem md2219 : ∀ z ∈ mc11_19, decode (m_B 2219) z.1 = .ok (z.2.1, z.2.2) := by decide +kernel
theorem mS2219 : ∀ x ∈ ([(18, 83, 1)] : List (Nat × Nat × Nat)), m_tok m_strs RX11 (m_B 2219) x.2.1 x.2.2 x.1 := List.forall_mem_cons.mpr ⟨⟨by decide, 279, 87, 40, "no such way", List.mem_of_getElem? (i := 39) rfl, m_gi3 221 rfl rfl, m_gi1 15 rfl rfl, m_hat1, m_hgd1, by decide +kernel, Or.inr ⟨by decide +kernel, by decide +kernel, by decide +kernel⟩⟩, fun _ h => absurd h List.not_mem_nil⟩
theorem mm2219 : m_mok m_Z m_strs 2219 := m_mok_of (i := 2219) (own := RX11) (mn := "way") (I := mi11_19) (S := [(18, 83, 1)]) rfl rfl rfl (by decide +kernel) (by decide) mp11 md2219 (by decide +kernel) (mS2219) (fun _ h => absurd h List.not_mem_nil)
theorem md2220 : ∀ z ∈ mc11_20, decode (m_B 2220) z.1 = .ok (z.2.1, z.2.2) := by decide +kernel
theorem mS2220 : ∀ x ∈ ([(35, 83, 1)] : List (Nat × Nat × Nat)), m_tok m_strs RX11 (m_B 2220) x.2.1 x.2.2 x.1 := List.forall_mem_cons.mpr ⟨⟨by decide, 284, 87, 41, "no such week or risk", List.mem_of_getElem? (i := 40) rfl, m_gi3 221 rfl rfl, m_gi1 15 rfl rfl, m_hat1, m_hgd1, by decide +kernel, Or.inr ⟨by decide +kernel, by decide +kernel, by decide +kernel⟩⟩, fun _ h => absurd h List.not_mem_nil⟩
theorem mm2220 : m_mok m_Z m_strs 2220 := m_mok_of (i := 2220) (own := RX11) (mn := "risk") (I := mi11_20) (S := [(35, 83, 1)]) rfl rfl rfl (by decide +kernel) (by decide) mp11 md2220 (by decide +kernel) (mS2220) (fun _ h => absurd h List.not_mem_nil)
theorem md2221 : ∀ z ∈ mc11_21, decode (m_B 2221) z.1 = .ok (z.2.1, z.2.2) := by decide +kernel
theorem mm2221 : m_mok m_Z m_strs 2221 := m_mok_of (i := 2221) (own := RX11) (mn := "load") (I := mi11_21) (S := []) rfl rfl rfl (by decide +kernel) (by decide) mp11 md2221 (by decide +kernel) (fun _ h => absurd h List.not_mem_nil) (fun _ h => absurd h List.not_mem_nil)
theorem md2222 : ∀ z ∈ mc11_22, decode (m_B 2222) z.1 = .ok (z.2.1, z.2.2) := by decide +kernel
theorem mm2222 : m_mok m_Z m_strs 2222 := m_mok_of (i := 2222) (own := RX11) (mn := "sail") (I := mi11_22) (S := []) rfl rfl rfl (by decide +kernel) (by decide) mp11 md2222 (by decide +kernel) (fun _ h => absurd h List.not_mem_nil) (fun _ h => absurd h List.not_mem_nil)
theorem md2223 : ∀ z ∈ mc11_23, decode (m_B 2223) z.1 = .ok (z.2.1, z.2.2) := by decide +kernel
theorem mS2223 : ∀ x ∈ ([(119, 171, 4)] : List (Nat × Nat × Nat)), m_tok m_strs RX11 (m_B 2223) x.2.1 x.2.2 x.1 := List.forall_mem_cons.mpr ⟨⟨by decide, 309, 175, 43, "no such thing of a ship", List.mem_of_getElem? (i := 42) rfl, m_gi4 101 rfl rfl, m_gi1 18 rfl rfl, m_hat4, m_hgd4, by decide +kernel, Or.inr ⟨by decide +kernel, by decide +kernel, by decide +kernel⟩⟩, fun _ h => absurd h List.not_mem_nil⟩
theorem mm2223 : m_mok m_Z m_strs 2223 := m_mok_of (i := 2223) (own := RX11) (mn := "led") (I := mi11_23) (S := [(119, 171, 4)]) rfl rfl rfl (by decide +kernel) (by decide) mp11 md2223 (by decide +kernel) (mS2223) (fun _ h => absurd h List.not_mem_nil)
theorem md2224 : ∀ z ∈ mc11_24, decode (m_B 2224) z.1 = .ok (z.2.1, z.2.2) := by decide +kernel
theorem mS2224 : ∀ x ∈ ([(23, 83, 1)] : List (Nat × Nat × Nat)), m_tok m_strs RX11 (m_B 2224) x.2.1 x.2.2 x.1 := List.forall_mem_cons.mpr ⟨⟨by decide, 311, 87, 44, "no such need", List.mem_of_getElem? (i := 43) rfl, m_gi3 221 rfl rfl, m_gi1 15 rfl rfl, m_hat1, m_hgd1, by decide +kernel, Or.inr ⟨by decide +kernel, by decide +kernel, by decide +kernel⟩⟩, fun _ h => absurd h List.not_mem_nil⟩
theorem mm2224 : m_mok m_Z m_strs 2224 := m_mok_of (i := 2224) (own := RX11) (mn := "need") (I := mi11_24) (S := [(23, 83, 1)]) rfl rfl rfl (by decide +kernel) (by decide) mp11 md2224 (by decide +kernel) (mS2224) (fun _ h => absurd h List.not_mem_nil)
theorem md2225 : ∀ z ∈ mc11_25, decode (m_B 2225) z.1 = .ok (z.2.1, z.2.2) := by decide +kernel
theorem mS2225 : ∀ x ∈ ([(10, 83, 1)] : List (Nat × Nat × Nat)), m_tok m_strs RX11 (m_B 2225) x.2.1 x.2.2 x.1 := List.forall_mem_cons.mpr ⟨⟨by decide, 319, 87, 45, "no such number of weeks", List.mem_of_getElem? (i := 44) rfl, m_gi3 221 rfl rfl, m_gi1 15 rfl rfl, m_hat1, m_hgd1, by decide +kernel, Or.inr ⟨by decide +kernel, by decide +kernel, by decide +kernel⟩⟩, fun _ h => absurd h List.not_mem_nil⟩
theorem mm2225 : m_mok m_Z m_strs 2225 := m_mok_of (i := 2225) (own := RX11) (mn := "weeks") (I := mi11_25) (S := [(10, 83, 1)]) rfl rfl rfl (by decide +kernel) (by decide) mp11 md2225 (by decide +kernel) (mS2225) (fun _ h => absurd h List.not_mem_nil)
theorem md2226 : ∀ z ∈ mc11_26, decode (m_B 2226) z.1 = .ok (z.2.1, z.2.2) := by decide +kernel
theorem mS2226 : ∀ x ∈ ([(161, 171, 4)] : List (Nat × Nat × Nat)), m_tok m_strs RX11 (m_B 2226) x.2.1 x.2.2 x.1 := List.forall_mem_cons.mpr ⟨⟨by decide, 350, 175, 46, "no such thing of a land", List.mem_of_getElem? (i := 45) rfl, m_gi4 101 rfl rfl, m_gi1 18 rfl rfl, m_hat4, m_hgd4, by decide +kernel, Or.inr ⟨by decide +kernel, by decide +kernel, by decide +kernel⟩⟩, fun _ h => absurd h List.not_mem_nil⟩
theorem mm2226 : m_mok m_Z m_strs 2226 := m_mok_of (i := 2226) (own := RX11) (mn := "land") (I := mi11_26) (S := [(161, 171, 4)]) rfl rfl rfl (by decide +kernel) (by decide) mp11 md2226 (by decide +kernel) (mS2226) (fun _ h => absurd h List.not_mem_nil)
theorem md2227 : ∀ z ∈ mc11_27, decode (m_B 2227) z.1 = .ok (z.2.1, z.2.2) := by decide +kernel
theorem mS2227 : ∀ x ∈ ([(17, 171, 4)] : List (Nat × Nat × Nat)), m_tok m_strs RX11 (m_B 2227) x.2.1 x.2.2 x.1 := List.forall_mem_cons.mpr ⟨⟨by decide, 352, 175, 47, "no such balance", List.mem_of_getElem? (i := 46) rfl, m_gi4 101 rfl rfl, m_gi1 18 rfl rfl, m_hat4, m_hgd4, by decide +kernel, Or.inr ⟨by decide +kernel, by decide +kernel, by decide +kernel⟩⟩, fun _ h => absurd h List.not_mem_nil⟩
theorem mm2227 : m_mok m_Z m_strs 2227 := m_mok_of (i := 2227) (own := RX11) (mn := "balance") (I := mi11_27) (S := [(17, 171, 4)]) rfl rfl rfl (by decide +kernel) (by decide) mp11 md2227 (by decide +kernel) (mS2227) (fun _ h => absurd h List.not_mem_nil)
theorem md2228 : ∀ z ∈ mc11_28, decode (m_B 2228) z.1 = .ok (z.2.1, z.2.2) := by decide +kernel
theorem mm2228 : m_mok m_Z m_strs 2228 := m_mok_of (i := 2228) (own := RX11) (mn := "over") (I := mi11_28) (S := []) rfl rfl rfl (by decide +kernel) (by decide) mp11 md2228 (by decide +kernel) (fun _ h => absurd h List.not_mem_nil) (fun _ h => absurd h List.not_mem_nil)
theorem md2229 : ∀ z ∈ mc11_29, decode (m_B 2229) z.1 = .ok (z.2.1, z.2.2) := by decide +kernel
theorem mS2229 : ∀ x ∈ ([(39, 83, 1)] : List (Nat × Nat × Nat)), m_tok m_strs RX11 (m_B 2229) x.2.1 x.2.2 x.1 := List.forall_mem_cons.mpr ⟨⟨by decide, 366, 87, 48, "no such week or crates", List.mem_of_getElem? (i := 47) rfl, m_gi3 221 rfl rfl, m_gi1 15 rfl rfl, m_hat1, m_hgd1, by decide +kernel, Or.inr ⟨by decide +kernel, by decide +kernel, by decide +kernel⟩⟩, fun _ h => absurd h List.not_mem_nil⟩
theorem mm2229 : m_mok m_Z m_strs 2229 := m_mok_of (i := 2229) (own := RX11) (mn := "returned") (I := mi11_29) (S := [(39, 83, 1)]) rfl rfl rfl (by decide +kernel) (by decide) mp11 md2229 (by decide +kernel) (mS2229) (fun _ h => absurd h List.not_mem_nil)
theorem md2230 : ∀ z ∈ mc11_30, decode (m_B 2230) z.1 = .ok (z.2.1, z.2.2) := by decide +kernel
theorem mS2230 : ∀ x ∈ ([(27, 83, 1)] : List (Nat × Nat × Nat)), m_tok m_strs RX11 (m_B 2230) x.2.1 x.2.2 x.1 := List.forall_mem_cons.mpr ⟨⟨by decide, 372, 87, 49, "no such week", List.mem_of_getElem? (i := 48) rfl, m_gi3 221 rfl rfl, m_gi1 15 rfl rfl, m_hat1, m_hgd1, by decide +kernel, Or.inr ⟨by decide +kernel, by decide +kernel, by decide +kernel⟩⟩, fun _ h => absurd h List.not_mem_nil⟩
theorem mm2230 : m_mok m_Z m_strs 2230 := m_mok_of (i := 2230) (own := RX11) (mn := "mustBe") (I := mi11_30) (S := [(27, 83, 1)]) rfl rfl rfl (by decide +kernel) (by decide) mp11 md2230 (by decide +kernel) (mS2230) (fun _ h => absurd h List.not_mem_nil)
theorem md2231 : ∀ z ∈ mc11_31, decode (m_B 2231) z.1 = .ok (z.2.1, z.2.2) := by decide +kernel
theorem mS2231 : ∀ x ∈ ([(23, 83, 1)] : List (Nat × Nat × Nat)), m_tok m_strs RX11 (m_B 2231) x.2.1 x.2.2 x.1 := List.forall_mem_cons.mpr ⟨⟨by decide, 378, 87, 5, "no such crates", List.mem_of_getElem? (i := 4) rfl, m_gi3 221 rfl rfl, m_gi1 15 rfl rfl, m_hat1, m_hgd1, by decide +kernel, Or.inr ⟨by decide +kernel, by decide +kernel, by decide +kernel⟩⟩, fun _ h => absurd h List.not_mem_nil⟩
theorem mm2231 : m_mok m_Z m_strs 2231 := m_mok_of (i := 2231) (own := RX11) (mn := "seen") (I := mi11_31) (S := [(23, 83, 1)]) rfl rfl rfl (by decide +kernel) (by decide) mp11 md2231 (by decide +kernel) (mS2231) (fun _ h => absurd h List.not_mem_nil)
theorem md2232 : ∀ z ∈ mc11_32, decode (m_B 2232) z.1 = .ok (z.2.1, z.2.2) := by decide +kernel
theorem mm2232 : m_mok m_Z m_strs 2232 := m_mok_of (i := 2232) (own := RX11) (mn := "whence") (I := mi11_32) (S := []) rfl rfl rfl (by decide +kernel) (by decide) mp11 md2232 (by decide +kernel) (fun _ h => absurd h List.not_mem_nil) (fun _ h => absurd h List.not_mem_nil)
theorem md2233 : ∀ z ∈ mc11_33, decode (m_B 2233) z.1 = .ok (z.2.1, z.2.2) := by decide +kernel
theorem mS2233 : ∀ x ∈ ([(27, 171, 4)] : List (Nat × Nat × Nat)), m_tok m_strs RX11 (m_B 2233) x.2.1 x.2.2 x.1 := List.forall_mem_cons.mpr ⟨⟨by decide, 390, 175, 58, "no such row", List.mem_of_getElem? (i := 57) rfl, m_gi4 101 rfl rfl, m_gi1 18 rfl rfl, m_hat4, m_hgd4, by decide +kernel, Or.inr ⟨by decide +kernel, by decide +kernel, by decide +kernel⟩⟩, fun _ h => absurd h List.not_mem_nil⟩
theorem mm2233 : m_mok m_Z m_strs 2233 := m_mok_of (i := 2233) (own := RX11) (mn := "tear") (I := mi11_33) (S := [(27, 171, 4)]) rfl rfl rfl (by decide +kernel) (by decide) mp11 md2233 (by decide +kernel) (mS2233) (fun _ h => absurd h List.not_mem_nil)
theorem md2234 : ∀ z ∈ mc11_34, decode (m_B 2234) z.1 = .ok (z.2.1, z.2.2) := by decide +kernel
theorem mm2234 : m_mok m_Z m_strs 2234 := m_mok_of (i := 2234) (own := RX11) (mn := "check") (I := mi11_34) (S := []) rfl rfl rfl (by decide +kernel) (by decide) mp11 md2234 (by decide +kernel) (fun _ h => absurd h List.not_mem_nil) (fun _ h => absurd h List.not_mem_nil)
theorem md2235 : ∀ z ∈ mc11_35, decode (m_B 2235) z.1 = .ok (z.2.1, z.2.2) := by decide +kernel
theorem mS2235 : ∀ x ∈ ([(42, 83, 1), (66, 101, 2)] : List (Nat × Nat × Nat)), m_tok m_strs RX11 (m_B 2235) x.2.1 x.2.2 x.1 := List.forall_mem_cons.mpr ⟨⟨by decide, 392, 87, 50, "no such number of a base", List.mem_of_getElem? (i := 49) rfl, m_gi3 221 rfl rfl, m_gi1 15 rfl rfl, m_hat1, m_hgd1, by decide +kernel, Or.inr ⟨by decide +kernel, by decide +kernel, by decide +kernel⟩⟩, List.forall_mem_cons.mpr ⟨⟨by decide, 397, 105, 51, "no more bases", List.mem_of_getElem? (i := 50) rfl, m_gi4 44 rfl rfl, m_gi1 16 rfl rfl, m_hat2, m_hgd2, by decide +kernel, Or.inr ⟨by decide +kernel, by decide +kernel, by decide +kernel⟩⟩, fun _ h => absurd h List.not_mem_nil⟩⟩
theorem mm2235 : m_mok m_Z m_strs 2235 := m_mok_of (i := 2235) (own := RX11) (mn := "rock") (I := mi11_35) (S := [(42, 83, 1), (66, 101, 2)]) rfl rfl rfl (by decide +kernel) (by decide) mp11 md2235 (by decide +kernel) (mS2235) (fun _ h => absurd h List.not_mem_nil)
theorem md2236 : ∀ z ∈ mc11_36, decode (m_B 2236) z.1 = .ok (z.2.1, z.2.2) := by decide +kernel
theorem mS2236 : ∀ x ∈ ([(14, 207, 0)] : List (Nat × Nat × Nat)), m_tok m_strs RX11 (m_B 2236) x.2.1 x.2.2 x.1 := List.forall_mem_cons.mpr ⟨⟨by decide, 399, 211, 52, "no such base", List.mem_of_getElem? (i := 51) rfl, m_gi3 151 rfl rfl, m_gi1 14 rfl rfl, m_hat0, m_hgd0, by decide +kernel, Or.inr ⟨by decide +kernel, by decide +kernel, by decide +kernel⟩⟩, fun _ h => absurd h List.not_mem_nil⟩
theorem mm2236 : m_mok m_Z m_strs 2236 := m_mok_of (i := 2236) (own := RX11) (mn := "net") (I := mi11_36) (S := [(14, 207, 0)]) rfl rfl rfl (by decide +kernel) (by decide) mp11 md2236 (by decide +kernel) (mS2236) (fun _ h => absurd h List.not_mem_nil)
theorem md2237 : ∀ z ∈ mc11_37, decode (m_B 2237) z.1 = .ok (z.2.1, z.2.2) := by decide +kernel
theorem mS2237 : ∀ x ∈ ([(19, 83, 1)] : List (Nat × Nat × Nat)), m_tok m_strs RX11 (m_B 2237) x.2.1 x.2.2 x.1 := List.forall_mem_cons.mpr ⟨⟨by decide, 401, 87, 53, "no such tons", List.mem_of_getElem? (i := 52) rfl, m_gi3 221 rfl rfl, m_gi1 15 rfl rfl, m_hat1, m_hgd1, by decide +kernel, Or.inr ⟨by decide +kernel, by decide +kernel, by decide +kernel⟩⟩, fun _ h => absurd h List.not_mem_nil⟩
theorem mm2237 : m_mok m_Z m_strs 2237 := m_mok_of (i := 2237) (own := RX11) (mn := "tons") (I := mi11_37) (S := [(19, 83, 1)]) rfl rfl rfl (by decide +kernel) (by decide) mp11 md2237 (by decide +kernel) (mS2237) (fun _ h => absurd h List.not_mem_nil)
theorem md2238 : ∀ z ∈ mc11_38, decode (m_B 2238) z.1 = .ok (z.2.1, z.2.2) := by decide +kernel
theorem mm2238 : m_mok m_Z m_strs 2238 := m_mok_of (i := 2238) (own := RX11) (mn := "hulls") (I := mi11_38) (S := []) rfl rfl rfl (by decide +kernel) (by decide) mp11 md2238 (by decide +kernel) (fun _ h => absurd h List.not_mem_nil) (fun _ h => absurd h List.not_mem_nil)
theorem md2239 : ∀ z ∈ mc11_39, decode (m_B 2239) z.1 = .ok (z.2.1, z.2.2) := by decide +kernel
theorem mm2239 : m_mok m_Z m_strs 2239 := m_mok_of (i := 2239) (own := RX11) (mn := "bestOrders") (I := mi11_39) (S := []) rfl rfl rfl (by decide +kernel) (by decide) mp11 md2239 (by decide +kernel) (fun _ h => absurd h List.not_mem_nil) (fun _ h => absurd h List.not_mem_nil)
theorem md2240 : ∀ z ∈ mc11_40, decode (m_B 2240) z.1 = .ok (z.2.1, z.2.2) := by decide +kernel
theorem mS2240 : ∀ x ∈ ([(26, 83, 1)] : List (Nat × Nat × Nat)), m_tok m_strs RX11 (m_B 2240) x.2.1 x.2.2 x.1 := List.forall_mem_cons.mpr ⟨⟨by decide, 417, 87, 54, "no such worth of a page", List.mem_of_getElem? (i := 53) rfl, m_gi3 221 rfl rfl, m_gi1 15 rfl rfl, m_hat1, m_hgd1, by decide +kernel, Or.inr ⟨by decide +kernel, by decide +kernel, by decide +kernel⟩⟩, fun _ h => absurd h List.not_mem_nil⟩
theorem mm2240 : m_mok m_Z m_strs 2240 := m_mok_of (i := 2240) (own := RX11) (mn := "page") (I := mi11_40) (S := [(26, 83, 1)]) rfl rfl rfl (by decide +kernel) (by decide) mp11 md2240 (by decide +kernel) (mS2240) (fun _ h => absurd h List.not_mem_nil)
theorem md2241 : ∀ z ∈ mc11_41, decode (m_B 2241) z.1 = .ok (z.2.1, z.2.2) := by decide +kernel
theorem mm2241 : m_mok m_Z m_strs 2241 := m_mok_of (i := 2241) (own := RX11) (mn := "signed") (I := mi11_41) (S := []) rfl rfl rfl (by decide +kernel) (by decide) mp11 md2241 (by decide +kernel) (fun _ h => absurd h List.not_mem_nil) (fun _ h => absurd h List.not_mem_nil)
theorem md2242 : ∀ z ∈ mc11_42, decode (m_B 2242) z.1 = .ok (z.2.1, z.2.2) := by decide +kernel
theorem mS2242 : ∀ x ∈ ([(43, 83, 1)] : List (Nat × Nat × Nat)), m_tok m_strs RX11 (m_B 2242) x.2.1 x.2.2 x.1 := List.forall_mem_cons.mpr ⟨⟨by decide, 426, 87, 55, "no such number of a choice", List.mem_of_getElem? (i := 54) rfl, m_gi3 221 rfl rfl, m_gi1 15 rfl rfl, m_hat1, m_hgd1, by decide +kernel, Or.inr ⟨by decide +kernel, by decide +kernel, by decide +kernel⟩⟩, fun _ h => absurd h List.not_mem_nil⟩
theorem mm2242 : m_mok m_Z m_strs 2242 := m_mok_of (i := 2242) (own := RX11) (mn := "choice") (I := mi11_42) (S := [(43, 83, 1)]) rfl rfl rfl (by decide +kernel) (by decide) mp11 md2242 (by decide +kernel) (mS2242) (fun _ h => absurd h List.not_mem_nil)
theorem md2243 : ∀ z ∈ mc11_43, decode (m_B 2243) z.1 = .ok (z.2.1, z.2.2) := by decide +kernel
theorem mS2243 : ∀ x ∈ ([(53, 83, 1)] : List (Nat × Nat × Nat)), m_tok m_strs RX11 (m_B 2243) x.2.1 x.2.2 x.1 := List.forall_mem_cons.mpr ⟨⟨by decide, 431, 87, 56, "no such number of a row", List.mem_of_getElem? (i := 55) rfl, m_gi3 221 rfl rfl, m_gi1 15 rfl rfl, m_hat1, m_hgd1, by decide +kernel, Or.inr ⟨by decide +kernel, by decide +kernel, by decide +kernel⟩⟩, fun _ h => absurd h List.not_mem_nil⟩
theorem mm2243 : m_mok m_Z m_strs 2243 := m_mok_of (i := 2243) (own := RX11) (mn := "row") (I := mi11_43) (S := [(53, 83, 1)]) rfl rfl rfl (by decide +kernel) (by decide) mp11 md2243 (by decide +kernel) (mS2243) (fun _ h => absurd h List.not_mem_nil)
theorem md2244 : ∀ z ∈ mc11_44, decode (m_B 2244) z.1 = .ok (z.2.1, z.2.2) := by decide +kernel
theorem mm2244 : m_mok m_Z m_strs 2244 := m_mok_of (i := 2244) (own := RX11) (mn := "lasts") (I := mi11_44) (S := []) rfl rfl rfl (by decide +kernel) (by decide) mp11 md2244 (by decide +kernel) (fun _ h => absurd h List.not_mem_nil) (fun _ h => absurd h List.not_mem_nil)
theorem md2245 : ∀ z ∈ mc11_45, decode (m_B 2245) z.1 = .ok (z.2.1, z.2.2) := by decide +kernel
theorem mS2245 : ∀ x ∈ ([(22, 83, 1)] : List (Nat × Nat × Nat)), m_tok m_strs RX11 (m_B 2245) x.2.1 x.2.2 x.1 := List.forall_mem_cons.mpr ⟨⟨by decide, 439, 87, 57, "no such coin", List.mem_of_getElem? (i := 56) rfl, m_gi3 221 rfl rfl, m_gi1 15 rfl rfl, m_hat1, m_hgd1, by decide +kernel, Or.inr ⟨by decide +kernel, by decide +kernel, by decide +kernel⟩⟩, fun _ h => absurd h List.not_mem_nil⟩
theorem mm2245 : m_mok m_Z m_strs 2245 := m_mok_of (i := 2245) (own := RX11) (mn := "cash") (I := mi11_45) (S := [(22, 83, 1)]) rfl rfl rfl (by decide +kernel) (by decide) mp11 md2245 (by decide +kernel) (mS2245) (fun _ h => absurd h List.not_mem_nil)
theorem md2246 : ∀ z ∈ mc11_46, decode (m_B 2246) z.1 = .ok (z.2.1, z.2.2) := by decide +kernel
theorem mm2246 : m_mok m_Z m_strs 2246 := m_mok_of (i := 2246) (own := RX11) (mn := "undo") (I := mi11_46) (S := []) rfl rfl rfl (by decide +kernel) (by decide) mp11 md2246 (by decide +kernel) (fun _ h => absurd h List.not_mem_nil) (fun _ h => absurd h List.not_mem_nil)
theorem md2247 : ∀ z ∈ mc11_47, decode (m_B 2247) z.1 = .ok (z.2.1, z.2.2) := by decide +kernel
theorem mm2247 : m_mok m_Z m_strs 2247 := m_mok_of (i := 2247) (own := RX11) (mn := "keep") (I := mi11_47) (S := []) rfl rfl rfl (by decide +kernel) (by decide) mp11 md2247 (by decide +kernel) (fun _ h => absurd h List.not_mem_nil) (fun _ h => absurd h List.not_mem_nil)
theorem md2248 : ∀ z ∈ mc11_48, decode (m_B 2248) z.1 = .ok (z.2.1, z.2.2) := by decide +kernel
theorem mm2248 : m_mok m_Z m_strs 2248 := m_mok_of (i := 2248) (own := RX11) (mn := "again") (I := mi11_48) (S := []) rfl rfl rfl (by decide +kernel) (by decide) mp11 md2248 (by decide +kernel) (fun _ h => absurd h List.not_mem_nil) (fun _ h => absurd h List.not_mem_nil)
theorem md2249 : ∀ z ∈ mc11_49, decode (m_B 2249) z.1 = .ok (z.2.1, z.2.2) := by decide +kernel
theorem mm2249 : m_mok m_Z m_strs 2249 := m_mok_of (i := 2249) (own := RX11) (mn := "count") (I := mi11_49) (S := []) rfl rfl rfl (by decide +kernel) (by decide) mp11 md2249 (by decide +kernel) (fun _ h => absurd h List.not_mem_nil) (fun _ h => absurd h List.not_mem_nil)
theorem md2250 : ∀ z ∈ mc11_50, decode (m_B 2250) z.1 = .ok (z.2.1, z.2.2) := by decide +kernel
theorem mm2250 : m_mok m_Z m_strs 2250 := m_mok_of (i := 2250) (own := RX11) (mn := "remember") (I := mi11_50) (S := []) rfl rfl rfl (by decide +kernel) (by decide) mp11 md2250 (by decide +kernel) (fun _ h => absurd h List.not_mem_nil) (fun _ h => absurd h List.not_mem_nil)
theorem md2251 : ∀ z ∈ mc11_51, decode (m_B 2251) z.1 = .ok (z.2.1, z.2.2) := by decide +kernel
theorem mm2251 : m_mok m_Z m_strs 2251 := m_mok_of (i := 2251) (own := RX11) (mn := "outside") (I := mi11_51) (S := []) rfl rfl rfl (by decide +kernel) (by decide) mp11 md2251 (by decide +kernel) (fun _ h => absurd h List.not_mem_nil) (fun _ h => absurd h List.not_mem_nil)
theorem md2252 : ∀ z ∈ mc11_52, decode (m_B 2252) z.1 = .ok (z.2.1, z.2.2) := by decide +kernel
theorem mS2252 : ∀ x ∈ ([(9, 207, 0)] : List (Nat × Nat × Nat)), m_tok m_strs RX11 (m_B 2252) x.2.1 x.2.2 x.1 := List.forall_mem_cons.mpr ⟨⟨by decide, 472, 211, 31, "no such land", List.mem_of_getElem? (i := 30) rfl, m_gi3 151 rfl rfl, m_gi1 14 rfl rfl, m_hat0, m_hgd0, by decide +kernel, Or.inr ⟨by decide +kernel, by decide +kernel, by decide +kernel⟩⟩, fun _ h => absurd h List.not_mem_nil⟩
theorem mm2252 : m_mok m_Z m_strs 2252 := m_mok_of (i := 2252) (own := RX11) (mn := "testLand") (I := mi11_52) (S := [(9, 207, 0)]) rfl rfl rfl (by decide +kernel) (by decide) mp11 md2252 (by decide +kernel) (mS2252) (fun _ h => absurd h List.not_mem_nil)
theorem md2253 : ∀ z ∈ mc11_53, decode (m_B 2253) z.1 = .ok (z.2.1, z.2.2) := by decide +kernel
theorem mS2253 : ∀ x ∈ ([(4, 83, 1)] : List (Nat × Nat × Nat)), m_tok m_strs RX11 (m_B 2253) x.2.1 x.2.2 x.1 := List.forall_mem_cons.mpr ⟨⟨by decide, 474, 87, 32, "the land is the maker", List.mem_of_getElem? (i := 31) rfl, m_gi3 221 rfl rfl, m_gi1 15 rfl rfl, m_hat1, m_hgd1, by decide +kernel, Or.inr ⟨by decide +kernel, by decide +kernel, by decide +kernel⟩⟩, fun _ h => absurd h List.not_mem_nil⟩
theorem mm2253 : m_mok m_Z m_strs 2253 := m_mok_of (i := 2253) (own := RX11) (mn := "testAbroad") (I := mi11_53) (S := [(4, 83, 1)]) rfl rfl rfl (by decide +kernel) (by decide) mp11 md2253 (by decide +kernel) (mS2253) (fun _ h => absurd h List.not_mem_nil)
theorem md2254 : ∀ z ∈ mc11_54, decode (m_B 2254) z.1 = .ok (z.2.1, z.2.2) := by decide +kernel
theorem mS2254 : ∀ x ∈ ([(10, 207, 0)] : List (Nat × Nat × Nat)), m_tok m_strs RX11 (m_B 2254) x.2.1 x.2.2 x.1 := List.forall_mem_cons.mpr ⟨⟨by decide, 476, 211, 1, "no such sort", List.mem_of_getElem? (i := 0) rfl, m_gi3 151 rfl rfl, m_gi1 14 rfl rfl, m_hat0, m_hgd0, by decide +kernel, Or.inr ⟨by decide +kernel, by decide +kernel, by decide +kernel⟩⟩, fun _ h => absurd h List.not_mem_nil⟩
theorem mm2254 : m_mok m_Z m_strs 2254 := m_mok_of (i := 2254) (own := RX11) (mn := "testSort") (I := mi11_54) (S := [(10, 207, 0)]) rfl rfl rfl (by decide +kernel) (by decide) mp11 md2254 (by decide +kernel) (mS2254) (fun _ h => absurd h List.not_mem_nil)
theorem md2255 : ∀ z ∈ mc11_55, decode (m_B 2255) z.1 = .ok (z.2.1, z.2.2) := by decide +kernel
theorem mS2255 : ∀ x ∈ ([(11, 83, 1)] : List (Nat × Nat × Nat)), m_tok m_strs RX11 (m_B 2255) x.2.1 x.2.2 x.1 := List.forall_mem_cons.mpr ⟨⟨by decide, 378, 87, 5, "no such crates", List.mem_of_getElem? (i := 4) rfl, m_gi3 221 rfl rfl, m_gi1 15 rfl rfl, m_hat1, m_hgd1, by decide +kernel, Or.inr ⟨by decide +kernel, by decide +kernel, by decide +kernel⟩⟩, fun _ h => absurd h List.not_mem_nil⟩
theorem mm2255 : m_mok m_Z m_strs 2255 := m_mok_of (i := 2255) (own := RX11) (mn := "testCrates") (I := mi11_55) (S := [(11, 83, 1)]) rfl rfl rfl (by decide +kernel) (by decide) mp11 md2255 (by decide +kernel) (mS2255) (fun _ h => absurd h List.not_mem_nil)
theorem md2256 : ∀ z ∈ mc11_56, decode (m_B 2256) z.1 = .ok (z.2.1, z.2.2) := by decide +kernel
theorem mS2256 : ∀ x ∈ ([(14, 207, 0)] : List (Nat × Nat × Nat)), m_tok m_strs RX11 (m_B 2256) x.2.1 x.2.2 x.1 := List.forall_mem_cons.mpr ⟨⟨by decide, 478, 211, 8, "no such lot", List.mem_of_getElem? (i := 7) rfl, m_gi3 151 rfl rfl, m_gi1 14 rfl rfl, m_hat0, m_hgd0, by decide +kernel, Or.inr ⟨by decide +kernel, by decide +kernel, by decide +kernel⟩⟩, fun _ h => absurd h List.not_mem_nil⟩
theorem mm2256 : m_mok m_Z m_strs 2256 := m_mok_of (i := 2256) (own := RX11) (mn := "testLot") (I := mi11_56) (S := [(14, 207, 0)]) rfl rfl rfl (by decide +kernel) (by decide) mp11 md2256 (by decide +kernel) (mS2256) (fun _ h => absurd h List.not_mem_nil)
theorem md2257 : ∀ z ∈ mc11_57, decode (m_B 2257) z.1 = .ok (z.2.1, z.2.2) := by decide +kernel
theorem mS2257 : ∀ x ∈ ([(14, 207, 0)] : List (Nat × Nat × Nat)), m_tok m_strs RX11 (m_B 2257) x.2.1 x.2.2 x.1 := List.forall_mem_cons.mpr ⟨⟨by decide, 480, 211, 42, "no such ship", List.mem_of_getElem? (i := 41) rfl, m_gi3 151 rfl rfl, m_gi1 14 rfl rfl, m_hat0, m_hgd0, by decide +kernel, Or.inr ⟨by decide +kernel, by decide +kernel, by decide +kernel⟩⟩, fun _ h => absurd h List.not_mem_nil⟩
theorem mm2257 : m_mok m_Z m_strs 2257 := m_mok_of (i := 2257) (own := RX11) (mn := "testShip") (I := mi11_57) (S := [(14, 207, 0)]) rfl rfl rfl (by decide +kernel) (by decide) mp11 md2257 (by decide +kernel) (mS2257) (fun _ h => absurd h List.not_mem_nil)
theorem md2258 : ∀ z ∈ mc11_58, decode (m_B 2258) z.1 = .ok (z.2.1, z.2.2) := by decide +kernel
theorem mS2258 : ∀ x ∈ ([(13, 101, 2)] : List (Nat × Nat × Nat)), m_tok m_strs RX11 (m_B 2258) x.2.1 x.2.2 x.1 := List.forall_mem_cons.mpr ⟨⟨by decide, 482, 105, 6, "no more lots", List.mem_of_getElem? (i := 5) rfl, m_gi4 44 rfl rfl, m_gi1 16 rfl rfl, m_hat2, m_hgd2, by decide +kernel, Or.inr ⟨by decide +kernel, by decide +kernel, by decide +kernel⟩⟩, fun _ h => absurd h List.not_mem_nil⟩
theorem mm2258 : m_mok m_Z m_strs 2258 := m_mok_of (i := 2258) (own := RX11) (mn := "testRoomForLot") (I := mi11_58) (S := [(13, 101, 2)]) rfl rfl rfl (by decide +kernel) (by decide) mp11 md2258 (by decide +kernel) (mS2258) (fun _ h => absurd h List.not_mem_nil)
theorem md2259 : ∀ z ∈ mc11_59, decode (m_B 2259) z.1 = .ok (z.2.1, z.2.2) := by decide +kernel
theorem mS2259 : ∀ x ∈ ([(10, 484, 3)] : List (Nat × Nat × Nat)), m_tok m_strs RX11 (m_B 2259) x.2.1 x.2.2 x.1 := List.forall_mem_cons.mpr ⟨⟨by decide, 486, 488, 7, "it is behind the end", List.mem_of_getElem? (i := 6) rfl, m_gi4 64 rfl rfl, m_gi1 17 rfl rfl, m_hat3, m_hgd3, by decide +kernel, Or.inr ⟨by decide +kernel, by decide +kernel, by decide +kernel⟩⟩, fun _ h => absurd h List.not_mem_nil⟩
theorem mm2259 : m_mok m_Z m_strs 2259 := m_mok_of (i := 2259) (own := RX11) (mn := "testNotEnded") (I := mi11_59) (S := [(10, 484, 3)]) rfl rfl rfl (by decide +kernel) (by decide) mp11 md2259 (by decide +kernel) (mS2259) (fun _ h => absurd h List.not_mem_nil)
theorem md2400 : ∀ z ∈ mc12_0, decode (m_B 2400) z.1 = .ok (z.2.1, z.2.2) := by decide +kernel
theorem mm2400 : m_mok m_Z m_strs 2400 := m_mok_of (i := 2400) (own := RX12) (mn := "thrown") (I := mi12_0) (S := []) rfl rfl rfl (by decide +kernel) (by decide) mp12 md2400 (by decide +kernel) (fun _ h => absurd h List.not_mem_nil) (fun _ h => absurd h List.not_mem_nil)
theorem md2401 : ∀ z ∈ mc12_1, decode (m_B 2401) z.1 = .ok (z.2.1, z.2.2) := by decide +kernel
theorem mm2401 : m_mok m_Z m_strs 2401 := m_mok_of (i := 2401) (own := RX12) (mn := "throwsIf") (I := mi12_1) (S := []) rfl rfl rfl (by decide +kernel) (by decide) mp12 md2401 (by decide +kernel) (fun _ h => absurd h List.not_mem_nil) (fun _ h => absurd h List.not_mem_nil)
theorem md2402 : ∀ z ∈ mc12_2, decode (m_B 2402) z.1 = .ok (z.2.1, z.2.2) := by decide +kernel
theorem mm2402 : m_mok m_Z m_strs 2402 := m_mok_of (i := 2402) (own := RX12) (mn := "in") (I := mi12_2) (S := []) rfl rfl rfl (by decide +kernel) (by decide) mp12 md2402 (by decide +kernel) (fun _ h => absurd h List.not_mem_nil) (fun _ h => absurd h List.not_mem_nil)
theorem md2403 : ∀ z ∈ mc12_3, decode (m_B 2403) z.1 = .ok (z.2.1, z.2.2) := by decide +kernel
theorem mm2403 : m_mok m_Z m_strs 2403 := m_mok_of (i := 2403) (own := RX12) (mn := "<init>") (I := mi12_3) (S := []) rfl rfl rfl (by decide +kernel) (by decide) mp12 md2403 (by decide +kernel) (fun _ h => absurd h List.not_mem_nil) (fun _ h => absurd h List.not_mem_nil)
theorem md2404 : ∀ z ∈ mc12_4, decode (m_B 2404) z.1 = .ok (z.2.1, z.2.2) := by decide +kernel
theorem mm2404 : m_mok m_Z m_strs 2404 := m_mok_of (i := 2404) (own := RX12) (mn := "week") (I := mi12_4) (S := []) rfl rfl rfl (by decide +kernel) (by decide) mp12 md2404 (by decide +kernel) (fun _ h => absurd h List.not_mem_nil) (fun _ h => absurd h List.not_mem_nil)
theorem md2405 : ∀ z ∈ mc12_5, decode (m_B 2405) z.1 = .ok (z.2.1, z.2.2) := by decide +kernel
theorem mm2405 : m_mok m_Z m_strs 2405 := m_mok_of (i := 2405) (own := RX12) (mn := "isOver") (I := mi12_5) (S := []) rfl rfl rfl (by decide +kernel) (by decide) mp12 md2405 (by decide +kernel) (fun _ h => absurd h List.not_mem_nil) (fun _ h => absurd h List.not_mem_nil)
theorem md2406 : ∀ z ∈ mc12_6, decode (m_B 2406) z.1 = .ok (z.2.1, z.2.2) := by decide +kernel
theorem mm2406 : m_mok m_Z m_strs 2406 := m_mok_of (i := 2406) (own := RX12) (mn := "deed") (I := mi12_6) (S := []) rfl rfl rfl (by decide +kernel) (by decide) mp12 md2406 (by decide +kernel) (fun _ h => absurd h List.not_mem_nil) (fun _ h => absurd h List.not_mem_nil)
theorem md2407 : ∀ z ∈ mc12_7, decode (m_B 2407) z.1 = .ok (z.2.1, z.2.2) := by decide +kernel
theorem mm2407 : m_mok m_Z m_strs 2407 := m_mok_of (i := 2407) (own := RX12) (mn := "undo") (I := mi12_7) (S := []) rfl rfl rfl (by decide +kernel) (by decide) mp12 md2407 (by decide +kernel) (fun _ h => absurd h List.not_mem_nil) (fun _ h => absurd h List.not_mem_nil)
theorem md2408 : ∀ z ∈ mc12_8, decode (m_B 2408) z.1 = .ok (z.2.1, z.2.2) := by decide +kernel
theorem mm2408 : m_mok m_Z m_strs 2408 := m_mok_of (i := 2408) (own := RX12) (mn := "keep") (I := mi12_8) (S := []) rfl rfl rfl (by decide +kernel) (by decide) mp12 md2408 (by decide +kernel) (fun _ h => absurd h List.not_mem_nil) (fun _ h => absurd h List.not_mem_nil)
theorem md2409 : ∀ z ∈ mc12_9, decode (m_B 2409) z.1 = .ok (z.2.1, z.2.2) := by decide +kernel
theorem mm2409 : m_mok m_Z m_strs 2409 := m_mok_of (i := 2409) (own := RX12) (mn := "again") (I := mi12_9) (S := []) rfl rfl rfl (by decide +kernel) (by decide) mp12 md2409 (by decide +kernel) (fun _ h => absurd h List.not_mem_nil) (fun _ h => absurd h List.not_mem_nil)
theorem md2410 : ∀ z ∈ mc12_10, decode (m_B 2410) z.1 = .ok (z.2.1, z.2.2) := by decide +kernel
theorem mm2410 : m_mok m_Z m_strs 2410 := m_mok_of (i := 2410) (own := RX12) (mn := "noSort") (I := mi12_10) (S := []) rfl rfl rfl (by decide +kernel) (by decide) mp12 md2410 (by decide +kernel) (fun _ h => absurd h List.not_mem_nil) (fun _ h => absurd h List.not_mem_nil)
theorem md2411 : ∀ z ∈ mc12_11, decode (m_B 2411) z.1 = .ok (z.2.1, z.2.2) := by decide +kernel
theorem mm2411 : m_mok m_Z m_strs 2411 := m_mok_of (i := 2411) (own := RX12) (mn := "noLand") (I := mi12_11) (S := []) rfl rfl rfl (by decide +kernel) (by decide) mp12 md2411 (by decide +kernel) (fun _ h => absurd h List.not_mem_nil) (fun _ h => absurd h List.not_mem_nil)
theorem md2412 : ∀ z ∈ mc12_12, decode (m_B 2412) z.1 = .ok (z.2.1, z.2.2) := by decide +kernel
theorem mm2412 : m_mok m_Z m_strs 2412 := m_mok_of (i := 2412) (own := RX12) (mn := "sortOf") (I := mi12_12) (S := []) rfl rfl rfl (by decide +kernel) (by decide) mp12 md2412 (by decide +kernel) (fun _ h => absurd h List.not_mem_nil) (fun _ h => absurd h List.not_mem_nil)
theorem md2413 : ∀ z ∈ mc12_13, decode (m_B 2413) z.1 = .ok (z.2.1, z.2.2) := by decide +kernel
theorem mm2413 : m_mok m_Z m_strs 2413 := m_mok_of (i := 2413) (own := RX12) (mn := "landAt") (I := mi12_13) (S := []) rfl rfl rfl (by decide +kernel) (by decide) mp12 md2413 (by decide +kernel) (fun _ h => absurd h List.not_mem_nil) (fun _ h => absurd h List.not_mem_nil)
theorem md2414 : ∀ z ∈ mc12_14, decode (m_B 2414) z.1 = .ok (z.2.1, z.2.2) := by decide +kernel
theorem mm2414 : m_mok m_Z m_strs 2414 := m_mok_of (i := 2414) (own := RX12) (mn := "both") (I := mi12_14) (S := []) rfl rfl rfl (by decide +kernel) (by decide) mp12 md2414 (by decide +kernel) (fun _ h => absurd h List.not_mem_nil) (fun _ h => absurd h List.not_mem_nil)
theorem md2415 : ∀ z ∈ mc12_15, decode (m_B 2415) z.1 = .ok (z.2.1, z.2.2) := by decide +kernel
theorem mm2415 : m_mok m_Z m_strs 2415 := m_mok_of (i := 2415) (own := RX12) (mn := "sort") (I := mi12_15) (S := []) rfl rfl rfl (by decide +kernel) (by decide) mp12 md2415 (by decide +kernel) (fun _ h => absurd h List.not_mem_nil) (fun _ h => absurd h List.not_mem_nil)
theorem md2416 : ∀ z ∈ mc12_16, decode (m_B 2416) z.1 = .ok (z.2.1, z.2.2) := by decide +kernel
theorem mm2416 : m_mok m_Z m_strs 2416 := m_mok_of (i := 2416) (own := RX12) (mn := "tells") (I := mi12_16) (S := []) rfl rfl rfl (by decide +kernel) (by decide) mp12 md2416 (by decide +kernel) (fun _ h => absurd h List.not_mem_nil) (fun _ h => absurd h List.not_mem_nil)
theorem md2417 : ∀ z ∈ mc12_17, decode (m_B 2417) z.1 = .ok (z.2.1, z.2.2) := by decide +kernel
theorem mm2417 : m_mok m_Z m_strs 2417 := m_mok_of (i := 2417) (own := RX12) (mn := "toldOf") (I := mi12_17) (S := []) rfl rfl rfl (by decide +kernel) (by decide) mp12 md2417 (by decide +kernel) (fun _ h => absurd h List.not_mem_nil) (fun _ h => absurd h List.not_mem_nil)
theorem md2418 : ∀ z ∈ mc12_18, decode (m_B 2418) z.1 = .ok (z.2.1, z.2.2) := by decide +kernel
theorem mm2418 : m_mok m_Z m_strs 2418 := m_mok_of (i := 2418) (own := RX12) (mn := "price") (I := mi12_18) (S := []) rfl rfl rfl (by decide +kernel) (by decide) mp12 md2418 (by decide +kernel) (fun _ h => absurd h List.not_mem_nil) (fun _ h => absurd h List.not_mem_nil)
theorem md2419 : ∀ z ∈ mc12_19, decode (m_B 2419) z.1 = .ok (z.2.1, z.2.2) := by decide +kernel
theorem mm2419 : m_mok m_Z m_strs 2419 := m_mok_of (i := 2419) (own := RX12) (mn := "priceOf") (I := mi12_19) (S := []) rfl rfl rfl (by decide +kernel) (by decide) mp12 md2419 (by decide +kernel) (fun _ h => absurd h List.not_mem_nil) (fun _ h => absurd h List.not_mem_nil)
theorem md2420 : ∀ z ∈ mc12_20, decode (m_B 2420) z.1 = .ok (z.2.1, z.2.2) := by decide +kernel
theorem mm2420 : m_mok m_Z m_strs 2420 := m_mok_of (i := 2420) (own := RX12) (mn := "cost") (I := mi12_20) (S := []) rfl rfl rfl (by decide +kernel) (by decide) mp12 md2420 (by decide +kernel) (fun _ h => absurd h List.not_mem_nil) (fun _ h => absurd h List.not_mem_nil)
theorem md2421 : ∀ z ∈ mc12_21, decode (m_B 2421) z.1 = .ok (z.2.1, z.2.2) := by decide +kernel
theorem mm2421 : m_mok m_Z m_strs 2421 := m_mok_of (i := 2421) (own := RX12) (mn := "works") (I := mi12_21) (S := []) rfl rfl rfl (by decide +kernel) (by decide) mp12 md2421 (by decide +kernel) (fun _ h => absurd h List.not_mem_nil) (fun _ h => absurd h List.not_mem_nil)
theorem md2422 : ∀ z ∈ mc12_22, decode (m_B 2422) z.1 = .ok (z.2.1, z.2.2) := by decide +kernel
theorem mm2422 : m_mok m_Z m_strs 2422 := m_mok_of (i := 2422) (own := RX12) (mn := "way") (I := mi12_22) (S := []) rfl rfl rfl (by decide +kernel) (by decide) mp12 md2422 (by decide +kernel) (fun _ h => absurd h List.not_mem_nil) (fun _ h => absurd h List.not_mem_nil)
theorem md2423 : ∀ z ∈ mc12_23, decode (m_B 2423) z.1 = .ok (z.2.1, z.2.2) := by decide +kernel
theorem mm2423 : m_mok m_Z m_strs 2423 := m_mok_of (i := 2423) (own := RX12) (mn := "risk") (I := mi12_23) (S := []) rfl rfl rfl (by decide +kernel) (by decide) mp12 md2423 (by decide +kernel) (fun _ h => absurd h List.not_mem_nil) (fun _ h => absurd h List.not_mem_nil)
theorem md2424 : ∀ z ∈ mc12_24, decode (m_B 2424) z.1 = .ok (z.2.1, z.2.2) := by decide +kernel
theorem mm2424 : m_mok m_Z m_strs 2424 := m_mok_of (i := 2424) (own := RX12) (mn := "need") (I := mi12_24) (S := []) rfl rfl rfl (by decide +kernel) (by decide) mp12 md2424 (by decide +kernel) (fun _ h => absurd h List.not_mem_nil) (fun _ h => absurd h List.not_mem_nil)
theorem md2425 : ∀ z ∈ mc12_25, decode (m_B 2425) z.1 = .ok (z.2.1, z.2.2) := by decide +kernel
theorem mm2425 : m_mok m_Z m_strs 2425 := m_mok_of (i := 2425) (own := RX12) (mn := "lotAt") (I := mi12_25) (S := []) rfl rfl rfl (by decide +kernel) (by decide) mp12 md2425 (by decide +kernel) (fun _ h => absurd h List.not_mem_nil) (fun _ h => absurd h List.not_mem_nil)
theorem md2426 : ∀ z ∈ mc12_26, decode (m_B 2426) z.1 = .ok (z.2.1, z.2.2) := by decide +kernel
theorem mm2426 : m_mok m_Z m_strs 2426 := m_mok_of (i := 2426) (own := RX12) (mn := "of") (I := mi12_26) (S := []) rfl rfl rfl (by decide +kernel) (by decide) mp12 md2426 (by decide +kernel) (fun _ h => absurd h List.not_mem_nil) (fun _ h => absurd h List.not_mem_nil)
theorem md2427 : ∀ z ∈ mc12_27, decode (m_B 2427) z.1 = .ok (z.2.1, z.2.2) := by decide +kernel
theorem mm2427 : m_mok m_Z m_strs 2427 := m_mok_of (i := 2427) (own := RX12) (mn := "noLot") (I := mi12_27) (S := []) rfl rfl rfl (by decide +kernel) (by decide) mp12 md2427 (by decide +kernel) (fun _ h => absurd h List.not_mem_nil) (fun _ h => absurd h List.not_mem_nil)
theorem md2428 : ∀ z ∈ mc12_28, decode (m_B 2428) z.1 = .ok (z.2.1, z.2.2) := by decide +kernel
theorem mm2428 : m_mok m_Z m_strs 2428 := m_mok_of (i := 2428) (own := RX12) (mn := "begins") (I := mi12_28) (S := []) rfl rfl rfl (by decide +kernel) (by decide) mp12 md2428 (by decide +kernel) (fun _ h => absurd h List.not_mem_nil) (fun _ h => absurd h List.not_mem_nil)
theorem md2429 : ∀ z ∈ mc12_29, decode (m_B 2429) z.1 = .ok (z.2.1, z.2.2) := by decide +kernel
theorem mm2429 : m_mok m_Z m_strs 2429 := m_mok_of (i := 2429) (own := RX12) (mn := "moves") (I := mi12_29) (S := []) rfl rfl rfl (by decide +kernel) (by decide) mp12 md2429 (by decide +kernel) (fun _ h => absurd h List.not_mem_nil) (fun _ h => absurd h List.not_mem_nil)
theorem md2430 : ∀ z ∈ mc12_30, decode (m_B 2430) z.1 = .ok (z.2.1, z.2.2) := by decide +kernel
theorem mm2430 : m_mok m_Z m_strs 2430 := m_mok_of (i := 2430) (own := RX12) (mn := "isStock") (I := mi12_30) (S := []) rfl rfl rfl (by decide +kernel) (by decide) mp12 md2430 (by decide +kernel) (fun _ h => absurd h List.not_mem_nil) (fun _ h => absurd h List.not_mem_nil)
theorem md2431 : ∀ z ∈ mc12_31, decode (m_B 2431) z.1 = .ok (z.2.1, z.2.2) := by decide +kernel
theorem mm2431 : m_mok m_Z m_strs 2431 := m_mok_of (i := 2431) (own := RX12) (mn := "isFor") (I := mi12_31) (S := []) rfl rfl rfl (by decide +kernel) (by decide) mp12 md2431 (by decide +kernel) (fun _ h => absurd h List.not_mem_nil) (fun _ h => absurd h List.not_mem_nil)
theorem md2432 : ∀ z ∈ mc12_32, decode (m_B 2432) z.1 = .ok (z.2.1, z.2.2) := by decide +kernel
theorem mm2432 : m_mok m_Z m_strs 2432 := m_mok_of (i := 2432) (own := RX12) (mn := "order") (I := mi12_32) (S := []) rfl rfl rfl (by decide +kernel) (by decide) mp12 md2432 (by decide +kernel) (fun _ h => absurd h List.not_mem_nil) (fun _ h => absurd h List.not_mem_nil)
theorem md2433 : ∀ z ∈ mc12_33, decode (m_B 2433) z.1 = .ok (z.2.1, z.2.2) := by decide +kernel
theorem mm2433 : m_mok m_Z m_strs 2433 := m_mok_of (i := 2433) (own := RX12) (mn := "lot") (I := mi12_33) (S := []) rfl rfl rfl (by decide +kernel) (by decide) mp12 md2433 (by decide +kernel) (fun _ h => absurd h List.not_mem_nil) (fun _ h => absurd h List.not_mem_nil)
theorem md2434 : ∀ z ∈ mc12_34, decode (m_B 2434) z.1 = .ok (z.2.1, z.2.2) := by decide +kernel
theorem mm2434 : m_mok m_Z m_strs 2434 := m_mok_of (i := 2434) (own := RX12) (mn := "back") (I := mi12_34) (S := []) rfl rfl rfl (by decide +kernel) (by decide) mp12 md2434 (by decide +kernel) (fun _ h => absurd h List.not_mem_nil) (fun _ h => absurd h List.not_mem_nil)
theorem md2435 : ∀ z ∈ mc12_35, decode (m_B 2435) z.1 = .ok (z.2.1, z.2.2) := by decide +kernel
theorem mm2435 : m_mok m_Z m_strs 2435 := m_mok_of (i := 2435) (own := RX12) (mn := "label") (I := mi12_35) (S := []) rfl rfl rfl (by decide +kernel) (by decide) mp12 md2435 (by decide +kernel) (fun _ h => absurd h List.not_mem_nil) (fun _ h => absurd h List.not_mem_nil)
theorem md2436 : ∀ z ∈ mc12_36, decode (m_B 2436) z.1 = .ok (z.2.1, z.2.2) := by decide +kernel
theorem mm2436 : m_mok m_Z m_strs 2436 := m_mok_of (i := 2436) (own := RX12) (mn := "feed") (I := mi12_36) (S := []) rfl rfl rfl (by decide +kernel) (by decide) mp12 md2436 (by decide +kernel) (fun _ h => absurd h List.not_mem_nil) (fun _ h => absurd h List.not_mem_nil)
theorem md2437 : ∀ z ∈ mc12_37, decode (m_B 2437) z.1 = .ok (z.2.1, z.2.2) := by decide +kernel
theorem mm2437 : m_mok m_Z m_strs 2437 := m_mok_of (i := 2437) (own := RX12) (mn := "end") (I := mi12_37) (S := []) rfl rfl rfl (by decide +kernel) (by decide) mp12 md2437 (by decide +kernel) (fun _ h => absurd h List.not_mem_nil) (fun _ h => absurd h List.not_mem_nil)
theorem md2438 : ∀ z ∈ mc12_38, decode (m_B 2438) z.1 = .ok (z.2.1, z.2.2) := by decide +kernel
theorem mm2438 : m_mok m_Z m_strs 2438 := m_mok_of (i := 2438) (own := RX12) (mn := "uses") (I := mi12_38) (S := []) rfl rfl rfl (by decide +kernel) (by decide) mp12 md2438 (by decide +kernel) (fun _ h => absurd h List.not_mem_nil) (fun _ h => absurd h List.not_mem_nil)
theorem md2439 : ∀ z ∈ mc12_39, decode (m_B 2439) z.1 = .ok (z.2.1, z.2.2) := by decide +kernel
theorem mm2439 : m_mok m_Z m_strs 2439 := m_mok_of (i := 2439) (own := RX12) (mn := "isAt") (I := mi12_39) (S := []) rfl rfl rfl (by decide +kernel) (by decide) mp12 md2439 (by decide +kernel) (fun _ h => absurd h List.not_mem_nil) (fun _ h => absurd h List.not_mem_nil)
theorem md2440 : ∀ z ∈ mc12_40, decode (m_B 2440) z.1 = .ok (z.2.1, z.2.2) := by decide +kernel
theorem mm2440 : m_mok m_Z m_strs 2440 := m_mok_of (i := 2440) (own := RX12) (mn := "blanks") (I := mi12_40) (S := []) rfl rfl rfl (by decide +kernel) (by decide) mp12 md2440 (by decide +kernel) (fun _ h => absurd h List.not_mem_nil) (fun _ h => absurd h List.not_mem_nil)
theorem md2441 : ∀ z ∈ mc12_41, decode (m_B 2441) z.1 = .ok (z.2.1, z.2.2) := by decide +kernel
theorem mm2441 : m_mok m_Z m_strs 2441 := m_mok_of (i := 2441) (own := RX12) (mn := "word") (I := mi12_41) (S := []) rfl rfl rfl (by decide +kernel) (by decide) mp12 md2441 (by decide +kernel) (fun _ h => absurd h List.not_mem_nil) (fun _ h => absurd h List.not_mem_nil)
theorem md2442 : ∀ z ∈ mc12_42, decode (m_B 2442) z.1 = .ok (z.2.1, z.2.2) := by decide +kernel
theorem mm2442 : m_mok m_Z m_strs 2442 := m_mok_of (i := 2442) (own := RX12) (mn := "isWord") (I := mi12_42) (S := []) rfl rfl rfl (by decide +kernel) (by decide) mp12 md2442 (by decide +kernel) (fun _ h => absurd h List.not_mem_nil) (fun _ h => absurd h List.not_mem_nil)
theorem md2443 : ∀ z ∈ mc12_43, decode (m_B 2443) z.1 = .ok (z.2.1, z.2.2) := by decide +kernel
theorem mm2443 : m_mok m_Z m_strs 2443 := m_mok_of (i := 2443) (own := RX12) (mn := "passes") (I := mi12_43) (S := []) rfl rfl rfl (by decide +kernel) (by decide) mp12 md2443 (by decide +kernel) (fun _ h => absurd h List.not_mem_nil) (fun _ h => absurd h List.not_mem_nil)
theorem md2444 : ∀ z ∈ mc12_44, decode (m_B 2444) z.1 = .ok (z.2.1, z.2.2) := by decide +kernel
theorem mm2444 : m_mok m_Z m_strs 2444 := m_mok_of (i := 2444) (own := RX12) (mn := "sign") (I := mi12_44) (S := []) rfl rfl rfl (by decide +kernel) (by decide) mp12 md2444 (by decide +kernel) (fun _ h => absurd h List.not_mem_nil) (fun _ h => absurd h List.not_mem_nil)
theorem md2445 : ∀ z ∈ mc12_45, decode (m_B 2445) z.1 = .ok (z.2.1, z.2.2) := by decide +kernel
theorem mm2445 : m_mok m_Z m_strs 2445 := m_mok_of (i := 2445) (own := RX12) (mn := "number") (I := mi12_45) (S := []) rfl rfl rfl (by decide +kernel) (by decide) mp12 md2445 (by decide +kernel) (fun _ h => absurd h List.not_mem_nil) (fun _ h => absurd h List.not_mem_nil)
theorem md2446 : ∀ z ∈ mc12_46, decode (m_B 2446) z.1 = .ok (z.2.1, z.2.2) := by decide +kernel
theorem mm2446 : m_mok m_Z m_strs 2446 := m_mok_of (i := 2446) (own := RX12) (mn := "fault") (I := mi12_46) (S := []) rfl rfl rfl (by decide +kernel) (by decide) mp12 md2446 (by decide +kernel) (fun _ h => absurd h List.not_mem_nil) (fun _ h => absurd h List.not_mem_nil)
theorem md2447 : ∀ z ∈ mc12_47, decode (m_B 2447) z.1 = .ok (z.2.1, z.2.2) := by decide +kernel
theorem mm2447 : m_mok m_Z m_strs 2447 := m_mok_of (i := 2447) (own := RX12) (mn := "textAt") (I := mi12_47) (S := []) rfl rfl rfl (by decide +kernel) (by decide) mp12 md2447 (by decide +kernel) (fun _ h => absurd h List.not_mem_nil) (fun _ h => absurd h List.not_mem_nil)
theorem md2448 : ∀ z ∈ mc12_48, decode (m_B 2448) z.1 = .ok (z.2.1, z.2.2) := by decide +kernel
theorem mm2448 : m_mok m_Z m_strs 2448 := m_mok_of (i := 2448) (own := RX12) (mn := "lineAt") (I := mi12_48) (S := []) rfl rfl rfl (by decide +kernel) (by decide) mp12 md2448 (by decide +kernel) (fun _ h => absurd h List.not_mem_nil) (fun _ h => absurd h List.not_mem_nil)
theorem md2449 : ∀ z ∈ mc12_49, decode (m_B 2449) z.1 = .ok (z.2.1, z.2.2) := by decide +kernel
theorem mm2449 : m_mok m_Z m_strs 2449 := m_mok_of (i := 2449) (own := RX12) (mn := "emits") (I := mi12_49) (S := []) rfl rfl rfl (by decide +kernel) (by decide) mp12 md2449 (by decide +kernel) (fun _ h => absurd h List.not_mem_nil) (fun _ h => absurd h List.not_mem_nil)
theorem md2450 : ∀ z ∈ mc12_50, decode (m_B 2450) z.1 = .ok (z.2.1, z.2.2) := by decide +kernel
theorem mm2450 : m_mok m_Z m_strs 2450 := m_mok_of (i := 2450) (own := RX12) (mn := "fact") (I := mi12_50) (S := []) rfl rfl rfl (by decide +kernel) (by decide) mp12 md2450 (by decide +kernel) (fun _ h => absurd h List.not_mem_nil) (fun _ h => absurd h List.not_mem_nil)
theorem md2451 : ∀ z ∈ mc12_51, decode (m_B 2451) z.1 = .ok (z.2.1, z.2.2) := by decide +kernel
theorem mm2451 : m_mok m_Z m_strs 2451 := m_mok_of (i := 2451) (own := RX12) (mn := "readPart") (I := mi12_51) (S := []) rfl rfl rfl (by decide +kernel) (by decide) mp12 md2451 (by decide +kernel) (fun _ h => absurd h List.not_mem_nil) (fun _ h => absurd h List.not_mem_nil)
theorem md2452 : ∀ z ∈ mc12_52, decode (m_B 2452) z.1 = .ok (z.2.1, z.2.2) := by decide +kernel
theorem mm2452 : m_mok m_Z m_strs 2452 := m_mok_of (i := 2452) (own := RX12) (mn := "readSum") (I := mi12_52) (S := []) rfl rfl rfl (by decide +kernel) (by decide) mp12 md2452 (by decide +kernel) (fun _ h => absurd h List.not_mem_nil) (fun _ h => absurd h List.not_mem_nil)
theorem md2453 : ∀ z ∈ mc12_53, decode (m_B 2453) z.1 = .ok (z.2.1, z.2.2) := by decide +kernel
theorem mm2453 : m_mok m_Z m_strs 2453 := m_mok_of (i := 2453) (own := RX12) (mn := "readAtom") (I := mi12_53) (S := []) rfl rfl rfl (by decide +kernel) (by decide) mp12 md2453 (by decide +kernel) (fun _ h => absurd h List.not_mem_nil) (fun _ h => absurd h List.not_mem_nil)
theorem md2454 : ∀ z ∈ mc12_54, decode (m_B 2454) z.1 = .ok (z.2.1, z.2.2) := by decide +kernel
theorem mm2454 : m_mok m_Z m_strs 2454 := m_mok_of (i := 2454) (own := RX12) (mn := "readAllOf") (I := mi12_54) (S := []) rfl rfl rfl (by decide +kernel) (by decide) mp12 md2454 (by decide +kernel) (fun _ h => absurd h List.not_mem_nil) (fun _ h => absurd h List.not_mem_nil)
theorem md2455 : ∀ z ∈ mc12_55, decode (m_B 2455) z.1 = .ok (z.2.1, z.2.2) := by decide +kernel
theorem mm2455 : m_mok m_Z m_strs 2455 := m_mok_of (i := 2455) (own := RX12) (mn := "readCond") (I := mi12_55) (S := []) rfl rfl rfl (by decide +kernel) (by decide) mp12 md2455 (by decide +kernel) (fun _ h => absurd h List.not_mem_nil) (fun _ h => absurd h List.not_mem_nil)
theorem md2456 : ∀ z ∈ mc12_56, decode (m_B 2456) z.1 = .ok (z.2.1, z.2.2) := by decide +kernel
theorem mm2456 : m_mok m_Z m_strs 2456 := m_mok_of (i := 2456) (own := RX12) (mn := "readLine") (I := mi12_56) (S := []) rfl rfl rfl (by decide +kernel) (by decide) mp12 md2456 (by decide +kernel) (fun _ h => absurd h List.not_mem_nil) (fun _ h => absurd h List.not_mem_nil)
theorem md2457 : ∀ z ∈ mc12_57, decode (m_B 2457) z.1 = .ok (z.2.1, z.2.2) := by decide +kernel
theorem mm2457 : m_mok m_Z m_strs 2457 := m_mok_of (i := 2457) (own := RX12) (mn := "readAll") (I := mi12_57) (S := []) rfl rfl rfl (by decide +kernel) (by decide) mp12 md2457 (by decide +kernel) (fun _ h => absurd h List.not_mem_nil) (fun _ h => absurd h List.not_mem_nil)
theorem md2458 : ∀ z ∈ mc12_58, decode (m_B 2458) z.1 = .ok (z.2.1, z.2.2) := by decide +kernel
theorem mm2458 : m_mok m_Z m_strs 2458 := m_mok_of (i := 2458) (own := RX12) (mn := "act") (I := mi12_58) (S := []) rfl rfl rfl (by decide +kernel) (by decide) mp12 md2458 (by decide +kernel) (fun _ h => absurd h List.not_mem_nil) (fun _ h => absurd h List.not_mem_nil)
theorem md2459 : ∀ z ∈ mc12_59, decode (m_B 2459) z.1 = .ok (z.2.1, z.2.2) := by decide +kernel
theorem mm2459 : m_mok m_Z m_strs 2459 := m_mok_of (i := 2459) (own := RX12) (mn := "text") (I := mi12_59) (S := []) rfl rfl rfl (by decide +kernel) (by decide) mp12 md2459 (by decide +kernel) (fun _ h => absurd h List.not_mem_nil) (fun _ h => absurd h List.not_mem_nil)
theorem md2460 : ∀ z ∈ mc12_60, decode (m_B 2460) z.1 = .ok (z.2.1, z.2.2) := by decide +kernel
theorem mm2460 : m_mok m_Z m_strs 2460 := m_mok_of (i := 2460) (own := RX12) (mn := "linesOf") (I := mi12_60) (S := []) rfl rfl rfl (by decide +kernel) (by decide) mp12 md2460 (by decide +kernel) (fun _ h => absurd h List.not_mem_nil) (fun _ h => absurd h List.not_mem_nil)
theorem md2461 : ∀ z ∈ mc12_61, decode (m_B 2461) z.1 = .ok (z.2.1, z.2.2) := by decide +kernel
theorem mm2461 : m_mok m_Z m_strs 2461 := m_mok_of (i := 2461) (own := RX12) (mn := "looks") (I := mi12_61) (S := []) rfl rfl rfl (by decide +kernel) (by decide) mp12 md2461 (by decide +kernel) (fun _ h => absurd h List.not_mem_nil) (fun _ h => absurd h List.not_mem_nil)
theorem md2462_0 : ∀ z ∈ mc12_62_0, decode (m_B 2462) z.1 = .ok (z.2.1, z.2.2) := by decide +kernel
theorem md2462_1 : ∀ z ∈ mc12_62_1, decode (m_B 2462) z.1 = .ok (z.2.1, z.2.2) := by decide +kernel
theorem md2462 : ∀ z ∈ mc12_62, decode (m_B 2462) z.1 = .ok (z.2.1, z.2.2) := List.forall_mem_append.mpr ⟨md2462_0, md2462_1⟩
theorem mm2462 : m_mok m_Z m_strs 2462 := m_mok_of (i := 2462) (own := RX12) (mn := "holds") (I := mi12_62) (S := []) rfl rfl rfl (by decide +kernel) (by decide) mp12 md2462 (by decide +kernel) (fun _ h => absurd h List.not_mem_nil) (fun _ h => absurd h List.not_mem_nil)
theorem md2463 : ∀ z ∈ mc12_63, decode (m_B 2463) z.1 = .ok (z.2.1, z.2.2) := by decide +kernel
theorem mm2463 : m_mok m_Z m_strs 2463 := m_mok_of (i := 2463) (own := RX12) (mn := "firstOf") (I := mi12_63) (S := []) rfl rfl rfl (by decide +kernel) (by decide) mp12 md2463 (by decide +kernel) (fun _ h => absurd h List.not_mem_nil) (fun _ h => absurd h List.not_mem_nil)
theorem md2464 : ∀ z ∈ mc12_64, decode (m_B 2464) z.1 = .ok (z.2.1, z.2.2) := by decide +kernel
theorem mm2464 : m_mok m_Z m_strs 2464 := m_mok_of (i := 2464) (own := RX12) (mn := "allOf") (I := mi12_64) (S := []) rfl rfl rfl (by decide +kernel) (by decide) mp12 md2464 (by decide +kernel) (fun _ h => absurd h List.not_mem_nil) (fun _ h => absurd h List.not_mem_nil)
theorem md2465 : ∀ z ∈ mc12_65, decode (m_B 2465) z.1 = .ok (z.2.1, z.2.2) := by decide +kernel
theorem mm2465 : m_mok m_Z m_strs 2465 := m_mok_of (i := 2465) (own := RX12) (mn := "requestAt") (I := mi12_65) (S := []) rfl rfl rfl (by decide +kernel) (by decide) mp12 md2465 (by decide +kernel) (fun _ h => absurd h List.not_mem_nil) (fun _ h => absurd h List.not_mem_nil)
theorem md2466 : ∀ z ∈ mc12_66, decode (m_B 2466) z.1 = .ok (z.2.1, z.2.2) := by decide +kernel
theorem mm2466 : m_mok m_Z m_strs 2466 := m_mok_of (i := 2466) (own := RX12) (mn := "noRequest") (I := mi12_66) (S := []) rfl rfl rfl (by decide +kernel) (by decide) mp12 md2466 (by decide +kernel) (fun _ h => absurd h List.not_mem_nil) (fun _ h => absurd h List.not_mem_nil)
theorem md2467 : ∀ z ∈ mc12_67, decode (m_B 2467) z.1 = .ok (z.2.1, z.2.2) := by decide +kernel
theorem mm2467 : m_mok m_Z m_strs 2467 := m_mok_of (i := 2467) (own := RX12) (mn := "ask") (I := mi12_67) (S := []) rfl rfl rfl (by decide +kernel) (by decide) mp12 md2467 (by decide +kernel) (fun _ h => absurd h List.not_mem_nil) (fun _ h => absurd h List.not_mem_nil)
theorem md2468 : ∀ z ∈ mc12_68, decode (m_B 2468) z.1 = .ok (z.2.1, z.2.2) := by decide +kernel
theorem mm2468 : m_mok m_Z m_strs 2468 := m_mok_of (i := 2468) (own := RX12) (mn := "lacks") (I := mi12_68) (S := []) rfl rfl rfl (by decide +kernel) (by decide) mp12 md2468 (by decide +kernel) (fun _ h => absurd h List.not_mem_nil) (fun _ h => absurd h List.not_mem_nil)
theorem md2469 : ∀ z ∈ mc12_69, decode (m_B 2469) z.1 = .ok (z.2.1, z.2.2) := by decide +kernel
theorem mm2469 : m_mok m_Z m_strs 2469 := m_mok_of (i := 2469) (own := RX12) (mn := "looksAt") (I := mi12_69) (S := []) rfl rfl rfl (by decide +kernel) (by decide) mp12 md2469 (by decide +kernel) (fun _ h => absurd h List.not_mem_nil) (fun _ h => absurd h List.not_mem_nil)
theorem md2470 : ∀ z ∈ mc12_70, decode (m_B 2470) z.1 = .ok (z.2.1, z.2.2) := by decide +kernel
theorem mm2470 : m_mok m_Z m_strs 2470 := m_mok_of (i := 2470) (own := RX12) (mn := "weigh") (I := mi12_70) (S := []) rfl rfl rfl (by decide +kernel) (by decide) mp12 md2470 (by decide +kernel) (fun _ h => absurd h List.not_mem_nil) (fun _ h => absurd h List.not_mem_nil)
theorem md2471 : ∀ z ∈ mc12_71, decode (m_B 2471) z.1 = .ok (z.2.1, z.2.2) := by decide +kernel
theorem mm2471 : m_mok m_Z m_strs 2471 := m_mok_of (i := 2471) (own := RX12) (mn := "isAhead") (I := mi12_71) (S := []) rfl rfl rfl (by decide +kernel) (by decide) mp12 md2471 (by decide +kernel) (fun _ h => absurd h List.not_mem_nil) (fun _ h => absurd h List.not_mem_nil)
theorem md2472 : ∀ z ∈ mc12_72, decode (m_B 2472) z.1 = .ok (z.2.1, z.2.2) := by decide +kernel
theorem mm2472 : m_mok m_Z m_strs 2472 := m_mok_of (i := 2472) (own := RX12) (mn := "nextFor") (I := mi12_72) (S := []) rfl rfl rfl (by decide +kernel) (by decide) mp12 md2472 (by decide +kernel) (fun _ h => absurd h List.not_mem_nil) (fun _ h => absurd h List.not_mem_nil)
theorem md2473 : ∀ z ∈ mc12_73, decode (m_B 2473) z.1 = .ok (z.2.1, z.2.2) := by decide +kernel
theorem mm2473 : m_mok m_Z m_strs 2473 := m_mok_of (i := 2473) (own := RX12) (mn := "stockOf") (I := mi12_73) (S := []) rfl rfl rfl (by decide +kernel) (by decide) mp12 md2473 (by decide +kernel) (fun _ h => absurd h List.not_mem_nil) (fun _ h => absurd h List.not_mem_nil)
theorem md2474 : ∀ z ∈ mc12_74, decode (m_B 2474) z.1 = .ok (z.2.1, z.2.2) := by decide +kernel
theorem mm2474 : m_mok m_Z m_strs 2474 := m_mok_of (i := 2474) (own := RX12) (mn := "empties") (I := mi12_74) (S := []) rfl rfl rfl (by decide +kernel) (by decide) mp12 md2474 (by decide +kernel) (fun _ h => absurd h List.not_mem_nil) (fun _ h => absurd h List.not_mem_nil)
theorem md2475_0 : ∀ z ∈ mc12_75_0, decode (m_B 2475) z.1 = .ok (z.2.1, z.2.2) := by decide +kernel
theorem md2475_1 : ∀ z ∈ mc12_75_1, decode (m_B 2475) z.1 = .ok (z.2.1, z.2.2) := by decide +kernel
theorem md2475 : ∀ z ∈ mc12_75, decode (m_B 2475) z.1 = .ok (z.2.1, z.2.2) := List.forall_mem_append.mpr ⟨md2475_0, md2475_1⟩
theorem mm2475 : m_mok m_Z m_strs 2475 := m_mok_of (i := 2475) (own := RX12) (mn := "allot") (I := mi12_75) (S := []) rfl rfl rfl (by decide +kernel) (by decide) mp12 md2475 (by decide +kernel) (fun _ h => absurd h List.not_mem_nil) (fun _ h => absurd h List.not_mem_nil)
theorem md2476 : ∀ z ∈ mc12_76, decode (m_B 2476) z.1 = .ok (z.2.1, z.2.2) := by decide +kernel
theorem mm2476 : m_mok m_Z m_strs 2476 := m_mok_of (i := 2476) (own := RX12) (mn := "shipAt") (I := mi12_76) (S := []) rfl rfl rfl (by decide +kernel) (by decide) mp12 md2476 (by decide +kernel) (fun _ h => absurd h List.not_mem_nil) (fun _ h => absurd h List.not_mem_nil)
theorem md2477 : ∀ z ∈ mc12_77, decode (m_B 2477) z.1 = .ok (z.2.1, z.2.2) := by decide +kernel
theorem mm2477 : m_mok m_Z m_strs 2477 := m_mok_of (i := 2477) (own := RX12) (mn := "its") (I := mi12_77) (S := []) rfl rfl rfl (by decide +kernel) (by decide) mp12 md2477 (by decide +kernel) (fun _ h => absurd h List.not_mem_nil) (fun _ h => absurd h List.not_mem_nil)
theorem md2478 : ∀ z ∈ mc12_78, decode (m_B 2478) z.1 = .ok (z.2.1, z.2.2) := by decide +kernel
theorem mm2478 : m_mok m_Z m_strs 2478 := m_mok_of (i := 2478) (own := RX12) (mn := "puts") (I := mi12_78) (S := []) rfl rfl rfl (by decide +kernel) (by decide) mp12 md2478 (by decide +kernel) (fun _ h => absurd h List.not_mem_nil) (fun _ h => absurd h List.not_mem_nil)
theorem md2479 : ∀ z ∈ mc12_79, decode (m_B 2479) z.1 = .ok (z.2.1, z.2.2) := by decide +kernel
theorem mm2479 : m_mok m_Z m_strs 2479 := m_mok_of (i := 2479) (own := RX12) (mn := "noShip") (I := mi12_79) (S := []) rfl rfl rfl (by decide +kernel) (by decide) mp12 md2479 (by decide +kernel) (fun _ h => absurd h List.not_mem_nil) (fun _ h => absurd h List.not_mem_nil)
theorem md2480 : ∀ z ∈ mc12_80, decode (m_B 2480) z.1 = .ok (z.2.1, z.2.2) := by decide +kernel
theorem mm2480 : m_mok m_Z m_strs 2480 := m_mok_of (i := 2480) (own := RX12) (mn := "ship") (I := mi12_80) (S := []) rfl rfl rfl (by decide +kernel) (by decide) mp12 md2480 (by decide +kernel) (fun _ h => absurd h List.not_mem_nil) (fun _ h => absurd h List.not_mem_nil)
theorem md2481 : ∀ z ∈ mc12_81, decode (m_B 2481) z.1 = .ok (z.2.1, z.2.2) := by decide +kernel
theorem mm2481 : m_mok m_Z m_strs 2481 := m_mok_of (i := 2481) (own := RX12) (mn := "tonsIn") (I := mi12_81) (S := []) rfl rfl rfl (by decide +kernel) (by decide) mp12 md2481 (by decide +kernel) (fun _ h => absurd h List.not_mem_nil) (fun _ h => absurd h List.not_mem_nil)
theorem md2482 : ∀ z ∈ mc12_82, decode (m_B 2482) z.1 = .ok (z.2.1, z.2.2) := by decide +kernel
theorem mm2482 : m_mok m_Z m_strs 2482 := m_mok_of (i := 2482) (own := RX12) (mn := "cargoOf") (I := mi12_82) (S := []) rfl rfl rfl (by decide +kernel) (by decide) mp12 md2482 (by decide +kernel) (fun _ h => absurd h List.not_mem_nil) (fun _ h => absurd h List.not_mem_nil)
theorem md2483_0 : ∀ z ∈ mc12_83_0, decode (m_B 2483) z.1 = .ok (z.2.1, z.2.2) := by decide +kernel
theorem md2483_1 : ∀ z ∈ mc12_83_1, decode (m_B 2483) z.1 = .ok (z.2.1, z.2.2) := by decide +kernel
theorem md2483_2 : ∀ z ∈ mc12_83_2, decode (m_B 2483) z.1 = .ok (z.2.1, z.2.2) := by decide +kernel
theorem md2483 : ∀ z ∈ mc12_83, decode (m_B 2483) z.1 = .ok (z.2.1, z.2.2) := List.forall_mem_append.mpr ⟨md2483_0, List.forall_mem_append.mpr ⟨md2483_1, md2483_2⟩⟩
theorem mm2483 : m_mok m_Z m_strs 2483 := m_mok_of (i := 2483) (own := RX12) (mn := "load") (I := mi12_83) (S := []) rfl rfl rfl (by decide +kernel) (by decide) mp12 md2483 (by decide +kernel) (fun _ h => absurd h List.not_mem_nil) (fun _ h => absurd h List.not_mem_nil)
theorem md2484 : ∀ z ∈ mc12_84, decode (m_B 2484) z.1 = .ok (z.2.1, z.2.2) := by decide +kernel
theorem mm2484 : m_mok m_Z m_strs 2484 := m_mok_of (i := 2484) (own := RX12) (mn := "sail") (I := mi12_84) (S := []) rfl rfl rfl (by decide +kernel) (by decide) mp12 md2484 (by decide +kernel) (fun _ h => absurd h List.not_mem_nil) (fun _ h => absurd h List.not_mem_nil)
theorem md2485 : ∀ z ∈ mc12_85, decode (m_B 2485) z.1 = .ok (z.2.1, z.2.2) := by decide +kernel
theorem mm2485 : m_mok m_Z m_strs 2485 := m_mok_of (i := 2485) (own := RX12) (mn := "led") (I := mi12_85) (S := []) rfl rfl rfl (by decide +kernel) (by decide) mp12 md2485 (by decide +kernel) (fun _ h => absurd h List.not_mem_nil) (fun _ h => absurd h List.not_mem_nil)
theorem md2486 : ∀ z ∈ mc12_86, decode (m_B 2486) z.1 = .ok (z.2.1, z.2.2) := by decide +kernel
theorem mm2486 : m_mok m_Z m_strs 2486 := m_mok_of (i := 2486) (own := RX12) (mn := "isOrder") (I := mi12_86) (S := []) rfl rfl rfl (by decide +kernel) (by decide) mp12 md2486 (by decide +kernel) (fun _ h => absurd h List.not_mem_nil) (fun _ h => absurd h List.not_mem_nil)
theorem md2487_0 : ∀ z ∈ mc12_87_0, decode (m_B 2487) z.1 = .ok (z.2.1, z.2.2) := by decide +kernel
theorem md2487_1 : ∀ z ∈ mc12_87_1, decode (m_B 2487) z.1 = .ok (z.2.1, z.2.2) := by decide +kernel
theorem md2487 : ∀ z ∈ mc12_87, decode (m_B 2487) z.1 = .ok (z.2.1, z.2.2) := List.forall_mem_append.mpr ⟨md2487_0, md2487_1⟩
theorem mm2487 : m_mok m_Z m_strs 2487 := m_mok_of (i := 2487) (own := RX12) (mn := "makes") (I := mi12_87) (S := []) rfl rfl rfl (by decide +kernel) (by decide) mp12 md2487 (by decide +kernel) (fun _ h => absurd h List.not_mem_nil) (fun _ h => absurd h List.not_mem_nil)
theorem md2488 : ∀ z ∈ mc12_88, decode (m_B 2488) z.1 = .ok (z.2.1, z.2.2) := by decide +kernel
theorem mm2488 : m_mok m_Z m_strs 2488 := m_mok_of (i := 2488) (own := RX12) (mn := "clears") (I := mi12_88) (S := []) rfl rfl rfl (by decide +kernel) (by decide) mp12 md2488 (by decide +kernel) (fun _ h => absurd h List.not_mem_nil) (fun _ h => absurd h List.not_mem_nil)
theorem md2489 : ∀ z ∈ mc12_89, decode (m_B 2489) z.1 = .ok (z.2.1, z.2.2) := by decide +kernel
theorem mm2489 : m_mok m_Z m_strs 2489 := m_mok_of (i := 2489) (own := RX12) (mn := "goes") (I := mi12_89) (S := []) rfl rfl rfl (by decide +kernel) (by decide) mp12 md2489 (by decide +kernel) (fun _ h => absurd h List.not_mem_nil) (fun _ h => absurd h List.not_mem_nil)
theorem md2490 : ∀ z ∈ mc12_90, decode (m_B 2490) z.1 = .ok (z.2.1, z.2.2) := by decide +kernel
theorem mm2490 : m_mok m_Z m_strs 2490 := m_mok_of (i := 2490) (own := RX12) (mn := "landedOf") (I := mi12_90) (S := []) rfl rfl rfl (by decide +kernel) (by decide) mp12 md2490 (by decide +kernel) (fun _ h => absurd h List.not_mem_nil) (fun _ h => absurd h List.not_mem_nil)
theorem md2491 : ∀ z ∈ mc12_91, decode (m_B 2491) z.1 = .ok (z.2.1, z.2.2) := by decide +kernel
theorem mm2491 : m_mok m_Z m_strs 2491 := m_mok_of (i := 2491) (own := RX12) (mn := "eats") (I := mi12_91) (S := []) rfl rfl rfl (by decide +kernel) (by decide) mp12 md2491 (by decide +kernel) (fun _ h => absurd h List.not_mem_nil) (fun _ h => absurd h List.not_mem_nil)
theorem md2492_0 : ∀ z ∈ mc12_92_0, decode (m_B 2492) z.1 = .ok (z.2.1, z.2.2) := by decide +kernel
theorem md2492_1 : ∀ z ∈ mc12_92_1, decode (m_B 2492) z.1 = .ok (z.2.1, z.2.2) := by decide +kernel
theorem md2492 : ∀ z ∈ mc12_92, decode (m_B 2492) z.1 = .ok (z.2.1, z.2.2) := List.forall_mem_append.mpr ⟨md2492_0, md2492_1⟩
theorem mm2492 : m_mok m_Z m_strs 2492 := m_mok_of (i := 2492) (own := RX12) (mn := "goesOn") (I := mi12_92) (S := []) rfl rfl rfl (by decide +kernel) (by decide) mp12 md2492 (by decide +kernel) (fun _ h => absurd h List.not_mem_nil) (fun _ h => absurd h List.not_mem_nil)
theorem md2493 : ∀ z ∈ mc12_93, decode (m_B 2493) z.1 = .ok (z.2.1, z.2.2) := by decide +kernel
theorem mm2493 : m_mok m_Z m_strs 2493 := m_mok_of (i := 2493) (own := RX12) (mn := "weeks") (I := mi12_93) (S := []) rfl rfl rfl (by decide +kernel) (by decide) mp12 md2493 (by decide +kernel) (fun _ h => absurd h List.not_mem_nil) (fun _ h => absurd h List.not_mem_nil)
theorem md2494_0 : ∀ z ∈ mc12_94_0, decode (m_B 2494) z.1 = .ok (z.2.1, z.2.2) := by decide +kernel
theorem md2494_1 : ∀ z ∈ mc12_94_1, decode (m_B 2494) z.1 = .ok (z.2.1, z.2.2) := by decide +kernel
theorem md2494 : ∀ z ∈ mc12_94, decode (m_B 2494) z.1 = .ok (z.2.1, z.2.2) := List.forall_mem_append.mpr ⟨md2494_0, md2494_1⟩
theorem mm2494 : m_mok m_Z m_strs 2494 := m_mok_of (i := 2494) (own := RX12) (mn := "give") (I := mi12_94) (S := []) rfl rfl rfl (by decide +kernel) (by decide) mp12 md2494 (by decide +kernel) (fun _ h => absurd h List.not_mem_nil) (fun _ h => absurd h List.not_mem_nil)
theorem md2495 : ∀ z ∈ mc12_95, decode (m_B 2495) z.1 = .ok (z.2.1, z.2.2) := by decide +kernel
theorem mm2495 : m_mok m_Z m_strs 2495 := m_mok_of (i := 2495) (own := RX12) (mn := "owedBy") (I := mi12_95) (S := []) rfl rfl rfl (by decide +kernel) (by decide) mp12 md2495 (by decide +kernel) (fun _ h => absurd h List.not_mem_nil) (fun _ h => absurd h List.not_mem_nil)
theorem md2496 : ∀ z ∈ mc12_96, decode (m_B 2496) z.1 = .ok (z.2.1, z.2.2) := by decide +kernel
theorem mm2496 : m_mok m_Z m_strs 2496 := m_mok_of (i := 2496) (own := RX12) (mn := "mustOf") (I := mi12_96) (S := []) rfl rfl rfl (by decide +kernel) (by decide) mp12 md2496 (by decide +kernel) (fun _ h => absurd h List.not_mem_nil) (fun _ h => absurd h List.not_mem_nil)
theorem md2497 : ∀ z ∈ mc12_97, decode (m_B 2497) z.1 = .ok (z.2.1, z.2.2) := by decide +kernel
theorem mm2497 : m_mok m_Z m_strs 2497 := m_mok_of (i := 2497) (own := RX12) (mn := "returnAt") (I := mi12_97) (S := []) rfl rfl rfl (by decide +kernel) (by decide) mp12 md2497 (by decide +kernel) (fun _ h => absurd h List.not_mem_nil) (fun _ h => absurd h List.not_mem_nil)
theorem md2498 : ∀ z ∈ mc12_98, decode (m_B 2498) z.1 = .ok (z.2.1, z.2.2) := by decide +kernel
theorem mm2498 : m_mok m_Z m_strs 2498 := m_mok_of (i := 2498) (own := RX12) (mn := "latestOf") (I := mi12_98) (S := []) rfl rfl rfl (by decide +kernel) (by decide) mp12 md2498 (by decide +kernel) (fun _ h => absurd h List.not_mem_nil) (fun _ h => absurd h List.not_mem_nil)
theorem md2499 : ∀ z ∈ mc12_99, decode (m_B 2499) z.1 = .ok (z.2.1, z.2.2) := by decide +kernel
theorem mm2499 : m_mok m_Z m_strs 2499 := m_mok_of (i := 2499) (own := RX12) (mn := "missing") (I := mi12_99) (S := []) rfl rfl rfl (by decide +kernel) (by decide) mp12 md2499 (by decide +kernel) (fun _ h => absurd h List.not_mem_nil) (fun _ h => absurd h List.not_mem_nil)
theorem md2500 : ∀ z ∈ mc12_100, decode (m_B 2500) z.1 = .ok (z.2.1, z.2.2) := by decide +kernel
theorem mm2500 : m_mok m_Z m_strs 2500 := m_mok_of (i := 2500) (own := RX12) (mn := "leased") (I := mi12_100) (S := []) rfl rfl rfl (by decide +kernel) (by decide) mp12 md2500 (by decide +kernel) (fun _ h => absurd h List.not_mem_nil) (fun _ h => absurd h List.not_mem_nil)
theorem md2501 : ∀ z ∈ mc12_101, decode (m_B 2501) z.1 = .ok (z.2.1, z.2.2) := by decide +kernel
theorem mm2501 : m_mok m_Z m_strs 2501 := m_mok_of (i := 2501) (own := RX12) (mn := "land") (I := mi12_101) (S := []) rfl rfl rfl (by decide +kernel) (by decide) mp12 md2501 (by decide +kernel) (fun _ h => absurd h List.not_mem_nil) (fun _ h => absurd h List.not_mem_nil)
theorem md2502 : ∀ z ∈ mc12_102, decode (m_B 2502) z.1 = .ok (z.2.1, z.2.2) := by decide +kernel
theorem mm2502 : m_mok m_Z m_strs 2502 := m_mok_of (i := 2502) (own := RX12) (mn := "balance") (I := mi12_102) (S := []) rfl rfl rfl (by decide +kernel) (by decide) mp12 md2502 (by decide +kernel) (fun _ h => absurd h List.not_mem_nil) (fun _ h => absurd h List.not_mem_nil)
theorem md2503 : ∀ z ∈ mc12_103, decode (m_B 2503) z.1 = .ok (z.2.1, z.2.2) := by decide +kernel
theorem mm2503 : m_mok m_Z m_strs 2503 := m_mok_of (i := 2503) (own := RX12) (mn := "returned") (I := mi12_103) (S := []) rfl rfl rfl (by decide +kernel) (by decide) mp12 md2503 (by decide +kernel) (fun _ h => absurd h List.not_mem_nil) (fun _ h => absurd h List.not_mem_nil)
theorem md2504 : ∀ z ∈ mc12_104, decode (m_B 2504) z.1 = .ok (z.2.1, z.2.2) := by decide +kernel
theorem mm2504 : m_mok m_Z m_strs 2504 := m_mok_of (i := 2504) (own := RX12) (mn := "mustBe") (I := mi12_104) (S := []) rfl rfl rfl (by decide +kernel) (by decide) mp12 md2504 (by decide +kernel) (fun _ h => absurd h List.not_mem_nil) (fun _ h => absurd h List.not_mem_nil)
theorem md2505 : ∀ z ∈ mc12_105, decode (m_B 2505) z.1 = .ok (z.2.1, z.2.2) := by decide +kernel
theorem mm2505 : m_mok m_Z m_strs 2505 := m_mok_of (i := 2505) (own := RX12) (mn := "seen") (I := mi12_105) (S := []) rfl rfl rfl (by decide +kernel) (by decide) mp12 md2505 (by decide +kernel) (fun _ h => absurd h List.not_mem_nil) (fun _ h => absurd h List.not_mem_nil)
theorem md2506 : ∀ z ∈ mc12_106, decode (m_B 2506) z.1 = .ok (z.2.1, z.2.2) := by decide +kernel
theorem mm2506 : m_mok m_Z m_strs 2506 := m_mok_of (i := 2506) (own := RX12) (mn := "cameTo") (I := mi12_106) (S := []) rfl rfl rfl (by decide +kernel) (by decide) mp12 md2506 (by decide +kernel) (fun _ h => absurd h List.not_mem_nil) (fun _ h => absurd h List.not_mem_nil)
theorem md2507 : ∀ z ∈ mc12_107, decode (m_B 2507) z.1 = .ok (z.2.1, z.2.2) := by decide +kernel
theorem mm2507 : m_mok m_Z m_strs 2507 := m_mok_of (i := 2507) (own := RX12) (mn := "whence") (I := mi12_107) (S := []) rfl rfl rfl (by decide +kernel) (by decide) mp12 md2507 (by decide +kernel) (fun _ h => absurd h List.not_mem_nil) (fun _ h => absurd h List.not_mem_nil)
theorem md2508 : ∀ z ∈ mc12_108, decode (m_B 2508) z.1 = .ok (z.2.1, z.2.2) := by decide +kernel
theorem mm2508 : m_mok m_Z m_strs 2508 := m_mok_of (i := 2508) (own := RX12) (mn := "baseAt") (I := mi12_108) (S := []) rfl rfl rfl (by decide +kernel) (by decide) mp12 md2508 (by decide +kernel) (fun _ h => absurd h List.not_mem_nil) (fun _ h => absurd h List.not_mem_nil)
theorem md2509 : ∀ z ∈ mc12_109, decode (m_B 2509) z.1 = .ok (z.2.1, z.2.2) := by decide +kernel
theorem mm2509 : m_mok m_Z m_strs 2509 := m_mok_of (i := 2509) (own := RX12) (mn := "rock") (I := mi12_109) (S := []) rfl rfl rfl (by decide +kernel) (by decide) mp12 md2509 (by decide +kernel) (fun _ h => absurd h List.not_mem_nil) (fun _ h => absurd h List.not_mem_nil)
theorem md2510 : ∀ z ∈ mc12_110, decode (m_B 2510) z.1 = .ok (z.2.1, z.2.2) := by decide +kernel
theorem mm2510 : m_mok m_Z m_strs 2510 := m_mok_of (i := 2510) (own := RX12) (mn := "net") (I := mi12_110) (S := []) rfl rfl rfl (by decide +kernel) (by decide) mp12 md2510 (by decide +kernel) (fun _ h => absurd h List.not_mem_nil) (fun _ h => absurd h List.not_mem_nil)
theorem md2511 : ∀ z ∈ mc12_111, decode (m_B 2511) z.1 = .ok (z.2.1, z.2.2) := by decide +kernel
theorem mm2511 : m_mok m_Z m_strs 2511 := m_mok_of (i := 2511) (own := RX12) (mn := "over") (I := mi12_111) (S := []) rfl rfl rfl (by decide +kernel) (by decide) mp12 md2511 (by decide +kernel) (fun _ h => absurd h List.not_mem_nil) (fun _ h => absurd h List.not_mem_nil)
theorem md2512 : ∀ z ∈ mc12_112, decode (m_B 2512) z.1 = .ok (z.2.1, z.2.2) := by decide +kernel
theorem mm2512 : m_mok m_Z m_strs 2512 := m_mok_of (i := 2512) (own := RX12) (mn := "tons") (I := mi12_112) (S := []) rfl rfl rfl (by decide +kernel) (by decide) mp12 md2512 (by decide +kernel) (fun _ h => absurd h List.not_mem_nil) (fun _ h => absurd h List.not_mem_nil)
theorem md2513 : ∀ z ∈ mc12_113, decode (m_B 2513) z.1 = .ok (z.2.1, z.2.2) := by decide +kernel
theorem mm2513 : m_mok m_Z m_strs 2513 := m_mok_of (i := 2513) (own := RX12) (mn := "sends") (I := mi12_113) (S := []) rfl rfl rfl (by decide +kernel) (by decide) mp12 md2513 (by decide +kernel) (fun _ h => absurd h List.not_mem_nil) (fun _ h => absurd h List.not_mem_nil)
theorem md2514 : ∀ z ∈ mc12_114, decode (m_B 2514) z.1 = .ok (z.2.1, z.2.2) := by decide +kernel
theorem mm2514 : m_mok m_Z m_strs 2514 := m_mok_of (i := 2514) (own := RX12) (mn := "hulls") (I := mi12_114) (S := []) rfl rfl rfl (by decide +kernel) (by decide) mp12 md2514 (by decide +kernel) (fun _ h => absurd h List.not_mem_nil) (fun _ h => absurd h List.not_mem_nil)
theorem md2515_0 : ∀ z ∈ mc12_115_0, decode (m_B 2515) z.1 = .ok (z.2.1, z.2.2) := by decide +kernel
theorem md2515_1 : ∀ z ∈ mc12_115_1, decode (m_B 2515) z.1 = .ok (z.2.1, z.2.2) := by decide +kernel
theorem md2515 : ∀ z ∈ mc12_115, decode (m_B 2515) z.1 = .ok (z.2.1, z.2.2) := List.forall_mem_append.mpr ⟨md2515_0, md2515_1⟩
theorem mm2515 : m_mok m_Z m_strs 2515 := m_mok_of (i := 2515) (own := RX12) (mn := "bestOrders") (I := mi12_115) (S := []) rfl rfl rfl (by decide +kernel) (by decide) mp12 md2515 (by decide +kernel) (fun _ h => absurd h List.not_mem_nil) (fun _ h => absurd h List.not_mem_nil)
theorem md2516 : ∀ z ∈ mc12_116, decode (m_B 2516) z.1 = .ok (z.2.1, z.2.2) := by decide +kernel
theorem mm2516 : m_mok m_Z m_strs 2516 := m_mok_of (i := 2516) (own := RX12) (mn := "page") (I := mi12_116) (S := []) rfl rfl rfl (by decide +kernel) (by decide) mp12 md2516 (by decide +kernel) (fun _ h => absurd h List.not_mem_nil) (fun _ h => absurd h List.not_mem_nil)
theorem md2517 : ∀ z ∈ mc12_117, decode (m_B 2517) z.1 = .ok (z.2.1, z.2.2) := by decide +kernel
theorem mm2517 : m_mok m_Z m_strs 2517 := m_mok_of (i := 2517) (own := RX12) (mn := "signed") (I := mi12_117) (S := []) rfl rfl rfl (by decide +kernel) (by decide) mp12 md2517 (by decide +kernel) (fun _ h => absurd h List.not_mem_nil) (fun _ h => absurd h List.not_mem_nil)
theorem md2518 : ∀ z ∈ mc12_118, decode (m_B 2518) z.1 = .ok (z.2.1, z.2.2) := by decide +kernel
theorem mm2518 : m_mok m_Z m_strs 2518 := m_mok_of (i := 2518) (own := RX12) (mn := "choice") (I := mi12_118) (S := []) rfl rfl rfl (by decide +kernel) (by decide) mp12 md2518 (by decide +kernel) (fun _ h => absurd h List.not_mem_nil) (fun _ h => absurd h List.not_mem_nil)
theorem md2519 : ∀ z ∈ mc12_119, decode (m_B 2519) z.1 = .ok (z.2.1, z.2.2) := by decide +kernel
theorem mm2519 : m_mok m_Z m_strs 2519 := m_mok_of (i := 2519) (own := RX12) (mn := "row") (I := mi12_119) (S := []) rfl rfl rfl (by decide +kernel) (by decide) mp12 md2519 (by decide +kernel) (fun _ h => absurd h List.not_mem_nil) (fun _ h => absurd h List.not_mem_nil)
theorem md2520 : ∀ z ∈ mc12_120, decode (m_B 2520) z.1 = .ok (z.2.1, z.2.2) := by decide +kernel
theorem mm2520 : m_mok m_Z m_strs 2520 := m_mok_of (i := 2520) (own := RX12) (mn := "setHas") (I := mi12_120) (S := []) rfl rfl rfl (by decide +kernel) (by decide) mp12 md2520 (by decide +kernel) (fun _ h => absurd h List.not_mem_nil) (fun _ h => absurd h List.not_mem_nil)
theorem md2521 : ∀ z ∈ mc12_121, decode (m_B 2521) z.1 = .ok (z.2.1, z.2.2) := by decide +kernel
theorem mm2521 : m_mok m_Z m_strs 2521 := m_mok_of (i := 2521) (own := RX12) (mn := "lasting") (I := mi12_121) (S := []) rfl rfl rfl (by decide +kernel) (by decide) mp12 md2521 (by decide +kernel) (fun _ h => absurd h List.not_mem_nil) (fun _ h => absurd h List.not_mem_nil)
theorem md2522 : ∀ z ∈ mc12_122, decode (m_B 2522) z.1 = .ok (z.2.1, z.2.2) := by decide +kernel
theorem mm2522 : m_mok m_Z m_strs 2522 := m_mok_of (i := 2522) (own := RX12) (mn := "costOf") (I := mi12_122) (S := []) rfl rfl rfl (by decide +kernel) (by decide) mp12 md2522 (by decide +kernel) (fun _ h => absurd h List.not_mem_nil) (fun _ h => absurd h List.not_mem_nil)
theorem md2523 : ∀ z ∈ mc12_123, decode (m_B 2523) z.1 = .ok (z.2.1, z.2.2) := by decide +kernel
theorem mm2523 : m_mok m_Z m_strs 2523 := m_mok_of (i := 2523) (own := RX12) (mn := "lasts") (I := mi12_123) (S := []) rfl rfl rfl (by decide +kernel) (by decide) mp12 md2523 (by decide +kernel) (fun _ h => absurd h List.not_mem_nil) (fun _ h => absurd h List.not_mem_nil)
theorem md2524 : ∀ z ∈ mc12_124, decode (m_B 2524) z.1 = .ok (z.2.1, z.2.2) := by decide +kernel
theorem mm2524 : m_mok m_Z m_strs 2524 := m_mok_of (i := 2524) (own := RX12) (mn := "cash") (I := mi12_124) (S := []) rfl rfl rfl (by decide +kernel) (by decide) mp12 md2524 (by decide +kernel) (fun _ h => absurd h List.not_mem_nil) (fun _ h => absurd h List.not_mem_nil)
theorem md2525 : ∀ z ∈ mc12_125, decode (m_B 2525) z.1 = .ok (z.2.1, z.2.2) := by decide +kernel
theorem mm2525 : m_mok m_Z m_strs 2525 := m_mok_of (i := 2525) (own := RX12) (mn := "rowAt") (I := mi12_125) (S := []) rfl rfl rfl (by decide +kernel) (by decide) mp12 md2525 (by decide +kernel) (fun _ h => absurd h List.not_mem_nil) (fun _ h => absurd h List.not_mem_nil)
theorem md2526 : ∀ z ∈ mc12_126, decode (m_B 2526) z.1 = .ok (z.2.1, z.2.2) := by decide +kernel
theorem mm2526 : m_mok m_Z m_strs 2526 := m_mok_of (i := 2526) (own := RX12) (mn := "tear") (I := mi12_126) (S := []) rfl rfl rfl (by decide +kernel) (by decide) mp12 md2526 (by decide +kernel) (fun _ h => absurd h List.not_mem_nil) (fun _ h => absurd h List.not_mem_nil)
theorem md2527 : ∀ z ∈ mc12_127, decode (m_B 2527) z.1 = .ok (z.2.1, z.2.2) := by decide +kernel
theorem mm2527 : m_mok m_Z m_strs 2527 := m_mok_of (i := 2527) (own := RX12) (mn := "check") (I := mi12_127) (S := []) rfl rfl rfl (by decide +kernel) (by decide) mp12 md2527 (by decide +kernel) (fun _ h => absurd h List.not_mem_nil) (fun _ h => absurd h List.not_mem_nil)
theorem md2528_0 : ∀ z ∈ mc12_128_0, decode (m_B 2528) z.1 = .ok (z.2.1, z.2.2) := by decide +kernel
theorem md2528_1 : ∀ z ∈ mc12_128_1, decode (m_B 2528) z.1 = .ok (z.2.1, z.2.2) := by decide +kernel
theorem md2528 : ∀ z ∈ mc12_128, decode (m_B 2528) z.1 = .ok (z.2.1, z.2.2) := List.forall_mem_append.mpr ⟨md2528_0, md2528_1⟩
theorem mm2528 : m_mok m_Z m_strs 2528 := m_mok_of (i := 2528) (own := RX12) (mn := "count") (I := mi12_128) (S := []) rfl rfl rfl (by decide +kernel) (by decide) mp12 md2528 (by decide +kernel) (fun _ h => absurd h List.not_mem_nil) (fun _ h => absurd h List.not_mem_nil)
theorem md2600 : ∀ z ∈ mc13_0, decode (m_B 2600) z.1 = .ok (z.2.1, z.2.2) := by decide +kernel
theorem mm2600 : m_mok m_Z m_strs 2600 := m_mok_of (i := 2600) (own := RL) (mn := "sort") (I := mi13_0) (S := []) rfl rfl rfl (by decide +kernel) (by decide) mp13 md2600 (by decide +kernel) (fun _ h => absurd h List.not_mem_nil) (List.forall_mem_cons.mpr ⟨⟨by decide, by decide, m_gi3 139 rfl rfl⟩, List.forall_mem_cons.mpr ⟨⟨by decide, by decide, m_gi3 140 rfl rfl⟩, fun _ h => absurd h List.not_mem_nil⟩⟩)
theorem md2601 : ∀ z ∈ mc13_1, decode (m_B 2601) z.1 = .ok (z.2.1, z.2.2) := by decide +kernel
theorem mm2601 : m_mok m_Z m_strs 2601 := m_mok_of (i := 2601) (own := RL) (mn := "price") (I := mi13_1) (S := []) rfl rfl rfl (by decide +kernel) (by decide) mp13 md2601 (by decide +kernel) (fun _ h => absurd h List.not_mem_nil) (List.forall_mem_cons.mpr ⟨⟨by decide, by decide, m_gi3 139 rfl rfl⟩, List.forall_mem_cons.mpr ⟨⟨by decide, by decide, m_gi3 140 rfl rfl⟩, fun _ h => absurd h List.not_mem_nil⟩⟩)
theorem md2602 : ∀ z ∈ mc13_2, decode (m_B 2602) z.1 = .ok (z.2.1, z.2.2) := by decide +kernel
theorem mm2602 : m_mok m_Z m_strs 2602 := m_mok_of (i := 2602) (own := RL) (mn := "cost") (I := mi13_2) (S := []) rfl rfl rfl (by decide +kernel) (by decide) mp13 md2602 (by decide +kernel) (fun _ h => absurd h List.not_mem_nil) (List.forall_mem_cons.mpr ⟨⟨by decide, by decide, m_gi3 139 rfl rfl⟩, fun _ h => absurd h List.not_mem_nil⟩)
theorem md2603 : ∀ z ∈ mc13_3, decode (m_B 2603) z.1 = .ok (z.2.1, z.2.2) := by decide +kernel
theorem mm2603 : m_mok m_Z m_strs 2603 := m_mok_of (i := 2603) (own := RL) (mn := "works") (I := mi13_3) (S := []) rfl rfl rfl (by decide +kernel) (by decide) mp13 md2603 (by decide +kernel) (fun _ h => absurd h List.not_mem_nil) (List.forall_mem_cons.mpr ⟨⟨by decide, by decide, m_gi3 140 rfl rfl⟩, fun _ h => absurd h List.not_mem_nil⟩)
theorem md2604 : ∀ z ∈ mc13_4, decode (m_B 2604) z.1 = .ok (z.2.1, z.2.2) := by decide +kernel
theorem mm2604 : m_mok m_Z m_strs 2604 := m_mok_of (i := 2604) (own := RL) (mn := "order") (I := mi13_4) (S := []) rfl rfl rfl (by decide +kernel) (by decide) mp13 md2604 (by decide +kernel) (fun _ h => absurd h List.not_mem_nil) (List.forall_mem_cons.mpr ⟨⟨by decide, by decide, m_gi3 139 rfl rfl⟩, List.forall_mem_cons.mpr ⟨⟨by decide, by decide, m_gi3 140 rfl rfl⟩, List.forall_mem_cons.mpr ⟨⟨by decide, by decide, m_gi4 29 rfl rfl⟩, List.forall_mem_cons.mpr ⟨⟨by decide, by decide, m_gi4 30 rfl rfl⟩, fun _ h => absurd h List.not_mem_nil⟩⟩⟩⟩)
theorem md2605 : ∀ z ∈ mc13_5, decode (m_B 2605) z.1 = .ok (z.2.1, z.2.2) := by decide +kernel
theorem mm2605 : m_mok m_Z m_strs 2605 := m_mok_of (i := 2605) (own := RL) (mn := "lot") (I := mi13_5) (S := []) rfl rfl rfl (by decide +kernel) (by decide) mp13 md2605 (by decide +kernel) (fun _ h => absurd h List.not_mem_nil) (List.forall_mem_cons.mpr ⟨⟨by decide, by decide, m_gi3 139 rfl rfl⟩, List.forall_mem_cons.mpr ⟨⟨by decide, by decide, m_gi4 87 rfl rfl⟩, fun _ h => absurd h List.not_mem_nil⟩⟩)
theorem md2606 : ∀ z ∈ mc13_6, decode (m_B 2606) z.1 = .ok (z.2.1, z.2.2) := by decide +kernel
theorem mm2606 : m_mok m_Z m_strs 2606 := m_mok_of (i := 2606) (own := RL) (mn := "act") (I := mi13_6) (S := []) rfl rfl rfl (by decide +kernel) (by decide) mp13 md2606 (by decide +kernel) (fun _ h => absurd h List.not_mem_nil) (List.forall_mem_cons.mpr ⟨⟨by decide, by decide, m_gi3 140 rfl rfl⟩, List.forall_mem_cons.mpr ⟨⟨by decide, by decide, m_gi4 29 rfl rfl⟩, fun _ h => absurd h List.not_mem_nil⟩⟩)
theorem md2607 : ∀ z ∈ mc13_7, decode (m_B 2607) z.1 = .ok (z.2.1, z.2.2) := by decide +kernel
theorem mm2607 : m_mok m_Z m_strs 2607 := m_mok_of (i := 2607) (own := RL) (mn := "ask") (I := mi13_7) (S := []) rfl rfl rfl (by decide +kernel) (by decide) mp13 md2607 (by decide +kernel) (fun _ h => absurd h List.not_mem_nil) (List.forall_mem_cons.mpr ⟨⟨by decide, by decide, m_gi3 139 rfl rfl⟩, List.forall_mem_cons.mpr ⟨⟨by decide, by decide, m_gi3 140 rfl rfl⟩, List.forall_mem_cons.mpr ⟨⟨by decide, by decide, m_gi4 29 rfl rfl⟩, fun _ h => absurd h List.not_mem_nil⟩⟩⟩)
theorem md2608 : ∀ z ∈ mc13_8, decode (m_B 2608) z.1 = .ok (z.2.1, z.2.2) := by decide +kernel
theorem mm2608 : m_mok m_Z m_strs 2608 := m_mok_of (i := 2608) (own := RL) (mn := "weigh") (I := mi13_8) (S := []) rfl rfl rfl (by decide +kernel) (by decide) mp13 md2608 (by decide +kernel) (fun _ h => absurd h List.not_mem_nil) (List.forall_mem_cons.mpr ⟨⟨by decide, by decide, m_gi3 139 rfl rfl⟩, List.forall_mem_cons.mpr ⟨⟨by decide, by decide, m_gi4 87 rfl rfl⟩, fun _ h => absurd h List.not_mem_nil⟩⟩)
theorem md2609 : ∀ z ∈ mc13_9, decode (m_B 2609) z.1 = .ok (z.2.1, z.2.2) := by decide +kernel
theorem mm2609 : m_mok m_Z m_strs 2609 := m_mok_of (i := 2609) (own := RL) (mn := "allot") (I := mi13_9) (S := []) rfl rfl rfl (by decide +kernel) (by decide) mp13 md2609 (by decide +kernel) (fun _ h => absurd h List.not_mem_nil) (List.forall_mem_cons.mpr ⟨⟨by decide, by decide, m_gi3 139 rfl rfl⟩, List.forall_mem_cons.mpr ⟨⟨by decide, by decide, m_gi4 30 rfl rfl⟩, fun _ h => absurd h List.not_mem_nil⟩⟩)
theorem md2610 : ∀ z ∈ mc13_10, decode (m_B 2610) z.1 = .ok (z.2.1, z.2.2) := by decide +kernel
theorem mm2610 : m_mok m_Z m_strs 2610 := m_mok_of (i := 2610) (own := RL) (mn := "label") (I := mi13_10) (S := []) rfl rfl rfl (by decide +kernel) (by decide) mp13 md2610 (by decide +kernel) (fun _ h => absurd h List.not_mem_nil) (List.forall_mem_cons.mpr ⟨⟨by decide, by decide, m_gi3 139 rfl rfl⟩, List.forall_mem_cons.mpr ⟨⟨by decide, by decide, m_gi3 140 rfl rfl⟩, fun _ h => absurd h List.not_mem_nil⟩⟩)
theorem md2611 : ∀ z ∈ mc13_11, decode (m_B 2611) z.1 = .ok (z.2.1, z.2.2) := by decide +kernel
theorem mm2611 : m_mok m_Z m_strs 2611 := m_mok_of (i := 2611) (own := RL) (mn := "ship") (I := mi13_11) (S := []) rfl rfl rfl (by decide +kernel) (by decide) mp13 md2611 (by decide +kernel) (fun _ h => absurd h List.not_mem_nil) (List.forall_mem_cons.mpr ⟨⟨by decide, by decide, m_gi3 140 rfl rfl⟩, List.forall_mem_cons.mpr ⟨⟨by decide, by decide, m_gi4 29 rfl rfl⟩, fun _ h => absurd h List.not_mem_nil⟩⟩)
theorem md2612 : ∀ z ∈ mc13_12, decode (m_B 2612) z.1 = .ok (z.2.1, z.2.2) := by decide +kernel
theorem mm2612 : m_mok m_Z m_strs 2612 := m_mok_of (i := 2612) (own := RL) (mn := "way") (I := mi13_12) (S := []) rfl rfl rfl (by decide +kernel) (by decide) mp13 md2612 (by decide +kernel) (fun _ h => absurd h List.not_mem_nil) (List.forall_mem_cons.mpr ⟨⟨by decide, by decide, m_gi3 139 rfl rfl⟩, List.forall_mem_cons.mpr ⟨⟨by decide, by decide, m_gi3 140 rfl rfl⟩, fun _ h => absurd h List.not_mem_nil⟩⟩)
theorem md2613 : ∀ z ∈ mc13_13, decode (m_B 2613) z.1 = .ok (z.2.1, z.2.2) := by decide +kernel
theorem mm2613 : m_mok m_Z m_strs 2613 := m_mok_of (i := 2613) (own := RL) (mn := "risk") (I := mi13_13) (S := []) rfl rfl rfl (by decide +kernel) (by decide) mp13 md2613 (by decide +kernel) (fun _ h => absurd h List.not_mem_nil) (List.forall_mem_cons.mpr ⟨⟨by decide, by decide, m_gi3 139 rfl rfl⟩, List.forall_mem_cons.mpr ⟨⟨by decide, by decide, m_gi3 140 rfl rfl⟩, fun _ h => absurd h List.not_mem_nil⟩⟩)
theorem md2614 : ∀ z ∈ mc13_14, decode (m_B 2614) z.1 = .ok (z.2.1, z.2.2) := by decide +kernel
theorem mm2614 : m_mok m_Z m_strs 2614 := m_mok_of (i := 2614) (own := RL) (mn := "load") (I := mi13_14) (S := []) rfl rfl rfl (by decide +kernel) (by decide) mp13 md2614 (by decide +kernel) (fun _ h => absurd h List.not_mem_nil) (List.forall_mem_cons.mpr ⟨⟨by decide, by decide, m_gi3 139 rfl rfl⟩, List.forall_mem_cons.mpr ⟨⟨by decide, by decide, m_gi4 30 rfl rfl⟩, fun _ h => absurd h List.not_mem_nil⟩⟩)
theorem md2615 : ∀ z ∈ mc13_15, decode (m_B 2615) z.1 = .ok (z.2.1, z.2.2) := by decide +kernel
theorem mm2615 : m_mok m_Z m_strs 2615 := m_mok_of (i := 2615) (own := RL) (mn := "sail") (I := mi13_15) (S := []) rfl rfl rfl (by decide +kernel) (by decide) mp13 md2615 (by decide +kernel) (fun _ h => absurd h List.not_mem_nil) (List.forall_mem_cons.mpr ⟨⟨by decide, by decide, m_gi3 139 rfl rfl⟩, List.forall_mem_cons.mpr ⟨⟨by decide, by decide, m_gi4 30 rfl rfl⟩, fun _ h => absurd h List.not_mem_nil⟩⟩)
theorem md2616 : ∀ z ∈ mc13_16, decode (m_B 2616) z.1 = .ok (z.2.1, z.2.2) := by decide +kernel
theorem mm2616 : m_mok m_Z m_strs 2616 := m_mok_of (i := 2616) (own := RL) (mn := "led") (I := mi13_16) (S := []) rfl rfl rfl (by decide +kernel) (by decide) mp13 md2616 (by decide +kernel) (fun _ h => absurd h List.not_mem_nil) (List.forall_mem_cons.mpr ⟨⟨by decide, by decide, m_gi3 139 rfl rfl⟩, List.forall_mem_cons.mpr ⟨⟨by decide, by decide, m_gi4 87 rfl rfl⟩, fun _ h => absurd h List.not_mem_nil⟩⟩)
theorem md2617 : ∀ z ∈ mc13_17, decode (m_B 2617) z.1 = .ok (z.2.1, z.2.2) := by decide +kernel
theorem mm2617 : m_mok m_Z m_strs 2617 := m_mok_of (i := 2617) (own := RL) (mn := "need") (I := mi13_17) (S := []) rfl rfl rfl (by decide +kernel) (by decide) mp13 md2617 (by decide +kernel) (fun _ h => absurd h List.not_mem_nil) (List.forall_mem_cons.mpr ⟨⟨by decide, by decide, m_gi3 139 rfl rfl⟩, List.forall_mem_cons.mpr ⟨⟨by decide, by decide, m_gi3 140 rfl rfl⟩, fun _ h => absurd h List.not_mem_nil⟩⟩)
theorem md2618 : ∀ z ∈ mc13_18, decode (m_B 2618) z.1 = .ok (z.2.1, z.2.2) := by decide +kernel
theorem mm2618 : m_mok m_Z m_strs 2618 := m_mok_of (i := 2618) (own := RL) (mn := "weeks") (I := mi13_18) (S := []) rfl rfl rfl (by decide +kernel) (by decide) mp13 md2618 (by decide +kernel) (fun _ h => absurd h List.not_mem_nil) (List.forall_mem_cons.mpr ⟨⟨by decide, by decide, m_gi3 140 rfl rfl⟩, fun _ h => absurd h List.not_mem_nil⟩)
theorem md2619 : ∀ z ∈ mc13_19, decode (m_B 2619) z.1 = .ok (z.2.1, z.2.2) := by decide +kernel
theorem mm2619 : m_mok m_Z m_strs 2619 := m_mok_of (i := 2619) (own := RL) (mn := "give") (I := mi13_19) (S := []) rfl rfl rfl (by decide +kernel) (by decide) mp13 md2619 (by decide +kernel) (fun _ h => absurd h List.not_mem_nil) (List.forall_mem_cons.mpr ⟨⟨by decide, by decide, m_gi3 139 rfl rfl⟩, List.forall_mem_cons.mpr ⟨⟨by decide, by decide, m_gi4 30 rfl rfl⟩, fun _ h => absurd h List.not_mem_nil⟩⟩)
theorem md2620 : ∀ z ∈ mc13_20, decode (m_B 2620) z.1 = .ok (z.2.1, z.2.2) := by decide +kernel
theorem mm2620 : m_mok m_Z m_strs 2620 := m_mok_of (i := 2620) (own := RL) (mn := "back") (I := mi13_20) (S := []) rfl rfl rfl (by decide +kernel) (by decide) mp13 md2620 (by decide +kernel) (fun _ h => absurd h List.not_mem_nil) (List.forall_mem_cons.mpr ⟨⟨by decide, by decide, m_gi3 139 rfl rfl⟩, List.forall_mem_cons.mpr ⟨⟨by decide, by decide, m_gi3 140 rfl rfl⟩, List.forall_mem_cons.mpr ⟨⟨by decide, by decide, m_gi4 29 rfl rfl⟩, List.forall_mem_cons.mpr ⟨⟨by decide, by decide, m_gi4 30 rfl rfl⟩, fun _ h => absurd h List.not_mem_nil⟩⟩⟩⟩)
theorem md2621 : ∀ z ∈ mc13_21, decode (m_B 2621) z.1 = .ok (z.2.1, z.2.2) := by decide +kernel
theorem mm2621 : m_mok m_Z m_strs 2621 := m_mok_of (i := 2621) (own := RL) (mn := "land") (I := mi13_21) (S := []) rfl rfl rfl (by decide +kernel) (by decide) mp13 md2621 (by decide +kernel) (fun _ h => absurd h List.not_mem_nil) (List.forall_mem_cons.mpr ⟨⟨by decide, by decide, m_gi3 139 rfl rfl⟩, List.forall_mem_cons.mpr ⟨⟨by decide, by decide, m_gi3 140 rfl rfl⟩, List.forall_mem_cons.mpr ⟨⟨by decide, by decide, m_gi4 87 rfl rfl⟩, fun _ h => absurd h List.not_mem_nil⟩⟩⟩)
theorem md2622 : ∀ z ∈ mc13_22, decode (m_B 2622) z.1 = .ok (z.2.1, z.2.2) := by decide +kernel
theorem mm2622 : m_mok m_Z m_strs 2622 := m_mok_of (i := 2622) (own := RL) (mn := "balance") (I := mi13_22) (S := []) rfl rfl rfl (by decide +kernel) (by decide) mp13 md2622 (by decide +kernel) (fun _ h => absurd h List.not_mem_nil) (List.forall_mem_cons.mpr ⟨⟨by decide, by decide, m_gi3 139 rfl rfl⟩, List.forall_mem_cons.mpr ⟨⟨by decide, by decide, m_gi3 140 rfl rfl⟩, List.forall_mem_cons.mpr ⟨⟨by decide, by decide, m_gi4 87 rfl rfl⟩, fun _ h => absurd h List.not_mem_nil⟩⟩⟩)
theorem md2623 : ∀ z ∈ mc13_23, decode (m_B 2623) z.1 = .ok (z.2.1, z.2.2) := by decide +kernel
theorem mm2623 : m_mok m_Z m_strs 2623 := m_mok_of (i := 2623) (own := RL) (mn := "returned") (I := mi13_23) (S := []) rfl rfl rfl (by decide +kernel) (by decide) mp13 md2623 (by decide +kernel) (fun _ h => absurd h List.not_mem_nil) (List.forall_mem_cons.mpr ⟨⟨by decide, by decide, m_gi3 139 rfl rfl⟩, List.forall_mem_cons.mpr ⟨⟨by decide, by decide, m_gi3 140 rfl rfl⟩, fun _ h => absurd h List.not_mem_nil⟩⟩)
theorem md2624 : ∀ z ∈ mc13_24, decode (m_B 2624) z.1 = .ok (z.2.1, z.2.2) := by decide +kernel
theorem mm2624 : m_mok m_Z m_strs 2624 := m_mok_of (i := 2624) (own := RL) (mn := "mustBe") (I := mi13_24) (S := []) rfl rfl rfl (by decide +kernel) (by decide) mp13 md2624 (by decide +kernel) (fun _ h => absurd h List.not_mem_nil) (List.forall_mem_cons.mpr ⟨⟨by decide, by decide, m_gi3 139 rfl rfl⟩, List.forall_mem_cons.mpr ⟨⟨by decide, by decide, m_gi3 140 rfl rfl⟩, fun _ h => absurd h List.not_mem_nil⟩⟩)
theorem md2625 : ∀ z ∈ mc13_25, decode (m_B 2625) z.1 = .ok (z.2.1, z.2.2) := by decide +kernel
theorem mm2625 : m_mok m_Z m_strs 2625 := m_mok_of (i := 2625) (own := RL) (mn := "seen") (I := mi13_25) (S := []) rfl rfl rfl (by decide +kernel) (by decide) mp13 md2625 (by decide +kernel) (fun _ h => absurd h List.not_mem_nil) (List.forall_mem_cons.mpr ⟨⟨by decide, by decide, m_gi3 139 rfl rfl⟩, List.forall_mem_cons.mpr ⟨⟨by decide, by decide, m_gi3 140 rfl rfl⟩, fun _ h => absurd h List.not_mem_nil⟩⟩)
theorem md2626 : ∀ z ∈ mc13_26, decode (m_B 2626) z.1 = .ok (z.2.1, z.2.2) := by decide +kernel
theorem mm2626 : m_mok m_Z m_strs 2626 := m_mok_of (i := 2626) (own := RL) (mn := "whence") (I := mi13_26) (S := []) rfl rfl rfl (by decide +kernel) (by decide) mp13 md2626 (by decide +kernel) (fun _ h => absurd h List.not_mem_nil) (List.forall_mem_cons.mpr ⟨⟨by decide, by decide, m_gi3 139 rfl rfl⟩, List.forall_mem_cons.mpr ⟨⟨by decide, by decide, m_gi3 140 rfl rfl⟩, fun _ h => absurd h List.not_mem_nil⟩⟩)
theorem md2627 : ∀ z ∈ mc13_27, decode (m_B 2627) z.1 = .ok (z.2.1, z.2.2) := by decide +kernel
theorem mm2627 : m_mok m_Z m_strs 2627 := m_mok_of (i := 2627) (own := RL) (mn := "rock") (I := mi13_27) (S := []) rfl rfl rfl (by decide +kernel) (by decide) mp13 md2627 (by decide +kernel) (fun _ h => absurd h List.not_mem_nil) (List.forall_mem_cons.mpr ⟨⟨by decide, by decide, m_gi3 139 rfl rfl⟩, List.forall_mem_cons.mpr ⟨⟨by decide, by decide, m_gi3 140 rfl rfl⟩, List.forall_mem_cons.mpr ⟨⟨by decide, by decide, m_gi4 29 rfl rfl⟩, fun _ h => absurd h List.not_mem_nil⟩⟩⟩)
theorem md2628 : ∀ z ∈ mc13_28, decode (m_B 2628) z.1 = .ok (z.2.1, z.2.2) := by decide +kernel
theorem mm2628 : m_mok m_Z m_strs 2628 := m_mok_of (i := 2628) (own := RL) (mn := "net") (I := mi13_28) (S := []) rfl rfl rfl (by decide +kernel) (by decide) mp13 md2628 (by decide +kernel) (fun _ h => absurd h List.not_mem_nil) (List.forall_mem_cons.mpr ⟨⟨by decide, by decide, m_gi3 139 rfl rfl⟩, fun _ h => absurd h List.not_mem_nil⟩)
theorem md2629 : ∀ z ∈ mc13_29, decode (m_B 2629) z.1 = .ok (z.2.1, z.2.2) := by decide +kernel
theorem mm2629 : m_mok m_Z m_strs 2629 := m_mok_of (i := 2629) (own := RL) (mn := "tons") (I := mi13_29) (S := []) rfl rfl rfl (by decide +kernel) (by decide) mp13 md2629 (by decide +kernel) (fun _ h => absurd h List.not_mem_nil) (List.forall_mem_cons.mpr ⟨⟨by decide, by decide, m_gi3 139 rfl rfl⟩, List.forall_mem_cons.mpr ⟨⟨by decide, by decide, m_gi3 140 rfl rfl⟩, fun _ h => absurd h List.not_mem_nil⟩⟩)
theorem md2630 : ∀ z ∈ mc13_30, decode (m_B 2630) z.1 = .ok (z.2.1, z.2.2) := by decide +kernel
theorem mm2630 : m_mok m_Z m_strs 2630 := m_mok_of (i := 2630) (own := RL) (mn := "page") (I := mi13_30) (S := []) rfl rfl rfl (by decide +kernel) (by decide) mp13 md2630 (by decide +kernel) (fun _ h => absurd h List.not_mem_nil) (List.forall_mem_cons.mpr ⟨⟨by decide, by decide, m_gi3 140 rfl rfl⟩, fun _ h => absurd h List.not_mem_nil⟩)
theorem md2631 : ∀ z ∈ mc13_31, decode (m_B 2631) z.1 = .ok (z.2.1, z.2.2) := by decide +kernel
theorem mm2631 : m_mok m_Z m_strs 2631 := m_mok_of (i := 2631) (own := RL) (mn := "choice") (I := mi13_31) (S := []) rfl rfl rfl (by decide +kernel) (by decide) mp13 md2631 (by decide +kernel) (fun _ h => absurd h List.not_mem_nil) (List.forall_mem_cons.mpr ⟨⟨by decide, by decide, m_gi3 140 rfl rfl⟩, fun _ h => absurd h List.not_mem_nil⟩)
theorem md2632 : ∀ z ∈ mc13_32, decode (m_B 2632) z.1 = .ok (z.2.1, z.2.2) := by decide +kernel
theorem mm2632 : m_mok m_Z m_strs 2632 := m_mok_of (i := 2632) (own := RL) (mn := "row") (I := mi13_32) (S := []) rfl rfl rfl (by decide +kernel) (by decide) mp13 md2632 (by decide +kernel) (fun _ h => absurd h List.not_mem_nil) (List.forall_mem_cons.mpr ⟨⟨by decide, by decide, m_gi3 140 rfl rfl⟩, fun _ h => absurd h List.not_mem_nil⟩)
theorem md2633 : ∀ z ∈ mc13_33, decode (m_B 2633) z.1 = .ok (z.2.1, z.2.2) := by decide +kernel
theorem mm2633 : m_mok m_Z m_strs 2633 := m_mok_of (i := 2633) (own := RL) (mn := "cash") (I := mi13_33) (S := []) rfl rfl rfl (by decide +kernel) (by decide) mp13 md2633 (by decide +kernel) (fun _ h => absurd h List.not_mem_nil) (List.forall_mem_cons.mpr ⟨⟨by decide, by decide, m_gi3 140 rfl rfl⟩, fun _ h => absurd h List.not_mem_nil⟩)
theorem md2634 : ∀ z ∈ mc13_34, decode (m_B 2634) z.1 = .ok (z.2.1, z.2.2) := by decide +kernel
theorem mm2634 : m_mok m_Z m_strs 2634 := m_mok_of (i := 2634) (own := RL) (mn := "tear") (I := mi13_34) (S := []) rfl rfl rfl (by decide +kernel) (by decide) mp13 md2634 (by decide +kernel) (fun _ h => absurd h List.not_mem_nil) (List.forall_mem_cons.mpr ⟨⟨by decide, by decide, m_gi4 87 rfl rfl⟩, fun _ h => absurd h List.not_mem_nil⟩)
theorem md2635_0 : ∀ z ∈ mc13_35_0, decode (m_B 2635) z.1 = .ok (z.2.1, z.2.2) := by decide +kernel
theorem md2635_1 : ∀ z ∈ mc13_35_1, decode (m_B 2635) z.1 = .ok (z.2.1, z.2.2) := by decide +kernel
theorem md2635_2 : ∀ z ∈ mc13_35_2, decode (m_B 2635) z.1 = .ok (z.2.1, z.2.2) := by decide +kernel
theorem md2635_3 : ∀ z ∈ mc13_35_3, decode (m_B 2635) z.1 = .ok (z.2.1, z.2.2) := by decide +kernel
theorem md2635_4 : ∀ z ∈ mc13_35_4, decode (m_B 2635) z.1 = .ok (z.2.1, z.2.2) := by decide +kernel
theorem md2635_5 : ∀ z ∈ mc13_35_5, decode (m_B 2635) z.1 = .ok (z.2.1, z.2.2) := by decide +kernel
theorem md2635_6 : ∀ z ∈ mc13_35_6, decode (m_B 2635) z.1 = .ok (z.2.1, z.2.2) := by decide +kernel
theorem md2635_7 : ∀ z ∈ mc13_35_7, decode (m_B 2635) z.1 = .ok (z.2.1, z.2.2) := by decide +kernel
theorem md2635_8 : ∀ z ∈ mc13_35_8, decode (m_B 2635) z.1 = .ok (z.2.1, z.2.2) := by decide +kernel
theorem md2635_9 : ∀ z ∈ mc13_35_9, decode (m_B 2635) z.1 = .ok (z.2.1, z.2.2) := by decide +kernel
theorem md2635_10 : ∀ z ∈ mc13_35_10, decode (m_B 2635) z.1 = .ok (z.2.1, z.2.2) := by decide +kernel
theorem md2635_11 : ∀ z ∈ mc13_35_11, decode (m_B 2635) z.1 = .ok (z.2.1, z.2.2) := by decide +kernel
theorem md2635_12 : ∀ z ∈ mc13_35_12, decode (m_B 2635) z.1 = .ok (z.2.1, z.2.2) := by decide +kernel
theorem md2635_13 : ∀ z ∈ mc13_35_13, decode (m_B 2635) z.1 = .ok (z.2.1, z.2.2) := by decide +kernel
theorem md2635_14 : ∀ z ∈ mc13_35_14, decode (m_B 2635) z.1 = .ok (z.2.1, z.2.2) := by decide +kernel
theorem md2635_15 : ∀ z ∈ mc13_35_15, decode (m_B 2635) z.1 = .ok (z.2.1, z.2.2) := by decide +kernel
theorem md2635_16 : ∀ z ∈ mc13_35_16, decode (m_B 2635) z.1 = .ok (z.2.1, z.2.2) := by decide +kernel
theorem md2635_17 : ∀ z ∈ mc13_35_17, decode (m_B 2635) z.1 = .ok (z.2.1, z.2.2) := by decide +kernel
theorem md2635_18 : ∀ z ∈ mc13_35_18, decode (m_B 2635) z.1 = .ok (z.2.1, z.2.2) := by decide +kernel
theorem md2635_19 : ∀ z ∈ mc13_35_19, decode (m_B 2635) z.1 = .ok (z.2.1, z.2.2) := by decide +kernel
theorem md2635 : ∀ z ∈ mc13_35, decode (m_B 2635) z.1 = .ok (z.2.1, z.2.2) := List.forall_mem_append.mpr ⟨md2635_0, List.forall_mem_append.mpr ⟨md2635_1, List.forall_mem_append.mpr ⟨md2635_2, List.forall_mem_append.mpr ⟨md2635_3, List.forall_mem_append.mpr ⟨md2635_4, List.forall_mem_append.mpr ⟨md2635_5, List.forall_mem_append.mpr ⟨md2635_6, List.forall_mem_append.mpr ⟨md2635_7, List.forall_mem_append.mpr ⟨md2635_8, List.forall_mem_append.mpr ⟨md2635_9, List.forall_mem_append.mpr ⟨md2635_10, List.forall_mem_append.mpr ⟨md2635_11, List.forall_mem_append.mpr ⟨md2635_12, List.forall_mem_append.mpr ⟨md2635_13, List.forall_mem_append.mpr ⟨md2635_14, List.forall_mem_append.mpr ⟨md2635_15, List.forall_mem_append.mpr ⟨md2635_16, List.forall_mem_append.mpr ⟨md2635_17, List.forall_mem_append.mpr ⟨md2635_18, md2635_19⟩⟩⟩⟩⟩⟩⟩⟩⟩⟩⟩⟩⟩⟩⟩⟩⟩⟩⟩
theorem mm2635 : m_mok m_Z m_strs 2635 := m_mok_of (i := 2635) (own := RL) (mn := "law") (I := mi13_35) (S := []) rfl rfl rfl (by decide +kernel) (by decide) mp13 md2635 (by decide +kernel) (fun _ h => absurd h List.not_mem_nil) (fun _ h => absurd h List.not_mem_nil)
theorem md2800 : ∀ z ∈ mc14_0, decode (m_B 2800) z.1 = .ok (z.2.1, z.2.2) := by decide +kernel
theorem mm2800 : m_mok m_Z m_strs 2800 := m_mok_of (i := 2800) (own := RJ6) (mn := "bitCount") (I := mi14_0) (S := []) rfl rfl rfl (by decide +kernel) (by decide) mp14 md2800 (by decide +kernel) (fun _ h => absurd h List.not_mem_nil) (fun _ h => absurd h List.not_mem_nil)
theorem mP0 : ∀ k j, mq0.2.2.2.2.2.1 k = some (.inl j) → m_mok m_Z m_strs j := by
  intro k j h
  have h1 := m_lk (l := mq0_m) h
  revert h1
  generalize hx : (k, (Sum.inl j : Nat ⊕ Nat)) = x
  revert x
  suffices hs : ∀ x ∈ mq0_m, ∀ j, x.2 = .inl j → m_mok m_Z m_strs j from fun x hx h1 => hs x h1 j (by rw [← hx])
  unfold mq0_m
  refine List.forall_mem_cons.mpr ⟨fun j h => by cases h, ?_⟩
  refine List.forall_mem_cons.mpr ⟨fun j h => by cases h, ?_⟩
  refine List.forall_mem_cons.mpr ⟨fun j h => by cases h, ?_⟩
  refine List.forall_mem_cons.mpr ⟨fun j h => by cases h, ?_⟩
  exact fun _ h => absurd h List.not_mem_nil
theorem mP1 : ∀ k j, mq1.2.2.2.2.2.1 k = some (.inl j) → m_mok m_Z m_strs j := by
  intro k j h
  have h1 := m_lk (l := mq1_m) h
  revert h1
  generalize hx : (k, (Sum.inl j : Nat ⊕ Nat)) = x
  revert x
  suffices hs : ∀ x ∈ mq1_m, ∀ j, x.2 = .inl j → m_mok m_Z m_strs j from fun x hx h1 => hs x h1 j (by rw [← hx])
  unfold mq1_m
  refine List.forall_mem_cons.mpr ⟨fun j h => by cases h, ?_⟩
  refine List.forall_mem_cons.mpr ⟨fun j h => by cases h; exact mm203, ?_⟩
  refine List.forall_mem_cons.mpr ⟨fun j h => by cases h; exact mm202, ?_⟩
  refine List.forall_mem_cons.mpr ⟨fun j h => by cases h; exact mm616, ?_⟩
  refine List.forall_mem_cons.mpr ⟨fun j h => by cases h; exact mm614, ?_⟩
  refine List.forall_mem_cons.mpr ⟨fun j h => by cases h; exact mm1604, ?_⟩
  refine List.forall_mem_cons.mpr ⟨fun j h => by cases h; exact mm603, ?_⟩
  refine List.forall_mem_cons.mpr ⟨fun j h => by cases h, ?_⟩
  refine List.forall_mem_cons.mpr ⟨fun j h => by cases h, ?_⟩
  refine List.forall_mem_cons.mpr ⟨fun j h => by cases h, ?_⟩
  refine List.forall_mem_cons.mpr ⟨fun j h => by cases h, ?_⟩
  exact fun _ h => absurd h List.not_mem_nil
theorem mP2 : ∀ k j, mq2.2.2.2.2.2.1 k = some (.inl j) → m_mok m_Z m_strs j := by
  intro k j h
  have h1 := m_lk (l := mq2_m) h
  revert h1
  generalize hx : (k, (Sum.inl j : Nat ⊕ Nat)) = x
  revert x
  suffices hs : ∀ x ∈ mq2_m, ∀ j, x.2 = .inl j → m_mok m_Z m_strs j from fun x hx h1 => hs x h1 j (by rw [← hx])
  unfold mq2_m
  refine List.forall_mem_cons.mpr ⟨fun j h => by cases h, ?_⟩
  refine List.forall_mem_cons.mpr ⟨fun j h => by cases h; exact mm1601, ?_⟩
  refine List.forall_mem_cons.mpr ⟨fun j h => by cases h; exact mm625, ?_⟩
  refine List.forall_mem_cons.mpr ⟨fun j h => by cases h; exact mm1604, ?_⟩
  refine List.forall_mem_cons.mpr ⟨fun j h => by cases h; exact mm404, ?_⟩
  refine List.forall_mem_cons.mpr ⟨fun j h => by cases h; exact mm408, ?_⟩
  refine List.forall_mem_cons.mpr ⟨fun j h => by cases h; exact mm403, ?_⟩
  refine List.forall_mem_cons.mpr ⟨fun j h => by cases h; exact mm405, ?_⟩
  refine List.forall_mem_cons.mpr ⟨fun j h => by cases h; exact mm609, ?_⟩
  refine List.forall_mem_cons.mpr ⟨fun j h => by cases h; exact mm406, ?_⟩
  refine List.forall_mem_cons.mpr ⟨fun j h => by cases h; exact mm606, ?_⟩
  refine List.forall_mem_cons.mpr ⟨fun j h => by cases h; exact mm603, ?_⟩
  refine List.forall_mem_cons.mpr ⟨fun j h => by cases h; exact mm627, ?_⟩
  refine List.forall_mem_cons.mpr ⟨fun j h => by cases h; exact mm410, ?_⟩
  refine List.forall_mem_cons.mpr ⟨fun j h => by cases h; exact mm2, ?_⟩
  refine List.forall_mem_cons.mpr ⟨fun j h => by cases h, ?_⟩
  refine List.forall_mem_cons.mpr ⟨fun j h => by cases h; exact mm1, ?_⟩
  refine List.forall_mem_cons.mpr ⟨fun j h => by cases h; exact mm3, ?_⟩
  refine List.forall_mem_cons.mpr ⟨fun j h => by cases h, ?_⟩
  refine List.forall_mem_cons.mpr ⟨fun j h => by cases h; exact mm411, ?_⟩
  refine List.forall_mem_cons.mpr ⟨fun j h => by cases h; exact mm414, ?_⟩
  refine List.forall_mem_cons.mpr ⟨fun j h => by cases h; exact mm413, ?_⟩
  refine List.forall_mem_cons.mpr ⟨fun j h => by cases h; exact mm412, ?_⟩
  exact fun _ h => absurd h List.not_mem_nil
theorem mP3 : ∀ k j, mq3.2.2.2.2.2.1 k = some (.inl j) → m_mok m_Z m_strs j := by
  intro k j h
  have h1 := m_lk (l := mq3_m) h
  revert h1
  generalize hx : (k, (Sum.inl j : Nat ⊕ Nat)) = x
  revert x
  suffices hs : ∀ x ∈ mq3_m, ∀ j, x.2 = .inl j → m_mok m_Z m_strs j from fun x hx h1 => hs x h1 j (by rw [← hx])
  unfold mq3_m
  refine List.forall_mem_cons.mpr ⟨fun j h => by cases h, ?_⟩
  refine List.forall_mem_cons.mpr ⟨fun j h => by cases h; exact mm1600, ?_⟩
  refine List.forall_mem_cons.mpr ⟨fun j h => by cases h; exact mm601, ?_⟩
  refine List.forall_mem_cons.mpr ⟨fun j h => by cases h; exact mm1607, ?_⟩
  refine List.forall_mem_cons.mpr ⟨fun j h => by cases h; exact mm1605, ?_⟩
  refine List.forall_mem_cons.mpr ⟨fun j h => by cases h; exact mm1610, ?_⟩
  refine List.forall_mem_cons.mpr ⟨fun j h => by cases h; exact mm1604, ?_⟩
  refine List.forall_mem_cons.mpr ⟨fun j h => by cases h; exact mm605, ?_⟩
  refine List.forall_mem_cons.mpr ⟨fun j h => by cases h; exact mm609, ?_⟩
  refine List.forall_mem_cons.mpr ⟨fun j h => by cases h; exact mm612, ?_⟩
  refine List.forall_mem_cons.mpr ⟨fun j h => by cases h; exact mm1606, ?_⟩
  refine List.forall_mem_cons.mpr ⟨fun j h => by cases h; exact mm1609, ?_⟩
  refine List.forall_mem_cons.mpr ⟨fun j h => by cases h; exact mm616, ?_⟩
  refine List.forall_mem_cons.mpr ⟨fun j h => by cases h, ?_⟩
  refine List.forall_mem_cons.mpr ⟨fun j h => by cases h; exact mm621, ?_⟩
  refine List.forall_mem_cons.mpr ⟨fun j h => by cases h; exact mm611, ?_⟩
  refine List.forall_mem_cons.mpr ⟨fun j h => by cases h; exact mm606, ?_⟩
  refine List.forall_mem_cons.mpr ⟨fun j h => by cases h; exact mm617, ?_⟩
  refine List.forall_mem_cons.mpr ⟨fun j h => by cases h; exact mm603, ?_⟩
  refine List.forall_mem_cons.mpr ⟨fun j h => by cases h; exact mm625, ?_⟩
  refine List.forall_mem_cons.mpr ⟨fun j h => by cases h; exact mm629, ?_⟩
  refine List.forall_mem_cons.mpr ⟨fun j h => by cases h; exact mm628, ?_⟩
  refine List.forall_mem_cons.mpr ⟨fun j h => by cases h; exact mm631, ?_⟩
  refine List.forall_mem_cons.mpr ⟨fun j h => by cases h; exact mm634, ?_⟩
  refine List.forall_mem_cons.mpr ⟨fun j h => by cases h; exact mm632, ?_⟩
  refine List.forall_mem_cons.mpr ⟨fun j h => by cases h; exact mm630, ?_⟩
  refine List.forall_mem_cons.mpr ⟨fun j h => by cases h; exact mm614, ?_⟩
  refine List.forall_mem_cons.mpr ⟨fun j h => by cases h; exact mm635, ?_⟩
  refine List.forall_mem_cons.mpr ⟨fun j h => by cases h; exact mm613, ?_⟩
  exact fun _ h => absurd h List.not_mem_nil
theorem mP4 : ∀ k j, mq4.2.2.2.2.2.1 k = some (.inl j) → m_mok m_Z m_strs j := by
  intro k j h
  have h1 := m_lk (l := mq4_m) h
  revert h1
  generalize hx : (k, (Sum.inl j : Nat ⊕ Nat)) = x
  revert x
  suffices hs : ∀ x ∈ mq4_m, ∀ j, x.2 = .inl j → m_mok m_Z m_strs j from fun x hx h1 => hs x h1 j (by rw [← hx])
  unfold mq4_m
  refine List.forall_mem_cons.mpr ⟨fun j h => by cases h, ?_⟩
  refine List.forall_mem_cons.mpr ⟨fun j h => by cases h; exact mm1604, ?_⟩
  refine List.forall_mem_cons.mpr ⟨fun j h => by cases h; exact mm607, ?_⟩
  refine List.forall_mem_cons.mpr ⟨fun j h => by cases h; exact mm802, ?_⟩
  refine List.forall_mem_cons.mpr ⟨fun j h => by cases h; exact mm803, ?_⟩
  refine List.forall_mem_cons.mpr ⟨fun j h => by cases h, ?_⟩
  refine List.forall_mem_cons.mpr ⟨fun j h => by cases h, ?_⟩
  refine List.forall_mem_cons.mpr ⟨fun j h => by cases h, ?_⟩
  exact fun _ h => absurd h List.not_mem_nil
theorem mP5 : ∀ k j, mq5.2.2.2.2.2.1 k = some (.inl j) → m_mok m_Z m_strs j := by
  intro k j h
  have h1 := m_lk (l := mq5_m) h
  revert h1
  generalize hx : (k, (Sum.inl j : Nat ⊕ Nat)) = x
  revert x
  suffices hs : ∀ x ∈ mq5_m, ∀ j, x.2 = .inl j → m_mok m_Z m_strs j from fun x hx h1 => hs x h1 j (by rw [← hx])
  unfold mq5_m
  refine List.forall_mem_cons.mpr ⟨fun j h => by cases h; exact mm1604, ?_⟩
  refine List.forall_mem_cons.mpr ⟨fun j h => by cases h; exact mm614, ?_⟩
  refine List.forall_mem_cons.mpr ⟨fun j h => by cases h; exact mm1000, ?_⟩
  refine List.forall_mem_cons.mpr ⟨fun j h => by cases h; exact mm1002, ?_⟩
  refine List.forall_mem_cons.mpr ⟨fun j h => by cases h; exact mm616, ?_⟩
  refine List.forall_mem_cons.mpr ⟨fun j h => by cases h; exact mm1004, ?_⟩
  refine List.forall_mem_cons.mpr ⟨fun j h => by cases h; exact mm204, ?_⟩
  refine List.forall_mem_cons.mpr ⟨fun j h => by cases h; exact mm1006, ?_⟩
  refine List.forall_mem_cons.mpr ⟨fun j h => by cases h; exact mm1005, ?_⟩
  refine List.forall_mem_cons.mpr ⟨fun j h => by cases h, ?_⟩
  refine List.forall_mem_cons.mpr ⟨fun j h => by cases h; exact mm603, ?_⟩
  refine List.forall_mem_cons.mpr ⟨fun j h => by cases h; exact mm1011, ?_⟩
  refine List.forall_mem_cons.mpr ⟨fun j h => by cases h; exact mm1010, ?_⟩
  refine List.forall_mem_cons.mpr ⟨fun j h => by cases h; exact mm606, ?_⟩
  refine List.forall_mem_cons.mpr ⟨fun j h => by cases h, ?_⟩
  exact fun _ h => absurd h List.not_mem_nil
theorem mP6 : ∀ k j, mq6.2.2.2.2.2.1 k = some (.inl j) → m_mok m_Z m_strs j := by
  intro k j h
  have h1 := m_lk (l := mq6_m) h
  revert h1
  generalize hx : (k, (Sum.inl j : Nat ⊕ Nat)) = x
  revert x
  suffices hs : ∀ x ∈ mq6_m, ∀ j, x.2 = .inl j → m_mok m_Z m_strs j from fun x hx h1 => hs x h1 j (by rw [← hx])
  unfold mq6_m
  refine List.forall_mem_cons.mpr ⟨fun j h => by cases h; exact mm615, ?_⟩
  refine List.forall_mem_cons.mpr ⟨fun j h => by cases h; exact mm1201, ?_⟩
  refine List.forall_mem_cons.mpr ⟨fun j h => by cases h, ?_⟩
  refine List.forall_mem_cons.mpr ⟨fun j h => by cases h; exact mm1200, ?_⟩
  refine List.forall_mem_cons.mpr ⟨fun j h => by cases h; exact mm619, ?_⟩
  refine List.forall_mem_cons.mpr ⟨fun j h => by cases h; exact mm1604, ?_⟩
  refine List.forall_mem_cons.mpr ⟨fun j h => by cases h; exact mm606, ?_⟩
  refine List.forall_mem_cons.mpr ⟨fun j h => by cases h; exact mm1203, ?_⟩
  refine List.forall_mem_cons.mpr ⟨fun j h => by cases h; exact mm1207, ?_⟩
  refine List.forall_mem_cons.mpr ⟨fun j h => by cases h; exact mm2800, ?_⟩
  refine List.forall_mem_cons.mpr ⟨fun j h => by cases h; exact mm1206, ?_⟩
  exact fun _ h => absurd h List.not_mem_nil
theorem mP7 : ∀ k j, mq7.2.2.2.2.2.1 k = some (.inl j) → m_mok m_Z m_strs j := by
  intro k j h
  have h1 := m_lk (l := mq7_m) h
  revert h1
  generalize hx : (k, (Sum.inl j : Nat ⊕ Nat)) = x
  revert x
  suffices hs : ∀ x ∈ mq7_m, ∀ j, x.2 = .inl j → m_mok m_Z m_strs j from fun x hx h1 => hs x h1 j (by rw [← hx])
  unfold mq7_m
  refine List.forall_mem_cons.mpr ⟨fun j h => by cases h, ?_⟩
  refine List.forall_mem_cons.mpr ⟨fun j h => by cases h; exact mm1803, ?_⟩
  refine List.forall_mem_cons.mpr ⟨fun j h => by cases h; exact mm1409, ?_⟩
  refine List.forall_mem_cons.mpr ⟨fun j h => by cases h; exact mm1402, ?_⟩
  refine List.forall_mem_cons.mpr ⟨fun j h => by cases h; exact mm1408, ?_⟩
  refine List.forall_mem_cons.mpr ⟨fun j h => by cases h; exact mm1811, ?_⟩
  refine List.forall_mem_cons.mpr ⟨fun j h => by cases h; exact mm1404, ?_⟩
  refine List.forall_mem_cons.mpr ⟨fun j h => by cases h; exact mm1403, ?_⟩
  refine List.forall_mem_cons.mpr ⟨fun j h => by cases h; exact mm1405, ?_⟩
  refine List.forall_mem_cons.mpr ⟨fun j h => by cases h; exact mm1410, ?_⟩
  refine List.forall_mem_cons.mpr ⟨fun j h => by cases h; exact mm1406, ?_⟩
  refine List.forall_mem_cons.mpr ⟨fun j h => by cases h; exact mm1407, ?_⟩
  exact fun _ h => absurd h List.not_mem_nil
theorem mP8 : ∀ k j, mq8.2.2.2.2.2.1 k = some (.inl j) → m_mok m_Z m_strs j := by
  intro k j h
  have h1 := m_lk (l := mq8_m) h
  revert h1
  generalize hx : (k, (Sum.inl j : Nat ⊕ Nat)) = x
  revert x
  suffices hs : ∀ x ∈ mq8_m, ∀ j, x.2 = .inl j → m_mok m_Z m_strs j from fun x hx h1 => hs x h1 j (by rw [← hx])
  unfold mq8_m
  refine List.forall_mem_cons.mpr ⟨fun j h => by cases h, ?_⟩
  refine List.forall_mem_cons.mpr ⟨fun j h => by cases h, ?_⟩
  refine List.forall_mem_cons.mpr ⟨fun j h => by cases h; exact mm1603, ?_⟩
  refine List.forall_mem_cons.mpr ⟨fun j h => by cases h; exact mm1602, ?_⟩
  refine List.forall_mem_cons.mpr ⟨fun j h => by cases h; exact mm1605, ?_⟩
  refine List.forall_mem_cons.mpr ⟨fun j h => by cases h; exact mm1604, ?_⟩
  refine List.forall_mem_cons.mpr ⟨fun j h => by cases h, ?_⟩
  exact fun _ h => absurd h List.not_mem_nil
theorem mP9 : ∀ k j, mq9.2.2.2.2.2.1 k = some (.inl j) → m_mok m_Z m_strs j := by
  intro k j h
  have h1 := m_lk (l := mq9_m) h
  revert h1
  generalize hx : (k, (Sum.inl j : Nat ⊕ Nat)) = x
  revert x
  suffices hs : ∀ x ∈ mq9_m, ∀ j, x.2 = .inl j → m_mok m_Z m_strs j from fun x hx h1 => hs x h1 j (by rw [← hx])
  unfold mq9_m
  refine List.forall_mem_cons.mpr ⟨fun j h => by cases h, ?_⟩
  refine List.forall_mem_cons.mpr ⟨fun j h => by cases h; exact mm1804, ?_⟩
  refine List.forall_mem_cons.mpr ⟨fun j h => by cases h; exact mm1810, ?_⟩
  refine List.forall_mem_cons.mpr ⟨fun j h => by cases h; exact mm1812, ?_⟩
  refine List.forall_mem_cons.mpr ⟨fun j h => by cases h; exact mm1805, ?_⟩
  refine List.forall_mem_cons.mpr ⟨fun j h => by cases h; exact mm1813, ?_⟩
  refine List.forall_mem_cons.mpr ⟨fun j h => by cases h; exact mm1806, ?_⟩
  refine List.forall_mem_cons.mpr ⟨fun j h => by cases h; exact mm1814, ?_⟩
  refine List.forall_mem_cons.mpr ⟨fun j h => by cases h; exact mm1807, ?_⟩
  refine List.forall_mem_cons.mpr ⟨fun j h => by cases h; exact mm1808, ?_⟩
  refine List.forall_mem_cons.mpr ⟨fun j h => by cases h; exact mm1815, ?_⟩
  refine List.forall_mem_cons.mpr ⟨fun j h => by cases h; exact mm1809, ?_⟩
  refine List.forall_mem_cons.mpr ⟨fun j h => by cases h, ?_⟩
  refine List.forall_mem_cons.mpr ⟨fun j h => by cases h, ?_⟩
  refine List.forall_mem_cons.mpr ⟨fun j h => by cases h; exact mm1816, ?_⟩
  exact fun _ h => absurd h List.not_mem_nil
theorem mP10 : ∀ k j, mq10.2.2.2.2.2.1 k = some (.inl j) → m_mok m_Z m_strs j := by
  intro k j h
  have h1 := m_lk (l := mq10_m) h
  revert h1
  generalize hx : (k, (Sum.inl j : Nat ⊕ Nat)) = x
  revert x
  suffices hs : ∀ x ∈ mq10_m, ∀ j, x.2 = .inl j → m_mok m_Z m_strs j from fun x hx h1 => hs x h1 j (by rw [← hx])
  unfold mq10_m
  refine List.forall_mem_cons.mpr ⟨fun j h => by cases h; exact mm2001, ?_⟩
  refine List.forall_mem_cons.mpr ⟨fun j h => by cases h; exact mm2002, ?_⟩
  refine List.forall_mem_cons.mpr ⟨fun j h => by cases h; exact mm1604, ?_⟩
  refine List.forall_mem_cons.mpr ⟨fun j h => by cases h; exact mm2004, ?_⟩
  refine List.forall_mem_cons.mpr ⟨fun j h => by cases h; exact mm2009, ?_⟩
  refine List.forall_mem_cons.mpr ⟨fun j h => by cases h; exact mm1606, ?_⟩
  refine List.forall_mem_cons.mpr ⟨fun j h => by cases h; exact mm2011, ?_⟩
  refine List.forall_mem_cons.mpr ⟨fun j h => by cases h; exact mm615, ?_⟩
  refine List.forall_mem_cons.mpr ⟨fun j h => by cases h; exact mm619, ?_⟩
  refine List.forall_mem_cons.mpr ⟨fun j h => by cases h; exact mm1605, ?_⟩
  refine List.forall_mem_cons.mpr ⟨fun j h => by cases h; exact mm616, ?_⟩
  refine List.forall_mem_cons.mpr ⟨fun j h => by cases h; exact mm2003, ?_⟩
  refine List.forall_mem_cons.mpr ⟨fun j h => by cases h; exact mm617, ?_⟩
  refine List.forall_mem_cons.mpr ⟨fun j h => by cases h; exact mm607, ?_⟩
  refine List.forall_mem_cons.mpr ⟨fun j h => by cases h; exact mm2005, ?_⟩
  refine List.forall_mem_cons.mpr ⟨fun j h => by cases h; exact mm2006, ?_⟩
  refine List.forall_mem_cons.mpr ⟨fun j h => by cases h; exact mm2007, ?_⟩
  refine List.forall_mem_cons.mpr ⟨fun j h => by cases h; exact mm2008, ?_⟩
  refine List.forall_mem_cons.mpr ⟨fun j h => by cases h; exact mm628, ?_⟩
  refine List.forall_mem_cons.mpr ⟨fun j h => by cases h; exact mm603, ?_⟩
  refine List.forall_mem_cons.mpr ⟨fun j h => by cases h; exact mm629, ?_⟩
  refine List.forall_mem_cons.mpr ⟨fun j h => by cases h, ?_⟩
  refine List.forall_mem_cons.mpr ⟨fun j h => by cases h; exact mm2010, ?_⟩
  refine List.forall_mem_cons.mpr ⟨fun j h => by cases h; exact mm614, ?_⟩
  refine List.forall_mem_cons.mpr ⟨fun j h => by cases h, ?_⟩
  exact fun _ h => absurd h List.not_mem_nil
theorem mP11 : ∀ k j, mq11.2.2.2.2.2.1 k = some (.inl j) → m_mok m_Z m_strs j := by
  intro k j h
  have h1 := m_lk (l := mq11_m) h
  revert h1
  generalize hx : (k, (Sum.inl j : Nat ⊕ Nat)) = x
  revert x
  suffices hs : ∀ x ∈ mq11_m, ∀ j, x.2 = .inl j → m_mok m_Z m_strs j from fun x hx h1 => hs x h1 j (by rw [← hx])
  unfold mq11_m
  refine List.forall_mem_cons.mpr ⟨fun j h => by cases h, ?_⟩
  refine List.forall_mem_cons.mpr ⟨fun j h => by cases h; exact mm1800, ?_⟩
  refine List.forall_mem_cons.mpr ⟨fun j h => by cases h; exact mm1400, ?_⟩
  refine List.forall_mem_cons.mpr ⟨fun j h => by cases h; exact mm400, ?_⟩
  refine List.forall_mem_cons.mpr ⟨fun j h => by cases h; exact mm800, ?_⟩
  refine List.forall_mem_cons.mpr ⟨fun j h => by cases h; exact mm600, ?_⟩
  refine List.forall_mem_cons.mpr ⟨fun j h => by cases h; exact mm200, ?_⟩
  refine List.forall_mem_cons.mpr ⟨fun j h => by cases h; exact mm1801, ?_⟩
  refine List.forall_mem_cons.mpr ⟨fun j h => by cases h; exact mm1802, ?_⟩
  refine List.forall_mem_cons.mpr ⟨fun j h => by cases h; exact mm2251, ?_⟩
  refine List.forall_mem_cons.mpr ⟨fun j h => by cases h; exact mm1401, ?_⟩
  refine List.forall_mem_cons.mpr ⟨fun j h => by cases h; exact mm0, ?_⟩
  refine List.forall_mem_cons.mpr ⟨fun j h => by cases h; exact mm608, ?_⟩
  refine List.forall_mem_cons.mpr ⟨fun j h => by cases h; exact mm2254, ?_⟩
  refine List.forall_mem_cons.mpr ⟨fun j h => by cases h; exact mm1605, ?_⟩
  refine List.forall_mem_cons.mpr ⟨fun j h => by cases h; exact mm604, ?_⟩
  refine List.forall_mem_cons.mpr ⟨fun j h => by cases h; exact mm606, ?_⟩
  refine List.forall_mem_cons.mpr ⟨fun j h => by cases h; exact mm2255, ?_⟩
  refine List.forall_mem_cons.mpr ⟨fun j h => by cases h; exact mm2258, ?_⟩
  refine List.forall_mem_cons.mpr ⟨fun j h => by cases h; exact mm2259, ?_⟩
  refine List.forall_mem_cons.mpr ⟨fun j h => by cases h; exact mm611, ?_⟩
  refine List.forall_mem_cons.mpr ⟨fun j h => by cases h; exact mm2256, ?_⟩
  refine List.forall_mem_cons.mpr ⟨fun j h => by cases h; exact mm1604, ?_⟩
  refine List.forall_mem_cons.mpr ⟨fun j h => by cases h; exact mm2252, ?_⟩
  refine List.forall_mem_cons.mpr ⟨fun j h => by cases h; exact mm2253, ?_⟩
  refine List.forall_mem_cons.mpr ⟨fun j h => by cases h; exact mm1602, ?_⟩
  refine List.forall_mem_cons.mpr ⟨fun j h => by cases h; exact mm1607, ?_⟩
  refine List.forall_mem_cons.mpr ⟨fun j h => by cases h; exact mm1601, ?_⟩
  refine List.forall_mem_cons.mpr ⟨fun j h => by cases h; exact mm625, ?_⟩
  refine List.forall_mem_cons.mpr ⟨fun j h => by cases h; exact mm404, ?_⟩
  refine List.forall_mem_cons.mpr ⟨fun j h => by cases h; exact mm2213, ?_⟩
  refine List.forall_mem_cons.mpr ⟨fun j h => by cases h; exact mm408, ?_⟩
  refine List.forall_mem_cons.mpr ⟨fun j h => by cases h; exact mm407, ?_⟩
  refine List.forall_mem_cons.mpr ⟨fun j h => by cases h; exact mm409, ?_⟩
  refine List.forall_mem_cons.mpr ⟨fun j h => by cases h; exact mm401, ?_⟩
  refine List.forall_mem_cons.mpr ⟨fun j h => by cases h; exact mm620, ?_⟩
  refine List.forall_mem_cons.mpr ⟨fun j h => by cases h; exact mm402, ?_⟩
  refine List.forall_mem_cons.mpr ⟨fun j h => by cases h, ?_⟩
  refine List.forall_mem_cons.mpr ⟨fun j h => by cases h; exact mm2250, ?_⟩
  refine List.forall_mem_cons.mpr ⟨fun j h => by cases h; exact mm622, ?_⟩
  refine List.forall_mem_cons.mpr ⟨fun j h => by cases h; exact mm614, ?_⟩
  refine List.forall_mem_cons.mpr ⟨fun j h => by cases h; exact mm616, ?_⟩
  refine List.forall_mem_cons.mpr ⟨fun j h => by cases h; exact mm405, ?_⟩
  refine List.forall_mem_cons.mpr ⟨fun j h => by cases h; exact mm623, ?_⟩
  refine List.forall_mem_cons.mpr ⟨fun j h => by cases h; exact mm2257, ?_⟩
  refine List.forall_mem_cons.mpr ⟨fun j h => by cases h; exact mm633, ?_⟩
  refine List.forall_mem_cons.mpr ⟨fun j h => by cases h; exact mm636, ?_⟩
  refine List.forall_mem_cons.mpr ⟨fun j h => by cases h; exact mm637, ?_⟩
  refine List.forall_mem_cons.mpr ⟨fun j h => by cases h; exact mm638, ?_⟩
  refine List.forall_mem_cons.mpr ⟨fun j h => by cases h; exact mm630, ?_⟩
  refine List.forall_mem_cons.mpr ⟨fun j h => by cases h; exact mm603, ?_⟩
  refine List.forall_mem_cons.mpr ⟨fun j h => by cases h; exact mm201, ?_⟩
  refine List.forall_mem_cons.mpr ⟨fun j h => by cases h; exact mm2000, ?_⟩
  refine List.forall_mem_cons.mpr ⟨fun j h => by cases h; exact mm1001, ?_⟩
  refine List.forall_mem_cons.mpr ⟨fun j h => by cases h; exact mm1003, ?_⟩
  refine List.forall_mem_cons.mpr ⟨fun j h => by cases h; exact mm627, ?_⟩
  refine List.forall_mem_cons.mpr ⟨fun j h => by cases h; exact mm1007, ?_⟩
  refine List.forall_mem_cons.mpr ⟨fun j h => by cases h; exact mm1008, ?_⟩
  refine List.forall_mem_cons.mpr ⟨fun j h => by cases h; exact mm1009, ?_⟩
  refine List.forall_mem_cons.mpr ⟨fun j h => by cases h; exact mm624, ?_⟩
  refine List.forall_mem_cons.mpr ⟨fun j h => by cases h; exact mm1005, ?_⟩
  refine List.forall_mem_cons.mpr ⟨fun j h => by cases h; exact mm1013, ?_⟩
  refine List.forall_mem_cons.mpr ⟨fun j h => by cases h; exact mm1012, ?_⟩
  refine List.forall_mem_cons.mpr ⟨fun j h => by cases h; exact mm801, ?_⟩
  refine List.forall_mem_cons.mpr ⟨fun j h => by cases h; exact mm804, ?_⟩
  refine List.forall_mem_cons.mpr ⟨fun j h => by cases h; exact mm805, ?_⟩
  refine List.forall_mem_cons.mpr ⟨fun j h => by cases h; exact mm1202, ?_⟩
  refine List.forall_mem_cons.mpr ⟨fun j h => by cases h; exact mm1204, ?_⟩
  refine List.forall_mem_cons.mpr ⟨fun j h => by cases h; exact mm1205, ?_⟩
  refine List.forall_mem_cons.mpr ⟨fun j h => by cases h; exact mm1014, ?_⟩
  refine List.forall_mem_cons.mpr ⟨fun j h => by cases h; exact mm602, ?_⟩
  refine List.forall_mem_cons.mpr ⟨fun j h => by cases h; exact mm205, ?_⟩
  refine List.forall_mem_cons.mpr ⟨fun j h => by cases h; exact mm618, ?_⟩
  refine List.forall_mem_cons.mpr ⟨fun j h => by cases h; exact mm610, ?_⟩
  refine List.forall_mem_cons.mpr ⟨fun j h => by cases h; exact mm626, ?_⟩
  refine List.forall_mem_cons.mpr ⟨fun j h => by cases h; exact mm1608, ?_⟩
  refine List.forall_mem_cons.mpr ⟨fun j h => by cases h; exact mm1609, ?_⟩
  exact fun _ h => absurd h List.not_mem_nil
theorem mP12 : ∀ k j, mq12.2.2.2.2.2.1 k = some (.inl j) → m_mok m_Z m_strs j := by
  intro k j h
  have h1 := m_lk (l := mq12_m) h
  revert h1
  generalize hx : (k, (Sum.inl j : Nat ⊕ Nat)) = x
  revert x
  suffices hs : ∀ x ∈ mq12_m, ∀ j, x.2 = .inl j → m_mok m_Z m_strs j from fun x hx h1 => hs x h1 j (by rw [← hx])
  unfold mq12_m
  refine List.forall_mem_cons.mpr ⟨fun j h => by cases h, ?_⟩
  refine List.forall_mem_cons.mpr ⟨fun j h => by cases h; exact mm2402, ?_⟩
  refine List.forall_mem_cons.mpr ⟨fun j h => by cases h; exact mm2410, ?_⟩
  refine List.forall_mem_cons.mpr ⟨fun j h => by cases h; exact mm2401, ?_⟩
  refine List.forall_mem_cons.mpr ⟨fun j h => by cases h; exact mm2404, ?_⟩
  refine List.forall_mem_cons.mpr ⟨fun j h => by cases h; exact mm2416, ?_⟩
  refine List.forall_mem_cons.mpr ⟨fun j h => by cases h; exact mm2417, ?_⟩
  refine List.forall_mem_cons.mpr ⟨fun j h => by cases h; exact mm2419, ?_⟩
  refine List.forall_mem_cons.mpr ⟨fun j h => by cases h; exact mm2411, ?_⟩
  refine List.forall_mem_cons.mpr ⟨fun j h => by cases h; exact mm2413, ?_⟩
  refine List.forall_mem_cons.mpr ⟨fun j h => by cases h; exact mm2414, ?_⟩
  refine List.forall_mem_cons.mpr ⟨fun j h => by cases h; exact mm2425, ?_⟩
  refine List.forall_mem_cons.mpr ⟨fun j h => by cases h; exact mm2426, ?_⟩
  refine List.forall_mem_cons.mpr ⟨fun j h => by cases h; exact mm2405, ?_⟩
  refine List.forall_mem_cons.mpr ⟨fun j h => by cases h; exact mm2428, ?_⟩
  refine List.forall_mem_cons.mpr ⟨fun j h => by cases h; exact mm2427, ?_⟩
  refine List.forall_mem_cons.mpr ⟨fun j h => by cases h; exact mm2430, ?_⟩
  refine List.forall_mem_cons.mpr ⟨fun j h => by cases h; exact mm2439, ?_⟩
  refine List.forall_mem_cons.mpr ⟨fun j h => by cases h; exact mm2440, ?_⟩
  refine List.forall_mem_cons.mpr ⟨fun j h => by cases h, ?_⟩
  refine List.forall_mem_cons.mpr ⟨fun j h => by cases h, ?_⟩
  refine List.forall_mem_cons.mpr ⟨fun j h => by cases h; exact mm2441, ?_⟩
  refine List.forall_mem_cons.mpr ⟨fun j h => by cases h; exact mm2442, ?_⟩
  refine List.forall_mem_cons.mpr ⟨fun j h => by cases h; exact mm2447, ?_⟩
  refine List.forall_mem_cons.mpr ⟨fun j h => by cases h; exact mm2450, ?_⟩
  refine List.forall_mem_cons.mpr ⟨fun j h => by cases h; exact mm2449, ?_⟩
  refine List.forall_mem_cons.mpr ⟨fun j h => by cases h; exact mm2445, ?_⟩
  refine List.forall_mem_cons.mpr ⟨fun j h => by cases h; exact mm2451, ?_⟩
  refine List.forall_mem_cons.mpr ⟨fun j h => by cases h; exact mm2444, ?_⟩
  refine List.forall_mem_cons.mpr ⟨fun j h => by cases h; exact mm2455, ?_⟩
  refine List.forall_mem_cons.mpr ⟨fun j h => by cases h; exact mm2443, ?_⟩
  refine List.forall_mem_cons.mpr ⟨fun j h => by cases h; exact mm2453, ?_⟩
  refine List.forall_mem_cons.mpr ⟨fun j h => by cases h; exact mm2452, ?_⟩
  refine List.forall_mem_cons.mpr ⟨fun j h => by cases h; exact mm2454, ?_⟩
  refine List.forall_mem_cons.mpr ⟨fun j h => by cases h; exact mm2448, ?_⟩
  refine List.forall_mem_cons.mpr ⟨fun j h => by cases h; exact mm2456, ?_⟩
  refine List.forall_mem_cons.mpr ⟨fun j h => by cases h; exact mm2438, ?_⟩
  refine List.forall_mem_cons.mpr ⟨fun j h => by cases h; exact mm2457, ?_⟩
  refine List.forall_mem_cons.mpr ⟨fun j h => by cases h; exact mm2412, ?_⟩
  refine List.forall_mem_cons.mpr ⟨fun j h => by cases h; exact mm2500, ?_⟩
  refine List.forall_mem_cons.mpr ⟨fun j h => by cases h, ?_⟩
  refine List.forall_mem_cons.mpr ⟨fun j h => by cases h; exact mm2459, ?_⟩
  refine List.forall_mem_cons.mpr ⟨fun j h => by cases h; exact mm2460, ?_⟩
  refine List.forall_mem_cons.mpr ⟨fun j h => by cases h; exact mm2462, ?_⟩
  refine List.forall_mem_cons.mpr ⟨fun j h => by cases h, ?_⟩
  refine List.forall_mem_cons.mpr ⟨fun j h => by cases h; exact mm2465, ?_⟩
  refine List.forall_mem_cons.mpr ⟨fun j h => by cases h; exact mm2461, ?_⟩
  refine List.forall_mem_cons.mpr ⟨fun j h => by cases h; exact mm2466, ?_⟩
  refine List.forall_mem_cons.mpr ⟨fun j h => by cases h; exact mm2469, ?_⟩
  refine List.forall_mem_cons.mpr ⟨fun j h => by cases h; exact mm2464, ?_⟩
  refine List.forall_mem_cons.mpr ⟨fun j h => by cases h; exact mm2463, ?_⟩
  refine List.forall_mem_cons.mpr ⟨fun j h => by cases h; exact mm2468, ?_⟩
  refine List.forall_mem_cons.mpr ⟨fun j h => by cases h; exact mm2471, ?_⟩
  refine List.forall_mem_cons.mpr ⟨fun j h => by cases h, ?_⟩
  refine List.forall_mem_cons.mpr ⟨fun j h => by cases h; exact mm2472, ?_⟩
  refine List.forall_mem_cons.mpr ⟨fun j h => by cases h; exact mm2473, ?_⟩
  refine List.forall_mem_cons.mpr ⟨fun j h => by cases h; exact mm2406, ?_⟩
  refine List.forall_mem_cons.mpr ⟨fun j h => by cases h; exact mm2474, ?_⟩
  refine List.forall_mem_cons.mpr ⟨fun j h => by cases h; exact mm2476, ?_⟩
  refine List.forall_mem_cons.mpr ⟨fun j h => by cases h; exact mm2478, ?_⟩
  refine List.forall_mem_cons.mpr ⟨fun j h => by cases h; exact mm2477, ?_⟩
  refine List.forall_mem_cons.mpr ⟨fun j h => by cases h; exact mm2479, ?_⟩
  refine List.forall_mem_cons.mpr ⟨fun j h => by cases h; exact mm2482, ?_⟩
  refine List.forall_mem_cons.mpr ⟨fun j h => by cases h; exact mm2481, ?_⟩
  refine List.forall_mem_cons.mpr ⟨fun j h => by cases h; exact mm2429, ?_⟩
  refine List.forall_mem_cons.mpr ⟨fun j h => by cases h; exact mm2486, ?_⟩
  refine List.forall_mem_cons.mpr ⟨fun j h => by cases h; exact mm2488, ?_⟩
  refine List.forall_mem_cons.mpr ⟨fun j h => by cases h; exact mm2431, ?_⟩
  refine List.forall_mem_cons.mpr ⟨fun j h => by cases h; exact mm2490, ?_⟩
  refine List.forall_mem_cons.mpr ⟨fun j h => by cases h; exact mm2487, ?_⟩
  refine List.forall_mem_cons.mpr ⟨fun j h => by cases h; exact mm2489, ?_⟩
  refine List.forall_mem_cons.mpr ⟨fun j h => by cases h; exact mm2491, ?_⟩
  refine List.forall_mem_cons.mpr ⟨fun j h => by cases h; exact mm2508, ?_⟩
  refine List.forall_mem_cons.mpr ⟨fun j h => by cases h; exact mm2492, ?_⟩
  refine List.forall_mem_cons.mpr ⟨fun j h => by cases h; exact mm2497, ?_⟩
  refine List.forall_mem_cons.mpr ⟨fun j h => by cases h; exact mm2498, ?_⟩
  refine List.forall_mem_cons.mpr ⟨fun j h => by cases h; exact mm2496, ?_⟩
  refine List.forall_mem_cons.mpr ⟨fun j h => by cases h; exact mm2495, ?_⟩
  refine List.forall_mem_cons.mpr ⟨fun j h => by cases h; exact mm2499, ?_⟩
  refine List.forall_mem_cons.mpr ⟨fun j h => by cases h; exact mm2506, ?_⟩
  refine List.forall_mem_cons.mpr ⟨fun j h => by cases h; exact mm2513, ?_⟩
  refine List.forall_mem_cons.mpr ⟨fun j h => by cases h; exact mm2520, ?_⟩
  refine List.forall_mem_cons.mpr ⟨fun j h => by cases h; exact mm2521, ?_⟩
  refine List.forall_mem_cons.mpr ⟨fun j h => by cases h; exact mm2522, ?_⟩
  refine List.forall_mem_cons.mpr ⟨fun j h => by cases h; exact mm2800, ?_⟩
  refine List.forall_mem_cons.mpr ⟨fun j h => by cases h; exact mm2525, ?_⟩
  exact fun _ h => absurd h List.not_mem_nil
theorem mP13 : ∀ k j, mq13.2.2.2.2.2.1 k = some (.inl j) → m_mok m_Z m_strs j := by
  intro k j h
  have h1 := m_lk (l := mq13_m) h
  revert h1
  generalize hx : (k, (Sum.inl j : Nat ⊕ Nat)) = x
  revert x
  suffices hs : ∀ x ∈ mq13_m, ∀ j, x.2 = .inl j → m_mok m_Z m_strs j from fun x hx h1 => hs x h1 j (by rw [← hx])
  unfold mq13_m
  refine List.forall_mem_cons.mpr ⟨fun j h => by cases h; exact mm2205, ?_⟩
  refine List.forall_mem_cons.mpr ⟨fun j h => by cases h; exact mm2206, ?_⟩
  refine List.forall_mem_cons.mpr ⟨fun j h => by cases h; exact mm2207, ?_⟩
  refine List.forall_mem_cons.mpr ⟨fun j h => by cases h; exact mm2208, ?_⟩
  refine List.forall_mem_cons.mpr ⟨fun j h => by cases h; exact mm2209, ?_⟩
  refine List.forall_mem_cons.mpr ⟨fun j h => by cases h; exact mm2210, ?_⟩
  refine List.forall_mem_cons.mpr ⟨fun j h => by cases h; exact mm2203, ?_⟩
  refine List.forall_mem_cons.mpr ⟨fun j h => by cases h; exact mm2211, ?_⟩
  refine List.forall_mem_cons.mpr ⟨fun j h => by cases h; exact mm2212, ?_⟩
  refine List.forall_mem_cons.mpr ⟨fun j h => by cases h; exact mm2214, ?_⟩
  refine List.forall_mem_cons.mpr ⟨fun j h => by cases h; exact mm2215, ?_⟩
  refine List.forall_mem_cons.mpr ⟨fun j h => by cases h; exact mm2218, ?_⟩
  refine List.forall_mem_cons.mpr ⟨fun j h => by cases h; exact mm2219, ?_⟩
  refine List.forall_mem_cons.mpr ⟨fun j h => by cases h; exact mm2220, ?_⟩
  refine List.forall_mem_cons.mpr ⟨fun j h => by cases h; exact mm2221, ?_⟩
  refine List.forall_mem_cons.mpr ⟨fun j h => by cases h; exact mm2222, ?_⟩
  refine List.forall_mem_cons.mpr ⟨fun j h => by cases h; exact mm2223, ?_⟩
  refine List.forall_mem_cons.mpr ⟨fun j h => by cases h; exact mm2224, ?_⟩
  refine List.forall_mem_cons.mpr ⟨fun j h => by cases h; exact mm2225, ?_⟩
  refine List.forall_mem_cons.mpr ⟨fun j h => by cases h; exact mm2216, ?_⟩
  refine List.forall_mem_cons.mpr ⟨fun j h => by cases h; exact mm2217, ?_⟩
  refine List.forall_mem_cons.mpr ⟨fun j h => by cases h; exact mm2226, ?_⟩
  refine List.forall_mem_cons.mpr ⟨fun j h => by cases h; exact mm2227, ?_⟩
  refine List.forall_mem_cons.mpr ⟨fun j h => by cases h; exact mm2229, ?_⟩
  refine List.forall_mem_cons.mpr ⟨fun j h => by cases h; exact mm2230, ?_⟩
  refine List.forall_mem_cons.mpr ⟨fun j h => by cases h; exact mm2231, ?_⟩
  refine List.forall_mem_cons.mpr ⟨fun j h => by cases h; exact mm2232, ?_⟩
  refine List.forall_mem_cons.mpr ⟨fun j h => by cases h; exact mm2235, ?_⟩
  refine List.forall_mem_cons.mpr ⟨fun j h => by cases h; exact mm2236, ?_⟩
  refine List.forall_mem_cons.mpr ⟨fun j h => by cases h; exact mm2237, ?_⟩
  refine List.forall_mem_cons.mpr ⟨fun j h => by cases h; exact mm2240, ?_⟩
  refine List.forall_mem_cons.mpr ⟨fun j h => by cases h; exact mm2242, ?_⟩
  refine List.forall_mem_cons.mpr ⟨fun j h => by cases h; exact mm2243, ?_⟩
  refine List.forall_mem_cons.mpr ⟨fun j h => by cases h; exact mm2245, ?_⟩
  refine List.forall_mem_cons.mpr ⟨fun j h => by cases h; exact mm2233, ?_⟩
  refine List.forall_mem_cons.mpr ⟨fun j h => by cases h; exact mm2200, ?_⟩
  refine List.forall_mem_cons.mpr ⟨fun j h => by cases h; exact mm2403, ?_⟩
  refine List.forall_mem_cons.mpr ⟨fun j h => by cases h; exact mm2201, ?_⟩
  refine List.forall_mem_cons.mpr ⟨fun j h => by cases h; exact mm2436, ?_⟩
  refine List.forall_mem_cons.mpr ⟨fun j h => by cases h; exact mm2202, ?_⟩
  refine List.forall_mem_cons.mpr ⟨fun j h => by cases h; exact mm2437, ?_⟩
  refine List.forall_mem_cons.mpr ⟨fun j h => by cases h; exact mm2600, ?_⟩
  refine List.forall_mem_cons.mpr ⟨fun j h => by cases h; exact mm2415, ?_⟩
  refine List.forall_mem_cons.mpr ⟨fun j h => by cases h; exact mm2400, ?_⟩
  refine List.forall_mem_cons.mpr ⟨fun j h => by cases h; exact mm2601, ?_⟩
  refine List.forall_mem_cons.mpr ⟨fun j h => by cases h; exact mm2418, ?_⟩
  refine List.forall_mem_cons.mpr ⟨fun j h => by cases h; exact mm2602, ?_⟩
  refine List.forall_mem_cons.mpr ⟨fun j h => by cases h; exact mm2420, ?_⟩
  refine List.forall_mem_cons.mpr ⟨fun j h => by cases h; exact mm2603, ?_⟩
  refine List.forall_mem_cons.mpr ⟨fun j h => by cases h; exact mm2421, ?_⟩
  refine List.forall_mem_cons.mpr ⟨fun j h => by cases h; exact mm2604, ?_⟩
  refine List.forall_mem_cons.mpr ⟨fun j h => by cases h; exact mm2432, ?_⟩
  refine List.forall_mem_cons.mpr ⟨fun j h => by cases h; exact mm2605, ?_⟩
  refine List.forall_mem_cons.mpr ⟨fun j h => by cases h; exact mm2433, ?_⟩
  refine List.forall_mem_cons.mpr ⟨fun j h => by cases h; exact mm2606, ?_⟩
  refine List.forall_mem_cons.mpr ⟨fun j h => by cases h; exact mm2458, ?_⟩
  refine List.forall_mem_cons.mpr ⟨fun j h => by cases h; exact mm2204, ?_⟩
  refine List.forall_mem_cons.mpr ⟨fun j h => by cases h; exact mm2446, ?_⟩
  refine List.forall_mem_cons.mpr ⟨fun j h => by cases h; exact mm2607, ?_⟩
  refine List.forall_mem_cons.mpr ⟨fun j h => by cases h; exact mm2467, ?_⟩
  refine List.forall_mem_cons.mpr ⟨fun j h => by cases h; exact mm2608, ?_⟩
  refine List.forall_mem_cons.mpr ⟨fun j h => by cases h; exact mm2470, ?_⟩
  refine List.forall_mem_cons.mpr ⟨fun j h => by cases h; exact mm2609, ?_⟩
  refine List.forall_mem_cons.mpr ⟨fun j h => by cases h; exact mm2475, ?_⟩
  refine List.forall_mem_cons.mpr ⟨fun j h => by cases h; exact mm2610, ?_⟩
  refine List.forall_mem_cons.mpr ⟨fun j h => by cases h; exact mm2435, ?_⟩
  refine List.forall_mem_cons.mpr ⟨fun j h => by cases h; exact mm2611, ?_⟩
  refine List.forall_mem_cons.mpr ⟨fun j h => by cases h; exact mm2480, ?_⟩
  refine List.forall_mem_cons.mpr ⟨fun j h => by cases h; exact mm2612, ?_⟩
  refine List.forall_mem_cons.mpr ⟨fun j h => by cases h; exact mm2422, ?_⟩
  refine List.forall_mem_cons.mpr ⟨fun j h => by cases h; exact mm2613, ?_⟩
  refine List.forall_mem_cons.mpr ⟨fun j h => by cases h; exact mm2423, ?_⟩
  refine List.forall_mem_cons.mpr ⟨fun j h => by cases h; exact mm2614, ?_⟩
  refine List.forall_mem_cons.mpr ⟨fun j h => by cases h; exact mm2483, ?_⟩
  refine List.forall_mem_cons.mpr ⟨fun j h => by cases h; exact mm2615, ?_⟩
  refine List.forall_mem_cons.mpr ⟨fun j h => by cases h; exact mm2484, ?_⟩
  refine List.forall_mem_cons.mpr ⟨fun j h => by cases h; exact mm2616, ?_⟩
  refine List.forall_mem_cons.mpr ⟨fun j h => by cases h; exact mm2485, ?_⟩
  refine List.forall_mem_cons.mpr ⟨fun j h => by cases h; exact mm2617, ?_⟩
  refine List.forall_mem_cons.mpr ⟨fun j h => by cases h; exact mm2424, ?_⟩
  refine List.forall_mem_cons.mpr ⟨fun j h => by cases h; exact mm2618, ?_⟩
  refine List.forall_mem_cons.mpr ⟨fun j h => by cases h; exact mm2493, ?_⟩
  refine List.forall_mem_cons.mpr ⟨fun j h => by cases h; exact mm2619, ?_⟩
  refine List.forall_mem_cons.mpr ⟨fun j h => by cases h; exact mm2494, ?_⟩
  refine List.forall_mem_cons.mpr ⟨fun j h => by cases h; exact mm2620, ?_⟩
  refine List.forall_mem_cons.mpr ⟨fun j h => by cases h; exact mm2434, ?_⟩
  refine List.forall_mem_cons.mpr ⟨fun j h => by cases h; exact mm2621, ?_⟩
  refine List.forall_mem_cons.mpr ⟨fun j h => by cases h; exact mm2501, ?_⟩
  refine List.forall_mem_cons.mpr ⟨fun j h => by cases h; exact mm2622, ?_⟩
  refine List.forall_mem_cons.mpr ⟨fun j h => by cases h; exact mm2502, ?_⟩
  refine List.forall_mem_cons.mpr ⟨fun j h => by cases h; exact mm2623, ?_⟩
  refine List.forall_mem_cons.mpr ⟨fun j h => by cases h; exact mm2503, ?_⟩
  refine List.forall_mem_cons.mpr ⟨fun j h => by cases h; exact mm2624, ?_⟩
  refine List.forall_mem_cons.mpr ⟨fun j h => by cases h; exact mm2504, ?_⟩
  refine List.forall_mem_cons.mpr ⟨fun j h => by cases h; exact mm2625, ?_⟩
  refine List.forall_mem_cons.mpr ⟨fun j h => by cases h; exact mm2505, ?_⟩
  refine List.forall_mem_cons.mpr ⟨fun j h => by cases h; exact mm2626, ?_⟩
  refine List.forall_mem_cons.mpr ⟨fun j h => by cases h; exact mm2507, ?_⟩
  refine List.forall_mem_cons.mpr ⟨fun j h => by cases h; exact mm2627, ?_⟩
  refine List.forall_mem_cons.mpr ⟨fun j h => by cases h; exact mm2509, ?_⟩
  refine List.forall_mem_cons.mpr ⟨fun j h => by cases h; exact mm2628, ?_⟩
  refine List.forall_mem_cons.mpr ⟨fun j h => by cases h; exact mm2510, ?_⟩
  refine List.forall_mem_cons.mpr ⟨fun j h => by cases h; exact mm2228, ?_⟩
  refine List.forall_mem_cons.mpr ⟨fun j h => by cases h; exact mm2511, ?_⟩
  refine List.forall_mem_cons.mpr ⟨fun j h => by cases h; exact mm2629, ?_⟩
  refine List.forall_mem_cons.mpr ⟨fun j h => by cases h; exact mm2512, ?_⟩
  refine List.forall_mem_cons.mpr ⟨fun j h => by cases h; exact mm2238, ?_⟩
  refine List.forall_mem_cons.mpr ⟨fun j h => by cases h; exact mm2514, ?_⟩
  refine List.forall_mem_cons.mpr ⟨fun j h => by cases h; exact mm2239, ?_⟩
  refine List.forall_mem_cons.mpr ⟨fun j h => by cases h; exact mm2515, ?_⟩
  refine List.forall_mem_cons.mpr ⟨fun j h => by cases h; exact mm2630, ?_⟩
  refine List.forall_mem_cons.mpr ⟨fun j h => by cases h; exact mm2516, ?_⟩
  refine List.forall_mem_cons.mpr ⟨fun j h => by cases h; exact mm2241, ?_⟩
  refine List.forall_mem_cons.mpr ⟨fun j h => by cases h; exact mm2517, ?_⟩
  refine List.forall_mem_cons.mpr ⟨fun j h => by cases h; exact mm2631, ?_⟩
  refine List.forall_mem_cons.mpr ⟨fun j h => by cases h; exact mm2518, ?_⟩
  refine List.forall_mem_cons.mpr ⟨fun j h => by cases h; exact mm2632, ?_⟩
  refine List.forall_mem_cons.mpr ⟨fun j h => by cases h; exact mm2519, ?_⟩
  refine List.forall_mem_cons.mpr ⟨fun j h => by cases h; exact mm2244, ?_⟩
  refine List.forall_mem_cons.mpr ⟨fun j h => by cases h; exact mm2523, ?_⟩
  refine List.forall_mem_cons.mpr ⟨fun j h => by cases h; exact mm2633, ?_⟩
  refine List.forall_mem_cons.mpr ⟨fun j h => by cases h; exact mm2524, ?_⟩
  refine List.forall_mem_cons.mpr ⟨fun j h => by cases h; exact mm2634, ?_⟩
  refine List.forall_mem_cons.mpr ⟨fun j h => by cases h; exact mm2526, ?_⟩
  refine List.forall_mem_cons.mpr ⟨fun j h => by cases h; exact mm2234, ?_⟩
  refine List.forall_mem_cons.mpr ⟨fun j h => by cases h; exact mm2527, ?_⟩
  refine List.forall_mem_cons.mpr ⟨fun j h => by cases h; exact mm2246, ?_⟩
  refine List.forall_mem_cons.mpr ⟨fun j h => by cases h; exact mm2407, ?_⟩
  refine List.forall_mem_cons.mpr ⟨fun j h => by cases h; exact mm2247, ?_⟩
  refine List.forall_mem_cons.mpr ⟨fun j h => by cases h; exact mm2408, ?_⟩
  refine List.forall_mem_cons.mpr ⟨fun j h => by cases h; exact mm2248, ?_⟩
  refine List.forall_mem_cons.mpr ⟨fun j h => by cases h; exact mm2409, ?_⟩
  refine List.forall_mem_cons.mpr ⟨fun j h => by cases h; exact mm2249, ?_⟩
  refine List.forall_mem_cons.mpr ⟨fun j h => by cases h; exact mm2528, ?_⟩
  exact fun _ h => absurd h List.not_mem_nil
theorem mP14 : ∀ k j, mq14.2.2.2.2.2.1 k = some (.inl j) → m_mok m_Z m_strs j := by
  intro k j h
  have h1 := m_lk (l := mq14_m) h
  revert h1
  generalize hx : (k, (Sum.inl j : Nat ⊕ Nat)) = x
  revert x
  suffices hs : ∀ x ∈ mq14_m, ∀ j, x.2 = .inl j → m_mok m_Z m_strs j from fun x hx h1 => hs x h1 j (by rw [← hx])
  unfold mq14_m
  exact fun _ h => absurd h List.not_mem_nil
