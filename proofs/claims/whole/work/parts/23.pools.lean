/-! ===== m_: pools by the tables (printed) ===== -/
theorem mp0_f : ∀ x ∈ mq0_f, m_fok RX0 x.1 x.2 := by
  unfold mq0_f
  refine List.forall_mem_cons.mpr ⟨⟨(RX0, TX0, 6), rfl, by decide, Or.inl (m_gi5 58 rfl rfl)⟩, ?_⟩
  refine List.forall_mem_cons.mpr ⟨⟨(RX7, TX7, 10), rfl, by decide, Or.inr ⟨"LendHouse", m_gx1 93 rfl rfl⟩⟩, ?_⟩
  refine List.forall_mem_cons.mpr ⟨⟨(RX7, TX7, 10), rfl, by decide, Or.inr ⟨"LendHouse", m_gx1 87 rfl rfl⟩⟩, ?_⟩
  refine List.forall_mem_cons.mpr ⟨⟨(RX0, TX0, 6), rfl, by decide, Or.inl (m_gi5 60 rfl rfl)⟩, ?_⟩
  refine List.forall_mem_cons.mpr ⟨⟨(RX0, TX0, 6), rfl, by decide, Or.inl (m_gi5 64 rfl rfl)⟩, ?_⟩
  refine List.forall_mem_cons.mpr ⟨⟨(RX7, TX7, 10), rfl, by decide, Or.inr ⟨"LendHouse", m_gx1 90 rfl rfl⟩⟩, ?_⟩
  refine List.forall_mem_cons.mpr ⟨⟨(RX0, TX0, 6), rfl, by decide, Or.inl (m_gi5 65 rfl rfl)⟩, ?_⟩
  refine List.forall_mem_cons.mpr ⟨⟨(RX7, TX7, 10), rfl, by decide, Or.inr ⟨"LendHouse", m_gx1 92 rfl rfl⟩⟩, ?_⟩
  refine List.forall_mem_cons.mpr ⟨⟨(RX0, TX0, 6), rfl, by decide, Or.inl (m_gi5 66 rfl rfl)⟩, ?_⟩
  refine List.forall_mem_cons.mpr ⟨⟨(RX7, TX7, 10), rfl, by decide, Or.inr ⟨"LendHouse", m_gx1 96 rfl rfl⟩⟩, ?_⟩
  refine List.forall_mem_cons.mpr ⟨⟨(RX7, TX7, 10), rfl, by decide, Or.inr ⟨"LendHouse", m_gx1 97 rfl rfl⟩⟩, ?_⟩
  refine List.forall_mem_cons.mpr ⟨⟨(RX0, TX0, 6), rfl, by decide, Or.inl (m_gi5 67 rfl rfl)⟩, ?_⟩
  exact fun _ h => absurd h List.not_mem_nil
theorem mp0_g : ∀ x ∈ mq0_f, (m_own RX0 x.2 = true ∧ m_fin x.2 = true) → ∀ r : vw_C, m_cl[x.2.1]? = some r → Cond.fieldLink RX0 x.1 r.1 (r.2.1 x.2.2).2.1 (r.2.1 x.2.2).2.2.1 ∈ m_Ts := by
  unfold mq0_f
  refine List.forall_mem_cons.mpr ⟨fun _ r hr => by cases hr; exact m_gi5 58 rfl rfl, ?_⟩
  refine List.forall_mem_cons.mpr ⟨fun h => absurd h.2 (by decide +kernel), ?_⟩
  refine List.forall_mem_cons.mpr ⟨fun h => absurd h.1 (by decide +kernel), ?_⟩
  refine List.forall_mem_cons.mpr ⟨fun _ r hr => by cases hr; exact m_gi5 60 rfl rfl, ?_⟩
  refine List.forall_mem_cons.mpr ⟨fun _ r hr => by cases hr; exact m_gi5 64 rfl rfl, ?_⟩
  refine List.forall_mem_cons.mpr ⟨fun h => absurd h.1 (by decide +kernel), ?_⟩
  refine List.forall_mem_cons.mpr ⟨fun _ r hr => by cases hr; exact m_gi5 65 rfl rfl, ?_⟩
  refine List.forall_mem_cons.mpr ⟨fun h => absurd h.1 (by decide +kernel), ?_⟩
  refine List.forall_mem_cons.mpr ⟨fun _ r hr => by cases hr; exact m_gi5 66 rfl rfl, ?_⟩
  refine List.forall_mem_cons.mpr ⟨fun h => absurd h.1 (by decide +kernel), ?_⟩
  refine List.forall_mem_cons.mpr ⟨fun h => absurd h.2 (by decide +kernel), ?_⟩
  refine List.forall_mem_cons.mpr ⟨fun _ r hr => by cases hr; exact m_gi5 67 rfl rfl, ?_⟩
  exact fun _ h => absurd h List.not_mem_nil
theorem mp0_c : ∀ x ∈ mq0_c, ∃ r, m_cl[x.2]? = some r ∧ Cond.classLink RX0 x.1 r.1 ∈ m_Ts := by
  unfold mq0_c
  exact fun _ h => absurd h List.not_mem_nil
theorem mp0_s : ∀ x ∈ mq0_s, ∃ tx, (RX0, x.1, tx, x.2) ∈ m_strs := by
  unfold mq0_s
  exact fun _ h => absurd h List.not_mem_nil
theorem mp0_l : ∀ x ∈ mq0_l, Cond.constantLong RX0 x.1 x.2 ∈ m_Ts := by
  unfold mq0_l
  exact fun _ h => absurd h List.not_mem_nil
theorem mp0_i : ∀ x ∈ mq0_i, Cond.constant RX0 x.1 x.2 ∈ m_Ts := by
  unfold mq0_i
  exact fun _ h => absurd h List.not_mem_nil
theorem mp0_m : ∀ x ∈ mq0_m, m_eok RX0 x.1 x.2 := by
  unfold mq0_m
  refine List.forall_mem_cons.mpr ⟨⟨by decide, m_gi5 54 rfl rfl⟩, ?_⟩
  refine List.forall_mem_cons.mpr ⟨⟨by decide, m_gi5 55 rfl rfl⟩, ?_⟩
  refine List.forall_mem_cons.mpr ⟨⟨by decide, m_gi5 56 rfl rfl⟩, ?_⟩
  refine List.forall_mem_cons.mpr ⟨⟨by decide, m_gi5 57 rfl rfl⟩, ?_⟩
  exact fun _ h => absurd h List.not_mem_nil
theorem mp1_f : ∀ x ∈ mq1_f, m_fok RX1 x.1 x.2 := by
  unfold mq1_f
  refine List.forall_mem_cons.mpr ⟨⟨(RX1, TX1, 1), rfl, by decide, Or.inl (m_gi2 111 rfl rfl)⟩, ?_⟩
  refine List.forall_mem_cons.mpr ⟨⟨(RX3, TX3, 20), rfl, by decide, Or.inr ⟨"LendHouse", m_gx1 233 rfl rfl⟩⟩, ?_⟩
  refine List.forall_mem_cons.mpr ⟨⟨(RX3, TX3, 20), rfl, by decide, Or.inr ⟨"LendHouse", m_gx2 24 rfl rfl⟩⟩, ?_⟩
  refine List.forall_mem_cons.mpr ⟨⟨(RX8, TX8, 3), rfl, by decide, Or.inr ⟨"LendHouse", m_gx1 200 rfl rfl⟩⟩, ?_⟩
  exact fun _ h => absurd h List.not_mem_nil
theorem mp1_g : ∀ x ∈ mq1_f, (m_own RX1 x.2 = true ∧ m_fin x.2 = true) → ∀ r : vw_C, m_cl[x.2.1]? = some r → Cond.fieldLink RX1 x.1 r.1 (r.2.1 x.2.2).2.1 (r.2.1 x.2.2).2.2.1 ∈ m_Ts := by
  unfold mq1_f
  refine List.forall_mem_cons.mpr ⟨fun h => absurd h.2 (by decide +kernel), ?_⟩
  refine List.forall_mem_cons.mpr ⟨fun h => absurd h.2 (by decide +kernel), ?_⟩
  refine List.forall_mem_cons.mpr ⟨fun h => absurd h.1 (by decide +kernel), ?_⟩
  refine List.forall_mem_cons.mpr ⟨fun h => absurd h.2 (by decide +kernel), ?_⟩
  exact fun _ h => absurd h List.not_mem_nil
theorem mp1_c : ∀ x ∈ mq1_c, ∃ r, m_cl[x.2]? = some r ∧ Cond.classLink RX1 x.1 r.1 ∈ m_Ts := by
  unfold mq1_c
  exact fun _ h => absurd h List.not_mem_nil
theorem mp1_s : ∀ x ∈ mq1_s, ∃ tx, (RX1, x.1, tx, x.2) ∈ m_strs := by
  unfold mq1_s
  exact fun _ h => absurd h List.not_mem_nil
theorem mp1_l : ∀ x ∈ mq1_l, Cond.constantLong RX1 x.1 x.2 ∈ m_Ts := by
  unfold mq1_l
  exact fun _ h => absurd h List.not_mem_nil
theorem mp1_i : ∀ x ∈ mq1_i, Cond.constant RX1 x.1 x.2 ∈ m_Ts := by
  unfold mq1_i
  exact fun _ h => absurd h List.not_mem_nil
theorem mp1_m : ∀ x ∈ mq1_m, m_eok RX1 x.1 x.2 := by
  unfold mq1_m
  refine List.forall_mem_cons.mpr ⟨⟨by decide, m_gi2 110 rfl rfl⟩, ?_⟩
  refine List.forall_mem_cons.mpr ⟨⟨m_gi3 79 rfl rfl, mj203, Or.inl ⟨rfl, mk203V⟩⟩, ?_⟩
  refine List.forall_mem_cons.mpr ⟨⟨m_gi6 123 rfl rfl, mj202, Or.inl ⟨rfl, mk202V⟩⟩, ?_⟩
  refine List.forall_mem_cons.mpr ⟨⟨m_gi6 127 rfl rfl, mj616, Or.inl ⟨rfl, mk616V⟩⟩, ?_⟩
  refine List.forall_mem_cons.mpr ⟨⟨m_gi6 128 rfl rfl, mj614, Or.inl ⟨rfl, mk614V⟩⟩, ?_⟩
  refine List.forall_mem_cons.mpr ⟨⟨m_gi6 129 rfl rfl, mj1604, Or.inl ⟨rfl, mk1604V⟩⟩, ?_⟩
  refine List.forall_mem_cons.mpr ⟨⟨m_gi6 130 rfl rfl, mj603, Or.inr (Or.inr ⟨rfl, mk603S⟩)⟩, ?_⟩
  refine List.forall_mem_cons.mpr ⟨⟨by decide, m_gi3 83 rfl rfl⟩, ?_⟩
  refine List.forall_mem_cons.mpr ⟨⟨by decide, m_gi3 84 rfl rfl⟩, ?_⟩
  refine List.forall_mem_cons.mpr ⟨⟨by decide, m_gi3 85 rfl rfl⟩, ?_⟩
  refine List.forall_mem_cons.mpr ⟨⟨by decide, m_gi3 97 rfl rfl⟩, ?_⟩
  exact fun _ h => absurd h List.not_mem_nil
theorem mp2_f : ∀ x ∈ mq2_f, m_fok RX2 x.1 x.2 := by
  unfold mq2_f
  refine List.forall_mem_cons.mpr ⟨⟨(RX2, TX2, 6), rfl, by decide, Or.inl (m_gi1 126 rfl rfl)⟩, ?_⟩
  refine List.forall_mem_cons.mpr ⟨⟨(RX2, TX2, 6), rfl, by decide, Or.inl (m_gi1 127 rfl rfl)⟩, ?_⟩
  refine List.forall_mem_cons.mpr ⟨⟨(RX2, TX2, 6), rfl, by decide, Or.inl (m_gi1 128 rfl rfl)⟩, ?_⟩
  refine List.forall_mem_cons.mpr ⟨⟨(RX2, TX2, 6), rfl, by decide, Or.inl (m_gi1 129 rfl rfl)⟩, ?_⟩
  refine List.forall_mem_cons.mpr ⟨⟨(RX3, TX3, 20), rfl, by decide, Or.inr ⟨"LendHouse", m_gx2 29 rfl rfl⟩⟩, ?_⟩
  refine List.forall_mem_cons.mpr ⟨⟨(RX2, TX2, 6), rfl, by decide, Or.inl (m_gi1 131 rfl rfl)⟩, ?_⟩
  refine List.forall_mem_cons.mpr ⟨⟨(RX3, TX3, 20), rfl, by decide, Or.inr ⟨"LendHouse", m_gx1 239 rfl rfl⟩⟩, ?_⟩
  refine List.forall_mem_cons.mpr ⟨⟨(RX3, TX3, 20), rfl, by decide, Or.inr ⟨"LendHouse", m_gx2 17 rfl rfl⟩⟩, ?_⟩
  refine List.forall_mem_cons.mpr ⟨⟨(RX3, TX3, 20), rfl, by decide, Or.inr ⟨"LendHouse", m_gx2 41 rfl rfl⟩⟩, ?_⟩
  refine List.forall_mem_cons.mpr ⟨⟨(RX3, TX3, 20), rfl, by decide, Or.inr ⟨"LendHouse", m_gx2 38 rfl rfl⟩⟩, ?_⟩
  refine List.forall_mem_cons.mpr ⟨⟨(RX0, TX0, 6), rfl, by decide, Or.inr ⟨"LendHouse", m_gx5 62 rfl rfl⟩⟩, ?_⟩
  refine List.forall_mem_cons.mpr ⟨⟨(RX0, TX0, 6), rfl, by decide, Or.inr ⟨"LendHouse", m_gx5 68 rfl rfl⟩⟩, ?_⟩
  refine List.forall_mem_cons.mpr ⟨⟨(RX2, TX2, 6), rfl, by decide, Or.inl (m_gi1 130 rfl rfl)⟩, ?_⟩
  exact fun _ h => absurd h List.not_mem_nil
theorem mp2_g : ∀ x ∈ mq2_f, (m_own RX2 x.2 = true ∧ m_fin x.2 = true) → ∀ r : vw_C, m_cl[x.2.1]? = some r → Cond.fieldLink RX2 x.1 r.1 (r.2.1 x.2.2).2.1 (r.2.1 x.2.2).2.2.1 ∈ m_Ts := by
  unfold mq2_f
  refine List.forall_mem_cons.mpr ⟨fun _ r hr => by cases hr; exact m_gi1 126 rfl rfl, ?_⟩
  refine List.forall_mem_cons.mpr ⟨fun _ r hr => by cases hr; exact m_gi1 127 rfl rfl, ?_⟩
  refine List.forall_mem_cons.mpr ⟨fun _ r hr => by cases hr; exact m_gi1 128 rfl rfl, ?_⟩
  refine List.forall_mem_cons.mpr ⟨fun _ r hr => by cases hr; exact m_gi1 129 rfl rfl, ?_⟩
  refine List.forall_mem_cons.mpr ⟨fun h => absurd h.1 (by decide +kernel), ?_⟩
  refine List.forall_mem_cons.mpr ⟨fun h => absurd h.2 (by decide +kernel), ?_⟩
  refine List.forall_mem_cons.mpr ⟨fun h => absurd h.2 (by decide +kernel), ?_⟩
  refine List.forall_mem_cons.mpr ⟨fun h => absurd h.1 (by decide +kernel), ?_⟩
  refine List.forall_mem_cons.mpr ⟨fun h => absurd h.1 (by decide +kernel), ?_⟩
  refine List.forall_mem_cons.mpr ⟨fun h => absurd h.1 (by decide +kernel), ?_⟩
  refine List.forall_mem_cons.mpr ⟨fun h => absurd h.1 (by decide +kernel), ?_⟩
  refine List.forall_mem_cons.mpr ⟨fun h => absurd h.1 (by decide +kernel), ?_⟩
  refine List.forall_mem_cons.mpr ⟨fun h => absurd h.2 (by decide +kernel), ?_⟩
  exact fun _ h => absurd h List.not_mem_nil
theorem mp2_c : ∀ x ∈ mq2_c, ∃ r, m_cl[x.2]? = some r ∧ Cond.classLink RX2 x.1 r.1 ∈ m_Ts := by
  unfold mq2_c
  exact fun _ h => absurd h List.not_mem_nil
theorem mp2_s : ∀ x ∈ mq2_s, ∃ tx, (RX2, x.1, tx, x.2) ∈ m_strs := by
  unfold mq2_s
  exact fun _ h => absurd h List.not_mem_nil
theorem mp2_l : ∀ x ∈ mq2_l, Cond.constantLong RX2 x.1 x.2 ∈ m_Ts := by
  unfold mq2_l
  exact fun _ h => absurd h List.not_mem_nil
theorem mp2_i : ∀ x ∈ mq2_i, Cond.constant RX2 x.1 x.2 ∈ m_Ts := by
  unfold mq2_i
  exact fun _ h => absurd h List.not_mem_nil
theorem mp2_m : ∀ x ∈ mq2_m, m_eok RX2 x.1 x.2 := by
  unfold mq2_m
  refine List.forall_mem_cons.mpr ⟨⟨by decide, m_gi1 125 rfl rfl⟩, ?_⟩
  refine List.forall_mem_cons.mpr ⟨⟨m_gi5 196 rfl rfl, mj1601, Or.inl ⟨rfl, mk1601V⟩⟩, ?_⟩
  refine List.forall_mem_cons.mpr ⟨⟨m_gi5 197 rfl rfl, mj625, Or.inl ⟨rfl, mk625V⟩⟩, ?_⟩
  refine List.forall_mem_cons.mpr ⟨⟨m_gi5 118 rfl rfl, mj1604, Or.inl ⟨rfl, mk1604V⟩⟩, ?_⟩
  refine List.forall_mem_cons.mpr ⟨⟨m_gi5 198 rfl rfl, mj404, Or.inl ⟨rfl, mk404V⟩⟩, ?_⟩
  refine List.forall_mem_cons.mpr ⟨⟨m_gi5 199 rfl rfl, mj408, Or.inl ⟨rfl, mk408V⟩⟩, ?_⟩
  refine List.forall_mem_cons.mpr ⟨⟨m_gi5 208 rfl rfl, mj403, Or.inl ⟨rfl, mk403V⟩⟩, ?_⟩
  refine List.forall_mem_cons.mpr ⟨⟨m_gi5 119 rfl rfl, mj405, Or.inl ⟨rfl, mk405V⟩⟩, ?_⟩
  refine List.forall_mem_cons.mpr ⟨⟨m_gi5 123 rfl rfl, mj609, Or.inl ⟨rfl, mk609V⟩⟩, ?_⟩
  refine List.forall_mem_cons.mpr ⟨⟨m_gi5 124 rfl rfl, mj406, Or.inl ⟨rfl, mk406V⟩⟩, ?_⟩
  refine List.forall_mem_cons.mpr ⟨⟨m_gi5 128 rfl rfl, mj606, Or.inl ⟨rfl, mk606V⟩⟩, ?_⟩
  refine List.forall_mem_cons.mpr ⟨⟨m_gi5 129 rfl rfl, mj603, Or.inr (Or.inr ⟨rfl, mk603S⟩)⟩, ?_⟩
  refine List.forall_mem_cons.mpr ⟨⟨m_gi5 132 rfl rfl, mj627, Or.inl ⟨rfl, mk627V⟩⟩, ?_⟩
  refine List.forall_mem_cons.mpr ⟨⟨m_gi5 144 rfl rfl, mj410, Or.inl ⟨rfl, mk410V⟩⟩, ?_⟩
  refine List.forall_mem_cons.mpr ⟨⟨m_gi5 173 rfl rfl, mj2, Or.inl ⟨rfl, mk2V⟩⟩, ?_⟩
  refine List.forall_mem_cons.mpr ⟨⟨by decide, m_gi5 157 rfl rfl⟩, ?_⟩
  refine List.forall_mem_cons.mpr ⟨⟨m_gi5 148 rfl rfl, mj1, Or.inl ⟨rfl, mk1V⟩⟩, ?_⟩
  refine List.forall_mem_cons.mpr ⟨⟨m_gi5 152 rfl rfl, mj3, Or.inl ⟨rfl, mk3V⟩⟩, ?_⟩
  refine List.forall_mem_cons.mpr ⟨⟨by decide, m_gi5 156 rfl rfl⟩, ?_⟩
  refine List.forall_mem_cons.mpr ⟨⟨m_gi5 158 rfl rfl, mj411, Or.inl ⟨rfl, mk411V⟩⟩, ?_⟩
  refine List.forall_mem_cons.mpr ⟨⟨m_gi5 166 rfl rfl, mj414, Or.inl ⟨rfl, mk414V⟩⟩, ?_⟩
  refine List.forall_mem_cons.mpr ⟨⟨m_gi5 162 rfl rfl, mj413, Or.inl ⟨rfl, mk413V⟩⟩, ?_⟩
  refine List.forall_mem_cons.mpr ⟨⟨m_gi5 170 rfl rfl, mj412, Or.inr (Or.inr ⟨rfl, mk412S⟩)⟩, ?_⟩
  exact fun _ h => absurd h List.not_mem_nil
theorem mp3_f : ∀ x ∈ mq3_f, m_fok RX3 x.1 x.2 := by
  unfold mq3_f
  refine List.forall_mem_cons.mpr ⟨⟨(RX3, TX3, 20), rfl, by decide, Or.inl (m_gi2 12 rfl rfl)⟩, ?_⟩
  refine List.forall_mem_cons.mpr ⟨⟨(RX3, TX3, 20), rfl, by decide, Or.inl (m_gi2 15 rfl rfl)⟩, ?_⟩
  refine List.forall_mem_cons.mpr ⟨⟨(RX3, TX3, 20), rfl, by decide, Or.inl (m_gi2 20 rfl rfl)⟩, ?_⟩
  refine List.forall_mem_cons.mpr ⟨⟨(RX3, TX3, 20), rfl, by decide, Or.inl (m_gi2 22 rfl rfl)⟩, ?_⟩
  refine List.forall_mem_cons.mpr ⟨⟨(RX3, TX3, 20), rfl, by decide, Or.inl (m_gi2 28 rfl rfl)⟩, ?_⟩
  refine List.forall_mem_cons.mpr ⟨⟨(RX3, TX3, 20), rfl, by decide, Or.inl (m_gi2 31 rfl rfl)⟩, ?_⟩
  refine List.forall_mem_cons.mpr ⟨⟨(RX3, TX3, 20), rfl, by decide, Or.inl (m_gi2 35 rfl rfl)⟩, ?_⟩
  refine List.forall_mem_cons.mpr ⟨⟨(RX3, TX3, 20), rfl, by decide, Or.inl (m_gi2 40 rfl rfl)⟩, ?_⟩
  refine List.forall_mem_cons.mpr ⟨⟨(RX3, TX3, 20), rfl, by decide, Or.inl (m_gi2 45 rfl rfl)⟩, ?_⟩
  refine List.forall_mem_cons.mpr ⟨⟨(RX3, TX3, 20), rfl, by decide, Or.inl (m_gi2 47 rfl rfl)⟩, ?_⟩
  refine List.forall_mem_cons.mpr ⟨⟨(RX3, TX3, 20), rfl, by decide, Or.inl (m_gi2 50 rfl rfl)⟩, ?_⟩
  refine List.forall_mem_cons.mpr ⟨⟨(RX3, TX3, 20), rfl, by decide, Or.inl (m_gi2 53 rfl rfl)⟩, ?_⟩
  refine List.forall_mem_cons.mpr ⟨⟨(RX3, TX3, 20), rfl, by decide, Or.inl (m_gi2 56 rfl rfl)⟩, ?_⟩
  refine List.forall_mem_cons.mpr ⟨⟨(RX3, TX3, 20), rfl, by decide, Or.inl (m_gi2 58 rfl rfl)⟩, ?_⟩
  refine List.forall_mem_cons.mpr ⟨⟨(RX3, TX3, 20), rfl, by decide, Or.inl (m_gi2 61 rfl rfl)⟩, ?_⟩
  refine List.forall_mem_cons.mpr ⟨⟨(RX3, TX3, 20), rfl, by decide, Or.inl (m_gi1 236 rfl rfl)⟩, ?_⟩
  refine List.forall_mem_cons.mpr ⟨⟨(RX3, TX3, 20), rfl, by decide, Or.inl (m_gi2 1 rfl rfl)⟩, ?_⟩
  refine List.forall_mem_cons.mpr ⟨⟨(RX3, TX3, 20), rfl, by decide, Or.inl (m_gi2 5 rfl rfl)⟩, ?_⟩
  refine List.forall_mem_cons.mpr ⟨⟨(RX3, TX3, 20), rfl, by decide, Or.inl (m_gi2 10 rfl rfl)⟩, ?_⟩
  refine List.forall_mem_cons.mpr ⟨⟨(RX3, TX3, 20), rfl, by decide, Or.inl (m_gi2 13 rfl rfl)⟩, ?_⟩
  refine List.forall_mem_cons.mpr ⟨⟨(RX8, TX8, 3), rfl, by decide, Or.inr ⟨"LendHouse", m_gx1 203 rfl rfl⟩⟩, ?_⟩
  refine List.forall_mem_cons.mpr ⟨⟨(RX0, TX0, 6), rfl, by decide, Or.inr ⟨"LendHouse", m_gx5 59 rfl rfl⟩⟩, ?_⟩
  refine List.forall_mem_cons.mpr ⟨⟨(RX0, TX0, 6), rfl, by decide, Or.inr ⟨"LendHouse", m_gx5 63 rfl rfl⟩⟩, ?_⟩
  exact fun _ h => absurd h List.not_mem_nil
theorem mp3_g : ∀ x ∈ mq3_f, (m_own RX3 x.2 = true ∧ m_fin x.2 = true) → ∀ r : vw_C, m_cl[x.2.1]? = some r → Cond.fieldLink RX3 x.1 r.1 (r.2.1 x.2.2).2.1 (r.2.1 x.2.2).2.2.1 ∈ m_Ts := by
  unfold mq3_f
  refine List.forall_mem_cons.mpr ⟨fun _ r hr => by cases hr; exact m_gi2 12 rfl rfl, ?_⟩
  refine List.forall_mem_cons.mpr ⟨fun _ r hr => by cases hr; exact m_gi2 15 rfl rfl, ?_⟩
  refine List.forall_mem_cons.mpr ⟨fun _ r hr => by cases hr; exact m_gi2 20 rfl rfl, ?_⟩
  refine List.forall_mem_cons.mpr ⟨fun _ r hr => by cases hr; exact m_gi2 22 rfl rfl, ?_⟩
  refine List.forall_mem_cons.mpr ⟨fun _ r hr => by cases hr; exact m_gi2 28 rfl rfl, ?_⟩
  refine List.forall_mem_cons.mpr ⟨fun _ r hr => by cases hr; exact m_gi2 31 rfl rfl, ?_⟩
  refine List.forall_mem_cons.mpr ⟨fun _ r hr => by cases hr; exact m_gi2 35 rfl rfl, ?_⟩
  refine List.forall_mem_cons.mpr ⟨fun _ r hr => by cases hr; exact m_gi2 40 rfl rfl, ?_⟩
  refine List.forall_mem_cons.mpr ⟨fun _ r hr => by cases hr; exact m_gi2 45 rfl rfl, ?_⟩
  refine List.forall_mem_cons.mpr ⟨fun _ r hr => by cases hr; exact m_gi2 47 rfl rfl, ?_⟩
  refine List.forall_mem_cons.mpr ⟨fun _ r hr => by cases hr; exact m_gi2 50 rfl rfl, ?_⟩
  refine List.forall_mem_cons.mpr ⟨fun _ r hr => by cases hr; exact m_gi2 53 rfl rfl, ?_⟩
  refine List.forall_mem_cons.mpr ⟨fun _ r hr => by cases hr; exact m_gi2 56 rfl rfl, ?_⟩
  refine List.forall_mem_cons.mpr ⟨fun _ r hr => by cases hr; exact m_gi2 58 rfl rfl, ?_⟩
  refine List.forall_mem_cons.mpr ⟨fun _ r hr => by cases hr; exact m_gi2 61 rfl rfl, ?_⟩
  refine List.forall_mem_cons.mpr ⟨fun h => absurd h.2 (by decide +kernel), ?_⟩
  refine List.forall_mem_cons.mpr ⟨fun h => absurd h.2 (by decide +kernel), ?_⟩
  refine List.forall_mem_cons.mpr ⟨fun h => absurd h.2 (by decide +kernel), ?_⟩
  refine List.forall_mem_cons.mpr ⟨fun h => absurd h.2 (by decide +kernel), ?_⟩
  refine List.forall_mem_cons.mpr ⟨fun h => absurd h.2 (by decide +kernel), ?_⟩
  refine List.forall_mem_cons.mpr ⟨fun h => absurd h.2 (by decide +kernel), ?_⟩
  refine List.forall_mem_cons.mpr ⟨fun h => absurd h.1 (by decide +kernel), ?_⟩
  refine List.forall_mem_cons.mpr ⟨fun h => absurd h.1 (by decide +kernel), ?_⟩
  exact fun _ h => absurd h List.not_mem_nil
theorem mp3_c : ∀ x ∈ mq3_c, ∃ r, m_cl[x.2]? = some r ∧ Cond.classLink RX3 x.1 r.1 ∈ m_Ts := by
  unfold mq3_c
  refine List.forall_mem_cons.mpr ⟨⟨(RX0, TX0, 6), rfl, m_gi1 184 rfl rfl⟩, ?_⟩
  refine List.forall_mem_cons.mpr ⟨⟨(RX8, TX8, 3), rfl, m_gi1 186 rfl rfl⟩, ?_⟩
  exact fun _ h => absurd h List.not_mem_nil
theorem mp3_s : ∀ x ∈ mq3_s, ∃ tx, (RX3, x.1, tx, x.2) ∈ m_strs := by
  unfold mq3_s
  exact fun _ h => absurd h List.not_mem_nil
theorem mp3_l : ∀ x ∈ mq3_l, Cond.constantLong RX3 x.1 x.2 ∈ m_Ts := by
  unfold mq3_l
  exact fun _ h => absurd h List.not_mem_nil
theorem mp3_i : ∀ x ∈ mq3_i, Cond.constant RX3 x.1 x.2 ∈ m_Ts := by
  unfold mq3_i
  exact fun _ h => absurd h List.not_mem_nil
theorem mp3_m : ∀ x ∈ mq3_m, m_eok RX3 x.1 x.2 := by
  unfold mq3_m
  refine List.forall_mem_cons.mpr ⟨⟨by decide, m_gi1 183 rfl rfl⟩, ?_⟩
  refine List.forall_mem_cons.mpr ⟨⟨m_gi1 188 rfl rfl, mj1600, Or.inr (Or.inl ⟨rfl, mk1600I⟩)⟩, ?_⟩
  refine List.forall_mem_cons.mpr ⟨⟨m_gi1 212 rfl rfl, mj601, Or.inl ⟨rfl, mk601V⟩⟩, ?_⟩
  refine List.forall_mem_cons.mpr ⟨⟨m_gi1 216 rfl rfl, mj1607, Or.inl ⟨rfl, mk1607V⟩⟩, ?_⟩
  refine List.forall_mem_cons.mpr ⟨⟨m_gi1 232 rfl rfl, mj1605, Or.inl ⟨rfl, mk1605V⟩⟩, ?_⟩
  refine List.forall_mem_cons.mpr ⟨⟨m_gi3 66 rfl rfl, mj1610, Or.inl ⟨rfl, mk1610V⟩⟩, ?_⟩
  refine List.forall_mem_cons.mpr ⟨⟨m_gi2 180 rfl rfl, mj1604, Or.inl ⟨rfl, mk1604V⟩⟩, ?_⟩
  refine List.forall_mem_cons.mpr ⟨⟨m_gi2 214 rfl rfl, mj605, Or.inr (Or.inr ⟨rfl, mk605S⟩)⟩, ?_⟩
  refine List.forall_mem_cons.mpr ⟨⟨m_gi3 119 rfl rfl, mj609, Or.inl ⟨rfl, mk609V⟩⟩, ?_⟩
  refine List.forall_mem_cons.mpr ⟨⟨m_gi3 12 rfl rfl, mj612, Or.inl ⟨rfl, mk612V⟩⟩, ?_⟩
  refine List.forall_mem_cons.mpr ⟨⟨m_gi2 188 rfl rfl, mj1606, Or.inl ⟨rfl, mk1606V⟩⟩, ?_⟩
  refine List.forall_mem_cons.mpr ⟨⟨m_gi3 110 rfl rfl, mj1609, Or.inl ⟨rfl, mk1609V⟩⟩, ?_⟩
  refine List.forall_mem_cons.mpr ⟨⟨m_gi2 176 rfl rfl, mj616, Or.inl ⟨rfl, mk616V⟩⟩, ?_⟩
  refine List.forall_mem_cons.mpr ⟨⟨by decide, m_gi5 224 rfl rfl⟩, ?_⟩
  refine List.forall_mem_cons.mpr ⟨⟨m_gi5 220 rfl rfl, mj621, Or.inl ⟨rfl, mk621V⟩⟩, ?_⟩
  refine List.forall_mem_cons.mpr ⟨⟨m_gi5 225 rfl rfl, mj611, Or.inl ⟨rfl, mk611V⟩⟩, ?_⟩
  refine List.forall_mem_cons.mpr ⟨⟨m_gi5 226 rfl rfl, mj606, Or.inl ⟨rfl, mk606V⟩⟩, ?_⟩
  refine List.forall_mem_cons.mpr ⟨⟨m_gi2 184 rfl rfl, mj617, Or.inl ⟨rfl, mk617V⟩⟩, ?_⟩
  refine List.forall_mem_cons.mpr ⟨⟨m_gi6 193 rfl rfl, mj603, Or.inr (Or.inr ⟨rfl, mk603S⟩)⟩, ?_⟩
  refine List.forall_mem_cons.mpr ⟨⟨m_gi3 127 rfl rfl, mj625, Or.inl ⟨rfl, mk625V⟩⟩, ?_⟩
  refine List.forall_mem_cons.mpr ⟨⟨m_gi6 66 rfl rfl, mj629, Or.inl ⟨rfl, mk629V⟩⟩, ?_⟩
  refine List.forall_mem_cons.mpr ⟨⟨m_gi6 50 rfl rfl, mj628, Or.inl ⟨rfl, mk628V⟩⟩, ?_⟩
  refine List.forall_mem_cons.mpr ⟨⟨m_gi6 70 rfl rfl, mj631, Or.inl ⟨rfl, mk631V⟩⟩, ?_⟩
  refine List.forall_mem_cons.mpr ⟨⟨m_gi6 41 rfl rfl, mj634, Or.inl ⟨rfl, mk634V⟩⟩, ?_⟩
  refine List.forall_mem_cons.mpr ⟨⟨m_gi6 58 rfl rfl, mj632, Or.inl ⟨rfl, mk632V⟩⟩, ?_⟩
  refine List.forall_mem_cons.mpr ⟨⟨m_gi6 62 rfl rfl, mj630, Or.inl ⟨rfl, mk630V⟩⟩, ?_⟩
  refine List.forall_mem_cons.mpr ⟨⟨m_gi6 45 rfl rfl, mj614, Or.inl ⟨rfl, mk614V⟩⟩, ?_⟩
  refine List.forall_mem_cons.mpr ⟨⟨m_gi6 46 rfl rfl, mj635, Or.inl ⟨rfl, mk635V⟩⟩, ?_⟩
  refine List.forall_mem_cons.mpr ⟨⟨m_gi6 54 rfl rfl, mj613, Or.inl ⟨rfl, mk613V⟩⟩, ?_⟩
  exact fun _ h => absurd h List.not_mem_nil
theorem mp4_f : ∀ x ∈ mq4_f, m_fok RX4 x.1 x.2 := by
  unfold mq4_f
  refine List.forall_mem_cons.mpr ⟨⟨(RX4, TX4, 8), rfl, by decide, Or.inl (m_gi1 153 rfl rfl)⟩, ?_⟩
  refine List.forall_mem_cons.mpr ⟨⟨(RX4, TX4, 8), rfl, by decide, Or.inl (m_gi1 154 rfl rfl)⟩, ?_⟩
  refine List.forall_mem_cons.mpr ⟨⟨(RX4, TX4, 8), rfl, by decide, Or.inl (m_gi1 155 rfl rfl)⟩, ?_⟩
  refine List.forall_mem_cons.mpr ⟨⟨(RX4, TX4, 8), rfl, by decide, Or.inl (m_gi1 156 rfl rfl)⟩, ?_⟩
  refine List.forall_mem_cons.mpr ⟨⟨(RX4, TX4, 8), rfl, by decide, Or.inl (m_gi1 157 rfl rfl)⟩, ?_⟩
  refine List.forall_mem_cons.mpr ⟨⟨(RX4, TX4, 8), rfl, by decide, Or.inl (m_gi1 158 rfl rfl)⟩, ?_⟩
  refine List.forall_mem_cons.mpr ⟨⟨(RX4, TX4, 8), rfl, by decide, Or.inl (m_gi1 159 rfl rfl)⟩, ?_⟩
  refine List.forall_mem_cons.mpr ⟨⟨(RX4, TX4, 8), rfl, by decide, Or.inl (m_gi1 160 rfl rfl)⟩, ?_⟩
  refine List.forall_mem_cons.mpr ⟨⟨(RX3, TX3, 20), rfl, by decide, Or.inr ⟨"LendHouse", m_gx2 32 rfl rfl⟩⟩, ?_⟩
  refine List.forall_mem_cons.mpr ⟨⟨(RX8, TX8, 3), rfl, by decide, Or.inr ⟨"LendHouse", m_gx1 198 rfl rfl⟩⟩, ?_⟩
  refine List.forall_mem_cons.mpr ⟨⟨(RX3, TX3, 20), rfl, by decide, Or.inr ⟨"LendHouse", m_gx2 37 rfl rfl⟩⟩, ?_⟩
  refine List.forall_mem_cons.mpr ⟨⟨(RX3, TX3, 20), rfl, by decide, Or.inr ⟨"LendHouse", m_gx1 235 rfl rfl⟩⟩, ?_⟩
  exact fun _ h => absurd h List.not_mem_nil
theorem mp4_g : ∀ x ∈ mq4_f, (m_own RX4 x.2 = true ∧ m_fin x.2 = true) → ∀ r : vw_C, m_cl[x.2.1]? = some r → Cond.fieldLink RX4 x.1 r.1 (r.2.1 x.2.2).2.1 (r.2.1 x.2.2).2.2.1 ∈ m_Ts := by
  unfold mq4_f
  refine List.forall_mem_cons.mpr ⟨fun _ r hr => by cases hr; exact m_gi1 153 rfl rfl, ?_⟩
  refine List.forall_mem_cons.mpr ⟨fun _ r hr => by cases hr; exact m_gi1 154 rfl rfl, ?_⟩
  refine List.forall_mem_cons.mpr ⟨fun _ r hr => by cases hr; exact m_gi1 155 rfl rfl, ?_⟩
  refine List.forall_mem_cons.mpr ⟨fun _ r hr => by cases hr; exact m_gi1 156 rfl rfl, ?_⟩
  refine List.forall_mem_cons.mpr ⟨fun _ r hr => by cases hr; exact m_gi1 157 rfl rfl, ?_⟩
  refine List.forall_mem_cons.mpr ⟨fun _ r hr => by cases hr; exact m_gi1 158 rfl rfl, ?_⟩
  refine List.forall_mem_cons.mpr ⟨fun h => absurd h.2 (by decide +kernel), ?_⟩
  refine List.forall_mem_cons.mpr ⟨fun h => absurd h.2 (by decide +kernel), ?_⟩
  refine List.forall_mem_cons.mpr ⟨fun h => absurd h.1 (by decide +kernel), ?_⟩
  refine List.forall_mem_cons.mpr ⟨fun h => absurd h.2 (by decide +kernel), ?_⟩
  refine List.forall_mem_cons.mpr ⟨fun h => absurd h.1 (by decide +kernel), ?_⟩
  refine List.forall_mem_cons.mpr ⟨fun h => absurd h.2 (by decide +kernel), ?_⟩
  exact fun _ h => absurd h List.not_mem_nil
theorem mp4_c : ∀ x ∈ mq4_c, ∃ r, m_cl[x.2]? = some r ∧ Cond.classLink RX4 x.1 r.1 ∈ m_Ts := by
  unfold mq4_c
  exact fun _ h => absurd h List.not_mem_nil
theorem mp4_s : ∀ x ∈ mq4_s, ∃ tx, (RX4, x.1, tx, x.2) ∈ m_strs := by
  unfold mq4_s
  exact fun _ h => absurd h List.not_mem_nil
theorem mp4_l : ∀ x ∈ mq4_l, Cond.constantLong RX4 x.1 x.2 ∈ m_Ts := by
  unfold mq4_l
  exact fun _ h => absurd h List.not_mem_nil
theorem mp4_i : ∀ x ∈ mq4_i, Cond.constant RX4 x.1 x.2 ∈ m_Ts := by
  unfold mq4_i
  refine List.forall_mem_cons.mpr ⟨m_gi2 208 rfl rfl, ?_⟩
  exact fun _ h => absurd h List.not_mem_nil
theorem mp4_m : ∀ x ∈ mq4_m, m_eok RX4 x.1 x.2 := by
  unfold mq4_m
  refine List.forall_mem_cons.mpr ⟨⟨by decide, m_gi1 152 rfl rfl⟩, ?_⟩
  refine List.forall_mem_cons.mpr ⟨⟨m_gi2 209 rfl rfl, mj1604, Or.inl ⟨rfl, mk1604V⟩⟩, ?_⟩
  refine List.forall_mem_cons.mpr ⟨⟨m_gi2 210 rfl rfl, mj607, Or.inl ⟨rfl, mk607V⟩⟩, ?_⟩
  refine List.forall_mem_cons.mpr ⟨⟨m_gi2 217 rfl rfl, mj802, Or.inl ⟨rfl, mk802V⟩⟩, ?_⟩
  refine List.forall_mem_cons.mpr ⟨⟨m_gi2 221 rfl rfl, mj803, Or.inl ⟨rfl, mk803V⟩⟩, ?_⟩
  refine List.forall_mem_cons.mpr ⟨⟨by decide, m_gi2 226 rfl rfl⟩, ?_⟩
  refine List.forall_mem_cons.mpr ⟨⟨by decide, m_gi2 227 rfl rfl⟩, ?_⟩
  refine List.forall_mem_cons.mpr ⟨⟨by decide, m_gi2 225 rfl rfl⟩, ?_⟩
  exact fun _ h => absurd h List.not_mem_nil
theorem mp5_f : ∀ x ∈ mq5_f, m_fok RX5 x.1 x.2 := by
  unfold mq5_f
  refine List.forall_mem_cons.mpr ⟨⟨(RX3, TX3, 20), rfl, by decide, Or.inr ⟨"LendHouse", m_gx2 23 rfl rfl⟩⟩, ?_⟩
  refine List.forall_mem_cons.mpr ⟨⟨(RX8, TX8, 3), rfl, by decide, Or.inr ⟨"LendHouse", m_gx1 202 rfl rfl⟩⟩, ?_⟩
  refine List.forall_mem_cons.mpr ⟨⟨(RX3, TX3, 20), rfl, by decide, Or.inr ⟨"LendHouse", m_gx2 0 rfl rfl⟩⟩, ?_⟩
  refine List.forall_mem_cons.mpr ⟨⟨(RX3, TX3, 20), rfl, by decide, Or.inr ⟨"LendHouse", m_gx2 48 rfl rfl⟩⟩, ?_⟩
  refine List.forall_mem_cons.mpr ⟨⟨(RX3, TX3, 20), rfl, by decide, Or.inr ⟨"LendHouse", m_gx2 43 rfl rfl⟩⟩, ?_⟩
  refine List.forall_mem_cons.mpr ⟨⟨(RX3, TX3, 20), rfl, by decide, Or.inr ⟨"LendHouse", m_gx2 19 rfl rfl⟩⟩, ?_⟩
  refine List.forall_mem_cons.mpr ⟨⟨(RX3, TX3, 20), rfl, by decide, Or.inr ⟨"LendHouse", m_gx2 51 rfl rfl⟩⟩, ?_⟩
  exact fun _ h => absurd h List.not_mem_nil
theorem mp5_g : ∀ x ∈ mq5_f, (m_own RX5 x.2 = true ∧ m_fin x.2 = true) → ∀ r : vw_C, m_cl[x.2.1]? = some r → Cond.fieldLink RX5 x.1 r.1 (r.2.1 x.2.2).2.1 (r.2.1 x.2.2).2.2.1 ∈ m_Ts := by
  unfold mq5_f
  refine List.forall_mem_cons.mpr ⟨fun h => absurd h.1 (by decide +kernel), ?_⟩
  refine List.forall_mem_cons.mpr ⟨fun h => absurd h.2 (by decide +kernel), ?_⟩
  refine List.forall_mem_cons.mpr ⟨fun h => absurd h.2 (by decide +kernel), ?_⟩
  refine List.forall_mem_cons.mpr ⟨fun h => absurd h.1 (by decide +kernel), ?_⟩
  refine List.forall_mem_cons.mpr ⟨fun h => absurd h.1 (by decide +kernel), ?_⟩
  refine List.forall_mem_cons.mpr ⟨fun h => absurd h.1 (by decide +kernel), ?_⟩
  refine List.forall_mem_cons.mpr ⟨fun h => absurd h.1 (by decide +kernel), ?_⟩
  exact fun _ h => absurd h List.not_mem_nil
theorem mp5_c : ∀ x ∈ mq5_c, ∃ r, m_cl[x.2]? = some r ∧ Cond.classLink RX5 x.1 r.1 ∈ m_Ts := by
  unfold mq5_c
  exact fun _ h => absurd h List.not_mem_nil
theorem mp5_s : ∀ x ∈ mq5_s, ∃ tx, (RX5, x.1, tx, x.2) ∈ m_strs := by
  unfold mq5_s
  exact fun _ h => absurd h List.not_mem_nil
theorem mp5_l : ∀ x ∈ mq5_l, Cond.constantLong RX5 x.1 x.2 ∈ m_Ts := by
  unfold mq5_l
  refine List.forall_mem_cons.mpr ⟨m_gi6 220 rfl rfl, ?_⟩
  exact fun _ h => absurd h List.not_mem_nil
theorem mp5_i : ∀ x ∈ mq5_i, Cond.constant RX5 x.1 x.2 ∈ m_Ts := by
  unfold mq5_i
  exact fun _ h => absurd h List.not_mem_nil
theorem mp5_m : ∀ x ∈ mq5_m, m_eok RX5 x.1 x.2 := by
  unfold mq5_m
  refine List.forall_mem_cons.mpr ⟨⟨m_gi6 214 rfl rfl, mj1604, Or.inl ⟨rfl, mk1604V⟩⟩, ?_⟩
  refine List.forall_mem_cons.mpr ⟨⟨m_gi6 215 rfl rfl, mj614, Or.inl ⟨rfl, mk614V⟩⟩, ?_⟩
  refine List.forall_mem_cons.mpr ⟨⟨m_gi6 211 rfl rfl, mj1000, Or.inr (Or.inr ⟨rfl, mk1000S⟩)⟩, ?_⟩
  refine List.forall_mem_cons.mpr ⟨⟨m_gi6 216 rfl rfl, mj1002, Or.inr (Or.inr ⟨rfl, mk1002S⟩)⟩, ?_⟩
  refine List.forall_mem_cons.mpr ⟨⟨m_gi6 219 rfl rfl, mj616, Or.inl ⟨rfl, mk616V⟩⟩, ?_⟩
  refine List.forall_mem_cons.mpr ⟨⟨m_gi6 234 rfl rfl, mj1004, Or.inr (Or.inr ⟨rfl, mk1004S⟩)⟩, ?_⟩
  refine List.forall_mem_cons.mpr ⟨⟨m_gi6 237 rfl rfl, mj204, Or.inl ⟨rfl, mk204V⟩⟩, ?_⟩
  refine List.forall_mem_cons.mpr ⟨⟨m_gi6 228 rfl rfl, mj1006, Or.inr (Or.inr ⟨rfl, mk1006S⟩)⟩, ?_⟩
  refine List.forall_mem_cons.mpr ⟨⟨m_gi6 231 rfl rfl, mj1005, Or.inr (Or.inr ⟨rfl, mk1005S⟩)⟩, ?_⟩
  refine List.forall_mem_cons.mpr ⟨⟨by decide, m_gi7 1 rfl rfl⟩, ?_⟩
  refine List.forall_mem_cons.mpr ⟨⟨m_gi7 19 rfl rfl, mj603, Or.inr (Or.inr ⟨rfl, mk603S⟩)⟩, ?_⟩
  refine List.forall_mem_cons.mpr ⟨⟨m_gi7 20 rfl rfl, mj1011, Or.inr (Or.inr ⟨rfl, mk1011S⟩)⟩, ?_⟩
  refine List.forall_mem_cons.mpr ⟨⟨m_gi7 23 rfl rfl, mj1010, Or.inr (Or.inr ⟨rfl, mk1010S⟩)⟩, ?_⟩
  refine List.forall_mem_cons.mpr ⟨⟨m_gi7 26 rfl rfl, mj606, Or.inl ⟨rfl, mk606V⟩⟩, ?_⟩
  refine List.forall_mem_cons.mpr ⟨⟨by decide, m_gi7 65 rfl rfl⟩, ?_⟩
  exact fun _ h => absurd h List.not_mem_nil
theorem mp6_f : ∀ x ∈ mq6_f, m_fok RX6 x.1 x.2 := by
  unfold mq6_f
  refine List.forall_mem_cons.mpr ⟨⟨(RX3, TX3, 20), rfl, by decide, Or.inr ⟨"LendHouse", m_gx2 26 rfl rfl⟩⟩, ?_⟩
  refine List.forall_mem_cons.mpr ⟨⟨(RX8, TX8, 3), rfl, by decide, Or.inr ⟨"LendHouse", m_gx1 201 rfl rfl⟩⟩, ?_⟩
  refine List.forall_mem_cons.mpr ⟨⟨(RX3, TX3, 20), rfl, by decide, Or.inr ⟨"LendHouse", m_gx1 238 rfl rfl⟩⟩, ?_⟩
  refine List.forall_mem_cons.mpr ⟨⟨(RX3, TX3, 20), rfl, by decide, Or.inr ⟨"LendHouse", m_gx2 3 rfl rfl⟩⟩, ?_⟩
  refine List.forall_mem_cons.mpr ⟨⟨(RX3, TX3, 20), rfl, by decide, Or.inr ⟨"LendHouse", m_gx2 7 rfl rfl⟩⟩, ?_⟩
  refine List.forall_mem_cons.mpr ⟨⟨(RX3, TX3, 20), rfl, by decide, Or.inr ⟨"LendHouse", m_gx2 59 rfl rfl⟩⟩, ?_⟩
  refine List.forall_mem_cons.mpr ⟨⟨(RX3, TX3, 20), rfl, by decide, Or.inr ⟨"LendHouse", m_gx2 62 rfl rfl⟩⟩, ?_⟩
  exact fun _ h => absurd h List.not_mem_nil
theorem mp6_g : ∀ x ∈ mq6_f, (m_own RX6 x.2 = true ∧ m_fin x.2 = true) → ∀ r : vw_C, m_cl[x.2.1]? = some r → Cond.fieldLink RX6 x.1 r.1 (r.2.1 x.2.2).2.1 (r.2.1 x.2.2).2.2.1 ∈ m_Ts := by
  unfold mq6_f
  refine List.forall_mem_cons.mpr ⟨fun h => absurd h.1 (by decide +kernel), ?_⟩
  refine List.forall_mem_cons.mpr ⟨fun h => absurd h.2 (by decide +kernel), ?_⟩
  refine List.forall_mem_cons.mpr ⟨fun h => absurd h.2 (by decide +kernel), ?_⟩
  refine List.forall_mem_cons.mpr ⟨fun h => absurd h.2 (by decide +kernel), ?_⟩
  refine List.forall_mem_cons.mpr ⟨fun h => absurd h.2 (by decide +kernel), ?_⟩
  refine List.forall_mem_cons.mpr ⟨fun h => absurd h.1 (by decide +kernel), ?_⟩
  refine List.forall_mem_cons.mpr ⟨fun h => absurd h.1 (by decide +kernel), ?_⟩
  exact fun _ h => absurd h List.not_mem_nil
theorem mp6_c : ∀ x ∈ mq6_c, ∃ r, m_cl[x.2]? = some r ∧ Cond.classLink RX6 x.1 r.1 ∈ m_Ts := by
  unfold mq6_c
  exact fun _ h => absurd h List.not_mem_nil
theorem mp6_s : ∀ x ∈ mq6_s, ∃ tx, (RX6, x.1, tx, x.2) ∈ m_strs := by
  unfold mq6_s
  exact fun _ h => absurd h List.not_mem_nil
theorem mp6_l : ∀ x ∈ mq6_l, Cond.constantLong RX6 x.1 x.2 ∈ m_Ts := by
  unfold mq6_l
  exact fun _ h => absurd h List.not_mem_nil
theorem mp6_i : ∀ x ∈ mq6_i, Cond.constant RX6 x.1 x.2 ∈ m_Ts := by
  unfold mq6_i
  exact fun _ h => absurd h List.not_mem_nil
theorem mp6_m : ∀ x ∈ mq6_m, m_eok RX6 x.1 x.2 := by
  unfold mq6_m
  refine List.forall_mem_cons.mpr ⟨⟨m_gi3 8 rfl rfl, mj615, Or.inl ⟨rfl, mk615V⟩⟩, ?_⟩
  refine List.forall_mem_cons.mpr ⟨⟨m_gi3 5 rfl rfl, mj1201, Or.inr (Or.inr ⟨rfl, mk1201S⟩)⟩, ?_⟩
  refine List.forall_mem_cons.mpr ⟨⟨by decide, m_gi3 16 rfl rfl⟩, ?_⟩
  refine List.forall_mem_cons.mpr ⟨⟨m_gi3 17 rfl rfl, mj1200, Or.inr (Or.inr ⟨rfl, mk1200S⟩)⟩, ?_⟩
  refine List.forall_mem_cons.mpr ⟨⟨m_gi3 20 rfl rfl, mj619, Or.inl ⟨rfl, mk619V⟩⟩, ?_⟩
  refine List.forall_mem_cons.mpr ⟨⟨m_gi3 24 rfl rfl, mj1604, Or.inl ⟨rfl, mk1604V⟩⟩, ?_⟩
  refine List.forall_mem_cons.mpr ⟨⟨m_gi3 25 rfl rfl, mj606, Or.inl ⟨rfl, mk606V⟩⟩, ?_⟩
  refine List.forall_mem_cons.mpr ⟨⟨m_gi3 36 rfl rfl, mj1203, Or.inr (Or.inr ⟨rfl, mk1203S⟩)⟩, ?_⟩
  refine List.forall_mem_cons.mpr ⟨⟨m_gi3 46 rfl rfl, mj1207, Or.inr (Or.inr ⟨rfl, mk1207S⟩)⟩, ?_⟩
  refine List.forall_mem_cons.mpr ⟨⟨m_gi3 49 rfl rfl, mj2800, Or.inr (Or.inr ⟨rfl, mk2800S⟩)⟩, ?_⟩
  refine List.forall_mem_cons.mpr ⟨⟨m_gi3 55 rfl rfl, mj1206, Or.inr (Or.inr ⟨rfl, mk1206S⟩)⟩, ?_⟩
  exact fun _ h => absurd h List.not_mem_nil
theorem mp7_f : ∀ x ∈ mq7_f, m_fok RX7 x.1 x.2 := by
  unfold mq7_f
  refine List.forall_mem_cons.mpr ⟨⟨(RX7, TX7, 10), rfl, by decide, Or.inl (m_gi1 82 rfl rfl)⟩, ?_⟩
  refine List.forall_mem_cons.mpr ⟨⟨(RX7, TX7, 10), rfl, by decide, Or.inl (m_gi1 95 rfl rfl)⟩, ?_⟩
  refine List.forall_mem_cons.mpr ⟨⟨(RX7, TX7, 10), rfl, by decide, Or.inl (m_gi1 88 rfl rfl)⟩, ?_⟩
  refine List.forall_mem_cons.mpr ⟨⟨(RX7, TX7, 10), rfl, by decide, Or.inl (m_gi1 89 rfl rfl)⟩, ?_⟩
  refine List.forall_mem_cons.mpr ⟨⟨(RX7, TX7, 10), rfl, by decide, Or.inl (m_gi1 91 rfl rfl)⟩, ?_⟩
  refine List.forall_mem_cons.mpr ⟨⟨(RX7, TX7, 10), rfl, by decide, Or.inl (m_gi1 85 rfl rfl)⟩, ?_⟩
  refine List.forall_mem_cons.mpr ⟨⟨(RX7, TX7, 10), rfl, by decide, Or.inl (m_gi1 94 rfl rfl)⟩, ?_⟩
  refine List.forall_mem_cons.mpr ⟨⟨(RX7, TX7, 10), rfl, by decide, Or.inl (m_gi1 98 rfl rfl)⟩, ?_⟩
  refine List.forall_mem_cons.mpr ⟨⟨(RX7, TX7, 10), rfl, by decide, Or.inl (m_gi1 84 rfl rfl)⟩, ?_⟩
  refine List.forall_mem_cons.mpr ⟨⟨(RX7, TX7, 10), rfl, by decide, Or.inl (m_gi1 83 rfl rfl)⟩, ?_⟩
  refine List.forall_mem_cons.mpr ⟨⟨(RX9, TX9, 8), rfl, by decide, Or.inr ⟨"LendHouse", m_gx1 56 rfl rfl⟩⟩, ?_⟩
  refine List.forall_mem_cons.mpr ⟨⟨(RX9, TX9, 8), rfl, by decide, Or.inr ⟨"LendHouse", m_gx1 53 rfl rfl⟩⟩, ?_⟩
  refine List.forall_mem_cons.mpr ⟨⟨(RX9, TX9, 8), rfl, by decide, Or.inr ⟨"LendHouse", m_gx1 48 rfl rfl⟩⟩, ?_⟩
  refine List.forall_mem_cons.mpr ⟨⟨(RX9, TX9, 8), rfl, by decide, Or.inr ⟨"LendHouse", m_gx1 51 rfl rfl⟩⟩, ?_⟩
  exact fun _ h => absurd h List.not_mem_nil
theorem mp7_g : ∀ x ∈ mq7_f, (m_own RX7 x.2 = true ∧ m_fin x.2 = true) → ∀ r : vw_C, m_cl[x.2.1]? = some r → Cond.fieldLink RX7 x.1 r.1 (r.2.1 x.2.2).2.1 (r.2.1 x.2.2).2.2.1 ∈ m_Ts := by
  unfold mq7_f
  refine List.forall_mem_cons.mpr ⟨fun _ r hr => by cases hr; exact m_gi1 82 rfl rfl, ?_⟩
  refine List.forall_mem_cons.mpr ⟨fun _ r hr => by cases hr; exact m_gi1 95 rfl rfl, ?_⟩
  refine List.forall_mem_cons.mpr ⟨fun _ r hr => by cases hr; exact m_gi1 88 rfl rfl, ?_⟩
  refine List.forall_mem_cons.mpr ⟨fun _ r hr => by cases hr; exact m_gi1 89 rfl rfl, ?_⟩
  refine List.forall_mem_cons.mpr ⟨fun _ r hr => by cases hr; exact m_gi1 91 rfl rfl, ?_⟩
  refine List.forall_mem_cons.mpr ⟨fun h => absurd h.2 (by decide +kernel), ?_⟩
  refine List.forall_mem_cons.mpr ⟨fun h => absurd h.2 (by decide +kernel), ?_⟩
  refine List.forall_mem_cons.mpr ⟨fun h => absurd h.2 (by decide +kernel), ?_⟩
  refine List.forall_mem_cons.mpr ⟨fun h => absurd h.2 (by decide +kernel), ?_⟩
  refine List.forall_mem_cons.mpr ⟨fun h => absurd h.2 (by decide +kernel), ?_⟩
  refine List.forall_mem_cons.mpr ⟨fun h => absurd h.2 (by decide +kernel), ?_⟩
  refine List.forall_mem_cons.mpr ⟨fun h => absurd h.1 (by decide +kernel), ?_⟩
  refine List.forall_mem_cons.mpr ⟨fun h => absurd h.2 (by decide +kernel), ?_⟩
  refine List.forall_mem_cons.mpr ⟨fun h => absurd h.1 (by decide +kernel), ?_⟩
  exact fun _ h => absurd h List.not_mem_nil
theorem mp7_c : ∀ x ∈ mq7_c, ∃ r, m_cl[x.2]? = some r ∧ Cond.classLink RX7 x.1 r.1 ∈ m_Ts := by
  unfold mq7_c
  exact fun _ h => absurd h List.not_mem_nil
theorem mp7_s : ∀ x ∈ mq7_s, ∃ tx, (RX7, x.1, tx, x.2) ∈ m_strs := by
  unfold mq7_s
  exact fun _ h => absurd h List.not_mem_nil
theorem mp7_l : ∀ x ∈ mq7_l, Cond.constantLong RX7 x.1 x.2 ∈ m_Ts := by
  unfold mq7_l
  exact fun _ h => absurd h List.not_mem_nil
theorem mp7_i : ∀ x ∈ mq7_i, Cond.constant RX7 x.1 x.2 ∈ m_Ts := by
  unfold mq7_i
  exact fun _ h => absurd h List.not_mem_nil
theorem mp7_m : ∀ x ∈ mq7_m, m_eok RX7 x.1 x.2 := by
  unfold mq7_m
  refine List.forall_mem_cons.mpr ⟨⟨by decide, m_gi1 81 rfl rfl⟩, ?_⟩
  refine List.forall_mem_cons.mpr ⟨⟨m_gi4 133 rfl rfl, mj1803, Or.inl ⟨rfl, mk1803V⟩⟩, ?_⟩
  refine List.forall_mem_cons.mpr ⟨⟨m_gi5 7 rfl rfl, mj1409, Or.inl ⟨rfl, mk1409V⟩⟩, ?_⟩
  refine List.forall_mem_cons.mpr ⟨⟨m_gi5 11 rfl rfl, mj1402, Or.inl ⟨rfl, mk1402V⟩⟩, ?_⟩
  refine List.forall_mem_cons.mpr ⟨⟨m_gi5 15 rfl rfl, mj1408, Or.inl ⟨rfl, mk1408V⟩⟩, ?_⟩
  refine List.forall_mem_cons.mpr ⟨⟨m_gi5 19 rfl rfl, mj1811, Or.inl ⟨rfl, mk1811V⟩⟩, ?_⟩
  refine List.forall_mem_cons.mpr ⟨⟨m_gi5 23 rfl rfl, mj1404, Or.inl ⟨rfl, mk1404V⟩⟩, ?_⟩
  refine List.forall_mem_cons.mpr ⟨⟨m_gi5 43 rfl rfl, mj1403, Or.inl ⟨rfl, mk1403V⟩⟩, ?_⟩
  refine List.forall_mem_cons.mpr ⟨⟨m_gi5 27 rfl rfl, mj1405, Or.inl ⟨rfl, mk1405V⟩⟩, ?_⟩
  refine List.forall_mem_cons.mpr ⟨⟨m_gi5 39 rfl rfl, mj1410, Or.inl ⟨rfl, mk1410V⟩⟩, ?_⟩
  refine List.forall_mem_cons.mpr ⟨⟨m_gi5 31 rfl rfl, mj1406, Or.inl ⟨rfl, mk1406V⟩⟩, ?_⟩
  refine List.forall_mem_cons.mpr ⟨⟨m_gi5 35 rfl rfl, mj1407, Or.inl ⟨rfl, mk1407V⟩⟩, ?_⟩
  exact fun _ h => absurd h List.not_mem_nil
theorem mp8_f : ∀ x ∈ mq8_f, m_fok RX8 x.1 x.2 := by
  unfold mq8_f
  refine List.forall_mem_cons.mpr ⟨⟨(RX8, TX8, 3), rfl, by decide, Or.inl (m_gi1 195 rfl rfl)⟩, ?_⟩
  refine List.forall_mem_cons.mpr ⟨⟨(RX8, TX8, 3), rfl, by decide, Or.inl (m_gi1 196 rfl rfl)⟩, ?_⟩
  refine List.forall_mem_cons.mpr ⟨⟨(RX8, TX8, 3), rfl, by decide, Or.inl (m_gi1 197 rfl rfl)⟩, ?_⟩
  exact fun _ h => absurd h List.not_mem_nil
theorem mp8_g : ∀ x ∈ mq8_f, (m_own RX8 x.2 = true ∧ m_fin x.2 = true) → ∀ r : vw_C, m_cl[x.2.1]? = some r → Cond.fieldLink RX8 x.1 r.1 (r.2.1 x.2.2).2.1 (r.2.1 x.2.2).2.2.1 ∈ m_Ts := by
  unfold mq8_f
  refine List.forall_mem_cons.mpr ⟨fun _ r hr => by cases hr; exact m_gi1 195 rfl rfl, ?_⟩
  refine List.forall_mem_cons.mpr ⟨fun _ r hr => by cases hr; exact m_gi1 196 rfl rfl, ?_⟩
  refine List.forall_mem_cons.mpr ⟨fun h => absurd h.2 (by decide +kernel), ?_⟩
  exact fun _ h => absurd h List.not_mem_nil
theorem mp8_c : ∀ x ∈ mq8_c, ∃ r, m_cl[x.2]? = some r ∧ Cond.classLink RX8 x.1 r.1 ∈ m_Ts := by
  unfold mq8_c
  exact fun _ h => absurd h List.not_mem_nil
theorem mp8_s : ∀ x ∈ mq8_s, ∃ tx, (RX8, x.1, tx, x.2) ∈ m_strs := by
  unfold mq8_s
  exact fun _ h => absurd h List.not_mem_nil
theorem mp8_l : ∀ x ∈ mq8_l, Cond.constantLong RX8 x.1 x.2 ∈ m_Ts := by
  unfold mq8_l
  exact fun _ h => absurd h List.not_mem_nil
theorem mp8_i : ∀ x ∈ mq8_i, Cond.constant RX8 x.1 x.2 ∈ m_Ts := by
  unfold mq8_i
  exact fun _ h => absurd h List.not_mem_nil
theorem mp8_m : ∀ x ∈ mq8_m, m_eok RX8 x.1 x.2 := by
  unfold mq8_m
  refine List.forall_mem_cons.mpr ⟨⟨by decide, m_gi1 191 rfl rfl⟩, ?_⟩
  refine List.forall_mem_cons.mpr ⟨⟨by decide, m_gi1 192 rfl rfl⟩, ?_⟩
  refine List.forall_mem_cons.mpr ⟨⟨m_gi1 228 rfl rfl, mj1603, Or.inl ⟨rfl, mk1603V⟩⟩, ?_⟩
  refine List.forall_mem_cons.mpr ⟨⟨m_gi1 220 rfl rfl, mj1602, Or.inl ⟨rfl, mk1602V⟩⟩, ?_⟩
  refine List.forall_mem_cons.mpr ⟨⟨m_gi1 224 rfl rfl, mj1605, Or.inl ⟨rfl, mk1605V⟩⟩, ?_⟩
  refine List.forall_mem_cons.mpr ⟨⟨m_gi3 114 rfl rfl, mj1604, Or.inl ⟨rfl, mk1604V⟩⟩, ?_⟩
  refine List.forall_mem_cons.mpr ⟨⟨by decide, m_gi3 70 rfl rfl⟩, ?_⟩
  exact fun _ h => absurd h List.not_mem_nil
theorem mp9_f : ∀ x ∈ mq9_f, m_fok RX9 x.1 x.2 := by
  unfold mq9_f
  refine List.forall_mem_cons.mpr ⟨⟨(RX9, TX9, 8), rfl, by decide, Or.inl (m_gi1 44 rfl rfl)⟩, ?_⟩
  refine List.forall_mem_cons.mpr ⟨⟨(RX9, TX9, 8), rfl, by decide, Or.inl (m_gi1 50 rfl rfl)⟩, ?_⟩
  refine List.forall_mem_cons.mpr ⟨⟨(RX9, TX9, 8), rfl, by decide, Or.inl (m_gi1 52 rfl rfl)⟩, ?_⟩
  refine List.forall_mem_cons.mpr ⟨⟨(RX9, TX9, 8), rfl, by decide, Or.inl (m_gi1 54 rfl rfl)⟩, ?_⟩
  refine List.forall_mem_cons.mpr ⟨⟨(RX9, TX9, 8), rfl, by decide, Or.inl (m_gi1 46 rfl rfl)⟩, ?_⟩
  refine List.forall_mem_cons.mpr ⟨⟨(RX9, TX9, 8), rfl, by decide, Or.inl (m_gi1 47 rfl rfl)⟩, ?_⟩
  refine List.forall_mem_cons.mpr ⟨⟨(RX9, TX9, 8), rfl, by decide, Or.inl (m_gi1 49 rfl rfl)⟩, ?_⟩
  refine List.forall_mem_cons.mpr ⟨⟨(RX9, TX9, 8), rfl, by decide, Or.inl (m_gi1 55 rfl rfl)⟩, ?_⟩
  exact fun _ h => absurd h List.not_mem_nil
theorem mp9_g : ∀ x ∈ mq9_f, (m_own RX9 x.2 = true ∧ m_fin x.2 = true) → ∀ r : vw_C, m_cl[x.2.1]? = some r → Cond.fieldLink RX9 x.1 r.1 (r.2.1 x.2.2).2.1 (r.2.1 x.2.2).2.2.1 ∈ m_Ts := by
  unfold mq9_f
  refine List.forall_mem_cons.mpr ⟨fun _ r hr => by cases hr; exact m_gi1 44 rfl rfl, ?_⟩
  refine List.forall_mem_cons.mpr ⟨fun _ r hr => by cases hr; exact m_gi1 50 rfl rfl, ?_⟩
  refine List.forall_mem_cons.mpr ⟨fun _ r hr => by cases hr; exact m_gi1 52 rfl rfl, ?_⟩
  refine List.forall_mem_cons.mpr ⟨fun _ r hr => by cases hr; exact m_gi1 54 rfl rfl, ?_⟩
  refine List.forall_mem_cons.mpr ⟨fun h => absurd h.2 (by decide +kernel), ?_⟩
  refine List.forall_mem_cons.mpr ⟨fun h => absurd h.2 (by decide +kernel), ?_⟩
  refine List.forall_mem_cons.mpr ⟨fun h => absurd h.2 (by decide +kernel), ?_⟩
  refine List.forall_mem_cons.mpr ⟨fun h => absurd h.2 (by decide +kernel), ?_⟩
  exact fun _ h => absurd h List.not_mem_nil
theorem mp9_c : ∀ x ∈ mq9_c, ∃ r, m_cl[x.2]? = some r ∧ Cond.classLink RX9 x.1 r.1 ∈ m_Ts := by
  unfold mq9_c
  exact fun _ h => absurd h List.not_mem_nil
theorem mp9_s : ∀ x ∈ mq9_s, ∃ tx, (RX9, x.1, tx, x.2) ∈ m_strs := by
  unfold mq9_s
  refine List.forall_mem_cons.mpr ⟨⟨"lend", List.mem_of_getElem? (i := 10) (by decide +kernel)⟩, ?_⟩
  refine List.forall_mem_cons.mpr ⟨⟨"mark", List.mem_of_getElem? (i := 11) (by decide +kernel)⟩, ?_⟩
  refine List.forall_mem_cons.mpr ⟨⟨"owe", List.mem_of_getElem? (i := 12) (by decide +kernel)⟩, ?_⟩
  refine List.forall_mem_cons.mpr ⟨⟨"give", List.mem_of_getElem? (i := 13) (by decide +kernel)⟩, ?_⟩
  refine List.forall_mem_cons.mpr ⟨⟨"if", List.mem_of_getElem? (i := 14) (by decide +kernel)⟩, ?_⟩
  refine List.forall_mem_cons.mpr ⟨⟨"or", List.mem_of_getElem? (i := 15) (by decide +kernel)⟩, ?_⟩
  refine List.forall_mem_cons.mpr ⟨⟨"and", List.mem_of_getElem? (i := 16) (by decide +kernel)⟩, ?_⟩
  refine List.forall_mem_cons.mpr ⟨⟨"not", List.mem_of_getElem? (i := 17) (by decide +kernel)⟩, ?_⟩
  refine List.forall_mem_cons.mpr ⟨⟨"land", List.mem_of_getElem? (i := 18) (by decide +kernel)⟩, ?_⟩
  refine List.forall_mem_cons.mpr ⟨⟨"sort", List.mem_of_getElem? (i := 19) (by decide +kernel)⟩, ?_⟩
  refine List.forall_mem_cons.mpr ⟨⟨"week", List.mem_of_getElem? (i := 20) (by decide +kernel)⟩, ?_⟩
  refine List.forall_mem_cons.mpr ⟨⟨"crates", List.mem_of_getElem? (i := 21) (by decide +kernel)⟩, ?_⟩
  refine List.forall_mem_cons.mpr ⟨⟨"tons", List.mem_of_getElem? (i := 22) (by decide +kernel)⟩, ?_⟩
  refine List.forall_mem_cons.mpr ⟨⟨"price", List.mem_of_getElem? (i := 23) (by decide +kernel)⟩, ?_⟩
  refine List.forall_mem_cons.mpr ⟨⟨"had", List.mem_of_getElem? (i := 24) (by decide +kernel)⟩, ?_⟩
  refine List.forall_mem_cons.mpr ⟨⟨"hunger", List.mem_of_getElem? (i := 25) (by decide +kernel)⟩, ?_⟩
  refine List.forall_mem_cons.mpr ⟨⟨"rocks", List.mem_of_getElem? (i := 26) (by decide +kernel)⟩, ?_⟩
  refine List.forall_mem_cons.mpr ⟨⟨"to", List.mem_of_getElem? (i := 27) (by decide +kernel)⟩, ?_⟩
  exact fun _ h => absurd h List.not_mem_nil
theorem mp9_l : ∀ x ∈ mq9_l, Cond.constantLong RX9 x.1 x.2 ∈ m_Ts := by
  unfold mq9_l
  exact fun _ h => absurd h List.not_mem_nil
theorem mp9_i : ∀ x ∈ mq9_i, Cond.constant RX9 x.1 x.2 ∈ m_Ts := by
  unfold mq9_i
  exact fun _ h => absurd h List.not_mem_nil
theorem mp9_m : ∀ x ∈ mq9_m, m_eok RX9 x.1 x.2 := by
  unfold mq9_m
  refine List.forall_mem_cons.mpr ⟨⟨by decide, m_gi1 43 rfl rfl⟩, ?_⟩
  refine List.forall_mem_cons.mpr ⟨⟨m_gi4 137 rfl rfl, mj1804, Or.inl ⟨rfl, mk1804V⟩⟩, ?_⟩
  refine List.forall_mem_cons.mpr ⟨⟨m_gi4 145 rfl rfl, mj1810, Or.inl ⟨rfl, mk1810V⟩⟩, ?_⟩
  refine List.forall_mem_cons.mpr ⟨⟨m_gi4 141 rfl rfl, mj1812, Or.inl ⟨rfl, mk1812V⟩⟩, ?_⟩
  refine List.forall_mem_cons.mpr ⟨⟨m_gi4 149 rfl rfl, mj1805, Or.inl ⟨rfl, mk1805V⟩⟩, ?_⟩
  refine List.forall_mem_cons.mpr ⟨⟨m_gi4 153 rfl rfl, mj1813, Or.inr (Or.inr ⟨rfl, mk1813S⟩)⟩, ?_⟩
  refine List.forall_mem_cons.mpr ⟨⟨m_gi4 156 rfl rfl, mj1806, Or.inl ⟨rfl, mk1806V⟩⟩, ?_⟩
  refine List.forall_mem_cons.mpr ⟨⟨m_gi4 160 rfl rfl, mj1814, Or.inr (Or.inr ⟨rfl, mk1814S⟩)⟩, ?_⟩
  refine List.forall_mem_cons.mpr ⟨⟨m_gi4 163 rfl rfl, mj1807, Or.inl ⟨rfl, mk1807V⟩⟩, ?_⟩
  refine List.forall_mem_cons.mpr ⟨⟨m_gi4 167 rfl rfl, mj1808, Or.inl ⟨rfl, mk1808V⟩⟩, ?_⟩
  refine List.forall_mem_cons.mpr ⟨⟨m_gi4 171 rfl rfl, mj1815, Or.inr (Or.inr ⟨rfl, mk1815S⟩)⟩, ?_⟩
  refine List.forall_mem_cons.mpr ⟨⟨m_gi4 195 rfl rfl, mj1809, Or.inl ⟨rfl, mk1809V⟩⟩, ?_⟩
  refine List.forall_mem_cons.mpr ⟨⟨by decide, m_gi4 199 rfl rfl⟩, ?_⟩
  refine List.forall_mem_cons.mpr ⟨⟨by decide, m_gi4 209 rfl rfl⟩, ?_⟩
  refine List.forall_mem_cons.mpr ⟨⟨m_gi4 182 rfl rfl, mj1816, Or.inr (Or.inr ⟨rfl, mk1816S⟩)⟩, ?_⟩
  exact fun _ h => absurd h List.not_mem_nil
theorem mp10_f : ∀ x ∈ mq10_f, m_fok RX10 x.1 x.2 := by
  unfold mq10_f
  refine List.forall_mem_cons.mpr ⟨⟨(RX3, TX3, 20), rfl, by decide, Or.inr ⟨"LendHouse", m_gx1 234 rfl rfl⟩⟩, ?_⟩
  refine List.forall_mem_cons.mpr ⟨⟨(RX3, TX3, 20), rfl, by decide, Or.inr ⟨"LendHouse", m_gx2 9 rfl rfl⟩⟩, ?_⟩
  refine List.forall_mem_cons.mpr ⟨⟨(RX3, TX3, 20), rfl, by decide, Or.inr ⟨"LendHouse", m_gx2 33 rfl rfl⟩⟩, ?_⟩
  refine List.forall_mem_cons.mpr ⟨⟨(RX8, TX8, 3), rfl, by decide, Or.inr ⟨"LendHouse", m_gx1 199 rfl rfl⟩⟩, ?_⟩
  refine List.forall_mem_cons.mpr ⟨⟨(RX3, TX3, 20), rfl, by decide, Or.inr ⟨"LendHouse", m_gx2 36 rfl rfl⟩⟩, ?_⟩
  refine List.forall_mem_cons.mpr ⟨⟨(RX3, TX3, 20), rfl, by decide, Or.inr ⟨"LendHouse", m_gx2 25 rfl rfl⟩⟩, ?_⟩
  refine List.forall_mem_cons.mpr ⟨⟨(RX3, TX3, 20), rfl, by decide, Or.inr ⟨"LendHouse", m_gx2 2 rfl rfl⟩⟩, ?_⟩
  refine List.forall_mem_cons.mpr ⟨⟨(RX3, TX3, 20), rfl, by decide, Or.inr ⟨"LendHouse", m_gx2 6 rfl rfl⟩⟩, ?_⟩
  refine List.forall_mem_cons.mpr ⟨⟨(RX3, TX3, 20), rfl, by decide, Or.inr ⟨"LendHouse", m_gx2 16 rfl rfl⟩⟩, ?_⟩
  refine List.forall_mem_cons.mpr ⟨⟨(RX3, TX3, 20), rfl, by decide, Or.inr ⟨"LendHouse", m_gx2 42 rfl rfl⟩⟩, ?_⟩
  refine List.forall_mem_cons.mpr ⟨⟨(RX3, TX3, 20), rfl, by decide, Or.inr ⟨"LendHouse", m_gx2 54 rfl rfl⟩⟩, ?_⟩
  exact fun _ h => absurd h List.not_mem_nil
theorem mp10_g : ∀ x ∈ mq10_f, (m_own RX10 x.2 = true ∧ m_fin x.2 = true) → ∀ r : vw_C, m_cl[x.2.1]? = some r → Cond.fieldLink RX10 x.1 r.1 (r.2.1 x.2.2).2.1 (r.2.1 x.2.2).2.2.1 ∈ m_Ts := by
  unfold mq10_f
  refine List.forall_mem_cons.mpr ⟨fun h => absurd h.2 (by decide +kernel), ?_⟩
  refine List.forall_mem_cons.mpr ⟨fun h => absurd h.2 (by decide +kernel), ?_⟩
  refine List.forall_mem_cons.mpr ⟨fun h => absurd h.1 (by decide +kernel), ?_⟩
  refine List.forall_mem_cons.mpr ⟨fun h => absurd h.2 (by decide +kernel), ?_⟩
  refine List.forall_mem_cons.mpr ⟨fun h => absurd h.1 (by decide +kernel), ?_⟩
  refine List.forall_mem_cons.mpr ⟨fun h => absurd h.1 (by decide +kernel), ?_⟩
  refine List.forall_mem_cons.mpr ⟨fun h => absurd h.2 (by decide +kernel), ?_⟩
  refine List.forall_mem_cons.mpr ⟨fun h => absurd h.2 (by decide +kernel), ?_⟩
  refine List.forall_mem_cons.mpr ⟨fun h => absurd h.1 (by decide +kernel), ?_⟩
  refine List.forall_mem_cons.mpr ⟨fun h => absurd h.1 (by decide +kernel), ?_⟩
  refine List.forall_mem_cons.mpr ⟨fun h => absurd h.1 (by decide +kernel), ?_⟩
  exact fun _ h => absurd h List.not_mem_nil
theorem mp10_c : ∀ x ∈ mq10_c, ∃ r, m_cl[x.2]? = some r ∧ Cond.classLink RX10 x.1 r.1 ∈ m_Ts := by
  unfold mq10_c
  exact fun _ h => absurd h List.not_mem_nil
theorem mp10_s : ∀ x ∈ mq10_s, ∃ tx, (RX10, x.1, tx, x.2) ∈ m_strs := by
  unfold mq10_s
  exact fun _ h => absurd h List.not_mem_nil
theorem mp10_l : ∀ x ∈ mq10_l, Cond.constantLong RX10 x.1 x.2 ∈ m_Ts := by
  unfold mq10_l
  exact fun _ h => absurd h List.not_mem_nil
theorem mp10_i : ∀ x ∈ mq10_i, Cond.constant RX10 x.1 x.2 ∈ m_Ts := by
  unfold mq10_i
  exact fun _ h => absurd h List.not_mem_nil
theorem mp10_m : ∀ x ∈ mq10_m, m_eok RX10 x.1 x.2 := by
  unfold mq10_m
  refine List.forall_mem_cons.mpr ⟨⟨m_gi6 134 rfl rfl, mj2001, Or.inr (Or.inr ⟨rfl, mk2001S⟩)⟩, ?_⟩
  refine List.forall_mem_cons.mpr ⟨⟨m_gi6 140 rfl rfl, mj2002, Or.inr (Or.inr ⟨rfl, mk2002S⟩)⟩, ?_⟩
  refine List.forall_mem_cons.mpr ⟨⟨m_gi6 144 rfl rfl, mj1604, Or.inl ⟨rfl, mk1604V⟩⟩, ?_⟩
  refine List.forall_mem_cons.mpr ⟨⟨m_gi6 150 rfl rfl, mj2004, Or.inr (Or.inr ⟨rfl, mk2004S⟩)⟩, ?_⟩
  refine List.forall_mem_cons.mpr ⟨⟨m_gi6 170 rfl rfl, mj2009, Or.inr (Or.inr ⟨rfl, mk2009S⟩)⟩, ?_⟩
  refine List.forall_mem_cons.mpr ⟨⟨m_gi6 148 rfl rfl, mj1606, Or.inl ⟨rfl, mk1606V⟩⟩, ?_⟩
  refine List.forall_mem_cons.mpr ⟨⟨m_gi6 178 rfl rfl, mj2011, Or.inr (Or.inr ⟨rfl, mk2011S⟩)⟩, ?_⟩
  refine List.forall_mem_cons.mpr ⟨⟨m_gi6 137 rfl rfl, mj615, Or.inl ⟨rfl, mk615V⟩⟩, ?_⟩
  refine List.forall_mem_cons.mpr ⟨⟨m_gi6 138 rfl rfl, mj619, Or.inl ⟨rfl, mk619V⟩⟩, ?_⟩
  refine List.forall_mem_cons.mpr ⟨⟨m_gi6 139 rfl rfl, mj1605, Or.inl ⟨rfl, mk1605V⟩⟩, ?_⟩
  refine List.forall_mem_cons.mpr ⟨⟨m_gi6 143 rfl rfl, mj616, Or.inl ⟨rfl, mk616V⟩⟩, ?_⟩
  refine List.forall_mem_cons.mpr ⟨⟨m_gi6 145 rfl rfl, mj2003, Or.inr (Or.inr ⟨rfl, mk2003S⟩)⟩, ?_⟩
  refine List.forall_mem_cons.mpr ⟨⟨m_gi6 149 rfl rfl, mj617, Or.inl ⟨rfl, mk617V⟩⟩, ?_⟩
  refine List.forall_mem_cons.mpr ⟨⟨m_gi6 153 rfl rfl, mj607, Or.inl ⟨rfl, mk607V⟩⟩, ?_⟩
  refine List.forall_mem_cons.mpr ⟨⟨m_gi6 154 rfl rfl, mj2005, Or.inr (Or.inr ⟨rfl, mk2005S⟩)⟩, ?_⟩
  refine List.forall_mem_cons.mpr ⟨⟨m_gi6 162 rfl rfl, mj2006, Or.inr (Or.inr ⟨rfl, mk2006S⟩)⟩, ?_⟩
  refine List.forall_mem_cons.mpr ⟨⟨m_gi6 167 rfl rfl, mj2007, Or.inr (Or.inr ⟨rfl, mk2007S⟩)⟩, ?_⟩
  refine List.forall_mem_cons.mpr ⟨⟨m_gi6 157 rfl rfl, mj2008, Or.inr (Or.inr ⟨rfl, mk2008S⟩)⟩, ?_⟩
  refine List.forall_mem_cons.mpr ⟨⟨m_gi6 160 rfl rfl, mj628, Or.inl ⟨rfl, mk628V⟩⟩, ?_⟩
  refine List.forall_mem_cons.mpr ⟨⟨m_gi6 165 rfl rfl, mj603, Or.inr (Or.inr ⟨rfl, mk603S⟩)⟩, ?_⟩
  refine List.forall_mem_cons.mpr ⟨⟨m_gi6 161 rfl rfl, mj629, Or.inl ⟨rfl, mk629V⟩⟩, ?_⟩
  refine List.forall_mem_cons.mpr ⟨⟨by decide, m_gi6 166 rfl rfl⟩, ?_⟩
  refine List.forall_mem_cons.mpr ⟨⟨m_gi6 173 rfl rfl, mj2010, Or.inr (Or.inr ⟨rfl, mk2010S⟩)⟩, ?_⟩
  refine List.forall_mem_cons.mpr ⟨⟨m_gi6 176 rfl rfl, mj614, Or.inl ⟨rfl, mk614V⟩⟩, ?_⟩
  refine List.forall_mem_cons.mpr ⟨⟨by decide, m_gi6 177 rfl rfl⟩, ?_⟩
  exact fun _ h => absurd h List.not_mem_nil
theorem mp11_f : ∀ x ∈ mq11_f, m_fok RX11 x.1 x.2 := by
  unfold mq11_f
  refine List.forall_mem_cons.mpr ⟨⟨(RX11, TX11, 12), rfl, by decide, Or.inl (m_gi2 115 rfl rfl)⟩, ?_⟩
  refine List.forall_mem_cons.mpr ⟨⟨(RX11, TX11, 12), rfl, by decide, Or.inl (m_gi2 116 rfl rfl)⟩, ?_⟩
  refine List.forall_mem_cons.mpr ⟨⟨(RX11, TX11, 12), rfl, by decide, Or.inl (m_gi2 117 rfl rfl)⟩, ?_⟩
  refine List.forall_mem_cons.mpr ⟨⟨(RX11, TX11, 12), rfl, by decide, Or.inl (m_gi2 118 rfl rfl)⟩, ?_⟩
  refine List.forall_mem_cons.mpr ⟨⟨(RX11, TX11, 12), rfl, by decide, Or.inl (m_gi2 119 rfl rfl)⟩, ?_⟩
  refine List.forall_mem_cons.mpr ⟨⟨(RX11, TX11, 12), rfl, by decide, Or.inl (m_gi2 120 rfl rfl)⟩, ?_⟩
  refine List.forall_mem_cons.mpr ⟨⟨(RX11, TX11, 12), rfl, by decide, Or.inl (m_gi2 121 rfl rfl)⟩, ?_⟩
  refine List.forall_mem_cons.mpr ⟨⟨(RX11, TX11, 12), rfl, by decide, Or.inl (m_gi2 122 rfl rfl)⟩, ?_⟩
  refine List.forall_mem_cons.mpr ⟨⟨(RX11, TX11, 12), rfl, by decide, Or.inl (m_gi2 123 rfl rfl)⟩, ?_⟩
  refine List.forall_mem_cons.mpr ⟨⟨(RX11, TX11, 12), rfl, by decide, Or.inl (m_gi2 126 rfl rfl)⟩, ?_⟩
  refine List.forall_mem_cons.mpr ⟨⟨(RX9, TX9, 8), rfl, by decide, Or.inr ⟨"LendHouse", m_gx1 45 rfl rfl⟩⟩, ?_⟩
  refine List.forall_mem_cons.mpr ⟨⟨(RX3, TX3, 20), rfl, by decide, Or.inr ⟨"LendHouse", m_gx1 237 rfl rfl⟩⟩, ?_⟩
  refine List.forall_mem_cons.mpr ⟨⟨(RX7, TX7, 10), rfl, by decide, Or.inr ⟨"LendHouse", m_gx1 86 rfl rfl⟩⟩, ?_⟩
  refine List.forall_mem_cons.mpr ⟨⟨(RX3, TX3, 20), rfl, by decide, Or.inr ⟨"LendHouse", m_gx2 14 rfl rfl⟩⟩, ?_⟩
  refine List.forall_mem_cons.mpr ⟨⟨(RX0, TX0, 6), rfl, by decide, Or.inr ⟨"LendHouse", m_gx5 61 rfl rfl⟩⟩, ?_⟩
  refine List.forall_mem_cons.mpr ⟨⟨(RX3, TX3, 20), rfl, by decide, Or.inr ⟨"LendHouse", m_gx2 18 rfl rfl⟩⟩, ?_⟩
  refine List.forall_mem_cons.mpr ⟨⟨(RX3, TX3, 20), rfl, by decide, Or.inr ⟨"LendHouse", m_gx2 21 rfl rfl⟩⟩, ?_⟩
  refine List.forall_mem_cons.mpr ⟨⟨(RX3, TX3, 20), rfl, by decide, Or.inr ⟨"LendHouse", m_gx2 4 rfl rfl⟩⟩, ?_⟩
  refine List.forall_mem_cons.mpr ⟨⟨(RX3, TX3, 20), rfl, by decide, Or.inr ⟨"LendHouse", m_gx2 8 rfl rfl⟩⟩, ?_⟩
  refine List.forall_mem_cons.mpr ⟨⟨(RX3, TX3, 20), rfl, by decide, Or.inr ⟨"LendHouse", m_gx2 27 rfl rfl⟩⟩, ?_⟩
  refine List.forall_mem_cons.mpr ⟨⟨(RX3, TX3, 20), rfl, by decide, Or.inr ⟨"LendHouse", m_gx2 30 rfl rfl⟩⟩, ?_⟩
  refine List.forall_mem_cons.mpr ⟨⟨(RX3, TX3, 20), rfl, by decide, Or.inr ⟨"LendHouse", m_gx2 34 rfl rfl⟩⟩, ?_⟩
  refine List.forall_mem_cons.mpr ⟨⟨(RX3, TX3, 20), rfl, by decide, Or.inr ⟨"LendHouse", m_gx2 39 rfl rfl⟩⟩, ?_⟩
  refine List.forall_mem_cons.mpr ⟨⟨(RX3, TX3, 20), rfl, by decide, Or.inr ⟨"LendHouse", m_gx2 46 rfl rfl⟩⟩, ?_⟩
  refine List.forall_mem_cons.mpr ⟨⟨(RX3, TX3, 20), rfl, by decide, Or.inr ⟨"LendHouse", m_gx2 44 rfl rfl⟩⟩, ?_⟩
  refine List.forall_mem_cons.mpr ⟨⟨(RX3, TX3, 20), rfl, by decide, Or.inr ⟨"LendHouse", m_gx2 11 rfl rfl⟩⟩, ?_⟩
  refine List.forall_mem_cons.mpr ⟨⟨(RX3, TX3, 20), rfl, by decide, Or.inr ⟨"LendHouse", m_gx2 49 rfl rfl⟩⟩, ?_⟩
  refine List.forall_mem_cons.mpr ⟨⟨(RX8, TX8, 3), rfl, by decide, Or.inr ⟨"LendHouse", m_gx1 204 rfl rfl⟩⟩, ?_⟩
  refine List.forall_mem_cons.mpr ⟨⟨(RX3, TX3, 20), rfl, by decide, Or.inr ⟨"LendHouse", m_gx2 52 rfl rfl⟩⟩, ?_⟩
  refine List.forall_mem_cons.mpr ⟨⟨(RX3, TX3, 20), rfl, by decide, Or.inr ⟨"LendHouse", m_gx2 55 rfl rfl⟩⟩, ?_⟩
  refine List.forall_mem_cons.mpr ⟨⟨(RX3, TX3, 20), rfl, by decide, Or.inr ⟨"LendHouse", m_gx2 57 rfl rfl⟩⟩, ?_⟩
  refine List.forall_mem_cons.mpr ⟨⟨(RX3, TX3, 20), rfl, by decide, Or.inr ⟨"LendHouse", m_gx2 60 rfl rfl⟩⟩, ?_⟩
  refine List.forall_mem_cons.mpr ⟨⟨(RX3, TX3, 20), rfl, by decide, Or.inr ⟨"LendHouse", m_gx2 63 rfl rfl⟩⟩, ?_⟩
  refine List.forall_mem_cons.mpr ⟨⟨(RX11, TX11, 12), rfl, by decide, Or.inl (m_gi2 124 rfl rfl)⟩, ?_⟩
  refine List.forall_mem_cons.mpr ⟨⟨(RX11, TX11, 12), rfl, by decide, Or.inl (m_gi2 125 rfl rfl)⟩, ?_⟩
  exact fun _ h => absurd h List.not_mem_nil
theorem mp11_g : ∀ x ∈ mq11_f, (m_own RX11 x.2 = true ∧ m_fin x.2 = true) → ∀ r : vw_C, m_cl[x.2.1]? = some r → Cond.fieldLink RX11 x.1 r.1 (r.2.1 x.2.2).2.1 (r.2.1 x.2.2).2.2.1 ∈ m_Ts := by
  unfold mq11_f
  refine List.forall_mem_cons.mpr ⟨fun _ r hr => by cases hr; exact m_gi2 115 rfl rfl, ?_⟩
  refine List.forall_mem_cons.mpr ⟨fun _ r hr => by cases hr; exact m_gi2 116 rfl rfl, ?_⟩
  refine List.forall_mem_cons.mpr ⟨fun _ r hr => by cases hr; exact m_gi2 117 rfl rfl, ?_⟩
  refine List.forall_mem_cons.mpr ⟨fun _ r hr => by cases hr; exact m_gi2 118 rfl rfl, ?_⟩
  refine List.forall_mem_cons.mpr ⟨fun _ r hr => by cases hr; exact m_gi2 119 rfl rfl, ?_⟩
  refine List.forall_mem_cons.mpr ⟨fun _ r hr => by cases hr; exact m_gi2 120 rfl rfl, ?_⟩
  refine List.forall_mem_cons.mpr ⟨fun _ r hr => by cases hr; exact m_gi2 121 rfl rfl, ?_⟩
  refine List.forall_mem_cons.mpr ⟨fun _ r hr => by cases hr; exact m_gi2 122 rfl rfl, ?_⟩
  refine List.forall_mem_cons.mpr ⟨fun _ r hr => by cases hr; exact m_gi2 123 rfl rfl, ?_⟩
  refine List.forall_mem_cons.mpr ⟨fun h => absurd h.2 (by decide +kernel), ?_⟩
  refine List.forall_mem_cons.mpr ⟨fun h => absurd h.2 (by decide +kernel), ?_⟩
  refine List.forall_mem_cons.mpr ⟨fun h => absurd h.2 (by decide +kernel), ?_⟩
  refine List.forall_mem_cons.mpr ⟨fun h => absurd h.2 (by decide +kernel), ?_⟩
  refine List.forall_mem_cons.mpr ⟨fun h => absurd h.2 (by decide +kernel), ?_⟩
  refine List.forall_mem_cons.mpr ⟨fun h => absurd h.1 (by decide +kernel), ?_⟩
  refine List.forall_mem_cons.mpr ⟨fun h => absurd h.1 (by decide +kernel), ?_⟩
  refine List.forall_mem_cons.mpr ⟨fun h => absurd h.1 (by decide +kernel), ?_⟩
  refine List.forall_mem_cons.mpr ⟨fun h => absurd h.2 (by decide +kernel), ?_⟩
  refine List.forall_mem_cons.mpr ⟨fun h => absurd h.2 (by decide +kernel), ?_⟩
  refine List.forall_mem_cons.mpr ⟨fun h => absurd h.1 (by decide +kernel), ?_⟩
  refine List.forall_mem_cons.mpr ⟨fun h => absurd h.1 (by decide +kernel), ?_⟩
  refine List.forall_mem_cons.mpr ⟨fun h => absurd h.1 (by decide +kernel), ?_⟩
  refine List.forall_mem_cons.mpr ⟨fun h => absurd h.1 (by decide +kernel), ?_⟩
  refine List.forall_mem_cons.mpr ⟨fun h => absurd h.1 (by decide +kernel), ?_⟩
  refine List.forall_mem_cons.mpr ⟨fun h => absurd h.1 (by decide +kernel), ?_⟩
  refine List.forall_mem_cons.mpr ⟨fun h => absurd h.2 (by decide +kernel), ?_⟩
  refine List.forall_mem_cons.mpr ⟨fun h => absurd h.1 (by decide +kernel), ?_⟩
  refine List.forall_mem_cons.mpr ⟨fun h => absurd h.2 (by decide +kernel), ?_⟩
  refine List.forall_mem_cons.mpr ⟨fun h => absurd h.1 (by decide +kernel), ?_⟩
  refine List.forall_mem_cons.mpr ⟨fun h => absurd h.1 (by decide +kernel), ?_⟩
  refine List.forall_mem_cons.mpr ⟨fun h => absurd h.1 (by decide +kernel), ?_⟩
  refine List.forall_mem_cons.mpr ⟨fun h => absurd h.1 (by decide +kernel), ?_⟩
  refine List.forall_mem_cons.mpr ⟨fun h => absurd h.1 (by decide +kernel), ?_⟩
  refine List.forall_mem_cons.mpr ⟨fun h => absurd h.2 (by decide +kernel), ?_⟩
  refine List.forall_mem_cons.mpr ⟨fun h => absurd h.2 (by decide +kernel), ?_⟩
  exact fun _ h => absurd h List.not_mem_nil
theorem mp11_c : ∀ x ∈ mq11_c, ∃ r, m_cl[x.2]? = some r ∧ Cond.classLink RX11 x.1 r.1 ∈ m_Ts := by
  unfold mq11_c
  refine List.forall_mem_cons.mpr ⟨⟨(RX9, TX9, 8), rfl, m_gi1 38 rfl rfl⟩, ?_⟩
  refine List.forall_mem_cons.mpr ⟨⟨(RX7, TX7, 10), rfl, m_gi1 76 rfl rfl⟩, ?_⟩
  refine List.forall_mem_cons.mpr ⟨⟨(RX2, TX2, 6), rfl, m_gi1 120 rfl rfl⟩, ?_⟩
  refine List.forall_mem_cons.mpr ⟨⟨(RX4, TX4, 8), rfl, m_gi1 147 rfl rfl⟩, ?_⟩
  refine List.forall_mem_cons.mpr ⟨⟨(RX3, TX3, 20), rfl, m_gi1 178 rfl rfl⟩, ?_⟩
  refine List.forall_mem_cons.mpr ⟨⟨(RX1, TX1, 1), rfl, m_gi2 105 rfl rfl⟩, ?_⟩
  refine List.forall_mem_cons.mpr ⟨⟨(RX0, TX0, 6), rfl, m_gi5 49 rfl rfl⟩, ?_⟩
  exact fun _ h => absurd h List.not_mem_nil
theorem mp11_s : ∀ x ∈ mq11_s, ∃ tx, (RX11, x.1, tx, x.2) ∈ m_strs := by
  unfold mq11_s
  exact fun _ h => absurd h List.not_mem_nil
theorem mp11_l : ∀ x ∈ mq11_l, Cond.constantLong RX11 x.1 x.2 ∈ m_Ts := by
  unfold mq11_l
  exact fun _ h => absurd h List.not_mem_nil
theorem mp11_i : ∀ x ∈ mq11_i, Cond.constant RX11 x.1 x.2 ∈ m_Ts := by
  unfold mq11_i
  refine List.forall_mem_cons.mpr ⟨m_gi4 24 rfl rfl, ?_⟩
  refine List.forall_mem_cons.mpr ⟨m_gi7 34 rfl rfl, ?_⟩
  exact fun _ h => absurd h List.not_mem_nil
theorem mp11_m : ∀ x ∈ mq11_m, m_eok RX11 x.1 x.2 := by
  unfold mq11_m
  refine List.forall_mem_cons.mpr ⟨⟨by decide, m_gi1 35 rfl rfl⟩, ?_⟩
  refine List.forall_mem_cons.mpr ⟨⟨m_gi1 40 rfl rfl, mj1800, Or.inr (Or.inl ⟨rfl, mk1800I⟩)⟩, ?_⟩
  refine List.forall_mem_cons.mpr ⟨⟨m_gi1 78 rfl rfl, mj1400, Or.inr (Or.inl ⟨rfl, mk1400I⟩)⟩, ?_⟩
  refine List.forall_mem_cons.mpr ⟨⟨m_gi1 122 rfl rfl, mj400, Or.inr (Or.inl ⟨rfl, mk400I⟩)⟩, ?_⟩
  refine List.forall_mem_cons.mpr ⟨⟨m_gi1 149 rfl rfl, mj800, Or.inr (Or.inl ⟨rfl, mk800I⟩)⟩, ?_⟩
  refine List.forall_mem_cons.mpr ⟨⟨m_gi1 180 rfl rfl, mj600, Or.inr (Or.inl ⟨rfl, mk600I⟩)⟩, ?_⟩
  refine List.forall_mem_cons.mpr ⟨⟨m_gi2 107 rfl rfl, mj200, Or.inr (Or.inl ⟨rfl, mk200I⟩)⟩, ?_⟩
  refine List.forall_mem_cons.mpr ⟨⟨m_gi2 156 rfl rfl, mj1801, Or.inl ⟨rfl, mk1801V⟩⟩, ?_⟩
  refine List.forall_mem_cons.mpr ⟨⟨m_gi4 124 rfl rfl, mj1802, Or.inl ⟨rfl, mk1802V⟩⟩, ?_⟩
  refine List.forall_mem_cons.mpr ⟨⟨m_gi3 148 rfl rfl, mj2251, Or.inr (Or.inr ⟨rfl, mk2251S⟩)⟩, ?_⟩
  refine List.forall_mem_cons.mpr ⟨⟨m_gi4 129 rfl rfl, mj1401, Or.inl ⟨rfl, mk1401V⟩⟩, ?_⟩
  refine List.forall_mem_cons.mpr ⟨⟨m_gi5 51 rfl rfl, mj0, Or.inr (Or.inl ⟨rfl, mk0I⟩)⟩, ?_⟩
  refine List.forall_mem_cons.mpr ⟨⟨m_gi5 82 rfl rfl, mj608, Or.inl ⟨rfl, mk608V⟩⟩, ?_⟩
  refine List.forall_mem_cons.mpr ⟨⟨m_gi3 145 rfl rfl, mj2254, Or.inr (Or.inr ⟨rfl, mk2254S⟩)⟩, ?_⟩
  refine List.forall_mem_cons.mpr ⟨⟨m_gi3 237 rfl rfl, mj1605, Or.inl ⟨rfl, mk1605V⟩⟩, ?_⟩
  refine List.forall_mem_cons.mpr ⟨⟨m_gi4 6 rfl rfl, mj604, Or.inr (Or.inr ⟨rfl, mk604S⟩)⟩, ?_⟩
  refine List.forall_mem_cons.mpr ⟨⟨m_gi4 16 rfl rfl, mj606, Or.inl ⟨rfl, mk606V⟩⟩, ?_⟩
  refine List.forall_mem_cons.mpr ⟨⟨m_gi4 35 rfl rfl, mj2255, Or.inr (Or.inr ⟨rfl, mk2255S⟩)⟩, ?_⟩
  refine List.forall_mem_cons.mpr ⟨⟨m_gi4 39 rfl rfl, mj2258, Or.inl ⟨rfl, mk2258V⟩⟩, ?_⟩
  refine List.forall_mem_cons.mpr ⟨⟨m_gi4 60 rfl rfl, mj2259, Or.inl ⟨rfl, mk2259V⟩⟩, ?_⟩
  refine List.forall_mem_cons.mpr ⟨⟨m_gi4 80 rfl rfl, mj611, Or.inl ⟨rfl, mk611V⟩⟩, ?_⟩
  refine List.forall_mem_cons.mpr ⟨⟨m_gi4 92 rfl rfl, mj2256, Or.inl ⟨rfl, mk2256V⟩⟩, ?_⟩
  refine List.forall_mem_cons.mpr ⟨⟨m_gi2 199 rfl rfl, mj1604, Or.inl ⟨rfl, mk1604V⟩⟩, ?_⟩
  refine List.forall_mem_cons.mpr ⟨⟨m_gi5 93 rfl rfl, mj2252, Or.inr (Or.inr ⟨rfl, mk2252S⟩)⟩, ?_⟩
  refine List.forall_mem_cons.mpr ⟨⟨m_gi5 97 rfl rfl, mj2253, Or.inr (Or.inr ⟨rfl, mk2253S⟩)⟩, ?_⟩
  refine List.forall_mem_cons.mpr ⟨⟨m_gi4 43 rfl rfl, mj1602, Or.inl ⟨rfl, mk1602V⟩⟩, ?_⟩
  refine List.forall_mem_cons.mpr ⟨⟨m_gi5 103 rfl rfl, mj1607, Or.inl ⟨rfl, mk1607V⟩⟩, ?_⟩
  refine List.forall_mem_cons.mpr ⟨⟨m_gi4 96 rfl rfl, mj1601, Or.inl ⟨rfl, mk1601V⟩⟩, ?_⟩
  refine List.forall_mem_cons.mpr ⟨⟨m_gi5 113 rfl rfl, mj625, Or.inl ⟨rfl, mk625V⟩⟩, ?_⟩
  refine List.forall_mem_cons.mpr ⟨⟨m_gi5 114 rfl rfl, mj404, Or.inl ⟨rfl, mk404V⟩⟩, ?_⟩
  refine List.forall_mem_cons.mpr ⟨⟨m_gi5 136 rfl rfl, mj2213, Or.inl ⟨rfl, mk2213V⟩⟩, ?_⟩
  refine List.forall_mem_cons.mpr ⟨⟨m_gi5 140 rfl rfl, mj408, Or.inl ⟨rfl, mk408V⟩⟩, ?_⟩
  refine List.forall_mem_cons.mpr ⟨⟨m_gi5 177 rfl rfl, mj407, Or.inl ⟨rfl, mk407V⟩⟩, ?_⟩
  refine List.forall_mem_cons.mpr ⟨⟨m_gi5 181 rfl rfl, mj409, Or.inl ⟨rfl, mk409V⟩⟩, ?_⟩
  refine List.forall_mem_cons.mpr ⟨⟨m_gi5 192 rfl rfl, mj401, Or.inl ⟨rfl, mk401V⟩⟩, ?_⟩
  refine List.forall_mem_cons.mpr ⟨⟨m_gi5 200 rfl rfl, mj620, Or.inl ⟨rfl, mk620V⟩⟩, ?_⟩
  refine List.forall_mem_cons.mpr ⟨⟨m_gi5 204 rfl rfl, mj402, Or.inl ⟨rfl, mk402V⟩⟩, ?_⟩
  refine List.forall_mem_cons.mpr ⟨⟨by decide, m_gi2 196 rfl rfl⟩, ?_⟩
  refine List.forall_mem_cons.mpr ⟨⟨m_gi5 212 rfl rfl, mj2250, Or.inl ⟨rfl, mk2250V⟩⟩, ?_⟩
  refine List.forall_mem_cons.mpr ⟨⟨m_gi5 216 rfl rfl, mj622, Or.inl ⟨rfl, mk622V⟩⟩, ?_⟩
  refine List.forall_mem_cons.mpr ⟨⟨m_gi5 235 rfl rfl, mj614, Or.inl ⟨rfl, mk614V⟩⟩, ?_⟩
  refine List.forall_mem_cons.mpr ⟨⟨m_gi5 239 rfl rfl, mj616, Or.inl ⟨rfl, mk616V⟩⟩, ?_⟩
  refine List.forall_mem_cons.mpr ⟨⟨m_gi6 188 rfl rfl, mj405, Or.inl ⟨rfl, mk405V⟩⟩, ?_⟩
  refine List.forall_mem_cons.mpr ⟨⟨m_gi6 189 rfl rfl, mj623, Or.inl ⟨rfl, mk623V⟩⟩, ?_⟩
  refine List.forall_mem_cons.mpr ⟨⟨m_gi6 32 rfl rfl, mj2257, Or.inl ⟨rfl, mk2257V⟩⟩, ?_⟩
  refine List.forall_mem_cons.mpr ⟨⟨m_gi6 37 rfl rfl, mj633, Or.inl ⟨rfl, mk633V⟩⟩, ?_⟩
  refine List.forall_mem_cons.mpr ⟨⟨m_gi6 74 rfl rfl, mj636, Or.inl ⟨rfl, mk636V⟩⟩, ?_⟩
  refine List.forall_mem_cons.mpr ⟨⟨m_gi6 85 rfl rfl, mj637, Or.inl ⟨rfl, mk637V⟩⟩, ?_⟩
  refine List.forall_mem_cons.mpr ⟨⟨m_gi6 89 rfl rfl, mj638, Or.inl ⟨rfl, mk638V⟩⟩, ?_⟩
  refine List.forall_mem_cons.mpr ⟨⟨m_gi6 100 rfl rfl, mj630, Or.inl ⟨rfl, mk630V⟩⟩, ?_⟩
  refine List.forall_mem_cons.mpr ⟨⟨m_gi6 110 rfl rfl, mj603, Or.inr (Or.inr ⟨rfl, mk603S⟩)⟩, ?_⟩
  refine List.forall_mem_cons.mpr ⟨⟨m_gi6 119 rfl rfl, mj201, Or.inl ⟨rfl, mk201V⟩⟩, ?_⟩
  refine List.forall_mem_cons.mpr ⟨⟨m_gi6 131 rfl rfl, mj2000, Or.inr (Or.inr ⟨rfl, mk2000S⟩)⟩, ?_⟩
  refine List.forall_mem_cons.mpr ⟨⟨m_gi6 208 rfl rfl, mj1001, Or.inr (Or.inr ⟨rfl, mk1001S⟩)⟩, ?_⟩
  refine List.forall_mem_cons.mpr ⟨⟨m_gi6 221 rfl rfl, mj1003, Or.inr (Or.inr ⟨rfl, mk1003S⟩)⟩, ?_⟩
  refine List.forall_mem_cons.mpr ⟨⟨m_gi6 224 rfl rfl, mj627, Or.inl ⟨rfl, mk627V⟩⟩, ?_⟩
  refine List.forall_mem_cons.mpr ⟨⟨m_gi6 225 rfl rfl, mj1007, Or.inr (Or.inr ⟨rfl, mk1007S⟩)⟩, ?_⟩
  refine List.forall_mem_cons.mpr ⟨⟨m_gi7 4 rfl rfl, mj1008, Or.inr (Or.inr ⟨rfl, mk1008S⟩)⟩, ?_⟩
  refine List.forall_mem_cons.mpr ⟨⟨m_gi7 16 rfl rfl, mj1009, Or.inr (Or.inr ⟨rfl, mk1009S⟩)⟩, ?_⟩
  refine List.forall_mem_cons.mpr ⟨⟨m_gi2 172 rfl rfl, mj624, Or.inl ⟨rfl, mk624V⟩⟩, ?_⟩
  refine List.forall_mem_cons.mpr ⟨⟨m_gi7 44 rfl rfl, mj1005, Or.inr (Or.inr ⟨rfl, mk1005S⟩)⟩, ?_⟩
  refine List.forall_mem_cons.mpr ⟨⟨m_gi7 59 rfl rfl, mj1013, Or.inr (Or.inr ⟨rfl, mk1013S⟩)⟩, ?_⟩
  refine List.forall_mem_cons.mpr ⟨⟨m_gi7 62 rfl rfl, mj1012, Or.inr (Or.inr ⟨rfl, mk1012S⟩)⟩, ?_⟩
  refine List.forall_mem_cons.mpr ⟨⟨m_gi2 204 rfl rfl, mj801, Or.inl ⟨rfl, mk801V⟩⟩, ?_⟩
  refine List.forall_mem_cons.mpr ⟨⟨m_gi2 230 rfl rfl, mj804, Or.inl ⟨rfl, mk804V⟩⟩, ?_⟩
  refine List.forall_mem_cons.mpr ⟨⟨m_gi2 234 rfl rfl, mj805, Or.inl ⟨rfl, mk805V⟩⟩, ?_⟩
  refine List.forall_mem_cons.mpr ⟨⟨m_gi3 2 rfl rfl, mj1202, Or.inr (Or.inr ⟨rfl, mk1202S⟩)⟩, ?_⟩
  refine List.forall_mem_cons.mpr ⟨⟨m_gi3 33 rfl rfl, mj1204, Or.inr (Or.inr ⟨rfl, mk1204S⟩)⟩, ?_⟩
  refine List.forall_mem_cons.mpr ⟨⟨m_gi3 43 rfl rfl, mj1205, Or.inr (Or.inr ⟨rfl, mk1205S⟩)⟩, ?_⟩
  refine List.forall_mem_cons.mpr ⟨⟨m_gi7 123 rfl rfl, mj1014, Or.inr (Or.inr ⟨rfl, mk1014S⟩)⟩, ?_⟩
  refine List.forall_mem_cons.mpr ⟨⟨m_gi3 62 rfl rfl, mj602, Or.inl ⟨rfl, mk602V⟩⟩, ?_⟩
  refine List.forall_mem_cons.mpr ⟨⟨m_gi3 75 rfl rfl, mj205, Or.inl ⟨rfl, mk205V⟩⟩, ?_⟩
  refine List.forall_mem_cons.mpr ⟨⟨m_gi3 106 rfl rfl, mj618, Or.inl ⟨rfl, mk618V⟩⟩, ?_⟩
  refine List.forall_mem_cons.mpr ⟨⟨m_gi3 115 rfl rfl, mj610, Or.inl ⟨rfl, mk610V⟩⟩, ?_⟩
  refine List.forall_mem_cons.mpr ⟨⟨m_gi3 123 rfl rfl, mj626, Or.inl ⟨rfl, mk626V⟩⟩, ?_⟩
  refine List.forall_mem_cons.mpr ⟨⟨m_gi3 131 rfl rfl, mj1608, Or.inl ⟨rfl, mk1608V⟩⟩, ?_⟩
  refine List.forall_mem_cons.mpr ⟨⟨m_gi3 135 rfl rfl, mj1609, Or.inl ⟨rfl, mk1609V⟩⟩, ?_⟩
  exact fun _ h => absurd h List.not_mem_nil
theorem mp12_f : ∀ x ∈ mq12_f, m_fok RX12 x.1 x.2 := by
  unfold mq12_f
  refine List.forall_mem_cons.mpr ⟨⟨(RX12, TX12, 26), rfl, by decide, Or.inl (m_gi7 146 rfl rfl)⟩, ?_⟩
  refine List.forall_mem_cons.mpr ⟨⟨(RX12, TX12, 26), rfl, by decide, Or.inl (m_gi7 147 rfl rfl)⟩, ?_⟩
  refine List.forall_mem_cons.mpr ⟨⟨(RX12, TX12, 26), rfl, by decide, Or.inl (m_gi7 148 rfl rfl)⟩, ?_⟩
  refine List.forall_mem_cons.mpr ⟨⟨(RX12, TX12, 26), rfl, by decide, Or.inl (m_gi7 149 rfl rfl)⟩, ?_⟩
  refine List.forall_mem_cons.mpr ⟨⟨(RX12, TX12, 26), rfl, by decide, Or.inl (m_gi7 152 rfl rfl)⟩, ?_⟩
  refine List.forall_mem_cons.mpr ⟨⟨(RX12, TX12, 26), rfl, by decide, Or.inl (m_gi7 158 rfl rfl)⟩, ?_⟩
  refine List.forall_mem_cons.mpr ⟨⟨(RX12, TX12, 26), rfl, by decide, Or.inl (m_gi7 159 rfl rfl)⟩, ?_⟩
  refine List.forall_mem_cons.mpr ⟨⟨(RX12, TX12, 26), rfl, by decide, Or.inl (m_gi7 161 rfl rfl)⟩, ?_⟩
  refine List.forall_mem_cons.mpr ⟨⟨(RX12, TX12, 26), rfl, by decide, Or.inl (m_gi7 162 rfl rfl)⟩, ?_⟩
  refine List.forall_mem_cons.mpr ⟨⟨(RX12, TX12, 26), rfl, by decide, Or.inl (m_gi7 163 rfl rfl)⟩, ?_⟩
  refine List.forall_mem_cons.mpr ⟨⟨(RX12, TX12, 26), rfl, by decide, Or.inl (m_gi7 164 rfl rfl)⟩, ?_⟩
  refine List.forall_mem_cons.mpr ⟨⟨(RX12, TX12, 26), rfl, by decide, Or.inl (m_gi7 165 rfl rfl)⟩, ?_⟩
  refine List.forall_mem_cons.mpr ⟨⟨(RX12, TX12, 26), rfl, by decide, Or.inl (m_gi7 166 rfl rfl)⟩, ?_⟩
  refine List.forall_mem_cons.mpr ⟨⟨(RX12, TX12, 26), rfl, by decide, Or.inl (m_gi7 167 rfl rfl)⟩, ?_⟩
  refine List.forall_mem_cons.mpr ⟨⟨(RX12, TX12, 26), rfl, by decide, Or.inl (m_gi7 168 rfl rfl)⟩, ?_⟩
  refine List.forall_mem_cons.mpr ⟨⟨(RX12, TX12, 26), rfl, by decide, Or.inl (m_gi7 170 rfl rfl)⟩, ?_⟩
  refine List.forall_mem_cons.mpr ⟨⟨(RX12, TX12, 26), rfl, by decide, Or.inl (m_gi7 171 rfl rfl)⟩, ?_⟩
  refine List.forall_mem_cons.mpr ⟨⟨(RX12, TX12, 26), rfl, by decide, Or.inl (m_gi7 151 rfl rfl)⟩, ?_⟩
  refine List.forall_mem_cons.mpr ⟨⟨(RX12, TX12, 26), rfl, by decide, Or.inl (m_gi7 150 rfl rfl)⟩, ?_⟩
  refine List.forall_mem_cons.mpr ⟨⟨(RX12, TX12, 26), rfl, by decide, Or.inl (m_gi7 153 rfl rfl)⟩, ?_⟩
  refine List.forall_mem_cons.mpr ⟨⟨(RX12, TX12, 26), rfl, by decide, Or.inl (m_gi7 155 rfl rfl)⟩, ?_⟩
  refine List.forall_mem_cons.mpr ⟨⟨(RX12, TX12, 26), rfl, by decide, Or.inl (m_gi7 154 rfl rfl)⟩, ?_⟩
  refine List.forall_mem_cons.mpr ⟨⟨(RX12, TX12, 26), rfl, by decide, Or.inl (m_gi7 156 rfl rfl)⟩, ?_⟩
  refine List.forall_mem_cons.mpr ⟨⟨(RX12, TX12, 26), rfl, by decide, Or.inl (m_gi7 160 rfl rfl)⟩, ?_⟩
  refine List.forall_mem_cons.mpr ⟨⟨(RX12, TX12, 26), rfl, by decide, Or.inl (m_gi7 157 rfl rfl)⟩, ?_⟩
  refine List.forall_mem_cons.mpr ⟨⟨(RX12, TX12, 26), rfl, by decide, Or.inl (m_gi7 169 rfl rfl)⟩, ?_⟩
  exact fun _ h => absurd h List.not_mem_nil
theorem mp12_g : ∀ x ∈ mq12_f, (m_own RX12 x.2 = true ∧ m_fin x.2 = true) → ∀ r : vw_C, m_cl[x.2.1]? = some r → Cond.fieldLink RX12 x.1 r.1 (r.2.1 x.2.2).2.1 (r.2.1 x.2.2).2.2.1 ∈ m_Ts := by
  unfold mq12_f
  refine List.forall_mem_cons.mpr ⟨fun h => absurd h.2 (by decide +kernel), ?_⟩
  refine List.forall_mem_cons.mpr ⟨fun _ r hr => by cases hr; exact m_gi7 147 rfl rfl, ?_⟩
  refine List.forall_mem_cons.mpr ⟨fun _ r hr => by cases hr; exact m_gi7 148 rfl rfl, ?_⟩
  refine List.forall_mem_cons.mpr ⟨fun _ r hr => by cases hr; exact m_gi7 149 rfl rfl, ?_⟩
  refine List.forall_mem_cons.mpr ⟨fun _ r hr => by cases hr; exact m_gi7 152 rfl rfl, ?_⟩
  refine List.forall_mem_cons.mpr ⟨fun h => absurd h.2 (by decide +kernel), ?_⟩
  refine List.forall_mem_cons.mpr ⟨fun _ r hr => by cases hr; exact m_gi7 159 rfl rfl, ?_⟩
  refine List.forall_mem_cons.mpr ⟨fun _ r hr => by cases hr; exact m_gi7 161 rfl rfl, ?_⟩
  refine List.forall_mem_cons.mpr ⟨fun _ r hr => by cases hr; exact m_gi7 162 rfl rfl, ?_⟩
  refine List.forall_mem_cons.mpr ⟨fun _ r hr => by cases hr; exact m_gi7 163 rfl rfl, ?_⟩
  refine List.forall_mem_cons.mpr ⟨fun _ r hr => by cases hr; exact m_gi7 164 rfl rfl, ?_⟩
  refine List.forall_mem_cons.mpr ⟨fun _ r hr => by cases hr; exact m_gi7 165 rfl rfl, ?_⟩
  refine List.forall_mem_cons.mpr ⟨fun _ r hr => by cases hr; exact m_gi7 166 rfl rfl, ?_⟩
  refine List.forall_mem_cons.mpr ⟨fun _ r hr => by cases hr; exact m_gi7 167 rfl rfl, ?_⟩
  refine List.forall_mem_cons.mpr ⟨fun _ r hr => by cases hr; exact m_gi7 168 rfl rfl, ?_⟩
  refine List.forall_mem_cons.mpr ⟨fun _ r hr => by cases hr; exact m_gi7 170 rfl rfl, ?_⟩
  refine List.forall_mem_cons.mpr ⟨fun _ r hr => by cases hr; exact m_gi7 171 rfl rfl, ?_⟩
  refine List.forall_mem_cons.mpr ⟨fun h => absurd h.2 (by decide +kernel), ?_⟩
  refine List.forall_mem_cons.mpr ⟨fun h => absurd h.2 (by decide +kernel), ?_⟩
  refine List.forall_mem_cons.mpr ⟨fun h => absurd h.2 (by decide +kernel), ?_⟩
  refine List.forall_mem_cons.mpr ⟨fun h => absurd h.2 (by decide +kernel), ?_⟩
  refine List.forall_mem_cons.mpr ⟨fun h => absurd h.2 (by decide +kernel), ?_⟩
  refine List.forall_mem_cons.mpr ⟨fun h => absurd h.2 (by decide +kernel), ?_⟩
  refine List.forall_mem_cons.mpr ⟨fun h => absurd h.2 (by decide +kernel), ?_⟩
  refine List.forall_mem_cons.mpr ⟨fun h => absurd h.2 (by decide +kernel), ?_⟩
  refine List.forall_mem_cons.mpr ⟨fun h => absurd h.2 (by decide +kernel), ?_⟩
  exact fun _ h => absurd h List.not_mem_nil
theorem mp12_c : ∀ x ∈ mq12_c, ∃ r, m_cl[x.2]? = some r ∧ Cond.classLink RX12 x.1 r.1 ∈ m_Ts := by
  unfold mq12_c
  exact fun _ h => absurd h List.not_mem_nil
theorem mp12_s : ∀ x ∈ mq12_s, ∃ tx, (RX12, x.1, tx, x.2) ∈ m_strs := by
  unfold mq12_s
  refine List.forall_mem_cons.mpr ⟨⟨"land", List.mem_of_getElem? (i := 64) (by decide +kernel)⟩, ?_⟩
  refine List.forall_mem_cons.mpr ⟨⟨"sort", List.mem_of_getElem? (i := 65) (by decide +kernel)⟩, ?_⟩
  refine List.forall_mem_cons.mpr ⟨⟨"week", List.mem_of_getElem? (i := 66) (by decide +kernel)⟩, ?_⟩
  refine List.forall_mem_cons.mpr ⟨⟨"crates", List.mem_of_getElem? (i := 67) (by decide +kernel)⟩, ?_⟩
  refine List.forall_mem_cons.mpr ⟨⟨"tons", List.mem_of_getElem? (i := 68) (by decide +kernel)⟩, ?_⟩
  refine List.forall_mem_cons.mpr ⟨⟨"price", List.mem_of_getElem? (i := 69) (by decide +kernel)⟩, ?_⟩
  refine List.forall_mem_cons.mpr ⟨⟨"had", List.mem_of_getElem? (i := 70) (by decide +kernel)⟩, ?_⟩
  refine List.forall_mem_cons.mpr ⟨⟨"hunger", List.mem_of_getElem? (i := 71) (by decide +kernel)⟩, ?_⟩
  refine List.forall_mem_cons.mpr ⟨⟨"rocks", List.mem_of_getElem? (i := 72) (by decide +kernel)⟩, ?_⟩
  refine List.forall_mem_cons.mpr ⟨⟨"to", List.mem_of_getElem? (i := 73) (by decide +kernel)⟩, ?_⟩
  refine List.forall_mem_cons.mpr ⟨⟨"not", List.mem_of_getElem? (i := 63) (by decide +kernel)⟩, ?_⟩
  refine List.forall_mem_cons.mpr ⟨⟨"and", List.mem_of_getElem? (i := 74) (by decide +kernel)⟩, ?_⟩
  refine List.forall_mem_cons.mpr ⟨⟨"or", List.mem_of_getElem? (i := 75) (by decide +kernel)⟩, ?_⟩
  refine List.forall_mem_cons.mpr ⟨⟨"lend", List.mem_of_getElem? (i := 58) (by decide +kernel)⟩, ?_⟩
  refine List.forall_mem_cons.mpr ⟨⟨"mark", List.mem_of_getElem? (i := 59) (by decide +kernel)⟩, ?_⟩
  refine List.forall_mem_cons.mpr ⟨⟨"owe", List.mem_of_getElem? (i := 60) (by decide +kernel)⟩, ?_⟩
  refine List.forall_mem_cons.mpr ⟨⟨"give", List.mem_of_getElem? (i := 61) (by decide +kernel)⟩, ?_⟩
  refine List.forall_mem_cons.mpr ⟨⟨"if", List.mem_of_getElem? (i := 62) (by decide +kernel)⟩, ?_⟩
  exact fun _ h => absurd h List.not_mem_nil
theorem mp12_l : ∀ x ∈ mq12_l, Cond.constantLong RX12 x.1 x.2 ∈ m_Ts := by
  unfold mq12_l
  refine List.forall_mem_cons.mpr ⟨m_gi9 146 rfl rfl, ?_⟩
  exact fun _ h => absurd h List.not_mem_nil
theorem mp12_i : ∀ x ∈ mq12_i, Cond.constant RX12 x.1 x.2 ∈ m_Ts := by
  unfold mq12_i
  refine List.forall_mem_cons.mpr ⟨m_gi7 144 rfl rfl, ?_⟩
  refine List.forall_mem_cons.mpr ⟨m_gi7 145 rfl rfl, ?_⟩
  refine List.forall_mem_cons.mpr ⟨m_gi8 39 rfl rfl, ?_⟩
  refine List.forall_mem_cons.mpr ⟨m_gi8 156 rfl rfl, ?_⟩
  refine List.forall_mem_cons.mpr ⟨m_gi9 170 rfl rfl, ?_⟩
  exact fun _ h => absurd h List.not_mem_nil
theorem mp12_m : ∀ x ∈ mq12_m, m_eok RX12 x.1 x.2 := by
  unfold mq12_m
  refine List.forall_mem_cons.mpr ⟨⟨by decide, m_gi7 143 rfl rfl⟩, ?_⟩
  refine List.forall_mem_cons.mpr ⟨⟨m_gi8 4 rfl rfl, mj2402, Or.inr (Or.inr ⟨rfl, mk2402S⟩)⟩, ?_⟩
  refine List.forall_mem_cons.mpr ⟨⟨m_gi8 1 rfl rfl, mj2410, Or.inr (Or.inr ⟨rfl, mk2410S⟩)⟩, ?_⟩
  refine List.forall_mem_cons.mpr ⟨⟨m_gi8 7 rfl rfl, mj2401, Or.inl ⟨rfl, mk2401V⟩⟩, ?_⟩
  refine List.forall_mem_cons.mpr ⟨⟨m_gi8 15 rfl rfl, mj2404, Or.inl ⟨rfl, mk2404V⟩⟩, ?_⟩
  refine List.forall_mem_cons.mpr ⟨⟨m_gi8 19 rfl rfl, mj2416, Or.inl ⟨rfl, mk2416V⟩⟩, ?_⟩
  refine List.forall_mem_cons.mpr ⟨⟨m_gi8 31 rfl rfl, mj2417, Or.inl ⟨rfl, mk2417V⟩⟩, ?_⟩
  refine List.forall_mem_cons.mpr ⟨⟨m_gi8 27 rfl rfl, mj2419, Or.inl ⟨rfl, mk2419V⟩⟩, ?_⟩
  refine List.forall_mem_cons.mpr ⟨⟨m_gi8 44 rfl rfl, mj2411, Or.inr (Or.inr ⟨rfl, mk2411S⟩)⟩, ?_⟩
  refine List.forall_mem_cons.mpr ⟨⟨m_gi8 47 rfl rfl, mj2413, Or.inr (Or.inr ⟨rfl, mk2413S⟩)⟩, ?_⟩
  refine List.forall_mem_cons.mpr ⟨⟨m_gi8 58 rfl rfl, mj2414, Or.inr (Or.inr ⟨rfl, mk2414S⟩)⟩, ?_⟩
  refine List.forall_mem_cons.mpr ⟨⟨m_gi8 73 rfl rfl, mj2425, Or.inr (Or.inr ⟨rfl, mk2425S⟩)⟩, ?_⟩
  refine List.forall_mem_cons.mpr ⟨⟨m_gi8 84 rfl rfl, mj2426, Or.inl ⟨rfl, mk2426V⟩⟩, ?_⟩
  refine List.forall_mem_cons.mpr ⟨⟨m_gi8 65 rfl rfl, mj2405, Or.inl ⟨rfl, mk2405V⟩⟩, ?_⟩
  refine List.forall_mem_cons.mpr ⟨⟨m_gi8 69 rfl rfl, mj2428, Or.inl ⟨rfl, mk2428V⟩⟩, ?_⟩
  refine List.forall_mem_cons.mpr ⟨⟨m_gi8 80 rfl rfl, mj2427, Or.inl ⟨rfl, mk2427V⟩⟩, ?_⟩
  refine List.forall_mem_cons.mpr ⟨⟨m_gi8 96 rfl rfl, mj2430, Or.inl ⟨rfl, mk2430V⟩⟩, ?_⟩
  refine List.forall_mem_cons.mpr ⟨⟨m_gi8 128 rfl rfl, mj2439, Or.inl ⟨rfl, mk2439V⟩⟩, ?_⟩
  refine List.forall_mem_cons.mpr ⟨⟨m_gi8 124 rfl rfl, mj2440, Or.inl ⟨rfl, mk2440V⟩⟩, ?_⟩
  refine List.forall_mem_cons.mpr ⟨⟨by decide, m_gi8 151 rfl rfl⟩, ?_⟩
  refine List.forall_mem_cons.mpr ⟨⟨by decide, m_gi8 152 rfl rfl⟩, ?_⟩
  refine List.forall_mem_cons.mpr ⟨⟨m_gi8 136 rfl rfl, mj2441, Or.inl ⟨rfl, mk2441V⟩⟩, ?_⟩
  refine List.forall_mem_cons.mpr ⟨⟨m_gi8 147 rfl rfl, mj2442, Or.inl ⟨rfl, mk2442V⟩⟩, ?_⟩
  refine List.forall_mem_cons.mpr ⟨⟨m_gi8 143 rfl rfl, mj2447, Or.inr (Or.inr ⟨rfl, mk2447S⟩)⟩, ?_⟩
  refine List.forall_mem_cons.mpr ⟨⟨m_gi8 195 rfl rfl, mj2450, Or.inr (Or.inr ⟨rfl, mk2450S⟩)⟩, ?_⟩
  refine List.forall_mem_cons.mpr ⟨⟨m_gi8 183 rfl rfl, mj2449, Or.inl ⟨rfl, mk2449V⟩⟩, ?_⟩
  refine List.forall_mem_cons.mpr ⟨⟨m_gi8 157 rfl rfl, mj2445, Or.inl ⟨rfl, mk2445V⟩⟩, ?_⟩
  refine List.forall_mem_cons.mpr ⟨⟨m_gi8 191 rfl rfl, mj2451, Or.inl ⟨rfl, mk2451V⟩⟩, ?_⟩
  refine List.forall_mem_cons.mpr ⟨⟨m_gi8 178 rfl rfl, mj2444, Or.inl ⟨rfl, mk2444V⟩⟩, ?_⟩
  refine List.forall_mem_cons.mpr ⟨⟨m_gi8 166 rfl rfl, mj2455, Or.inl ⟨rfl, mk2455V⟩⟩, ?_⟩
  refine List.forall_mem_cons.mpr ⟨⟨m_gi8 162 rfl rfl, mj2443, Or.inl ⟨rfl, mk2443V⟩⟩, ?_⟩
  refine List.forall_mem_cons.mpr ⟨⟨m_gi8 174 rfl rfl, mj2453, Or.inl ⟨rfl, mk2453V⟩⟩, ?_⟩
  refine List.forall_mem_cons.mpr ⟨⟨m_gi8 187 rfl rfl, mj2452, Or.inl ⟨rfl, mk2452V⟩⟩, ?_⟩
  refine List.forall_mem_cons.mpr ⟨⟨m_gi8 170 rfl rfl, mj2454, Or.inl ⟨rfl, mk2454V⟩⟩, ?_⟩
  refine List.forall_mem_cons.mpr ⟨⟨m_gi8 140 rfl rfl, mj2448, Or.inr (Or.inr ⟨rfl, mk2448S⟩)⟩, ?_⟩
  refine List.forall_mem_cons.mpr ⟨⟨m_gi8 132 rfl rfl, mj2456, Or.inl ⟨rfl, mk2456V⟩⟩, ?_⟩
  refine List.forall_mem_cons.mpr ⟨⟨m_gi8 116 rfl rfl, mj2438, Or.inl ⟨rfl, mk2438V⟩⟩, ?_⟩
  refine List.forall_mem_cons.mpr ⟨⟨m_gi8 120 rfl rfl, mj2457, Or.inl ⟨rfl, mk2457V⟩⟩, ?_⟩
  refine List.forall_mem_cons.mpr ⟨⟨m_gi8 233 rfl rfl, mj2412, Or.inl ⟨rfl, mk2412V⟩⟩, ?_⟩
  refine List.forall_mem_cons.mpr ⟨⟨m_gi8 237 rfl rfl, mj2500, Or.inl ⟨rfl, mk2500V⟩⟩, ?_⟩
  refine List.forall_mem_cons.mpr ⟨⟨by decide, m_gi9 20 rfl rfl⟩, ?_⟩
  refine List.forall_mem_cons.mpr ⟨⟨m_gi9 8 rfl rfl, mj2459, Or.inl ⟨rfl, mk2459V⟩⟩, ?_⟩
  refine List.forall_mem_cons.mpr ⟨⟨m_gi9 12 rfl rfl, mj2460, Or.inl ⟨rfl, mk2460V⟩⟩, ?_⟩
  refine List.forall_mem_cons.mpr ⟨⟨m_gi9 16 rfl rfl, mj2462, Or.inl ⟨rfl, mk2462V⟩⟩, ?_⟩
  refine List.forall_mem_cons.mpr ⟨⟨by decide, m_gi9 21 rfl rfl⟩, ?_⟩
  refine List.forall_mem_cons.mpr ⟨⟨m_gi8 214 rfl rfl, mj2465, Or.inr (Or.inr ⟨rfl, mk2465S⟩)⟩, ?_⟩
  refine List.forall_mem_cons.mpr ⟨⟨m_gi8 229 rfl rfl, mj2461, Or.inl ⟨rfl, mk2461V⟩⟩, ?_⟩
  refine List.forall_mem_cons.mpr ⟨⟨m_gi8 221 rfl rfl, mj2466, Or.inl ⟨rfl, mk2466V⟩⟩, ?_⟩
  refine List.forall_mem_cons.mpr ⟨⟨m_gi8 225 rfl rfl, mj2469, Or.inl ⟨rfl, mk2469V⟩⟩, ?_⟩
  refine List.forall_mem_cons.mpr ⟨⟨m_gi9 4 rfl rfl, mj2464, Or.inl ⟨rfl, mk2464V⟩⟩, ?_⟩
  refine List.forall_mem_cons.mpr ⟨⟨m_gi9 22 rfl rfl, mj2463, Or.inl ⟨rfl, mk2463V⟩⟩, ?_⟩
  refine List.forall_mem_cons.mpr ⟨⟨m_gi9 26 rfl rfl, mj2468, Or.inl ⟨rfl, mk2468V⟩⟩, ?_⟩
  refine List.forall_mem_cons.mpr ⟨⟨m_gi9 38 rfl rfl, mj2471, Or.inl ⟨rfl, mk2471V⟩⟩, ?_⟩
  refine List.forall_mem_cons.mpr ⟨⟨by decide, m_gi9 46 rfl rfl⟩, ?_⟩
  refine List.forall_mem_cons.mpr ⟨⟨m_gi9 34 rfl rfl, mj2472, Or.inl ⟨rfl, mk2472V⟩⟩, ?_⟩
  refine List.forall_mem_cons.mpr ⟨⟨m_gi9 42 rfl rfl, mj2473, Or.inl ⟨rfl, mk2473V⟩⟩, ?_⟩
  refine List.forall_mem_cons.mpr ⟨⟨m_gi9 47 rfl rfl, mj2406, Or.inl ⟨rfl, mk2406V⟩⟩, ?_⟩
  refine List.forall_mem_cons.mpr ⟨⟨m_gi9 51 rfl rfl, mj2474, Or.inl ⟨rfl, mk2474V⟩⟩, ?_⟩
  refine List.forall_mem_cons.mpr ⟨⟨m_gi9 63 rfl rfl, mj2476, Or.inr (Or.inr ⟨rfl, mk2476S⟩)⟩, ?_⟩
  refine List.forall_mem_cons.mpr ⟨⟨m_gi9 59 rfl rfl, mj2478, Or.inl ⟨rfl, mk2478V⟩⟩, ?_⟩
  refine List.forall_mem_cons.mpr ⟨⟨m_gi9 74 rfl rfl, mj2477, Or.inl ⟨rfl, mk2477V⟩⟩, ?_⟩
  refine List.forall_mem_cons.mpr ⟨⟨m_gi9 70 rfl rfl, mj2479, Or.inl ⟨rfl, mk2479V⟩⟩, ?_⟩
  refine List.forall_mem_cons.mpr ⟨⟨m_gi9 78 rfl rfl, mj2482, Or.inl ⟨rfl, mk2482V⟩⟩, ?_⟩
  refine List.forall_mem_cons.mpr ⟨⟨m_gi9 82 rfl rfl, mj2481, Or.inl ⟨rfl, mk2481V⟩⟩, ?_⟩
  refine List.forall_mem_cons.mpr ⟨⟨m_gi9 86 rfl rfl, mj2429, Or.inl ⟨rfl, mk2429V⟩⟩, ?_⟩
  refine List.forall_mem_cons.mpr ⟨⟨m_gi9 118 rfl rfl, mj2486, Or.inl ⟨rfl, mk2486V⟩⟩, ?_⟩
  refine List.forall_mem_cons.mpr ⟨⟨m_gi9 126 rfl rfl, mj2488, Or.inl ⟨rfl, mk2488V⟩⟩, ?_⟩
  refine List.forall_mem_cons.mpr ⟨⟨m_gi9 110 rfl rfl, mj2431, Or.inl ⟨rfl, mk2431V⟩⟩, ?_⟩
  refine List.forall_mem_cons.mpr ⟨⟨m_gi9 106 rfl rfl, mj2490, Or.inl ⟨rfl, mk2490V⟩⟩, ?_⟩
  refine List.forall_mem_cons.mpr ⟨⟨m_gi9 114 rfl rfl, mj2487, Or.inl ⟨rfl, mk2487V⟩⟩, ?_⟩
  refine List.forall_mem_cons.mpr ⟨⟨m_gi9 122 rfl rfl, mj2489, Or.inl ⟨rfl, mk2489V⟩⟩, ?_⟩
  refine List.forall_mem_cons.mpr ⟨⟨m_gi9 130 rfl rfl, mj2491, Or.inl ⟨rfl, mk2491V⟩⟩, ?_⟩
  refine List.forall_mem_cons.mpr ⟨⟨m_gi9 1 rfl rfl, mj2508, Or.inr (Or.inr ⟨rfl, mk2508S⟩)⟩, ?_⟩
  refine List.forall_mem_cons.mpr ⟨⟨m_gi9 102 rfl rfl, mj2492, Or.inl ⟨rfl, mk2492V⟩⟩, ?_⟩
  refine List.forall_mem_cons.mpr ⟨⟨m_gi9 155 rfl rfl, mj2497, Or.inr (Or.inr ⟨rfl, mk2497S⟩)⟩, ?_⟩
  refine List.forall_mem_cons.mpr ⟨⟨m_gi9 151 rfl rfl, mj2498, Or.inl ⟨rfl, mk2498V⟩⟩, ?_⟩
  refine List.forall_mem_cons.mpr ⟨⟨m_gi9 158 rfl rfl, mj2496, Or.inl ⟨rfl, mk2496V⟩⟩, ?_⟩
  refine List.forall_mem_cons.mpr ⟨⟨m_gi9 142 rfl rfl, mj2495, Or.inl ⟨rfl, mk2495V⟩⟩, ?_⟩
  refine List.forall_mem_cons.mpr ⟨⟨m_gi9 147 rfl rfl, mj2499, Or.inl ⟨rfl, mk2499V⟩⟩, ?_⟩
  refine List.forall_mem_cons.mpr ⟨⟨m_gi9 183 rfl rfl, mj2506, Or.inl ⟨rfl, mk2506V⟩⟩, ?_⟩
  refine List.forall_mem_cons.mpr ⟨⟨m_gi9 207 rfl rfl, mj2513, Or.inl ⟨rfl, mk2513V⟩⟩, ?_⟩
  refine List.forall_mem_cons.mpr ⟨⟨m_gi9 239 rfl rfl, mj2520, Or.inl ⟨rfl, mk2520V⟩⟩, ?_⟩
  refine List.forall_mem_cons.mpr ⟨⟨m_gi9 235 rfl rfl, mj2521, Or.inl ⟨rfl, mk2521V⟩⟩, ?_⟩
  refine List.forall_mem_cons.mpr ⟨⟨m_gi10 3 rfl rfl, mj2522, Or.inl ⟨rfl, mk2522V⟩⟩, ?_⟩
  refine List.forall_mem_cons.mpr ⟨⟨m_gi10 7 rfl rfl, mj2800, Or.inr (Or.inr ⟨rfl, mk2800S⟩)⟩, ?_⟩
  refine List.forall_mem_cons.mpr ⟨⟨m_gi10 16 rfl rfl, mj2525, Or.inl ⟨rfl, mk2525V⟩⟩, ?_⟩
  exact fun _ h => absurd h List.not_mem_nil
theorem mp13_f : ∀ x ∈ mq13_f, m_fok RL x.1 x.2 := by
  unfold mq13_f
  exact fun _ h => absurd h List.not_mem_nil
theorem mp13_g : ∀ x ∈ mq13_f, (m_own RL x.2 = true ∧ m_fin x.2 = true) → ∀ r : vw_C, m_cl[x.2.1]? = some r → Cond.fieldLink RL x.1 r.1 (r.2.1 x.2.2).2.1 (r.2.1 x.2.2).2.2.1 ∈ m_Ts := by
  unfold mq13_f
  exact fun _ h => absurd h List.not_mem_nil
theorem mp13_c : ∀ x ∈ mq13_c, ∃ r, m_cl[x.2]? = some r ∧ Cond.classLink RL x.1 r.1 ∈ m_Ts := by
  unfold mq13_c
  refine List.forall_mem_cons.mpr ⟨⟨(RX11, TX11, 12), rfl, m_gi1 30 rfl rfl⟩, ?_⟩
  refine List.forall_mem_cons.mpr ⟨⟨(RX12, TX12, 26), rfl, m_gi7 138 rfl rfl⟩, ?_⟩
  exact fun _ h => absurd h List.not_mem_nil
theorem mp13_s : ∀ x ∈ mq13_s, ∃ tx, (RL, x.1, tx, x.2) ∈ m_strs := by
  unfold mq13_s
  exact fun _ h => absurd h List.not_mem_nil
theorem mp13_l : ∀ x ∈ mq13_l, Cond.constantLong RL x.1 x.2 ∈ m_Ts := by
  unfold mq13_l
  exact fun _ h => absurd h List.not_mem_nil
theorem mp13_i : ∀ x ∈ mq13_i, Cond.constant RL x.1 x.2 ∈ m_Ts := by
  unfold mq13_i
  exact fun _ h => absurd h List.not_mem_nil
theorem mp13_m : ∀ x ∈ mq13_m, m_eok RL x.1 x.2 := by
  unfold mq13_m
  refine List.forall_mem_cons.mpr ⟨⟨m_gi3 141 rfl rfl, mj2205, Or.inl ⟨rfl, mk2205V⟩⟩, ?_⟩
  refine List.forall_mem_cons.mpr ⟨⟨m_gi4 1 rfl rfl, mj2206, Or.inl ⟨rfl, mk2206V⟩⟩, ?_⟩
  refine List.forall_mem_cons.mpr ⟨⟨m_gi4 12 rfl rfl, mj2207, Or.inl ⟨rfl, mk2207V⟩⟩, ?_⟩
  refine List.forall_mem_cons.mpr ⟨⟨m_gi4 20 rfl rfl, mj2208, Or.inl ⟨rfl, mk2208V⟩⟩, ?_⟩
  refine List.forall_mem_cons.mpr ⟨⟨m_gi4 31 rfl rfl, mj2209, Or.inl ⟨rfl, mk2209V⟩⟩, ?_⟩
  refine List.forall_mem_cons.mpr ⟨⟨m_gi4 88 rfl rfl, mj2210, Or.inl ⟨rfl, mk2210V⟩⟩, ?_⟩
  refine List.forall_mem_cons.mpr ⟨⟨m_gi4 120 rfl rfl, mj2203, Or.inl ⟨rfl, mk2203V⟩⟩, ?_⟩
  refine List.forall_mem_cons.mpr ⟨⟨m_gi5 89 rfl rfl, mj2211, Or.inl ⟨rfl, mk2211V⟩⟩, ?_⟩
  refine List.forall_mem_cons.mpr ⟨⟨m_gi5 107 rfl rfl, mj2212, Or.inl ⟨rfl, mk2212V⟩⟩, ?_⟩
  refine List.forall_mem_cons.mpr ⟨⟨m_gi5 188 rfl rfl, mj2214, Or.inl ⟨rfl, mk2214V⟩⟩, ?_⟩
  refine List.forall_mem_cons.mpr ⟨⟨m_gi5 230 rfl rfl, mj2215, Or.inl ⟨rfl, mk2215V⟩⟩, ?_⟩
  refine List.forall_mem_cons.mpr ⟨⟨m_gi6 3 rfl rfl, mj2218, Or.inl ⟨rfl, mk2218V⟩⟩, ?_⟩
  refine List.forall_mem_cons.mpr ⟨⟨m_gi6 12 rfl rfl, mj2219, Or.inl ⟨rfl, mk2219V⟩⟩, ?_⟩
  refine List.forall_mem_cons.mpr ⟨⟨m_gi6 20 rfl rfl, mj2220, Or.inl ⟨rfl, mk2220V⟩⟩, ?_⟩
  refine List.forall_mem_cons.mpr ⟨⟨m_gi6 28 rfl rfl, mj2221, Or.inl ⟨rfl, mk2221V⟩⟩, ?_⟩
  refine List.forall_mem_cons.mpr ⟨⟨m_gi6 81 rfl rfl, mj2222, Or.inl ⟨rfl, mk2222V⟩⟩, ?_⟩
  refine List.forall_mem_cons.mpr ⟨⟨m_gi6 96 rfl rfl, mj2223, Or.inl ⟨rfl, mk2223V⟩⟩, ?_⟩
  refine List.forall_mem_cons.mpr ⟨⟨m_gi6 105 rfl rfl, mj2224, Or.inl ⟨rfl, mk2224V⟩⟩, ?_⟩
  refine List.forall_mem_cons.mpr ⟨⟨m_gi6 114 rfl rfl, mj2225, Or.inl ⟨rfl, mk2225V⟩⟩, ?_⟩
  refine List.forall_mem_cons.mpr ⟨⟨m_gi6 184 rfl rfl, mj2216, Or.inl ⟨rfl, mk2216V⟩⟩, ?_⟩
  refine List.forall_mem_cons.mpr ⟨⟨m_gi6 197 rfl rfl, mj2217, Or.inl ⟨rfl, mk2217V⟩⟩, ?_⟩
  refine List.forall_mem_cons.mpr ⟨⟨m_gi6 204 rfl rfl, mj2226, Or.inl ⟨rfl, mk2226V⟩⟩, ?_⟩
  refine List.forall_mem_cons.mpr ⟨⟨m_gi7 11 rfl rfl, mj2227, Or.inl ⟨rfl, mk2227V⟩⟩, ?_⟩
  refine List.forall_mem_cons.mpr ⟨⟨m_gi7 30 rfl rfl, mj2229, Or.inl ⟨rfl, mk2229V⟩⟩, ?_⟩
  refine List.forall_mem_cons.mpr ⟨⟨m_gi7 39 rfl rfl, mj2230, Or.inl ⟨rfl, mk2230V⟩⟩, ?_⟩
  refine List.forall_mem_cons.mpr ⟨⟨m_gi7 48 rfl rfl, mj2231, Or.inl ⟨rfl, mk2231V⟩⟩, ?_⟩
  refine List.forall_mem_cons.mpr ⟨⟨m_gi7 55 rfl rfl, mj2232, Or.inl ⟨rfl, mk2232V⟩⟩, ?_⟩
  refine List.forall_mem_cons.mpr ⟨⟨m_gi7 69 rfl rfl, mj2235, Or.inl ⟨rfl, mk2235V⟩⟩, ?_⟩
  refine List.forall_mem_cons.mpr ⟨⟨m_gi7 78 rfl rfl, mj2236, Or.inl ⟨rfl, mk2236V⟩⟩, ?_⟩
  refine List.forall_mem_cons.mpr ⟨⟨m_gi7 86 rfl rfl, mj2237, Or.inl ⟨rfl, mk2237V⟩⟩, ?_⟩
  refine List.forall_mem_cons.mpr ⟨⟨m_gi7 94 rfl rfl, mj2240, Or.inl ⟨rfl, mk2240V⟩⟩, ?_⟩
  refine List.forall_mem_cons.mpr ⟨⟨m_gi7 102 rfl rfl, mj2242, Or.inl ⟨rfl, mk2242V⟩⟩, ?_⟩
  refine List.forall_mem_cons.mpr ⟨⟨m_gi7 110 rfl rfl, mj2243, Or.inl ⟨rfl, mk2243V⟩⟩, ?_⟩
  refine List.forall_mem_cons.mpr ⟨⟨m_gi7 118 rfl rfl, mj2245, Or.inl ⟨rfl, mk2245V⟩⟩, ?_⟩
  refine List.forall_mem_cons.mpr ⟨⟨m_gi7 129 rfl rfl, mj2233, Or.inl ⟨rfl, mk2233V⟩⟩, ?_⟩
  refine List.forall_mem_cons.mpr ⟨⟨m_gi1 32 rfl rfl, mj2200, Or.inr (Or.inl ⟨rfl, mk2200I⟩)⟩, ?_⟩
  refine List.forall_mem_cons.mpr ⟨⟨m_gi7 140 rfl rfl, mj2403, Or.inr (Or.inl ⟨rfl, mk2403I⟩)⟩, ?_⟩
  refine List.forall_mem_cons.mpr ⟨⟨m_gi2 152 rfl rfl, mj2201, Or.inl ⟨rfl, mk2201V⟩⟩, ?_⟩
  refine List.forall_mem_cons.mpr ⟨⟨m_gi8 100 rfl rfl, mj2436, Or.inl ⟨rfl, mk2436V⟩⟩, ?_⟩
  refine List.forall_mem_cons.mpr ⟨⟨m_gi2 160 rfl rfl, mj2202, Or.inl ⟨rfl, mk2202V⟩⟩, ?_⟩
  refine List.forall_mem_cons.mpr ⟨⟨m_gi8 104 rfl rfl, mj2437, Or.inl ⟨rfl, mk2437V⟩⟩, ?_⟩
  refine List.forall_mem_cons.mpr ⟨⟨m_gi3 136 rfl rfl, mj2600, Or.inr (Or.inr ⟨rfl, mk2600S⟩)⟩, ?_⟩
  refine List.forall_mem_cons.mpr ⟨⟨m_gi7 237 rfl rfl, mj2415, Or.inl ⟨rfl, mk2415V⟩⟩, ?_⟩
  refine List.forall_mem_cons.mpr ⟨⟨m_gi7 134 rfl rfl, mj2400, Or.inl ⟨rfl, mk2400V⟩⟩, ?_⟩
  refine List.forall_mem_cons.mpr ⟨⟨m_gi3 238 rfl rfl, mj2601, Or.inr (Or.inr ⟨rfl, mk2601S⟩)⟩, ?_⟩
  refine List.forall_mem_cons.mpr ⟨⟨m_gi8 11 rfl rfl, mj2418, Or.inl ⟨rfl, mk2418V⟩⟩, ?_⟩
  refine List.forall_mem_cons.mpr ⟨⟨m_gi4 9 rfl rfl, mj2602, Or.inr (Or.inr ⟨rfl, mk2602S⟩)⟩, ?_⟩
  refine List.forall_mem_cons.mpr ⟨⟨m_gi8 23 rfl rfl, mj2420, Or.inl ⟨rfl, mk2420V⟩⟩, ?_⟩
  refine List.forall_mem_cons.mpr ⟨⟨m_gi4 17 rfl rfl, mj2603, Or.inr (Or.inr ⟨rfl, mk2603S⟩)⟩, ?_⟩
  refine List.forall_mem_cons.mpr ⟨⟨m_gi8 35 rfl rfl, mj2421, Or.inl ⟨rfl, mk2421V⟩⟩, ?_⟩
  refine List.forall_mem_cons.mpr ⟨⟨m_gi4 26 rfl rfl, mj2604, Or.inr (Or.inr ⟨rfl, mk2604S⟩)⟩, ?_⟩
  refine List.forall_mem_cons.mpr ⟨⟨m_gi8 61 rfl rfl, mj2432, Or.inl ⟨rfl, mk2432V⟩⟩, ?_⟩
  refine List.forall_mem_cons.mpr ⟨⟨m_gi4 84 rfl rfl, mj2605, Or.inr (Or.inr ⟨rfl, mk2605S⟩)⟩, ?_⟩
  refine List.forall_mem_cons.mpr ⟨⟨m_gi8 76 rfl rfl, mj2433, Or.inl ⟨rfl, mk2433V⟩⟩, ?_⟩
  refine List.forall_mem_cons.mpr ⟨⟨m_gi4 117 rfl rfl, mj2606, Or.inr (Or.inr ⟨rfl, mk2606S⟩)⟩, ?_⟩
  refine List.forall_mem_cons.mpr ⟨⟨m_gi8 112 rfl rfl, mj2458, Or.inl ⟨rfl, mk2458V⟩⟩, ?_⟩
  refine List.forall_mem_cons.mpr ⟨⟨m_gi2 164 rfl rfl, mj2204, Or.inl ⟨rfl, mk2204V⟩⟩, ?_⟩
  refine List.forall_mem_cons.mpr ⟨⟨m_gi8 108 rfl rfl, mj2446, Or.inl ⟨rfl, mk2446V⟩⟩, ?_⟩
  refine List.forall_mem_cons.mpr ⟨⟨m_gi5 86 rfl rfl, mj2607, Or.inr (Or.inr ⟨rfl, mk2607S⟩)⟩, ?_⟩
  refine List.forall_mem_cons.mpr ⟨⟨m_gi8 210 rfl rfl, mj2467, Or.inl ⟨rfl, mk2467V⟩⟩, ?_⟩
  refine List.forall_mem_cons.mpr ⟨⟨m_gi5 104 rfl rfl, mj2608, Or.inr (Or.inr ⟨rfl, mk2608S⟩)⟩, ?_⟩
  refine List.forall_mem_cons.mpr ⟨⟨m_gi8 217 rfl rfl, mj2470, Or.inl ⟨rfl, mk2470V⟩⟩, ?_⟩
  refine List.forall_mem_cons.mpr ⟨⟨m_gi5 185 rfl rfl, mj2609, Or.inr (Or.inr ⟨rfl, mk2609S⟩)⟩, ?_⟩
  refine List.forall_mem_cons.mpr ⟨⟨m_gi9 30 rfl rfl, mj2475, Or.inl ⟨rfl, mk2475V⟩⟩, ?_⟩
  refine List.forall_mem_cons.mpr ⟨⟨m_gi5 227 rfl rfl, mj2610, Or.inr (Or.inr ⟨rfl, mk2610S⟩)⟩, ?_⟩
  refine List.forall_mem_cons.mpr ⟨⟨m_gi8 92 rfl rfl, mj2435, Or.inl ⟨rfl, mk2435V⟩⟩, ?_⟩
  refine List.forall_mem_cons.mpr ⟨⟨m_gi6 0 rfl rfl, mj2611, Or.inr (Or.inr ⟨rfl, mk2611S⟩)⟩, ?_⟩
  refine List.forall_mem_cons.mpr ⟨⟨m_gi9 55 rfl rfl, mj2480, Or.inl ⟨rfl, mk2480V⟩⟩, ?_⟩
  refine List.forall_mem_cons.mpr ⟨⟨m_gi6 9 rfl rfl, mj2612, Or.inr (Or.inr ⟨rfl, mk2612S⟩)⟩, ?_⟩
  refine List.forall_mem_cons.mpr ⟨⟨m_gi8 40 rfl rfl, mj2422, Or.inl ⟨rfl, mk2422V⟩⟩, ?_⟩
  refine List.forall_mem_cons.mpr ⟨⟨m_gi6 17 rfl rfl, mj2613, Or.inr (Or.inr ⟨rfl, mk2613S⟩)⟩, ?_⟩
  refine List.forall_mem_cons.mpr ⟨⟨m_gi8 50 rfl rfl, mj2423, Or.inl ⟨rfl, mk2423V⟩⟩, ?_⟩
  refine List.forall_mem_cons.mpr ⟨⟨m_gi6 25 rfl rfl, mj2614, Or.inr (Or.inr ⟨rfl, mk2614S⟩)⟩, ?_⟩
  refine List.forall_mem_cons.mpr ⟨⟨m_gi9 66 rfl rfl, mj2483, Or.inl ⟨rfl, mk2483V⟩⟩, ?_⟩
  refine List.forall_mem_cons.mpr ⟨⟨m_gi6 78 rfl rfl, mj2615, Or.inr (Or.inr ⟨rfl, mk2615S⟩)⟩, ?_⟩
  refine List.forall_mem_cons.mpr ⟨⟨m_gi9 90 rfl rfl, mj2484, Or.inl ⟨rfl, mk2484V⟩⟩, ?_⟩
  refine List.forall_mem_cons.mpr ⟨⟨m_gi6 93 rfl rfl, mj2616, Or.inr (Or.inr ⟨rfl, mk2616S⟩)⟩, ?_⟩
  refine List.forall_mem_cons.mpr ⟨⟨m_gi9 94 rfl rfl, mj2485, Or.inl ⟨rfl, mk2485V⟩⟩, ?_⟩
  refine List.forall_mem_cons.mpr ⟨⟨m_gi6 102 rfl rfl, mj2617, Or.inr (Or.inr ⟨rfl, mk2617S⟩)⟩, ?_⟩
  refine List.forall_mem_cons.mpr ⟨⟨m_gi8 54 rfl rfl, mj2424, Or.inl ⟨rfl, mk2424V⟩⟩, ?_⟩
  refine List.forall_mem_cons.mpr ⟨⟨m_gi6 111 rfl rfl, mj2618, Or.inr (Or.inr ⟨rfl, mk2618S⟩)⟩, ?_⟩
  refine List.forall_mem_cons.mpr ⟨⟨m_gi9 98 rfl rfl, mj2493, Or.inl ⟨rfl, mk2493V⟩⟩, ?_⟩
  refine List.forall_mem_cons.mpr ⟨⟨m_gi6 181 rfl rfl, mj2619, Or.inr (Or.inr ⟨rfl, mk2619S⟩)⟩, ?_⟩
  refine List.forall_mem_cons.mpr ⟨⟨m_gi9 134 rfl rfl, mj2494, Or.inl ⟨rfl, mk2494V⟩⟩, ?_⟩
  refine List.forall_mem_cons.mpr ⟨⟨m_gi6 194 rfl rfl, mj2620, Or.inr (Or.inr ⟨rfl, mk2620S⟩)⟩, ?_⟩
  refine List.forall_mem_cons.mpr ⟨⟨m_gi8 88 rfl rfl, mj2434, Or.inl ⟨rfl, mk2434V⟩⟩, ?_⟩
  refine List.forall_mem_cons.mpr ⟨⟨m_gi6 201 rfl rfl, mj2621, Or.inr (Or.inr ⟨rfl, mk2621S⟩)⟩, ?_⟩
  refine List.forall_mem_cons.mpr ⟨⟨m_gi9 138 rfl rfl, mj2501, Or.inl ⟨rfl, mk2501V⟩⟩, ?_⟩
  refine List.forall_mem_cons.mpr ⟨⟨m_gi7 8 rfl rfl, mj2622, Or.inr (Or.inr ⟨rfl, mk2622S⟩)⟩, ?_⟩
  refine List.forall_mem_cons.mpr ⟨⟨m_gi9 162 rfl rfl, mj2502, Or.inl ⟨rfl, mk2502V⟩⟩, ?_⟩
  refine List.forall_mem_cons.mpr ⟨⟨m_gi7 27 rfl rfl, mj2623, Or.inr (Or.inr ⟨rfl, mk2623S⟩)⟩, ?_⟩
  refine List.forall_mem_cons.mpr ⟨⟨m_gi9 166 rfl rfl, mj2503, Or.inl ⟨rfl, mk2503V⟩⟩, ?_⟩
  refine List.forall_mem_cons.mpr ⟨⟨m_gi7 36 rfl rfl, mj2624, Or.inr (Or.inr ⟨rfl, mk2624S⟩)⟩, ?_⟩
  refine List.forall_mem_cons.mpr ⟨⟨m_gi9 171 rfl rfl, mj2504, Or.inl ⟨rfl, mk2504V⟩⟩, ?_⟩
  refine List.forall_mem_cons.mpr ⟨⟨m_gi7 45 rfl rfl, mj2625, Or.inr (Or.inr ⟨rfl, mk2625S⟩)⟩, ?_⟩
  refine List.forall_mem_cons.mpr ⟨⟨m_gi9 175 rfl rfl, mj2505, Or.inl ⟨rfl, mk2505V⟩⟩, ?_⟩
  refine List.forall_mem_cons.mpr ⟨⟨m_gi7 52 rfl rfl, mj2626, Or.inr (Or.inr ⟨rfl, mk2626S⟩)⟩, ?_⟩
  refine List.forall_mem_cons.mpr ⟨⟨m_gi9 179 rfl rfl, mj2507, Or.inl ⟨rfl, mk2507V⟩⟩, ?_⟩
  refine List.forall_mem_cons.mpr ⟨⟨m_gi7 66 rfl rfl, mj2627, Or.inr (Or.inr ⟨rfl, mk2627S⟩)⟩, ?_⟩
  refine List.forall_mem_cons.mpr ⟨⟨m_gi9 187 rfl rfl, mj2509, Or.inl ⟨rfl, mk2509V⟩⟩, ?_⟩
  refine List.forall_mem_cons.mpr ⟨⟨m_gi7 75 rfl rfl, mj2628, Or.inr (Or.inr ⟨rfl, mk2628S⟩)⟩, ?_⟩
  refine List.forall_mem_cons.mpr ⟨⟨m_gi9 191 rfl rfl, mj2510, Or.inl ⟨rfl, mk2510V⟩⟩, ?_⟩
  refine List.forall_mem_cons.mpr ⟨⟨m_gi2 168 rfl rfl, mj2228, Or.inl ⟨rfl, mk2228V⟩⟩, ?_⟩
  refine List.forall_mem_cons.mpr ⟨⟨m_gi9 195 rfl rfl, mj2511, Or.inl ⟨rfl, mk2511V⟩⟩, ?_⟩
  refine List.forall_mem_cons.mpr ⟨⟨m_gi7 83 rfl rfl, mj2629, Or.inr (Or.inr ⟨rfl, mk2629S⟩)⟩, ?_⟩
  refine List.forall_mem_cons.mpr ⟨⟨m_gi9 199 rfl rfl, mj2512, Or.inl ⟨rfl, mk2512V⟩⟩, ?_⟩
  refine List.forall_mem_cons.mpr ⟨⟨m_gi2 200 rfl rfl, mj2238, Or.inl ⟨rfl, mk2238V⟩⟩, ?_⟩
  refine List.forall_mem_cons.mpr ⟨⟨m_gi9 203 rfl rfl, mj2514, Or.inl ⟨rfl, mk2514V⟩⟩, ?_⟩
  refine List.forall_mem_cons.mpr ⟨⟨m_gi2 238 rfl rfl, mj2239, Or.inl ⟨rfl, mk2239V⟩⟩, ?_⟩
  refine List.forall_mem_cons.mpr ⟨⟨m_gi9 211 rfl rfl, mj2515, Or.inl ⟨rfl, mk2515V⟩⟩, ?_⟩
  refine List.forall_mem_cons.mpr ⟨⟨m_gi7 91 rfl rfl, mj2630, Or.inr (Or.inr ⟨rfl, mk2630S⟩)⟩, ?_⟩
  refine List.forall_mem_cons.mpr ⟨⟨m_gi9 215 rfl rfl, mj2516, Or.inl ⟨rfl, mk2516V⟩⟩, ?_⟩
  refine List.forall_mem_cons.mpr ⟨⟨m_gi3 29 rfl rfl, mj2241, Or.inl ⟨rfl, mk2241V⟩⟩, ?_⟩
  refine List.forall_mem_cons.mpr ⟨⟨m_gi9 219 rfl rfl, mj2517, Or.inl ⟨rfl, mk2517V⟩⟩, ?_⟩
  refine List.forall_mem_cons.mpr ⟨⟨m_gi7 99 rfl rfl, mj2631, Or.inr (Or.inr ⟨rfl, mk2631S⟩)⟩, ?_⟩
  refine List.forall_mem_cons.mpr ⟨⟨m_gi9 223 rfl rfl, mj2518, Or.inl ⟨rfl, mk2518V⟩⟩, ?_⟩
  refine List.forall_mem_cons.mpr ⟨⟨m_gi7 107 rfl rfl, mj2632, Or.inr (Or.inr ⟨rfl, mk2632S⟩)⟩, ?_⟩
  refine List.forall_mem_cons.mpr ⟨⟨m_gi9 227 rfl rfl, mj2519, Or.inl ⟨rfl, mk2519V⟩⟩, ?_⟩
  refine List.forall_mem_cons.mpr ⟨⟨m_gi3 39 rfl rfl, mj2244, Or.inl ⟨rfl, mk2244V⟩⟩, ?_⟩
  refine List.forall_mem_cons.mpr ⟨⟨m_gi9 231 rfl rfl, mj2523, Or.inl ⟨rfl, mk2523V⟩⟩, ?_⟩
  refine List.forall_mem_cons.mpr ⟨⟨m_gi7 115 rfl rfl, mj2633, Or.inr (Or.inr ⟨rfl, mk2633S⟩)⟩, ?_⟩
  refine List.forall_mem_cons.mpr ⟨⟨m_gi10 8 rfl rfl, mj2524, Or.inl ⟨rfl, mk2524V⟩⟩, ?_⟩
  refine List.forall_mem_cons.mpr ⟨⟨m_gi7 126 rfl rfl, mj2634, Or.inr (Or.inr ⟨rfl, mk2634S⟩)⟩, ?_⟩
  refine List.forall_mem_cons.mpr ⟨⟨m_gi10 12 rfl rfl, mj2526, Or.inl ⟨rfl, mk2526V⟩⟩, ?_⟩
  refine List.forall_mem_cons.mpr ⟨⟨m_gi2 192 rfl rfl, mj2234, Or.inl ⟨rfl, mk2234V⟩⟩, ?_⟩
  refine List.forall_mem_cons.mpr ⟨⟨m_gi10 20 rfl rfl, mj2527, Or.inl ⟨rfl, mk2527V⟩⟩, ?_⟩
  refine List.forall_mem_cons.mpr ⟨⟨m_gi3 58 rfl rfl, mj2246, Or.inl ⟨rfl, mk2246V⟩⟩, ?_⟩
  refine List.forall_mem_cons.mpr ⟨⟨m_gi7 225 rfl rfl, mj2407, Or.inl ⟨rfl, mk2407V⟩⟩, ?_⟩
  refine List.forall_mem_cons.mpr ⟨⟨m_gi3 71 rfl rfl, mj2247, Or.inl ⟨rfl, mk2247V⟩⟩, ?_⟩
  refine List.forall_mem_cons.mpr ⟨⟨m_gi7 229 rfl rfl, mj2408, Or.inl ⟨rfl, mk2408V⟩⟩, ?_⟩
  refine List.forall_mem_cons.mpr ⟨⟨m_gi3 98 rfl rfl, mj2248, Or.inl ⟨rfl, mk2248V⟩⟩, ?_⟩
  refine List.forall_mem_cons.mpr ⟨⟨m_gi7 233 rfl rfl, mj2409, Or.inl ⟨rfl, mk2409V⟩⟩, ?_⟩
  refine List.forall_mem_cons.mpr ⟨⟨m_gi3 102 rfl rfl, mj2249, Or.inl ⟨rfl, mk2249V⟩⟩, ?_⟩
  refine List.forall_mem_cons.mpr ⟨⟨m_gi10 24 rfl rfl, mj2528, Or.inl ⟨rfl, mk2528V⟩⟩, ?_⟩
  exact fun _ h => absurd h List.not_mem_nil
theorem mp14_f : ∀ x ∈ mq14_f, m_fok RJ6 x.1 x.2 := by
  unfold mq14_f
  exact fun _ h => absurd h List.not_mem_nil
theorem mp14_g : ∀ x ∈ mq14_f, (m_own RJ6 x.2 = true ∧ m_fin x.2 = true) → ∀ r : vw_C, m_cl[x.2.1]? = some r → Cond.fieldLink RJ6 x.1 r.1 (r.2.1 x.2.2).2.1 (r.2.1 x.2.2).2.2.1 ∈ m_Ts := by
  unfold mq14_f
  exact fun _ h => absurd h List.not_mem_nil
theorem mp14_c : ∀ x ∈ mq14_c, ∃ r, m_cl[x.2]? = some r ∧ Cond.classLink RJ6 x.1 r.1 ∈ m_Ts := by
  unfold mq14_c
  exact fun _ h => absurd h List.not_mem_nil
theorem mp14_s : ∀ x ∈ mq14_s, ∃ tx, (RJ6, x.1, tx, x.2) ∈ m_strs := by
  unfold mq14_s
  exact fun _ h => absurd h List.not_mem_nil
theorem mp14_l : ∀ x ∈ mq14_l, Cond.constantLong RJ6 x.1 x.2 ∈ m_Ts := by
  unfold mq14_l
  exact fun _ h => absurd h List.not_mem_nil
theorem mp14_i : ∀ x ∈ mq14_i, Cond.constant RJ6 x.1 x.2 ∈ m_Ts := by
  unfold mq14_i
  refine List.forall_mem_cons.mpr ⟨m_gi3 52 rfl rfl, ?_⟩
  refine List.forall_mem_cons.mpr ⟨m_gi3 53 rfl rfl, ?_⟩
  refine List.forall_mem_cons.mpr ⟨m_gi3 54 rfl rfl, ?_⟩
  exact fun _ h => absurd h List.not_mem_nil
theorem mp14_m : ∀ x ∈ mq14_m, m_eok RJ6 x.1 x.2 := by
  unfold mq14_m
  exact fun _ h => absurd h List.not_mem_nil
theorem mp0 : m_Pok RX0 mq0 := ⟨fun k f h => ⟨mp0_f _ (m_lk h), mp0_g _ (m_lk h)⟩, fun k ci h => mp0_c _ (m_lk h), fun k a h => mp0_s _ (m_lk h), fun k v h => mp0_l _ (m_lk h), fun k v h => mp0_i _ (m_lk h), fun k x h => mp0_m _ (m_lk h)⟩
theorem mp1 : m_Pok RX1 mq1 := ⟨fun k f h => ⟨mp1_f _ (m_lk h), mp1_g _ (m_lk h)⟩, fun k ci h => mp1_c _ (m_lk h), fun k a h => mp1_s _ (m_lk h), fun k v h => mp1_l _ (m_lk h), fun k v h => mp1_i _ (m_lk h), fun k x h => mp1_m _ (m_lk h)⟩
theorem mp2 : m_Pok RX2 mq2 := ⟨fun k f h => ⟨mp2_f _ (m_lk h), mp2_g _ (m_lk h)⟩, fun k ci h => mp2_c _ (m_lk h), fun k a h => mp2_s _ (m_lk h), fun k v h => mp2_l _ (m_lk h), fun k v h => mp2_i _ (m_lk h), fun k x h => mp2_m _ (m_lk h)⟩
theorem mp3 : m_Pok RX3 mq3 := ⟨fun k f h => ⟨mp3_f _ (m_lk h), mp3_g _ (m_lk h)⟩, fun k ci h => mp3_c _ (m_lk h), fun k a h => mp3_s _ (m_lk h), fun k v h => mp3_l _ (m_lk h), fun k v h => mp3_i _ (m_lk h), fun k x h => mp3_m _ (m_lk h)⟩
theorem mp4 : m_Pok RX4 mq4 := ⟨fun k f h => ⟨mp4_f _ (m_lk h), mp4_g _ (m_lk h)⟩, fun k ci h => mp4_c _ (m_lk h), fun k a h => mp4_s _ (m_lk h), fun k v h => mp4_l _ (m_lk h), fun k v h => mp4_i _ (m_lk h), fun k x h => mp4_m _ (m_lk h)⟩
theorem mp5 : m_Pok RX5 mq5 := ⟨fun k f h => ⟨mp5_f _ (m_lk h), mp5_g _ (m_lk h)⟩, fun k ci h => mp5_c _ (m_lk h), fun k a h => mp5_s _ (m_lk h), fun k v h => mp5_l _ (m_lk h), fun k v h => mp5_i _ (m_lk h), fun k x h => mp5_m _ (m_lk h)⟩
theorem mp6 : m_Pok RX6 mq6 := ⟨fun k f h => ⟨mp6_f _ (m_lk h), mp6_g _ (m_lk h)⟩, fun k ci h => mp6_c _ (m_lk h), fun k a h => mp6_s _ (m_lk h), fun k v h => mp6_l _ (m_lk h), fun k v h => mp6_i _ (m_lk h), fun k x h => mp6_m _ (m_lk h)⟩
theorem mp7 : m_Pok RX7 mq7 := ⟨fun k f h => ⟨mp7_f _ (m_lk h), mp7_g _ (m_lk h)⟩, fun k ci h => mp7_c _ (m_lk h), fun k a h => mp7_s _ (m_lk h), fun k v h => mp7_l _ (m_lk h), fun k v h => mp7_i _ (m_lk h), fun k x h => mp7_m _ (m_lk h)⟩
theorem mp8 : m_Pok RX8 mq8 := ⟨fun k f h => ⟨mp8_f _ (m_lk h), mp8_g _ (m_lk h)⟩, fun k ci h => mp8_c _ (m_lk h), fun k a h => mp8_s _ (m_lk h), fun k v h => mp8_l _ (m_lk h), fun k v h => mp8_i _ (m_lk h), fun k x h => mp8_m _ (m_lk h)⟩
theorem mp9 : m_Pok RX9 mq9 := ⟨fun k f h => ⟨mp9_f _ (m_lk h), mp9_g _ (m_lk h)⟩, fun k ci h => mp9_c _ (m_lk h), fun k a h => mp9_s _ (m_lk h), fun k v h => mp9_l _ (m_lk h), fun k v h => mp9_i _ (m_lk h), fun k x h => mp9_m _ (m_lk h)⟩
theorem mp10 : m_Pok RX10 mq10 := ⟨fun k f h => ⟨mp10_f _ (m_lk h), mp10_g _ (m_lk h)⟩, fun k ci h => mp10_c _ (m_lk h), fun k a h => mp10_s _ (m_lk h), fun k v h => mp10_l _ (m_lk h), fun k v h => mp10_i _ (m_lk h), fun k x h => mp10_m _ (m_lk h)⟩
theorem mp11 : m_Pok RX11 mq11 := ⟨fun k f h => ⟨mp11_f _ (m_lk h), mp11_g _ (m_lk h)⟩, fun k ci h => mp11_c _ (m_lk h), fun k a h => mp11_s _ (m_lk h), fun k v h => mp11_l _ (m_lk h), fun k v h => mp11_i _ (m_lk h), fun k x h => mp11_m _ (m_lk h)⟩
theorem mp12 : m_Pok RX12 mq12 := ⟨fun k f h => ⟨mp12_f _ (m_lk h), mp12_g _ (m_lk h)⟩, fun k ci h => mp12_c _ (m_lk h), fun k a h => mp12_s _ (m_lk h), fun k v h => mp12_l _ (m_lk h), fun k v h => mp12_i _ (m_lk h), fun k x h => mp12_m _ (m_lk h)⟩
theorem mp13 : m_Pok RL mq13 := ⟨fun k f h => ⟨mp13_f _ (m_lk h), mp13_g _ (m_lk h)⟩, fun k ci h => mp13_c _ (m_lk h), fun k a h => mp13_s _ (m_lk h), fun k v h => mp13_l _ (m_lk h), fun k v h => mp13_i _ (m_lk h), fun k x h => mp13_m _ (m_lk h)⟩
theorem mp14 : m_Pok RJ6 mq14 := ⟨fun k f h => ⟨mp14_f _ (m_lk h), mp14_g _ (m_lk h)⟩, fun k ci h => mp14_c _ (m_lk h), fun k a h => mp14_s _ (m_lk h), fun k v h => mp14_l _ (m_lk h), fun k v h => mp14_i _ (m_lk h), fun k x h => mp14_m _ (m_lk h)⟩
