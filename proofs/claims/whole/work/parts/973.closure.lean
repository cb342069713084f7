/-! ===== m_: what the pools call (printed) ===== -/
theorem mP0 : ∀ k j, mq0.2.2.2.2.2.1 k = some (.inl j) → m_mok m_Z m_strs j := by
  intro k j h
  have h1 := m_lk (l := mq0_m) h
  revert h1
  generalize hx : (k, (Sum.inl j : Nat ⊕ Nat)) = x
  revert x
  suffices hs : ∀ x ∈ mq0_m, ∀ j, x.2 = .inl j → m_mok m_Z m_strs j from fun x hx h1 => hs x h1 j (by rw [← hx])
  unfold mq0_m
  refine List.forall_mem_cons.mpr ⟨(fun j h => by cases h), ?_⟩
  refine List.forall_mem_cons.mpr ⟨(fun j h => by cases h), ?_⟩
  refine List.forall_mem_cons.mpr ⟨(fun j h => by cases h), ?_⟩
  refine List.forall_mem_cons.mpr ⟨(fun j h => by cases h), ?_⟩
  exact fun _ h => absurd h List.not_mem_nil
theorem mP1 : ∀ k j, mq1.2.2.2.2.2.1 k = some (.inl j) → m_mok m_Z m_strs j := by
  intro k j h
  have h1 := m_lk (l := mq1_m) h
  revert h1
  generalize hx : (k, (Sum.inl j : Nat ⊕ Nat)) = x
  revert x
  suffices hs : ∀ x ∈ mq1_m, ∀ j, x.2 = .inl j → m_mok m_Z m_strs j from fun x hx h1 => hs x h1 j (by rw [← hx])
  unfold mq1_m
  refine List.forall_mem_cons.mpr ⟨(fun j h => by cases h), ?_⟩
  refine List.forall_mem_cons.mpr ⟨(fun j h => by cases h; exact mm203), ?_⟩
  refine List.forall_mem_cons.mpr ⟨(fun j h => by cases h; exact mm202), ?_⟩
  refine List.forall_mem_cons.mpr ⟨(fun j h => by cases h; exact mm616), ?_⟩
  refine List.forall_mem_cons.mpr ⟨(fun j h => by cases h; exact mm614), ?_⟩
  refine List.forall_mem_cons.mpr ⟨(fun j h => by cases h; exact mm1604), ?_⟩
  refine List.forall_mem_cons.mpr ⟨(fun j h => by cases h; exact mm603), ?_⟩
  refine List.forall_mem_cons.mpr ⟨(fun j h => by cases h), ?_⟩
  refine List.forall_mem_cons.mpr ⟨(fun j h => by cases h), ?_⟩
  refine List.forall_mem_cons.mpr ⟨(fun j h => by cases h), ?_⟩
  refine List.forall_mem_cons.mpr ⟨(fun j h => by cases h), ?_⟩
  exact fun _ h => absurd h List.not_mem_nil
theorem mP2 : ∀ k j, mq2.2.2.2.2.2.1 k = some (.inl j) → m_mok m_Z m_strs j := by
  intro k j h
  have h1 := m_lk (l := mq2_m) h
  revert h1
  generalize hx : (k, (Sum.inl j : Nat ⊕ Nat)) = x
  revert x
  suffices hs : ∀ x ∈ mq2_m, ∀ j, x.2 = .inl j → m_mok m_Z m_strs j from fun x hx h1 => hs x h1 j (by rw [← hx])
  unfold mq2_m
  refine List.forall_mem_cons.mpr ⟨(fun j h => by cases h), ?_⟩
  refine List.forall_mem_cons.mpr ⟨(fun j h => by cases h; exact mm1601), ?_⟩
  refine List.forall_mem_cons.mpr ⟨(fun j h => by cases h; exact mm625), ?_⟩
  refine List.forall_mem_cons.mpr ⟨(fun j h => by cases h; exact mm1604), ?_⟩
  refine List.forall_mem_cons.mpr ⟨(fun j h => by cases h; exact mm404), ?_⟩
  refine List.forall_mem_cons.mpr ⟨(fun j h => by cases h; exact mm408), ?_⟩
  refine List.forall_mem_cons.mpr ⟨(fun j h => by cases h; exact mm403), ?_⟩
  refine List.forall_mem_cons.mpr ⟨(fun j h => by cases h; exact mm405), ?_⟩
  refine List.forall_mem_cons.mpr ⟨(fun j h => by cases h; exact mm609), ?_⟩
  refine List.forall_mem_cons.mpr ⟨(fun j h => by cases h; exact mm406), ?_⟩
  refine List.forall_mem_cons.mpr ⟨(fun j h => by cases h; exact mm606), ?_⟩
  refine List.forall_mem_cons.mpr ⟨(fun j h => by cases h; exact mm603), ?_⟩
  refine List.forall_mem_cons.mpr ⟨(fun j h => by cases h; exact mm627), ?_⟩
  refine List.forall_mem_cons.mpr ⟨(fun j h => by cases h; exact mm410), ?_⟩
  refine List.forall_mem_cons.mpr ⟨(fun j h => by cases h; exact mm2), ?_⟩
  refine List.forall_mem_cons.mpr ⟨(fun j h => by cases h), ?_⟩
  refine List.forall_mem_cons.mpr ⟨(fun j h => by cases h; exact mm1), ?_⟩
  refine List.forall_mem_cons.mpr ⟨(fun j h => by cases h; exact mm3), ?_⟩
  refine List.forall_mem_cons.mpr ⟨(fun j h => by cases h), ?_⟩
  refine List.forall_mem_cons.mpr ⟨(fun j h => by cases h; exact mm411), ?_⟩
  refine List.forall_mem_cons.mpr ⟨(fun j h => by cases h; exact mm414), ?_⟩
  refine List.forall_mem_cons.mpr ⟨(fun j h => by cases h; exact mm413), ?_⟩
  refine List.forall_mem_cons.mpr ⟨(fun j h => by cases h; exact mm412), ?_⟩
  exact fun _ h => absurd h List.not_mem_nil
theorem mP3 : ∀ k j, mq3.2.2.2.2.2.1 k = some (.inl j) → m_mok m_Z m_strs j := by
  intro k j h
  have h1 := m_lk (l := mq3_m) h
  revert h1
  generalize hx : (k, (Sum.inl j : Nat ⊕ Nat)) = x
  revert x
  suffices hs : ∀ x ∈ mq3_m, ∀ j, x.2 = .inl j → m_mok m_Z m_strs j from fun x hx h1 => hs x h1 j (by rw [← hx])
  unfold mq3_m
  refine List.forall_mem_cons.mpr ⟨(fun j h => by cases h), ?_⟩
  refine List.forall_mem_cons.mpr ⟨(fun j h => by cases h; exact mm1600), ?_⟩
  refine List.forall_mem_cons.mpr ⟨(fun j h => by cases h; exact mm601), ?_⟩
  refine List.forall_mem_cons.mpr ⟨(fun j h => by cases h; exact mm1607), ?_⟩
  refine List.forall_mem_cons.mpr ⟨(fun j h => by cases h; exact mm1605), ?_⟩
  refine List.forall_mem_cons.mpr ⟨(fun j h => by cases h; exact mm1610), ?_⟩
  refine List.forall_mem_cons.mpr ⟨(fun j h => by cases h; exact mm1604), ?_⟩
  refine List.forall_mem_cons.mpr ⟨(fun j h => by cases h; exact mm605), ?_⟩
  refine List.forall_mem_cons.mpr ⟨(fun j h => by cases h; exact mm609), ?_⟩
  refine List.forall_mem_cons.mpr ⟨(fun j h => by cases h; exact mm612), ?_⟩
  refine List.forall_mem_cons.mpr ⟨(fun j h => by cases h; exact mm1606), ?_⟩
  refine List.forall_mem_cons.mpr ⟨(fun j h => by cases h; exact mm1609), ?_⟩
  refine List.forall_mem_cons.mpr ⟨(fun j h => by cases h; exact mm616), ?_⟩
  refine List.forall_mem_cons.mpr ⟨(fun j h => by cases h), ?_⟩
  refine List.forall_mem_cons.mpr ⟨(fun j h => by cases h; exact mm621), ?_⟩
  refine List.forall_mem_cons.mpr ⟨(fun j h => by cases h; exact mm611), ?_⟩
  refine List.forall_mem_cons.mpr ⟨(fun j h => by cases h; exact mm606), ?_⟩
  refine List.forall_mem_cons.mpr ⟨(fun j h => by cases h; exact mm617), ?_⟩
  refine List.forall_mem_cons.mpr ⟨(fun j h => by cases h; exact mm603), ?_⟩
  refine List.forall_mem_cons.mpr ⟨(fun j h => by cases h; exact mm625), ?_⟩
  refine List.forall_mem_cons.mpr ⟨(fun j h => by cases h; exact mm629), ?_⟩
  refine List.forall_mem_cons.mpr ⟨(fun j h => by cases h; exact mm628), ?_⟩
  refine List.forall_mem_cons.mpr ⟨(fun j h => by cases h; exact mm631), ?_⟩
  refine List.forall_mem_cons.mpr ⟨(fun j h => by cases h; exact mm634), ?_⟩
  refine List.forall_mem_cons.mpr ⟨(fun j h => by cases h; exact mm632), ?_⟩
  refine List.forall_mem_cons.mpr ⟨(fun j h => by cases h; exact mm630), ?_⟩
  refine List.forall_mem_cons.mpr ⟨(fun j h => by cases h; exact mm614), ?_⟩
  refine List.forall_mem_cons.mpr ⟨(fun j h => by cases h; exact mm635), ?_⟩
  refine List.forall_mem_cons.mpr ⟨(fun j h => by cases h; exact mm613), ?_⟩
  exact fun _ h => absurd h List.not_mem_nil
theorem mP4 : ∀ k j, mq4.2.2.2.2.2.1 k = some (.inl j) → m_mok m_Z m_strs j := by
  intro k j h
  have h1 := m_lk (l := mq4_m) h
  revert h1
  generalize hx : (k, (Sum.inl j : Nat ⊕ Nat)) = x
  revert x
  suffices hs : ∀ x ∈ mq4_m, ∀ j, x.2 = .inl j → m_mok m_Z m_strs j from fun x hx h1 => hs x h1 j (by rw [← hx])
  unfold mq4_m
  refine List.forall_mem_cons.mpr ⟨(fun j h => by cases h), ?_⟩
  refine List.forall_mem_cons.mpr ⟨(fun j h => by cases h; exact mm1604), ?_⟩
  refine List.forall_mem_cons.mpr ⟨(fun j h => by cases h; exact mm607), ?_⟩
  refine List.forall_mem_cons.mpr ⟨(fun j h => by cases h; exact mm802), ?_⟩
  refine List.forall_mem_cons.mpr ⟨(fun j h => by cases h; exact mm803), ?_⟩
  refine List.forall_mem_cons.mpr ⟨(fun j h => by cases h), ?_⟩
  refine List.forall_mem_cons.mpr ⟨(fun j h => by cases h), ?_⟩
  refine List.forall_mem_cons.mpr ⟨(fun j h => by cases h), ?_⟩
  exact fun _ h => absurd h List.not_mem_nil
theorem mP5 : ∀ k j, mq5.2.2.2.2.2.1 k = some (.inl j) → m_mok m_Z m_strs j := by
  intro k j h
  have h1 := m_lk (l := mq5_m) h
  revert h1
  generalize hx : (k, (Sum.inl j : Nat ⊕ Nat)) = x
  revert x
  suffices hs : ∀ x ∈ mq5_m, ∀ j, x.2 = .inl j → m_mok m_Z m_strs j from fun x hx h1 => hs x h1 j (by rw [← hx])
  unfold mq5_m
  refine List.forall_mem_cons.mpr ⟨(fun j h => by cases h; exact mm1604), ?_⟩
  refine List.forall_mem_cons.mpr ⟨(fun j h => by cases h; exact mm614), ?_⟩
  refine List.forall_mem_cons.mpr ⟨(fun j h => by cases h; exact mm1000), ?_⟩
  refine List.forall_mem_cons.mpr ⟨(fun j h => by cases h; exact mm1002), ?_⟩
  refine List.forall_mem_cons.mpr ⟨(fun j h => by cases h; exact mm616), ?_⟩
  refine List.forall_mem_cons.mpr ⟨(fun j h => by cases h; exact mm1004), ?_⟩
  refine List.forall_mem_cons.mpr ⟨(fun j h => by cases h; exact mm204), ?_⟩
  refine List.forall_mem_cons.mpr ⟨(fun j h => by cases h; exact mm1006), ?_⟩
  refine List.forall_mem_cons.mpr ⟨(fun j h => by cases h; exact mm1005), ?_⟩
  refine List.forall_mem_cons.mpr ⟨(fun j h => by cases h), ?_⟩
  refine List.forall_mem_cons.mpr ⟨(fun j h => by cases h; exact mm603), ?_⟩
  refine List.forall_mem_cons.mpr ⟨(fun j h => by cases h; exact mm1011), ?_⟩
  refine List.forall_mem_cons.mpr ⟨(fun j h => by cases h; exact mm1010), ?_⟩
  refine List.forall_mem_cons.mpr ⟨(fun j h => by cases h; exact mm606), ?_⟩
  refine List.forall_mem_cons.mpr ⟨(fun j h => by cases h), ?_⟩
  exact fun _ h => absurd h List.not_mem_nil
theorem mP6 : ∀ k j, mq6.2.2.2.2.2.1 k = some (.inl j) → m_mok m_Z m_strs j := by
  intro k j h
  have h1 := m_lk (l := mq6_m) h
  revert h1
  generalize hx : (k, (Sum.inl j : Nat ⊕ Nat)) = x
  revert x
  suffices hs : ∀ x ∈ mq6_m, ∀ j, x.2 = .inl j → m_mok m_Z m_strs j from fun x hx h1 => hs x h1 j (by rw [← hx])
  unfold mq6_m
  refine List.forall_mem_cons.mpr ⟨(fun j h => by cases h; exact mm615), ?_⟩
  refine List.forall_mem_cons.mpr ⟨(fun j h => by cases h; exact mm1201), ?_⟩
  refine List.forall_mem_cons.mpr ⟨(fun j h => by cases h), ?_⟩
  refine List.forall_mem_cons.mpr ⟨(fun j h => by cases h; exact mm1200), ?_⟩
  refine List.forall_mem_cons.mpr ⟨(fun j h => by cases h; exact mm619), ?_⟩
  refine List.forall_mem_cons.mpr ⟨(fun j h => by cases h; exact mm1604), ?_⟩
  refine List.forall_mem_cons.mpr ⟨(fun j h => by cases h; exact mm606), ?_⟩
  refine List.forall_mem_cons.mpr ⟨(fun j h => by cases h; exact mm1203), ?_⟩
  refine List.forall_mem_cons.mpr ⟨(fun j h => by cases h; exact mm1207), ?_⟩
  refine List.forall_mem_cons.mpr ⟨(fun j h => by cases h; exact mm2800), ?_⟩
  refine List.forall_mem_cons.mpr ⟨(fun j h => by cases h; exact mm1206), ?_⟩
  exact fun _ h => absurd h List.not_mem_nil
theorem mP7 : ∀ k j, mq7.2.2.2.2.2.1 k = some (.inl j) → m_mok m_Z m_strs j := by
  intro k j h
  have h1 := m_lk (l := mq7_m) h
  revert h1
  generalize hx : (k, (Sum.inl j : Nat ⊕ Nat)) = x
  revert x
  suffices hs : ∀ x ∈ mq7_m, ∀ j, x.2 = .inl j → m_mok m_Z m_strs j from fun x hx h1 => hs x h1 j (by rw [← hx])
  unfold mq7_m
  refine List.forall_mem_cons.mpr ⟨(fun j h => by cases h), ?_⟩
  refine List.forall_mem_cons.mpr ⟨(fun j h => by cases h; exact mm1803), ?_⟩
  refine List.forall_mem_cons.mpr ⟨(fun j h => by cases h; exact mm1409), ?_⟩
  refine List.forall_mem_cons.mpr ⟨(fun j h => by cases h; exact mm1402), ?_⟩
  refine List.forall_mem_cons.mpr ⟨(fun j h => by cases h; exact mm1408), ?_⟩
  refine List.forall_mem_cons.mpr ⟨(fun j h => by cases h; exact mm1811), ?_⟩
  refine List.forall_mem_cons.mpr ⟨(fun j h => by cases h; exact mm1404), ?_⟩
  refine List.forall_mem_cons.mpr ⟨(fun j h => by cases h; exact mm1403), ?_⟩
  refine List.forall_mem_cons.mpr ⟨(fun j h => by cases h; exact mm1405), ?_⟩
  refine List.forall_mem_cons.mpr ⟨(fun j h => by cases h; exact mm1410), ?_⟩
  refine List.forall_mem_cons.mpr ⟨(fun j h => by cases h; exact mm1406), ?_⟩
  refine List.forall_mem_cons.mpr ⟨(fun j h => by cases h; exact mm1407), ?_⟩
  exact fun _ h => absurd h List.not_mem_nil
theorem mP8 : ∀ k j, mq8.2.2.2.2.2.1 k = some (.inl j) → m_mok m_Z m_strs j := by
  intro k j h
  have h1 := m_lk (l := mq8_m) h
  revert h1
  generalize hx : (k, (Sum.inl j : Nat ⊕ Nat)) = x
  revert x
  suffices hs : ∀ x ∈ mq8_m, ∀ j, x.2 = .inl j → m_mok m_Z m_strs j from fun x hx h1 => hs x h1 j (by rw [← hx])
  unfold mq8_m
  refine List.forall_mem_cons.mpr ⟨(fun j h => by cases h), ?_⟩
  refine List.forall_mem_cons.mpr ⟨(fun j h => by cases h), ?_⟩
  refine List.forall_mem_cons.mpr ⟨(fun j h => by cases h; exact mm1603), ?_⟩
  refine List.forall_mem_cons.mpr ⟨(fun j h => by cases h; exact mm1602), ?_⟩
  refine List.forall_mem_cons.mpr ⟨(fun j h => by cases h; exact mm1605), ?_⟩
  refine List.forall_mem_cons.mpr ⟨(fun j h => by cases h; exact mm1604), ?_⟩
  refine List.forall_mem_cons.mpr ⟨(fun j h => by cases h), ?_⟩
  exact fun _ h => absurd h List.not_mem_nil
theorem mP9 : ∀ k j, mq9.2.2.2.2.2.1 k = some (.inl j) → m_mok m_Z m_strs j := by
  intro k j h
  have h1 := m_lk (l := mq9_m) h
  revert h1
  generalize hx : (k, (Sum.inl j : Nat ⊕ Nat)) = x
  revert x
  suffices hs : ∀ x ∈ mq9_m, ∀ j, x.2 = .inl j → m_mok m_Z m_strs j from fun x hx h1 => hs x h1 j (by rw [← hx])
  unfold mq9_m
  refine List.forall_mem_cons.mpr ⟨(fun j h => by cases h), ?_⟩
  refine List.forall_mem_cons.mpr ⟨(fun j h => by cases h; exact mm1804), ?_⟩
  refine List.forall_mem_cons.mpr ⟨(fun j h => by cases h; exact mm1810), ?_⟩
  refine List.forall_mem_cons.mpr ⟨(fun j h => by cases h; exact mm1812), ?_⟩
  refine List.forall_mem_cons.mpr ⟨(fun j h => by cases h; exact mm1805), ?_⟩
  refine List.forall_mem_cons.mpr ⟨(fun j h => by cases h; exact mm1813), ?_⟩
  refine List.forall_mem_cons.mpr ⟨(fun j h => by cases h; exact mm1806), ?_⟩
  refine List.forall_mem_cons.mpr ⟨(fun j h => by cases h; exact mm1814), ?_⟩
  refine List.forall_mem_cons.mpr ⟨(fun j h => by cases h; exact mm1807), ?_⟩
  refine List.forall_mem_cons.mpr ⟨(fun j h => by cases h; exact mm1808), ?_⟩
  refine List.forall_mem_cons.mpr ⟨(fun j h => by cases h; exact mm1815), ?_⟩
  refine List.forall_mem_cons.mpr ⟨(fun j h => by cases h; exact mm1809), ?_⟩
  refine List.forall_mem_cons.mpr ⟨(fun j h => by cases h), ?_⟩
  refine List.forall_mem_cons.mpr ⟨(fun j h => by cases h), ?_⟩
  refine List.forall_mem_cons.mpr ⟨(fun j h => by cases h; exact mm1816), ?_⟩
  exact fun _ h => absurd h List.not_mem_nil
theorem mP10 : ∀ k j, mq10.2.2.2.2.2.1 k = some (.inl j) → m_mok m_Z m_strs j := by
  intro k j h
  have h1 := m_lk (l := mq10_m) h
  revert h1
  generalize hx : (k, (Sum.inl j : Nat ⊕ Nat)) = x
  revert x
  suffices hs : ∀ x ∈ mq10_m, ∀ j, x.2 = .inl j → m_mok m_Z m_strs j from fun x hx h1 => hs x h1 j (by rw [← hx])
  unfold mq10_m
  refine List.forall_mem_cons.mpr ⟨(fun j h => by cases h; exact mm2001), ?_⟩
  refine List.forall_mem_cons.mpr ⟨(fun j h => by cases h; exact mm2002), ?_⟩
  refine List.forall_mem_cons.mpr ⟨(fun j h => by cases h; exact mm1604), ?_⟩
  refine List.forall_mem_cons.mpr ⟨(fun j h => by cases h; exact mm2004), ?_⟩
  refine List.forall_mem_cons.mpr ⟨(fun j h => by cases h; exact mm2009), ?_⟩
  refine List.forall_mem_cons.mpr ⟨(fun j h => by cases h; exact mm1606), ?_⟩
  refine List.forall_mem_cons.mpr ⟨(fun j h => by cases h; exact mm2011), ?_⟩
  refine List.forall_mem_cons.mpr ⟨(fun j h => by cases h; exact mm615), ?_⟩
  refine List.forall_mem_cons.mpr ⟨(fun j h => by cases h; exact mm619), ?_⟩
  refine List.forall_mem_cons.mpr ⟨(fun j h => by cases h; exact mm1605), ?_⟩
  refine List.forall_mem_cons.mpr ⟨(fun j h => by cases h; exact mm616), ?_⟩
  refine List.forall_mem_cons.mpr ⟨(fun j h => by cases h; exact mm2003), ?_⟩
  refine List.forall_mem_cons.mpr ⟨(fun j h => by cases h; exact mm617), ?_⟩
  refine List.forall_mem_cons.mpr ⟨(fun j h => by cases h; exact mm607), ?_⟩
  refine List.forall_mem_cons.mpr ⟨(fun j h => by cases h; exact mm2005), ?_⟩
  refine List.forall_mem_cons.mpr ⟨(fun j h => by cases h; exact mm2006), ?_⟩
  refine List.forall_mem_cons.mpr ⟨(fun j h => by cases h; exact mm2007), ?_⟩
  refine List.forall_mem_cons.mpr ⟨(fun j h => by cases h; exact mm2008), ?_⟩
  refine List.forall_mem_cons.mpr ⟨(fun j h => by cases h; exact mm628), ?_⟩
  refine List.forall_mem_cons.mpr ⟨(fun j h => by cases h; exact mm603), ?_⟩
  refine List.forall_mem_cons.mpr ⟨(fun j h => by cases h; exact mm629), ?_⟩
  refine List.forall_mem_cons.mpr ⟨(fun j h => by cases h), ?_⟩
  refine List.forall_mem_cons.mpr ⟨(fun j h => by cases h; exact mm2010), ?_⟩
  refine List.forall_mem_cons.mpr ⟨(fun j h => by cases h; exact mm614), ?_⟩
  refine List.forall_mem_cons.mpr ⟨(fun j h => by cases h), ?_⟩
  exact fun _ h => absurd h List.not_mem_nil
theorem mP11 : ∀ k j, mq11.2.2.2.2.2.1 k = some (.inl j) → m_mok m_Z m_strs j := by
  intro k j h
  have h1 := m_lk (l := mq11_m) h
  revert h1
  generalize hx : (k, (Sum.inl j : Nat ⊕ Nat)) = x
  revert x
  suffices hs : ∀ x ∈ mq11_m, ∀ j, x.2 = .inl j → m_mok m_Z m_strs j from fun x hx h1 => hs x h1 j (by rw [← hx])
  unfold mq11_m
  refine List.forall_mem_cons.mpr ⟨(fun j h => by cases h), ?_⟩
  refine List.forall_mem_cons.mpr ⟨(fun j h => by cases h; exact mm1800), ?_⟩
  refine List.forall_mem_cons.mpr ⟨(fun j h => by cases h; exact mm1400), ?_⟩
  refine List.forall_mem_cons.mpr ⟨(fun j h => by cases h; exact mm400), ?_⟩
  refine List.forall_mem_cons.mpr ⟨(fun j h => by cases h; exact mm800), ?_⟩
  refine List.forall_mem_cons.mpr ⟨(fun j h => by cases h; exact mm600), ?_⟩
  refine List.forall_mem_cons.mpr ⟨(fun j h => by cases h; exact mm200), ?_⟩
  refine List.forall_mem_cons.mpr ⟨(fun j h => by cases h; exact mm1801), ?_⟩
  refine List.forall_mem_cons.mpr ⟨(fun j h => by cases h; exact mm1802), ?_⟩
  refine List.forall_mem_cons.mpr ⟨(fun j h => by cases h; exact mm2251), ?_⟩
  refine List.forall_mem_cons.mpr ⟨(fun j h => by cases h; exact mm1401), ?_⟩
  refine List.forall_mem_cons.mpr ⟨(fun j h => by cases h; exact mm0), ?_⟩
  refine List.forall_mem_cons.mpr ⟨(fun j h => by cases h; exact mm608), ?_⟩
  refine List.forall_mem_cons.mpr ⟨(fun j h => by cases h; exact mm2254), ?_⟩
  refine List.forall_mem_cons.mpr ⟨(fun j h => by cases h; exact mm1605), ?_⟩
  refine List.forall_mem_cons.mpr ⟨(fun j h => by cases h; exact mm604), ?_⟩
  refine List.forall_mem_cons.mpr ⟨(fun j h => by cases h; exact mm606), ?_⟩
  refine List.forall_mem_cons.mpr ⟨(fun j h => by cases h; exact mm2255), ?_⟩
  refine List.forall_mem_cons.mpr ⟨(fun j h => by cases h; exact mm2258), ?_⟩
  refine List.forall_mem_cons.mpr ⟨(fun j h => by cases h; exact mm2259), ?_⟩
  refine List.forall_mem_cons.mpr ⟨(fun j h => by cases h; exact mm611), ?_⟩
  refine List.forall_mem_cons.mpr ⟨(fun j h => by cases h; exact mm2256), ?_⟩
  refine List.forall_mem_cons.mpr ⟨(fun j h => by cases h; exact mm1604), ?_⟩
  refine List.forall_mem_cons.mpr ⟨(fun j h => by cases h; exact mm2252), ?_⟩
  refine List.forall_mem_cons.mpr ⟨(fun j h => by cases h; exact mm2253), ?_⟩
  refine List.forall_mem_cons.mpr ⟨(fun j h => by cases h; exact mm1602), ?_⟩
  refine List.forall_mem_cons.mpr ⟨(fun j h => by cases h; exact mm1607), ?_⟩
  refine List.forall_mem_cons.mpr ⟨(fun j h => by cases h; exact mm1601), ?_⟩
  refine List.forall_mem_cons.mpr ⟨(fun j h => by cases h; exact mm625), ?_⟩
  refine List.forall_mem_cons.mpr ⟨(fun j h => by cases h; exact mm404), ?_⟩
  refine List.forall_mem_cons.mpr ⟨(fun j h => by cases h; exact mm2213), ?_⟩
  refine List.forall_mem_cons.mpr ⟨(fun j h => by cases h; exact mm408), ?_⟩
  refine List.forall_mem_cons.mpr ⟨(fun j h => by cases h; exact mm407), ?_⟩
  refine List.forall_mem_cons.mpr ⟨(fun j h => by cases h; exact mm409), ?_⟩
  refine List.forall_mem_cons.mpr ⟨(fun j h => by cases h; exact mm401), ?_⟩
  refine List.forall_mem_cons.mpr ⟨(fun j h => by cases h; exact mm620), ?_⟩
  refine List.forall_mem_cons.mpr ⟨(fun j h => by cases h; exact mm402), ?_⟩
  refine List.forall_mem_cons.mpr ⟨(fun j h => by cases h), ?_⟩
  refine List.forall_mem_cons.mpr ⟨(fun j h => by cases h; exact mm2250), ?_⟩
  refine List.forall_mem_cons.mpr ⟨(fun j h => by cases h; exact mm622), ?_⟩
  refine List.forall_mem_cons.mpr ⟨(fun j h => by cases h; exact mm614), ?_⟩
  refine List.forall_mem_cons.mpr ⟨(fun j h => by cases h; exact mm616), ?_⟩
  refine List.forall_mem_cons.mpr ⟨(fun j h => by cases h; exact mm405), ?_⟩
  refine List.forall_mem_cons.mpr ⟨(fun j h => by cases h; exact mm623), ?_⟩
  refine List.forall_mem_cons.mpr ⟨(fun j h => by cases h; exact mm2257), ?_⟩
  refine List.forall_mem_cons.mpr ⟨(fun j h => by cases h; exact mm633), ?_⟩
  refine List.forall_mem_cons.mpr ⟨(fun j h => by cases h; exact mm636), ?_⟩
  refine List.forall_mem_cons.mpr ⟨(fun j h => by cases h; exact mm637), ?_⟩
  refine List.forall_mem_cons.mpr ⟨(fun j h => by cases h; exact mm638), ?_⟩
  refine List.forall_mem_cons.mpr ⟨(fun j h => by cases h; exact mm630), ?_⟩
  refine List.forall_mem_cons.mpr ⟨(fun j h => by cases h; exact mm603), ?_⟩
  refine List.forall_mem_cons.mpr ⟨(fun j h => by cases h; exact mm201), ?_⟩
  refine List.forall_mem_cons.mpr ⟨(fun j h => by cases h; exact mm2000), ?_⟩
  refine List.forall_mem_cons.mpr ⟨(fun j h => by cases h; exact mm1001), ?_⟩
  refine List.forall_mem_cons.mpr ⟨(fun j h => by cases h; exact mm1003), ?_⟩
  refine List.forall_mem_cons.mpr ⟨(fun j h => by cases h; exact mm627), ?_⟩
  refine List.forall_mem_cons.mpr ⟨(fun j h => by cases h; exact mm1007), ?_⟩
  refine List.forall_mem_cons.mpr ⟨(fun j h => by cases h; exact mm1008), ?_⟩
  refine List.forall_mem_cons.mpr ⟨(fun j h => by cases h; exact mm1009), ?_⟩
  refine List.forall_mem_cons.mpr ⟨(fun j h => by cases h; exact mm624), ?_⟩
  refine List.forall_mem_cons.mpr ⟨(fun j h => by cases h; exact mm1005), ?_⟩
  refine List.forall_mem_cons.mpr ⟨(fun j h => by cases h; exact mm1013), ?_⟩
  refine List.forall_mem_cons.mpr ⟨(fun j h => by cases h; exact mm1012), ?_⟩
  refine List.forall_mem_cons.mpr ⟨(fun j h => by cases h; exact mm801), ?_⟩
  refine List.forall_mem_cons.mpr ⟨(fun j h => by cases h; exact mm804), ?_⟩
  refine List.forall_mem_cons.mpr ⟨(fun j h => by cases h; exact mm805), ?_⟩
  refine List.forall_mem_cons.mpr ⟨(fun j h => by cases h; exact mm1202), ?_⟩
  refine List.forall_mem_cons.mpr ⟨(fun j h => by cases h; exact mm1204), ?_⟩
  refine List.forall_mem_cons.mpr ⟨(fun j h => by cases h; exact mm1205), ?_⟩
  refine List.forall_mem_cons.mpr ⟨(fun j h => by cases h; exact mm1014), ?_⟩
  refine List.forall_mem_cons.mpr ⟨(fun j h => by cases h; exact mm602), ?_⟩
  refine List.forall_mem_cons.mpr ⟨(fun j h => by cases h; exact mm205), ?_⟩
  refine List.forall_mem_cons.mpr ⟨(fun j h => by cases h; exact mm618), ?_⟩
  refine List.forall_mem_cons.mpr ⟨(fun j h => by cases h; exact mm610), ?_⟩
  refine List.forall_mem_cons.mpr ⟨(fun j h => by cases h; exact mm626), ?_⟩
  refine List.forall_mem_cons.mpr ⟨(fun j h => by cases h; exact mm1608), ?_⟩
  refine List.forall_mem_cons.mpr ⟨(fun j h => by cases h; exact mm1609), ?_⟩
  exact fun _ h => absurd h List.not_mem_nil
theorem mP12 : ∀ k j, mq12.2.2.2.2.2.1 k = some (.inl j) → m_mok m_Z m_strs j := by
  intro k j h
  have h1 := m_lk (l := mq12_m) h
  revert h1
  generalize hx : (k, (Sum.inl j : Nat ⊕ Nat)) = x
  revert x
  suffices hs : ∀ x ∈ mq12_m, ∀ j, x.2 = .inl j → m_mok m_Z m_strs j from fun x hx h1 => hs x h1 j (by rw [← hx])
  unfold mq12_m
  refine List.forall_mem_cons.mpr ⟨(fun j h => by cases h), ?_⟩
  refine List.forall_mem_cons.mpr ⟨(fun j h => by cases h; exact mm2402), ?_⟩
  refine List.forall_mem_cons.mpr ⟨(fun j h => by cases h; exact mm2410), ?_⟩
  refine List.forall_mem_cons.mpr ⟨(fun j h => by cases h; exact mm2401), ?_⟩
  refine List.forall_mem_cons.mpr ⟨(fun j h => by cases h; exact mm2404), ?_⟩
  refine List.forall_mem_cons.mpr ⟨(fun j h => by cases h; exact mm2416), ?_⟩
  refine List.forall_mem_cons.mpr ⟨(fun j h => by cases h; exact mm2417), ?_⟩
  refine List.forall_mem_cons.mpr ⟨(fun j h => by cases h; exact mm2419), ?_⟩
  refine List.forall_mem_cons.mpr ⟨(fun j h => by cases h; exact mm2411), ?_⟩
  refine List.forall_mem_cons.mpr ⟨(fun j h => by cases h; exact mm2413), ?_⟩
  refine List.forall_mem_cons.mpr ⟨(fun j h => by cases h; exact mm2414), ?_⟩
  refine List.forall_mem_cons.mpr ⟨(fun j h => by cases h; exact mm2425), ?_⟩
  refine List.forall_mem_cons.mpr ⟨(fun j h => by cases h; exact mm2426), ?_⟩
  refine List.forall_mem_cons.mpr ⟨(fun j h => by cases h; exact mm2405), ?_⟩
  refine List.forall_mem_cons.mpr ⟨(fun j h => by cases h; exact mm2428), ?_⟩
  refine List.forall_mem_cons.mpr ⟨(fun j h => by cases h; exact mm2427), ?_⟩
  refine List.forall_mem_cons.mpr ⟨(fun j h => by cases h; exact mm2430), ?_⟩
  refine List.forall_mem_cons.mpr ⟨(fun j h => by cases h; exact mm2439), ?_⟩
  refine List.forall_mem_cons.mpr ⟨(fun j h => by cases h; exact mm2440), ?_⟩
  refine List.forall_mem_cons.mpr ⟨(fun j h => by cases h), ?_⟩
  refine List.forall_mem_cons.mpr ⟨(fun j h => by cases h), ?_⟩
  refine List.forall_mem_cons.mpr ⟨(fun j h => by cases h; exact mm2441), ?_⟩
  refine List.forall_mem_cons.mpr ⟨(fun j h => by cases h; exact mm2442), ?_⟩
  refine List.forall_mem_cons.mpr ⟨(fun j h => by cases h; exact mm2447), ?_⟩
  refine List.forall_mem_cons.mpr ⟨(fun j h => by cases h; exact mm2450), ?_⟩
  refine List.forall_mem_cons.mpr ⟨(fun j h => by cases h; exact mm2449), ?_⟩
  refine List.forall_mem_cons.mpr ⟨(fun j h => by cases h; exact mm2445), ?_⟩
  refine List.forall_mem_cons.mpr ⟨(fun j h => by cases h; exact mm2451), ?_⟩
  refine List.forall_mem_cons.mpr ⟨(fun j h => by cases h; exact mm2444), ?_⟩
  refine List.forall_mem_cons.mpr ⟨(fun j h => by cases h; exact mm2455), ?_⟩
  refine List.forall_mem_cons.mpr ⟨(fun j h => by cases h; exact mm2443), ?_⟩
  refine List.forall_mem_cons.mpr ⟨(fun j h => by cases h; exact mm2453), ?_⟩
  refine List.forall_mem_cons.mpr ⟨(fun j h => by cases h; exact mm2452), ?_⟩
  refine List.forall_mem_cons.mpr ⟨(fun j h => by cases h; exact mm2454), ?_⟩
  refine List.forall_mem_cons.mpr ⟨(fun j h => by cases h; exact mm2448), ?_⟩
  refine List.forall_mem_cons.mpr ⟨(fun j h => by cases h; exact mm2456), ?_⟩
  refine List.forall_mem_cons.mpr ⟨(fun j h => by cases h; exact mm2438), ?_⟩
  refine List.forall_mem_cons.mpr ⟨(fun j h => by cases h; exact mm2457), ?_⟩
  refine List.forall_mem_cons.mpr ⟨(fun j h => by cases h; exact mm2412), ?_⟩
  refine List.forall_mem_cons.mpr ⟨(fun j h => by cases h; exact mm2500), ?_⟩
  refine List.forall_mem_cons.mpr ⟨(fun j h => by cases h), ?_⟩
  refine List.forall_mem_cons.mpr ⟨(fun j h => by cases h; exact mm2459), ?_⟩
  refine List.forall_mem_cons.mpr ⟨(fun j h => by cases h; exact mm2460), ?_⟩
  refine List.forall_mem_cons.mpr ⟨(fun j h => by cases h; exact mm2462), ?_⟩
  refine List.forall_mem_cons.mpr ⟨(fun j h => by cases h), ?_⟩
  refine List.forall_mem_cons.mpr ⟨(fun j h => by cases h; exact mm2465), ?_⟩
  refine List.forall_mem_cons.mpr ⟨(fun j h => by cases h; exact mm2461), ?_⟩
  refine List.forall_mem_cons.mpr ⟨(fun j h => by cases h; exact mm2466), ?_⟩
  refine List.forall_mem_cons.mpr ⟨(fun j h => by cases h; exact mm2469), ?_⟩
  refine List.forall_mem_cons.mpr ⟨(fun j h => by cases h; exact mm2464), ?_⟩
  refine List.forall_mem_cons.mpr ⟨(fun j h => by cases h; exact mm2463), ?_⟩
  refine List.forall_mem_cons.mpr ⟨(fun j h => by cases h; exact mm2468), ?_⟩
  refine List.forall_mem_cons.mpr ⟨(fun j h => by cases h; exact mm2471), ?_⟩
  refine List.forall_mem_cons.mpr ⟨(fun j h => by cases h), ?_⟩
  refine List.forall_mem_cons.mpr ⟨(fun j h => by cases h; exact mm2472), ?_⟩
  refine List.forall_mem_cons.mpr ⟨(fun j h => by cases h; exact mm2473), ?_⟩
  refine List.forall_mem_cons.mpr ⟨(fun j h => by cases h; exact mm2406), ?_⟩
  refine List.forall_mem_cons.mpr ⟨(fun j h => by cases h; exact mm2474), ?_⟩
  refine List.forall_mem_cons.mpr ⟨(fun j h => by cases h; exact mm2476), ?_⟩
  refine List.forall_mem_cons.mpr ⟨(fun j h => by cases h; exact mm2478), ?_⟩
  refine List.forall_mem_cons.mpr ⟨(fun j h => by cases h; exact mm2477), ?_⟩
  refine List.forall_mem_cons.mpr ⟨(fun j h => by cases h; exact mm2479), ?_⟩
  refine List.forall_mem_cons.mpr ⟨(fun j h => by cases h; exact mm2482), ?_⟩
  refine List.forall_mem_cons.mpr ⟨(fun j h => by cases h; exact mm2481), ?_⟩
  refine List.forall_mem_cons.mpr ⟨(fun j h => by cases h; exact mm2429), ?_⟩
  refine List.forall_mem_cons.mpr ⟨(fun j h => by cases h; exact mm2486), ?_⟩
  refine List.forall_mem_cons.mpr ⟨(fun j h => by cases h; exact mm2488), ?_⟩
  refine List.forall_mem_cons.mpr ⟨(fun j h => by cases h; exact mm2431), ?_⟩
  refine List.forall_mem_cons.mpr ⟨(fun j h => by cases h; exact mm2490), ?_⟩
  refine List.forall_mem_cons.mpr ⟨(fun j h => by cases h; exact mm2487), ?_⟩
  refine List.forall_mem_cons.mpr ⟨(fun j h => by cases h; exact mm2489), ?_⟩
  refine List.forall_mem_cons.mpr ⟨(fun j h => by cases h; exact mm2491), ?_⟩
  refine List.forall_mem_cons.mpr ⟨(fun j h => by cases h; exact mm2508), ?_⟩
  refine List.forall_mem_cons.mpr ⟨(fun j h => by cases h; exact mm2492), ?_⟩
  refine List.forall_mem_cons.mpr ⟨(fun j h => by cases h; exact mm2497), ?_⟩
  refine List.forall_mem_cons.mpr ⟨(fun j h => by cases h; exact mm2498), ?_⟩
  refine List.forall_mem_cons.mpr ⟨(fun j h => by cases h; exact mm2496), ?_⟩
  refine List.forall_mem_cons.mpr ⟨(fun j h => by cases h; exact mm2495), ?_⟩
  refine List.forall_mem_cons.mpr ⟨(fun j h => by cases h; exact mm2499), ?_⟩
  refine List.forall_mem_cons.mpr ⟨(fun j h => by cases h; exact mm2506), ?_⟩
  refine List.forall_mem_cons.mpr ⟨(fun j h => by cases h; exact mm2513), ?_⟩
  refine List.forall_mem_cons.mpr ⟨(fun j h => by cases h; exact mm2520), ?_⟩
  refine List.forall_mem_cons.mpr ⟨(fun j h => by cases h; exact mm2521), ?_⟩
  refine List.forall_mem_cons.mpr ⟨(fun j h => by cases h; exact mm2522), ?_⟩
  refine List.forall_mem_cons.mpr ⟨(fun j h => by cases h; exact mm2800), ?_⟩
  refine List.forall_mem_cons.mpr ⟨(fun j h => by cases h; exact mm2525), ?_⟩
  exact fun _ h => absurd h List.not_mem_nil
theorem mP13 : ∀ k j, mq13.2.2.2.2.2.1 k = some (.inl j) → m_mok m_Z m_strs j := by
  intro k j h
  have h1 := m_lk (l := mq13_m) h
  revert h1
  generalize hx : (k, (Sum.inl j : Nat ⊕ Nat)) = x
  revert x
  suffices hs : ∀ x ∈ mq13_m, ∀ j, x.2 = .inl j → m_mok m_Z m_strs j from fun x hx h1 => hs x h1 j (by rw [← hx])
  unfold mq13_m
  refine List.forall_mem_cons.mpr ⟨(fun j h => by cases h; exact mm2205), ?_⟩
  refine List.forall_mem_cons.mpr ⟨(fun j h => by cases h; exact mm2206), ?_⟩
  refine List.forall_mem_cons.mpr ⟨(fun j h => by cases h; exact mm2207), ?_⟩
  refine List.forall_mem_cons.mpr ⟨(fun j h => by cases h; exact mm2208), ?_⟩
  refine List.forall_mem_cons.mpr ⟨(fun j h => by cases h; exact mm2209), ?_⟩
  refine List.forall_mem_cons.mpr ⟨(fun j h => by cases h; exact mm2210), ?_⟩
  refine List.forall_mem_cons.mpr ⟨(fun j h => by cases h; exact mm2203), ?_⟩
  refine List.forall_mem_cons.mpr ⟨(fun j h => by cases h; exact mm2211), ?_⟩
  refine List.forall_mem_cons.mpr ⟨(fun j h => by cases h; exact mm2212), ?_⟩
  refine List.forall_mem_cons.mpr ⟨(fun j h => by cases h; exact mm2214), ?_⟩
  refine List.forall_mem_cons.mpr ⟨(fun j h => by cases h; exact mm2215), ?_⟩
  refine List.forall_mem_cons.mpr ⟨(fun j h => by cases h; exact mm2218), ?_⟩
  refine List.forall_mem_cons.mpr ⟨(fun j h => by cases h; exact mm2219), ?_⟩
  refine List.forall_mem_cons.mpr ⟨(fun j h => by cases h; exact mm2220), ?_⟩
  refine List.forall_mem_cons.mpr ⟨(fun j h => by cases h; exact mm2221), ?_⟩
  refine List.forall_mem_cons.mpr ⟨(fun j h => by cases h; exact mm2222), ?_⟩
  refine List.forall_mem_cons.mpr ⟨(fun j h => by cases h; exact mm2223), ?_⟩
  refine List.forall_mem_cons.mpr ⟨(fun j h => by cases h; exact mm2224), ?_⟩
  refine List.forall_mem_cons.mpr ⟨(fun j h => by cases h; exact mm2225), ?_⟩
  refine List.forall_mem_cons.mpr ⟨(fun j h => by cases h; exact mm2216), ?_⟩
  refine List.forall_mem_cons.mpr ⟨(fun j h => by cases h; exact mm2217), ?_⟩
  refine List.forall_mem_cons.mpr ⟨(fun j h => by cases h; exact mm2226), ?_⟩
  refine List.forall_mem_cons.mpr ⟨(fun j h => by cases h; exact mm2227), ?_⟩
  refine List.forall_mem_cons.mpr ⟨(fun j h => by cases h; exact mm2229), ?_⟩
  refine List.forall_mem_cons.mpr ⟨(fun j h => by cases h; exact mm2230), ?_⟩
  refine List.forall_mem_cons.mpr ⟨(fun j h => by cases h; exact mm2231), ?_⟩
  refine List.forall_mem_cons.mpr ⟨(fun j h => by cases h; exact mm2232), ?_⟩
  refine List.forall_mem_cons.mpr ⟨(fun j h => by cases h; exact mm2235), ?_⟩
  refine List.forall_mem_cons.mpr ⟨(fun j h => by cases h; exact mm2236), ?_⟩
  refine List.forall_mem_cons.mpr ⟨(fun j h => by cases h; exact mm2237), ?_⟩
  refine List.forall_mem_cons.mpr ⟨(fun j h => by cases h; exact mm2240), ?_⟩
  refine List.forall_mem_cons.mpr ⟨(fun j h => by cases h; exact mm2242), ?_⟩
  refine List.forall_mem_cons.mpr ⟨(fun j h => by cases h; exact mm2243), ?_⟩
  refine List.forall_mem_cons.mpr ⟨(fun j h => by cases h; exact mm2245), ?_⟩
  refine List.forall_mem_cons.mpr ⟨(fun j h => by cases h; exact mm2233), ?_⟩
  refine List.forall_mem_cons.mpr ⟨(fun j h => by cases h; exact mm2200), ?_⟩
  refine List.forall_mem_cons.mpr ⟨(fun j h => by cases h; exact mm2403), ?_⟩
  refine List.forall_mem_cons.mpr ⟨(fun j h => by cases h; exact mm2201), ?_⟩
  refine List.forall_mem_cons.mpr ⟨(fun j h => by cases h; exact mm2436), ?_⟩
  refine List.forall_mem_cons.mpr ⟨(fun j h => by cases h; exact mm2202), ?_⟩
  refine List.forall_mem_cons.mpr ⟨(fun j h => by cases h; exact mm2437), ?_⟩
  refine List.forall_mem_cons.mpr ⟨(fun j h => by cases h; exact mm2600), ?_⟩
  refine List.forall_mem_cons.mpr ⟨(fun j h => by cases h; exact mm2415), ?_⟩
  refine List.forall_mem_cons.mpr ⟨(fun j h => by cases h; exact mm2400), ?_⟩
  refine List.forall_mem_cons.mpr ⟨(fun j h => by cases h; exact mm2601), ?_⟩
  refine List.forall_mem_cons.mpr ⟨(fun j h => by cases h; exact mm2418), ?_⟩
  refine List.forall_mem_cons.mpr ⟨(fun j h => by cases h; exact mm2602), ?_⟩
  refine List.forall_mem_cons.mpr ⟨(fun j h => by cases h; exact mm2420), ?_⟩
  refine List.forall_mem_cons.mpr ⟨(fun j h => by cases h; exact mm2603), ?_⟩
  refine List.forall_mem_cons.mpr ⟨(fun j h => by cases h; exact mm2421), ?_⟩
  refine List.forall_mem_cons.mpr ⟨(fun j h => by cases h; exact mm2604), ?_⟩
  refine List.forall_mem_cons.mpr ⟨(fun j h => by cases h; exact mm2432), ?_⟩
  refine List.forall_mem_cons.mpr ⟨(fun j h => by cases h; exact mm2605), ?_⟩
  refine List.forall_mem_cons.mpr ⟨(fun j h => by cases h; exact mm2433), ?_⟩
  refine List.forall_mem_cons.mpr ⟨(fun j h => by cases h; exact mm2606), ?_⟩
  refine List.forall_mem_cons.mpr ⟨(fun j h => by cases h; exact mm2458), ?_⟩
  refine List.forall_mem_cons.mpr ⟨(fun j h => by cases h; exact mm2204), ?_⟩
  refine List.forall_mem_cons.mpr ⟨(fun j h => by cases h; exact mm2446), ?_⟩
  refine List.forall_mem_cons.mpr ⟨(fun j h => by cases h; exact mm2607), ?_⟩
  refine List.forall_mem_cons.mpr ⟨(fun j h => by cases h; exact mm2467), ?_⟩
  refine List.forall_mem_cons.mpr ⟨(fun j h => by cases h; exact mm2608), ?_⟩
  refine List.forall_mem_cons.mpr ⟨(fun j h => by cases h; exact mm2470), ?_⟩
  refine List.forall_mem_cons.mpr ⟨(fun j h => by cases h; exact mm2609), ?_⟩
  refine List.forall_mem_cons.mpr ⟨(fun j h => by cases h; exact mm2475), ?_⟩
  refine List.forall_mem_cons.mpr ⟨(fun j h => by cases h; exact mm2610), ?_⟩
  refine List.forall_mem_cons.mpr ⟨(fun j h => by cases h; exact mm2435), ?_⟩
  refine List.forall_mem_cons.mpr ⟨(fun j h => by cases h; exact mm2611), ?_⟩
  refine List.forall_mem_cons.mpr ⟨(fun j h => by cases h; exact mm2480), ?_⟩
  refine List.forall_mem_cons.mpr ⟨(fun j h => by cases h; exact mm2612), ?_⟩
  refine List.forall_mem_cons.mpr ⟨(fun j h => by cases h; exact mm2422), ?_⟩
  refine List.forall_mem_cons.mpr ⟨(fun j h => by cases h; exact mm2613), ?_⟩
  refine List.forall_mem_cons.mpr ⟨(fun j h => by cases h; exact mm2423), ?_⟩
  refine List.forall_mem_cons.mpr ⟨(fun j h => by cases h; exact mm2614), ?_⟩
  refine List.forall_mem_cons.mpr ⟨(fun j h => by cases h; exact mm2483), ?_⟩
  refine List.forall_mem_cons.mpr ⟨(fun j h => by cases h; exact mm2615), ?_⟩
  refine List.forall_mem_cons.mpr ⟨(fun j h => by cases h; exact mm2484), ?_⟩
  refine List.forall_mem_cons.mpr ⟨(fun j h => by cases h; exact mm2616), ?_⟩
  refine List.forall_mem_cons.mpr ⟨(fun j h => by cases h; exact mm2485), ?_⟩
  refine List.forall_mem_cons.mpr ⟨(fun j h => by cases h; exact mm2617), ?_⟩
  refine List.forall_mem_cons.mpr ⟨(fun j h => by cases h; exact mm2424), ?_⟩
  refine List.forall_mem_cons.mpr ⟨(fun j h => by cases h; exact mm2618), ?_⟩
  refine List.forall_mem_cons.mpr ⟨(fun j h => by cases h; exact mm2493), ?_⟩
  refine List.forall_mem_cons.mpr ⟨(fun j h => by cases h; exact mm2619), ?_⟩
  refine List.forall_mem_cons.mpr ⟨(fun j h => by cases h; exact mm2494), ?_⟩
  refine List.forall_mem_cons.mpr ⟨(fun j h => by cases h; exact mm2620), ?_⟩
  refine List.forall_mem_cons.mpr ⟨(fun j h => by cases h; exact mm2434), ?_⟩
  refine List.forall_mem_cons.mpr ⟨(fun j h => by cases h; exact mm2621), ?_⟩
  refine List.forall_mem_cons.mpr ⟨(fun j h => by cases h; exact mm2501), ?_⟩
  refine List.forall_mem_cons.mpr ⟨(fun j h => by cases h; exact mm2622), ?_⟩
  refine List.forall_mem_cons.mpr ⟨(fun j h => by cases h; exact mm2502), ?_⟩
  refine List.forall_mem_cons.mpr ⟨(fun j h => by cases h; exact mm2623), ?_⟩
  refine List.forall_mem_cons.mpr ⟨(fun j h => by cases h; exact mm2503), ?_⟩
  refine List.forall_mem_cons.mpr ⟨(fun j h => by cases h; exact mm2624), ?_⟩
  refine List.forall_mem_cons.mpr ⟨(fun j h => by cases h; exact mm2504), ?_⟩
  refine List.forall_mem_cons.mpr ⟨(fun j h => by cases h; exact mm2625), ?_⟩
  refine List.forall_mem_cons.mpr ⟨(fun j h => by cases h; exact mm2505), ?_⟩
  refine List.forall_mem_cons.mpr ⟨(fun j h => by cases h; exact mm2626), ?_⟩
  refine List.forall_mem_cons.mpr ⟨(fun j h => by cases h; exact mm2507), ?_⟩
  refine List.forall_mem_cons.mpr ⟨(fun j h => by cases h; exact mm2627), ?_⟩
  refine List.forall_mem_cons.mpr ⟨(fun j h => by cases h; exact mm2509), ?_⟩
  refine List.forall_mem_cons.mpr ⟨(fun j h => by cases h; exact mm2628), ?_⟩
  refine List.forall_mem_cons.mpr ⟨(fun j h => by cases h; exact mm2510), ?_⟩
  refine List.forall_mem_cons.mpr ⟨(fun j h => by cases h; exact mm2228), ?_⟩
  refine List.forall_mem_cons.mpr ⟨(fun j h => by cases h; exact mm2511), ?_⟩
  refine List.forall_mem_cons.mpr ⟨(fun j h => by cases h; exact mm2629), ?_⟩
  refine List.forall_mem_cons.mpr ⟨(fun j h => by cases h; exact mm2512), ?_⟩
  refine List.forall_mem_cons.mpr ⟨(fun j h => by cases h; exact mm2238), ?_⟩
  refine List.forall_mem_cons.mpr ⟨(fun j h => by cases h; exact mm2514), ?_⟩
  refine List.forall_mem_cons.mpr ⟨(fun j h => by cases h; exact mm2239), ?_⟩
  refine List.forall_mem_cons.mpr ⟨(fun j h => by cases h; exact mm2515), ?_⟩
  refine List.forall_mem_cons.mpr ⟨(fun j h => by cases h; exact mm2630), ?_⟩
  refine List.forall_mem_cons.mpr ⟨(fun j h => by cases h; exact mm2516), ?_⟩
  refine List.forall_mem_cons.mpr ⟨(fun j h => by cases h; exact mm2241), ?_⟩
  refine List.forall_mem_cons.mpr ⟨(fun j h => by cases h; exact mm2517), ?_⟩
  refine List.forall_mem_cons.mpr ⟨(fun j h => by cases h; exact mm2631), ?_⟩
  refine List.forall_mem_cons.mpr ⟨(fun j h => by cases h; exact mm2518), ?_⟩
  refine List.forall_mem_cons.mpr ⟨(fun j h => by cases h; exact mm2632), ?_⟩
  refine List.forall_mem_cons.mpr ⟨(fun j h => by cases h; exact mm2519), ?_⟩
  refine List.forall_mem_cons.mpr ⟨(fun j h => by cases h; exact mm2244), ?_⟩
  refine List.forall_mem_cons.mpr ⟨(fun j h => by cases h; exact mm2523), ?_⟩
  refine List.forall_mem_cons.mpr ⟨(fun j h => by cases h; exact mm2633), ?_⟩
  refine List.forall_mem_cons.mpr ⟨(fun j h => by cases h; exact mm2524), ?_⟩
  refine List.forall_mem_cons.mpr ⟨(fun j h => by cases h; exact mm2634), ?_⟩
  refine List.forall_mem_cons.mpr ⟨(fun j h => by cases h; exact mm2526), ?_⟩
  refine List.forall_mem_cons.mpr ⟨(fun j h => by cases h; exact mm2234), ?_⟩
  refine List.forall_mem_cons.mpr ⟨(fun j h => by cases h; exact mm2527), ?_⟩
  refine List.forall_mem_cons.mpr ⟨(fun j h => by cases h; exact mm2246), ?_⟩
  refine List.forall_mem_cons.mpr ⟨(fun j h => by cases h; exact mm2407), ?_⟩
  refine List.forall_mem_cons.mpr ⟨(fun j h => by cases h; exact mm2247), ?_⟩
  refine List.forall_mem_cons.mpr ⟨(fun j h => by cases h; exact mm2408), ?_⟩
  refine List.forall_mem_cons.mpr ⟨(fun j h => by cases h; exact mm2248), ?_⟩
  refine List.forall_mem_cons.mpr ⟨(fun j h => by cases h; exact mm2409), ?_⟩
  refine List.forall_mem_cons.mpr ⟨(fun j h => by cases h; exact mm2249), ?_⟩
  refine List.forall_mem_cons.mpr ⟨(fun j h => by cases h; exact mm2528), ?_⟩
  exact fun _ h => absurd h List.not_mem_nil
theorem mP14 : ∀ k j, mq14.2.2.2.2.2.1 k = some (.inl j) → m_mok m_Z m_strs j := by
  intro k j h
  have h0 : mq14_m.lookup k = some (.inl j) := h
  unfold mq14_m at h0
  cases h0
