/-! ===== m_: what the methods do, as functions (printed out of the code) ===== -/
noncomputable def F0_init_0 (x0 : Nat) (x1 : Int32) (x2 : Nat) (hp : m_H) : Option m_H :=
  m_b (m_pf m_ft hp x0 0 0 (.int x1)) fun h1 =>
  m_b (m_gi h1 x2 5 7) fun v3 =>
  m_b (m_gr h1 x2 5 4) fun v5 =>
  m_b (m_len h1 v5) fun v7 =>
  m_b (m_pf m_ft h1 x0 0 1 (.int (m_max 0 (m_min v3 v7)))) fun h9 =>
  m_b (m_gr h9 x2 5 4) fun v11 =>
  m_b (m_gi h9 x0 0 1) fun v13 =>
  m_b (m_cof h9 v11 v13) fun h16 =>
  m_b (m_pf m_ft h16 x0 0 2 (.ref (m_id h9))) fun h17 =>
  m_b (m_gr h17 x2 5 5) fun v19 =>
  m_b (m_gi h17 x0 0 1) fun v21 =>
  m_b (m_cof h17 v19 v21) fun h24 =>
  m_b (m_pf m_ft h24 x0 0 3 (.ref (m_id h17))) fun h25 =>
  m_b (m_gr h25 x2 5 6) fun v27 =>
  m_b (m_gi h25 x0 0 1) fun v29 =>
  m_b (m_cof h25 v27 v29) fun h32 =>
  m_b (m_pf m_ft h32 x0 0 4 (.ref (m_id h25))) fun h33 =>
  m_b (m_gr h33 x2 5 8) fun v35 =>
  m_b (m_gi h33 x2 5 9) fun v37 =>
  m_b (m_cof h33 v35 (m_max 0 v37)) fun h40 =>
  m_b (m_pf m_ft h40 x0 0 5 (.ref (m_id h33))) fun h41 =>
  some h41
noncomputable def F0_init (x0 : Nat) (x1 : Int32) (x2 : Nat) (hp : m_H) : Option m_H :=
  m_gd (m_isO hp 0 x0) (F0_init_0 x0 x1 x2 hp)
noncomputable def F0_kindOf_0 (x0 : Nat) (x1 : Int32) (hp : m_H) : Option Int32 :=
  m_if (x1 < 0) (
    some (-1)
  ) (
    m_b (m_gr hp x0 0 2) fun v2 =>
    m_b (m_len hp v2) fun v4 =>
    m_if (v4 ≤ x1) (
      some (-1)
    ) (
      m_b (m_gr hp x0 0 2) fun v7 =>
      m_b (m_ai hp 0 v7 x1) fun v9 =>
      some v9
    )
  )
noncomputable def F0_kindOf (x0 : Nat) (x1 : Int32) (hp : m_H) : Option Int32 :=
  m_gd (m_isO hp 0 x0) (F0_kindOf_0 x0 x1 hp)
noncomputable def F0_numberOf_0 (x0 : Nat) (x1 : Int32) (hp : m_H) : Option Int32 :=
  m_if (x1 < 0) (
    some 0
  ) (
    m_b (m_gr hp x0 0 3) fun v2 =>
    m_b (m_len hp v2) fun v4 =>
    m_if (v4 ≤ x1) (
      some 0
    ) (
      m_b (m_gr hp x0 0 3) fun v7 =>
      m_b (m_ai hp 0 v7 x1) fun v9 =>
      some v9
    )
  )
noncomputable def F0_numberOf (x0 : Nat) (x1 : Int32) (hp : m_H) : Option Int32 :=
  m_gd (m_isO hp 0 x0) (F0_numberOf_0 x0 x1 hp)
noncomputable def F0_endOf_0 (x0 : Nat) (x1 : Int32) (hp : m_H) : Option Int32 :=
  m_if (x1 < 0) (
    some 0
  ) (
    m_b (m_gr hp x0 0 4) fun v2 =>
    m_b (m_len hp v2) fun v4 =>
    m_if (v4 ≤ x1) (
      some 0
    ) (
      m_b (m_gr hp x0 0 4) fun v7 =>
      m_b (m_ai hp 0 v7 x1) fun v9 =>
      some v9
    )
  )
noncomputable def F0_endOf (x0 : Nat) (x1 : Int32) (hp : m_H) : Option Int32 :=
  m_gd (m_isO hp 0 x0) (F0_endOf_0 x0 x1 hp)
noncomputable def F1_init_0 (x0 : Nat) (hp : m_H) : Option m_H :=
  m_b (m_nw 0 768 hp) fun h1 =>
  m_b (m_pf m_ft h1 x0 1 0 (.ref (m_id hp))) fun h3 =>
  some h3
noncomputable def F1_init (x0 : Nat) (hp : m_H) : Option m_H :=
  m_gd (m_isO hp 1 x0) (F1_init_0 x0 hp)
noncomputable def F8_reaches_0 (x0 : Nat) (x1 : Int32) (x2 : Int32) (hp : m_H) : Option Int32 :=
  m_if (x1 < 0) (
    some 0
  ) (
    m_b (m_gi hp x0 6 2) fun v2 =>
    m_if (v2 ≤ x1) (
      some 0
    ) (
      m_if (x2 < 0) (
        some 0
      ) (
        m_b (m_gi hp x0 6 0) fun v6 =>
        m_if (v6 ≤ x2) (
          some 0
        ) (
          m_b (m_gi hp x0 6 0) fun v9 =>
          m_b (m_gr hp x0 6 1) fun v11 =>
          m_b (m_len hp v11) fun v13 =>
          m_if (v13 < ((x1 + 1) * v9)) (
            some 0
          ) (
            some 1
          )
        )
      )
    )
  )
noncomputable def F8_reaches (x0 : Nat) (x1 : Int32) (x2 : Int32) (hp : m_H) : Option Int32 :=
  m_gd (m_isO hp 6 x0) (F8_reaches_0 x0 x1 x2 hp)
noncomputable def F8_get_0 (x0 : Nat) (x1 : Int32) (x2 : Int32) (hp : m_H) : Option Int32 :=
  m_b (F8_reaches x0 x1 x2 hp) fun v2 =>
  m_if (v2 = 0) (
    some 0
  ) (
    m_b (m_gr hp x0 6 1) fun v4 =>
    m_b (m_gi hp x0 6 0) fun v6 =>
    m_b (m_ai hp 0 v4 ((x1 * v6) + x2)) fun v8 =>
    some v8
  )
noncomputable def F8_get (x0 : Nat) (x1 : Int32) (x2 : Int32) (hp : m_H) : Option Int32 :=
  m_gd (m_isO hp 6 x0) (F8_get_0 x0 x1 x2 hp)
noncomputable def F3_isLent_0 (x0 : Nat) (x1 : Int32) (hp : m_H) : Option Int32 :=
  m_b (m_gr hp x0 3 8) fun v1 =>
  m_b (F8_get v1 x1 2 hp) fun v4 =>
  m_if (v4 = 0) (
    some 0
  ) (
    m_b (m_gr hp x0 3 8) fun v6 =>
    m_b (F8_get v6 x1 3 hp) fun v9 =>
    m_if (v9 = 0) (
      some 1
    ) (
      some 0
    )
  )
noncomputable def F3_isLent (x0 : Nat) (x1 : Int32) (hp : m_H) : Option Int32 :=
  m_gd (m_isO hp 3 x0) (F3_isLent_0 x0 x1 hp)
noncomputable def F3_crates_0 (x0 : Nat) (x1 : Int32) (x2 : Int32) (hp : m_H) : Option Int32 :=
  m_b (m_gr hp x0 3 8) fun v1 =>
  m_b (F8_get v1 x1 (10 + x2) hp) fun v4 =>
  some v4
noncomputable def F3_crates (x0 : Nat) (x1 : Int32) (x2 : Int32) (hp : m_H) : Option Int32 :=
  m_gd (m_isO hp 3 x0) (F3_crates_0 x0 x1 x2 hp)
noncomputable def F1_raise_0 (x0 : Nat) (x1 : Int32) (x2 : Int32) (x3 : Int32) (hp : m_H) : Option m_H :=
  m_if (x1 < 0) (
    some hp
  ) (
    m_b (m_gr hp x0 1 0) fun v2 =>
    m_b (m_len hp v2) fun v4 =>
    m_if (v4 ≤ x1) (
      some hp
    ) (
      m_b (m_gr hp x0 1 0) fun v7 =>
      m_if (x3 = 0) (
        m_b (m_si hp 0 v7 x1 x2) fun h10 =>
        some h10
      ) (
        m_b (m_gr hp x0 1 0) fun v12 =>
        m_b (m_ai hp 0 v12 x1) fun v14 =>
        m_b (m_si hp 0 v7 x1 (v14 + x2)) fun h16 =>
        some h16
      )
    )
  )
noncomputable def F1_raise (x0 : Nat) (x1 : Int32) (x2 : Int32) (x3 : Int32) (hp : m_H) : Option m_H :=
  m_gd (m_isO hp 1 x0) (F1_raise_0 x0 x1 x2 x3 hp)
noncomputable def F1_makeRoom_0 (x0 : Nat) (x1 : Int32) (hp : m_H) : Option m_H :=
  m_b (m_gr hp x0 1 0) fun v1 =>
  m_b (m_len hp v1) fun v3 =>
  m_if (x1 ≤ v3) (
    some hp
  ) (
    m_if (24048 < x1) (
      some hp
    ) (
      m_b (m_gr hp x0 1 0) fun v7 =>
      m_b (m_gr hp x0 1 0) fun v9 =>
      m_b (m_len hp v9) fun v11 =>
      m_b (m_cof hp v7 (m_min 24048 (m_max x1 (2 * v11)))) fun h14 =>
      m_b (m_pf m_ft h14 x0 1 0 (.ref (m_id hp))) fun h15 =>
      some h15
    )
  )
noncomputable def F1_makeRoom (x0 : Nat) (x1 : Int32) (hp : m_H) : Option m_H :=
  m_gd (m_isO hp 1 x0) (F1_makeRoom_0 x0 x1 hp)
noncomputable def F3_tradeRow_0 (x0 : Int32) (x1 : Int32) (hp : m_H) : Option Int32 :=
  some ((x0 * 8) + x1)
noncomputable def F3_tradeRow (x0 : Int32) (x1 : Int32) (hp : m_H) : Option Int32 :=
  F3_tradeRow_0 x0 x1 hp
noncomputable def F1_write_41b (x0 : Nat) (x1 : Nat) (x2 : Int32) (s : Int32 × m_H) : Option ((Int32 × m_H) ⊕ m_H) :=
  m_b (m_gr s.2 x1 3 8) fun v1 =>
  m_b (m_gi s.2 v1 6 2) fun v3 =>
  m_if (v3 ≤ s.1) (
    some (.inr s.2)
  ) (
    m_b (F3_crates x1 s.1 3 s.2) fun v7 =>
    m_if (v7 ≤ 0) (
      some (.inl ((s.1 + 1), s.2))
    ) (
      m_b (F3_isLent x1 s.1 s.2) fun v10 =>
      m_if (v10 = 0) (
        some (.inl ((s.1 + 1), s.2))
      ) (
        m_b (m_gr s.2 x1 3 8) fun v12 =>
        m_b (F8_get v12 s.1 2 s.2) fun v15 =>
        m_b (m_gr s.2 x1 3 8) fun v16 =>
        m_b (F8_get v16 s.1 0 s.2) fun v19 =>
        m_b (F3_tradeRow v15 v19 s.2) fun v21 =>
        m_b (F1_raise x0 (x2 + v21) v7 1 s.2) fun h23 =>
        some (.inl ((s.1 + 1), h23))
      )
    )
  )
noncomputable def F1_write_41 (x0 : Nat) (x1 : Nat) (x2 : Int32) (x3 : Int32) (hp : m_H) : Option m_H :=
  m_wh (fun s => F1_write_41b x0 x1 x2 s) m_N (x3, hp)
noncomputable def F1_write_18b (x0 : Nat) (x1 : Nat) (x2 : Int32) (s : Int32 × m_H) : Option ((Int32 × m_H) ⊕ m_H) :=
  m_if (48 ≤ s.1) (
    (F1_write_41 x0 x1 x2 0 s.2).map .inr
  ) (
    m_b (F1_raise x0 (x2 + s.1) 0 0 s.2) fun h3 =>
    some (.inl ((s.1 + 1), h3))
  )
noncomputable def F1_write_18 (x0 : Nat) (x1 : Nat) (x2 : Int32) (x3 : Int32) (hp : m_H) : Option m_H :=
  m_wh (fun s => F1_write_18b x0 x1 x2 s) m_N (x3, hp)
noncomputable def F1_write_0 (x0 : Nat) (x1 : Nat) (hp : m_H) : Option m_H :=
  m_b (m_gi hp x1 3 0) fun v1 =>
  m_b (F1_makeRoom x0 ((v1 * 48) + 48) hp) fun h4 =>
  F1_write_18 x0 x1 (v1 * 48) 0 h4
noncomputable def F1_write (x0 : Nat) (x1 : Nat) (hp : m_H) : Option m_H :=
  m_gd (m_isO hp 1 x0) (F1_write_0 x0 x1 hp)
noncomputable def F1_at_0 (x0 : Nat) (x1 : Int32) (x2 : Int32) (x3 : Int32) (hp : m_H) : Option Int32 :=
  m_b (F3_tradeRow x2 x3 hp) fun v2 =>
  m_if (((x1 * 48) + v2) < 0) (
    some 0
  ) (
    m_b (m_gr hp x0 1 0) fun v4 =>
    m_b (m_len hp v4) fun v6 =>
    m_if (v6 ≤ ((x1 * 48) + v2)) (
      some 0
    ) (
      m_b (m_gr hp x0 1 0) fun v9 =>
      m_b (m_ai hp 0 v9 ((x1 * 48) + v2)) fun v11 =>
      some v11
    )
  )
noncomputable def F1_at (x0 : Nat) (x1 : Int32) (x2 : Int32) (x3 : Int32) (hp : m_H) : Option Int32 :=
  m_gd (m_isO hp 1 x0) (F1_at_0 x0 x1 x2 x3 hp)
noncomputable def F1_copyFrom_0 (x0 : Nat) (x1 : Nat) (x2 : Int32) (hp : m_H) : Option m_H :=
  m_b (F1_makeRoom x0 (x2 * 48) hp) fun h2 =>
  m_if ((x2 * 48) < 0) (
    some h2
  ) (
    m_b (m_gr h2 x0 1 0) fun v4 =>
    m_b (m_len h2 v4) fun v6 =>
    m_if (v6 < (x2 * 48)) (
      some h2
    ) (
      m_b (m_gr h2 x1 1 0) fun v9 =>
      m_b (m_len h2 v9) fun v11 =>
      m_if (v11 < (x2 * 48)) (
        some h2
      ) (
        m_b (m_gr h2 x1 1 0) fun v14 =>
        m_b (m_gr h2 x0 1 0) fun v16 =>
        m_b (m_cpy h2 v14 v16 0 0 (x2 * 48)) fun h19 =>
        some h19
      )
    )
  )
noncomputable def F1_copyFrom (x0 : Nat) (x1 : Nat) (x2 : Int32) (hp : m_H) : Option m_H :=
  m_gd (m_isO hp 1 x0) (F1_copyFrom_0 x0 x1 x2 hp)
noncomputable def F2_init_0 (x0 : Nat) (hp : m_H) : Option m_H :=
  m_b (m_nw 0 60 hp) fun h1 =>
  m_b (m_pf m_ft h1 x0 2 0 (.ref (m_id hp))) fun h3 =>
  m_b (m_nw 3 60 h3) fun h5 =>
  m_b (m_pf m_ft h5 x0 2 1 (.ref (m_id h3))) fun h7 =>
  m_b (m_nw 0 10 h7) fun h9 =>
  m_b (m_pf m_ft h9 x0 2 2 (.ref (m_id h7))) fun h11 =>
  m_b (m_nw 1 400 h11) fun h13 =>
  m_b (m_pf m_ft h13 x0 2 3 (.ref (m_id h11))) fun h15 =>
  some h15
noncomputable def F2_init (x0 : Nat) (hp : m_H) : Option m_H :=
  m_gd (m_isO hp 2 x0) (F2_init_0 x0 hp)
noncomputable def F8_has_0 (x0 : Nat) (x1 : Int32) (hp : m_H) : Option Int32 :=
  m_if (x1 < 0) (
    some 0
  ) (
    m_b (m_gi hp x0 6 2) fun v2 =>
    m_if (v2 ≤ x1) (
      some 0
    ) (
      some 1
    )
  )
noncomputable def F8_has (x0 : Nat) (x1 : Int32) (hp : m_H) : Option Int32 :=
  m_gd (m_isO hp 6 x0) (F8_has_0 x0 x1 hp)
noncomputable def F3_lackOf_0 (x0 : Nat) (x1 : Int32) (hp : m_H) : Option Int32 :=
  m_b (m_gr hp x0 3 9) fun v1 =>
  m_b (F8_get v1 x1 2 hp) fun v4 =>
  m_b (m_gr hp x0 3 9) fun v5 =>
  m_b (F8_get v5 x1 4 hp) fun v8 =>
  some (v4 - v8)
noncomputable def F3_lackOf (x0 : Nat) (x1 : Int32) (hp : m_H) : Option Int32 :=
  m_gd (m_isO hp 3 x0) (F3_lackOf_0 x0 x1 hp)
noncomputable def F3_actInForce_4b (x0 : Nat) (hp : m_H) (s : Option Nat × Int32) : Option ((Option Nat × Int32) ⊕ (Option Nat)) :=
  m_b (m_gi hp x0 3 5) fun v1 =>
  m_if (v1 ≤ s.2) (
    some (.inr s.1)
  ) (
    m_b (m_gr hp x0 3 4) fun v4 =>
    m_b (m_len hp v4) fun v6 =>
    m_if (v6 ≤ s.2) (
      some (.inr s.1)
    ) (
      m_b (m_gr hp x0 3 4) fun v9 =>
      m_b (m_aq hp v9 s.2) fun v11 =>
      m_on v11 (
        some (.inl (s.1, (s.2 + 1)))
      ) fun a13 =>
      m_b (m_gi hp a13 0 0) fun v15 =>
      m_b (m_gi hp x0 3 0) fun v17 =>
      m_if (v17 < v15) (
        some (.inl (s.1, (s.2 + 1)))
      ) (
        m_on s.1 (
          some (.inl ((some a13), (s.2 + 1)))
        ) fun a20 =>
        m_b (m_gi hp a13 0 0) fun v22 =>
        m_b (m_gi hp a20 0 0) fun v24 =>
        m_if (v22 < v24) (
          some (.inl ((some a20), (s.2 + 1)))
        ) (
          some (.inl ((some a13), (s.2 + 1)))
        )
      )
    )
  )
noncomputable def F3_actInForce_4 (x0 : Nat) (x1 : Option Nat) (x2 : Int32) (hp : m_H) : Option (Option Nat) :=
  m_wh (fun s => F3_actInForce_4b x0 hp s) m_N (x1, x2)
noncomputable def F3_actInForce_0 (x0 : Nat) (hp : m_H) : Option (Option Nat) :=
  F3_actInForce_4 x0 none 0 hp
noncomputable def F3_actInForce (x0 : Nat) (hp : m_H) : Option (Option Nat) :=
  m_gd (m_isO hp 3 x0) (F3_actInForce_0 x0 hp)
noncomputable def F3_basesOf_4b (x0 : Nat) (x1 : Int32) (hp : m_H) (s : Int32 × Int32) : Option ((Int32 × Int32) ⊕ Int32) :=
  m_b (m_gr hp x0 3 16) fun v1 =>
  m_b (m_gi hp v1 6 2) fun v3 =>
  m_if (v3 ≤ s.2) (
    some (.inr s.1)
  ) (
    m_b (m_gi hp x0 3 0) fun v6 =>
    m_b (m_gr hp x0 3 16) fun v8 =>
    m_b (F8_get v8 s.2 1 hp) fun v11 =>
    m_b (m_gr hp x0 3 16) fun v12 =>
    m_b (F8_get v12 s.2 0 hp) fun v15 =>
    m_if (v15 = x1) (
      m_b (m_gr hp x0 3 16) fun v17 =>
      m_b (F8_get v17 s.2 2 hp) fun v20 =>
      m_if (v20 ≤ (v6 - v11)) (
        some (.inl (s.1, (s.2 + 1)))
      ) (
        some (.inl ((s.1 + 1), (s.2 + 1)))
      )
    ) (
      some (.inl (s.1, (s.2 + 1)))
    )
  )
noncomputable def F3_basesOf_4 (x0 : Nat) (x1 : Int32) (x2 : Int32) (x3 : Int32) (hp : m_H) : Option Int32 :=
  m_wh (fun s => F3_basesOf_4b x0 x1 hp s) m_N (x2, x3)
noncomputable def F3_basesOf_0 (x0 : Nat) (x1 : Int32) (hp : m_H) : Option Int32 :=
  F3_basesOf_4 x0 x1 0 0 hp
noncomputable def F3_basesOf (x0 : Nat) (x1 : Int32) (hp : m_H) : Option Int32 :=
  m_gd (m_isO hp 3 x0) (F3_basesOf_0 x0 x1 hp)
noncomputable def F2_state_0 (x0 : Nat) (x1 : Int32) (x2 : Int32) (hp : m_H) : Option m_H :=
  m_if (x1 < 0) (
    some hp
  ) (
    m_b (m_gr hp x0 2 2) fun v2 =>
    m_b (m_len hp v2) fun v4 =>
    m_if (v4 ≤ x1) (
      some hp
    ) (
      m_b (m_gr hp x0 2 2) fun v7 =>
      m_b (m_si hp 0 v7 x1 x2) fun h9 =>
      some h9
    )
  )
noncomputable def F2_state (x0 : Nat) (x1 : Int32) (x2 : Int32) (hp : m_H) : Option m_H :=
  m_gd (m_isO hp 2 x0) (F2_state_0 x0 x1 x2 hp)
noncomputable def F3_toldFor_8b (x0 : Nat) (x1 : Int32) (x2 : Int32) (hp : m_H) (s : Int32 × Int32 × Int32) : Option ((Int32 × Int32 × Int32) ⊕ Int32) :=
  m_b (m_gi hp x0 6 2) fun v1 =>
  m_if (v1 ≤ s.2.2) (
    some (.inr s.2.1)
  ) (
    m_b (F8_get x0 s.2.2 1 hp) fun v5 =>
    m_b (F8_get x0 s.2.2 0 hp) fun v7 =>
    m_if (v7 = x1) (
      m_if (x2 < v5) (
        some (.inl (s.1, s.2.1, (s.2.2 + 1)))
      ) (
        m_if (v5 < s.1) (
          some (.inl (s.1, s.2.1, (s.2.2 + 1)))
        ) (
          m_b (F8_get x0 s.2.2 2 hp) fun v12 =>
          some (.inl (v5, v12, (s.2.2 + 1)))
        )
      )
    ) (
      some (.inl (s.1, s.2.1, (s.2.2 + 1)))
    )
  )
noncomputable def F3_toldFor_8 (x0 : Nat) (x1 : Int32) (x2 : Int32) (x3 : Int32) (x4 : Int32) (x5 : Int32) (hp : m_H) : Option Int32 :=
  m_wh (fun s => F3_toldFor_8b x0 x1 x2 hp s) m_N (x3, x4, x5)
noncomputable def F3_toldFor_0 (x0 : Nat) (x1 : Int32) (x2 : Int32) (hp : m_H) : Option Int32 :=
  F3_toldFor_8 x0 x1 x2 (-1) 0 0 hp
noncomputable def F3_toldFor (x0 : Nat) (x1 : Int32) (x2 : Int32) (hp : m_H) : Option Int32 :=
  F3_toldFor_0 x0 x1 x2 hp
noncomputable def F3_priceIn_0 (x0 : Nat) (x1 : Int32) (x2 : Int32) (hp : m_H) : Option Int32 :=
  m_b (m_gr hp x0 3 7) fun v1 =>
  m_b (F3_toldFor v1 x1 x2 hp) fun v4 =>
  some v4
noncomputable def F3_priceIn (x0 : Nat) (x1 : Int32) (x2 : Int32) (hp : m_H) : Option Int32 :=
  m_gd (m_isO hp 3 x0) (F3_priceIn_0 x0 x1 x2 hp)
noncomputable def F2_gather_0 (x0 : Nat) (x1 : Nat) (x2 : Int32) (x3 : Int32) (x4 : Int32) (x5 : Int32) (hp : m_H) : Option m_H :=
  m_b (F3_actInForce x1 hp) fun v2 =>
  m_b (m_pf m_ft hp x0 2 5 (va_rf v2)) fun h3 =>
  m_b (F2_state x0 0 x2 h3) fun h6 =>
  m_b (F2_state x0 1 x3 h6) fun h8 =>
  m_b (m_gi h8 x1 3 0) fun v9 =>
  m_b (F2_state x0 2 v9 h8) fun h12 =>
  m_b (F2_state x0 3 x4 h12) fun h14 =>
  m_b (m_gr h14 x1 3 6) fun v15 =>
  m_b (F8_get v15 x3 0 h14) fun v18 =>
  m_b (F2_state x0 4 (x4 * v18) h14) fun h20 =>
  m_b (m_gi h20 x1 3 0) fun v21 =>
  m_b (F3_priceIn x1 x3 v21 h20) fun v24 =>
  m_b (F2_state x0 5 v24 h20) fun h26 =>
  m_b (m_gr h26 x1 3 12) fun v27 =>
  m_b (F3_tradeRow x2 x3 h26) fun v30 =>
  m_b (F8_get v27 v30 1 h26) fun v32 =>
  m_b (F2_state x0 6 v32 h26) fun h34 =>
  m_b (m_gr h34 x1 3 11) fun v35 =>
  m_b (F8_get v35 x2 0 h34) fun v38 =>
  m_b (F2_state x0 7 v38 h34) fun h40 =>
  m_b (F3_basesOf x1 x2 h40) fun v42 =>
  m_b (F2_state x0 8 v42 h40) fun h44 =>
  m_b (F2_state x0 9 x5 h44) fun h46 =>
  some h46
noncomputable def F2_gather (x0 : Nat) (x1 : Nat) (x2 : Int32) (x3 : Int32) (x4 : Int32) (x5 : Int32) (hp : m_H) : Option m_H :=
  m_gd (m_isO hp 2 x0) (F2_gather_0 x0 x1 x2 x3 x4 x5 hp)
noncomputable def F2_hear_0 (x0 : Nat) (x1 : Nat) (x2 : Int32) (x3 : Int32) (hp : m_H) : Option m_H :=
  m_b (m_gr hp x1 3 9) fun v1 =>
  m_b (F8_get v1 x2 0 hp) fun v4 =>
  m_b (m_gr hp x1 3 9) fun v5 =>
  m_b (F8_get v5 x2 1 hp) fun v8 =>
  m_b (F2_gather x0 x1 v4 v8 x3 0 hp) fun h10 =>
  some h10
noncomputable def F2_hear (x0 : Nat) (x1 : Nat) (x2 : Int32) (x3 : Int32) (hp : m_H) : Option m_H :=
  m_gd (m_isO hp 2 x0) (F2_hear_0 x0 x1 x2 x3 hp)
noncomputable def F2_joined_0 (x0 : Int32) (x1 : Int64) (x3 : Int64) (hp : m_H) : Option Int64 :=
  m_swt (m_swi (-5) (-1) x0) (
    m_if ((lg_cmp x1 0) = 0) (
      m_if ((lg_cmp x3 0) = 0) (
        some 0
      ) (
        some 1
      )
    ) (
      some 1
    )
  ) fun w1 =>
  m_if (w1 = 0) (
    m_if ((lg_cmp x1 0) = 0) (
      some 0
    ) (
      m_if ((lg_cmp x3 0) = 0) (
        some 0
      ) (
        some 1
      )
    )
  ) (
   m_if (w1 = 1) (
     m_if ((lg_cmp x1 0) = 0) (
       m_if ((lg_cmp x3 0) = 0) (
         some 0
       ) (
         some 1
       )
     ) (
       some 1
     )
   ) (
    m_if (w1 = 2) (
      m_if ((lg_cmp x1 x3) ≤ 0) (
        some 0
      ) (
        some 1
      )
    ) (
     m_if (w1 = 3) (
       m_if (0 ≤ (lg_cmp x1 x3)) (
         some 0
       ) (
         some 1
       )
     ) (
      m_if (w1 = 4) (
        some (x1 + x3)
      ) (
       none
      )
     )
    )
   )
  )
noncomputable def F2_joined (x0 : Int32) (x1 : Int64) (x3 : Int64) (hp : m_H) : Option Int64 :=
  F2_joined_0 x0 x1 x3 hp
noncomputable def F2_push_0 (x0 : Nat) (x1 : Int64) (hp : m_H) : Option m_H :=
  m_b (m_gi hp x0 2 4) fun v1 =>
  m_if (v1 < 0) (
    some hp
  ) (
    m_b (m_gi hp x0 2 4) fun v4 =>
    m_b (m_gr hp x0 2 3) fun v6 =>
    m_b (m_len hp v6) fun v8 =>
    m_if (v8 ≤ v4) (
      some hp
    ) (
      m_b (m_gr hp x0 2 3) fun v11 =>
      m_b (m_gi hp x0 2 4) fun v13 =>
      m_b (m_sl hp v11 v13 x1) fun h15 =>
      m_b (m_gi h15 x0 2 4) fun v17 =>
      m_b (m_pf m_ft h15 x0 2 4 (.int (v17 + 1))) fun h19 =>
      some h19
    )
  )
noncomputable def F2_push (x0 : Nat) (x1 : Int64) (hp : m_H) : Option m_H :=
  m_gd (m_isO hp 2 x0) (F2_push_0 x0 x1 hp)
noncomputable def F2_pop_0 (x0 : Nat) (hp : m_H) : Option (Int64 × m_H) :=
  m_b (m_gi hp x0 2 4) fun v1 =>
  m_if (v1 ≤ 0) (
    some (0, hp)
  ) (
    m_b (m_gi hp x0 2 4) fun v4 =>
    m_b (m_gr hp x0 2 3) fun v6 =>
    m_b (m_len hp v6) fun v8 =>
    m_if (v4 ≤ v8) (
      m_b (m_gi hp x0 2 4) fun v11 =>
      m_b (m_pf m_ft hp x0 2 4 (.int (v11 - 1))) fun h13 =>
      m_b (m_gr h13 x0 2 3) fun v15 =>
      m_b (m_gi h13 x0 2 4) fun v17 =>
      m_b (m_al h13 v15 v17) fun v19 =>
      some (v19, h13)
    ) (
      some (0, hp)
    )
  )
noncomputable def F2_pop (x0 : Nat) (hp : m_H) : Option (Int64 × m_H) :=
  m_gd (m_isO hp 2 x0) (F2_pop_0 x0 hp)
noncomputable def F2_follow_0 (x0 : Nat) (x1 : Int32) (hp : m_H) : Option m_H :=
  m_if (x1 < 0) (
    m_if ((-10) < x1) (
      m_if (x1 = (-4)) (
        m_b (F2_pop x0 hp) fun z13 =>
        m_if ((lg_cmp z13.1 0) = 0) (
          m_b (F2_push x0 1 z13.2) fun h18 =>
          some h18
        ) (
          m_b (F2_push x0 0 z13.2) fun h16 =>
          some h16
        )
      ) (
        m_b (F2_pop x0 hp) fun z5 =>
        m_b (F2_pop x0 z5.2) fun z7 =>
        m_b (F2_joined x1 z7.1 z5.1 z7.2) fun v9 =>
        m_b (F2_push x0 v9 z7.2) fun h11 =>
        some h11
      )
    ) (
      m_if (((-10) - x1) < 0) (
        m_b (F2_push x0 0 hp) fun h21 =>
        some h21
      ) (
        m_b (m_gr hp x0 2 2) fun v22 =>
        m_b (m_len hp v22) fun v24 =>
        m_if (v24 ≤ ((-10) - x1)) (
          m_b (F2_push x0 0 hp) fun h28 =>
          some h28
        ) (
          m_b (m_gr hp x0 2 2) fun v29 =>
          m_b (m_ai hp 0 v29 ((-10) - x1)) fun v31 =>
          m_b (F2_push x0 (m_i2l v31) hp) fun h34 =>
          some h34
        )
      )
    )
  ) (
    m_b (F2_push x0 (m_i2l x1) hp) fun h36 =>
    some h36
  )
noncomputable def F2_follow (x0 : Nat) (x1 : Int32) (hp : m_H) : Option m_H :=
  m_gd (m_isO hp 2 x0) (F2_follow_0 x0 x1 hp)
noncomputable def F2_holds_81b (x0 : Nat) (x4 : Int32) (s : Int32 × m_H) : Option ((Int32 × m_H) ⊕ (Int32 × m_H)) :=
  m_if (x4 ≤ s.1) (
    m_b (F2_pop x0 s.2) fun z3 =>
    m_if ((lg_cmp z3.1 0) = 0) (
      some (.inr (0, z3.2))
    ) (
      some (.inr (1, z3.2))
    )
  ) (
    m_b (m_go s.2 x0 2 5) fun v5 =>
    m_b v5 fun a7 =>
    m_b (m_gr s.2 a7 0 5) fun v9 =>
    m_b (m_ai s.2 0 v9 s.1) fun v11 =>
    m_b (F2_follow x0 v11 s.2) fun h14 =>
    some (.inl ((s.1 + 1), h14))
  )
noncomputable def F2_holds_81 (x0 : Nat) (x4 : Int32) (x5 : Int32) (hp : m_H) : Option (Int32 × m_H) :=
  m_wh (fun s => F2_holds_81b x0 x4 s) m_N (x5, hp)
noncomputable def F2_holds_39 (x0 : Nat) (x1 : Int32) (s0 : Int32) (hp : m_H) : Option (Int32 × m_H) :=
  m_b (m_go hp x0 2 5) fun v1 =>
  m_b v1 fun a3 =>
  m_b (F0_endOf a3 x1 hp) fun v6 =>
  m_b (m_go hp x0 2 5) fun v7 =>
  m_b v7 fun a9 =>
  m_b (m_gr hp a9 0 5) fun v11 =>
  m_b (m_len hp v11) fun v13 =>
  m_if (s0 < (m_min v6 v13)) (
    m_b (m_pf m_ft hp x0 2 4 (.int 0)) fun h16 =>
    F2_holds_81 x0 (m_min v6 v13) (m_max 0 s0) h16
  ) (
    some (1, hp)
  )
noncomputable def F2_holds_0 (x0 : Nat) (x1 : Int32) (x2 : Int32) (hp : m_H) : Option (Int32 × m_H) :=
  m_b (m_go hp x0 2 5) fun v1 =>
  m_on v1 (
    some (0, hp)
  ) fun a3 =>
  m_b (m_go hp x0 2 5) fun v5 =>
  m_b v5 fun a7 =>
  m_b (F0_kindOf a7 x1 hp) fun v10 =>
  m_if (v10 = x2) (
    m_if (x1 = 0) (
      F2_holds_39 x0 x1 0 hp
    ) (
      m_b (m_go hp x0 2 5) fun v13 =>
      m_b v13 fun a15 =>
      m_b (F0_endOf a15 (x1 - 1) hp) fun v18 =>
      F2_holds_39 x0 x1 v18 hp
    )
  ) (
    some (0, hp)
  )
noncomputable def F2_holds (x0 : Nat) (x1 : Int32) (x2 : Int32) (hp : m_H) : Option (Int32 × m_H) :=
  m_gd (m_isO hp 2 x0) (F2_holds_0 x0 x1 x2 hp)
noncomputable def F2_sumOfMarks_23b (x0 : Nat) (x1 : Int32) (s : Int32 × Int32 × m_H) : Option ((Int32 × Int32 × m_H) ⊕ (Int32 × m_H)) :=
  m_if (x1 ≤ s.2.1) (
    some (.inr (s.1, s.2.2))
  ) (
    m_b (F2_holds x0 s.2.1 1 s.2.2) fun z3 =>
    m_if (z3.1 = 0) (
      some (.inl (s.1, (s.2.1 + 1), z3.2))
    ) (
      m_b (m_go z3.2 x0 2 5) fun v5 =>
      m_b v5 fun a7 =>
      m_b (F0_numberOf a7 s.2.1 z3.2) fun v10 =>
      some (.inl ((s.1 + v10), (s.2.1 + 1), z3.2))
    )
  )
noncomputable def F2_sumOfMarks_23 (x0 : Nat) (x1 : Int32) (x2 : Int32) (x3 : Int32) (hp : m_H) : Option (Int32 × m_H) :=
  m_wh (fun s => F2_sumOfMarks_23b x0 x1 s) m_N (x2, x3, hp)
noncomputable def F2_sumOfMarks_18 (x0 : Nat) (s0 : Int32) (hp : m_H) : Option (Int32 × m_H) :=
  F2_sumOfMarks_23 x0 s0 0 0 hp
noncomputable def F2_sumOfMarks_0 (x0 : Nat) (hp : m_H) : Option (Int32 × m_H) :=
  m_b (m_go hp x0 2 5) fun v1 =>
  m_on v1 (
    F2_sumOfMarks_18 x0 0 hp
  ) fun a3 =>
  m_b (m_go hp x0 2 5) fun v5 =>
  m_b v5 fun a7 =>
  m_b (m_gi hp a7 0 1) fun v9 =>
  F2_sumOfMarks_18 x0 v9 hp
noncomputable def F2_sumOfMarks (x0 : Nat) (hp : m_H) : Option (Int32 × m_H) :=
  m_gd (m_isO hp 2 x0) (F2_sumOfMarks_0 x0 hp)
noncomputable def F2_call_62 (x0 : Nat) (x1 : Nat) (x2 : Int32) (x3 : Int32) (s0 : Int32) (s1 : Int32) (s2 : Nat) (hp : m_H) : Option ((Int32 × m_H) ⊕ m_H) :=
  m_b (m_si hp 3 s2 s1 s0) fun h1 =>
  m_b (m_gr h1 x0 2 1) fun v3 =>
  m_b (m_ai h1 3 v3 x3) fun v5 =>
  m_if (v5 = 0) (
    some (.inl ((x3 + 1), h1))
  ) (
    m_b (m_gr h1 x1 3 9) fun v8 =>
    m_b (F8_get v8 x3 2 h1) fun v11 =>
    m_b (F2_hear x0 x1 x3 v11 h1) fun h13 =>
    m_b (m_gr h13 x0 2 0) fun v14 =>
    m_b (F2_sumOfMarks x0 h13) fun z17 =>
    m_b (m_si z17.2 0 v14 x3 z17.1) fun h18 =>
    some (.inl ((x3 + 1), h18))
  )
noncomputable def F2_call_61 (x0 : Nat) (x1 : Nat) (x2 : Int32) (x3 : Int32) (s0 : Int32) (s1 : Nat) (hp : m_H) : Option ((Int32 × m_H) ⊕ m_H) :=
  F2_call_62 x0 x1 x2 x3 0 s0 s1 hp
noncomputable def F2_call_2b (x0 : Nat) (x1 : Nat) (x2 : Int32) (s : Int32 × m_H) : Option ((Int32 × m_H) ⊕ m_H) :=
  m_b (m_gr s.2 x0 2 0) fun v1 =>
  m_b (m_len s.2 v1) fun v3 =>
  m_if (v3 ≤ s.1) (
    some (.inr s.2)
  ) (
    m_b (m_gr s.2 x0 2 1) fun v6 =>
    m_b (m_len s.2 v6) fun v8 =>
    m_if (v8 ≤ s.1) (
      some (.inr s.2)
    ) (
      m_b (m_gr s.2 x0 2 1) fun v11 =>
      m_b (m_gr s.2 x1 3 9) fun v13 =>
      m_b (F8_has v13 s.1 s.2) fun v16 =>
      m_if (v16 = 0) (
        F2_call_61 x0 x1 x2 s.1 s.1 v11 s.2
      ) (
        m_b (F3_lackOf x1 s.1 s.2) fun v19 =>
        m_if (v19 ≤ 0) (
          F2_call_61 x0 x1 x2 s.1 s.1 v11 s.2
        ) (
          m_b (m_gr s.2 x1 3 9) fun v21 =>
          m_b (F8_get v21 s.1 1 s.2) fun v24 =>
          m_if (v24 = x2) (
            F2_call_62 x0 x1 x2 s.1 1 s.1 v11 s.2
          ) (
            F2_call_61 x0 x1 x2 s.1 s.1 v11 s.2
          )
        )
      )
    )
  )
noncomputable def F2_call_2 (x0 : Nat) (x1 : Nat) (x2 : Int32) (x3 : Int32) (hp : m_H) : Option m_H :=
  m_wh (fun s => F2_call_2b x0 x1 x2 s) m_N (x3, hp)
noncomputable def F2_call_0 (x0 : Nat) (x1 : Nat) (x2 : Int32) (hp : m_H) : Option m_H :=
  F2_call_2 x0 x1 x2 0 hp
noncomputable def F2_call (x0 : Nat) (x1 : Nat) (x2 : Int32) (hp : m_H) : Option m_H :=
  m_gd (m_isO hp 2 x0) (F2_call_0 x0 x1 x2 hp)
noncomputable def F2_isAhead_0 (x0 : Nat) (x1 : Nat) (x2 : Int32) (x3 : Int32) (hp : m_H) : Option Int32 :=
  m_if (x2 < 0) (
    some 0
  ) (
    m_b (m_gr hp x0 2 0) fun v2 =>
    m_b (m_len hp v2) fun v4 =>
    m_if (v4 ≤ x2) (
      some 0
    ) (
      m_if (x3 < 0) (
        some 0
      ) (
        m_b (m_gr hp x0 2 0) fun v8 =>
        m_b (m_len hp v8) fun v10 =>
        m_if (x3 < v10) (
          m_b (m_gr hp x0 2 0) fun v13 =>
          m_b (m_ai hp 0 v13 x2) fun v15 =>
          m_b (m_gr hp x0 2 0) fun v17 =>
          m_b (m_ai hp 0 v17 x3) fun v19 =>
          m_if (v15 = v19) (
            m_b (m_gr hp x1 3 9) fun v22 =>
            m_b (F8_get v22 x2 3 hp) fun v25 =>
            m_b (m_gr hp x1 3 9) fun v26 =>
            m_b (F8_get v26 x3 3 hp) fun v29 =>
            m_if (v29 ≤ v25) (
              some 0
            ) (
              some 1
            )
          ) (
            m_b (m_gr hp x0 2 0) fun v31 =>
            m_b (m_ai hp 0 v31 x2) fun v33 =>
            m_b (m_gr hp x0 2 0) fun v35 =>
            m_b (m_ai hp 0 v35 x3) fun v37 =>
            m_if (v33 ≤ v37) (
              some 0
            ) (
              some 1
            )
          )
        ) (
          some 0
        )
      )
    )
  )
noncomputable def F2_isAhead (x0 : Nat) (x1 : Nat) (x2 : Int32) (x3 : Int32) (hp : m_H) : Option Int32 :=
  m_gd (m_isO hp 2 x0) (F2_isAhead_0 x0 x1 x2 x3 hp)
noncomputable def F2_nextCalled_4b (x0 : Nat) (x1 : Nat) (hp : m_H) (s : Int32 × Int32) : Option ((Int32 × Int32) ⊕ (Int32 × m_H)) :=
  m_b (m_gr hp x0 2 1) fun v1 =>
  m_b (m_len hp v1) fun v3 =>
  m_if (v3 ≤ s.2) (
    m_if (s.1 < 0) (
      some (.inr (s.1, hp))
    ) (
      m_b (m_gr hp x0 2 1) fun v7 =>
      m_b (m_len hp v7) fun v9 =>
      m_if (v9 ≤ s.1) (
        some (.inr (s.1, hp))
      ) (
        m_b (m_gr hp x0 2 1) fun v12 =>
        m_b (m_si hp 3 v12 s.1 0) fun h14 =>
        some (.inr (s.1, h14))
      )
    )
  ) (
    m_b (m_gr hp x0 2 1) fun v16 =>
    m_b (m_ai hp 3 v16 s.2) fun v18 =>
    m_if (v18 = 0) (
      some (.inl (s.1, (s.2 + 1)))
    ) (
      m_if (s.1 = (-1)) (
        some (.inl (s.2, (s.2 + 1)))
      ) (
        m_b (F2_isAhead x0 x1 s.2 s.1 hp) fun v23 =>
        m_if (v23 = 0) (
          some (.inl (s.1, (s.2 + 1)))
        ) (
          some (.inl (s.2, (s.2 + 1)))
        )
      )
    )
  )
noncomputable def F2_nextCalled_4 (x0 : Nat) (x1 : Nat) (x2 : Int32) (x3 : Int32) (hp : m_H) : Option (Int32 × m_H) :=
  m_wh (fun s => F2_nextCalled_4b x0 x1 hp s) m_N (x2, x3)
noncomputable def F2_nextCalled_0 (x0 : Nat) (x1 : Nat) (hp : m_H) : Option (Int32 × m_H) :=
  F2_nextCalled_4 x0 x1 (-1) 0 hp
noncomputable def F2_nextCalled (x0 : Nat) (x1 : Nat) (hp : m_H) : Option (Int32 × m_H) :=
  m_gd (m_isO hp 2 x0) (F2_nextCalled_0 x0 x1 hp)
noncomputable def F2_why_21b (x0 : Nat) (x1 : Int32) (x2 : Int32) (s : Int32 × m_H) : Option ((Int32 × m_H) ⊕ (Int32 × m_H)) :=
  m_if (x2 ≤ s.1) (
    some (.inr ((-1), s.2))
  ) (
    m_b (F2_holds x0 s.1 x1 s.2) fun z3 =>
    m_if (z3.1 = 0) (
      some (.inl ((s.1 + 1), z3.2))
    ) (
      some (.inr (s.1, z3.2))
    )
  )
noncomputable def F2_why_21 (x0 : Nat) (x1 : Int32) (x2 : Int32) (x3 : Int32) (hp : m_H) : Option (Int32 × m_H) :=
  m_wh (fun s => F2_why_21b x0 x1 x2 s) m_N (x3, hp)
noncomputable def F2_why_18 (x0 : Nat) (x1 : Int32) (s0 : Int32) (hp : m_H) : Option (Int32 × m_H) :=
  F2_why_21 x0 x1 s0 0 hp
noncomputable def F2_why_0 (x0 : Nat) (x1 : Int32) (hp : m_H) : Option (Int32 × m_H) :=
  m_b (m_go hp x0 2 5) fun v1 =>
  m_on v1 (
    F2_why_18 x0 x1 0 hp
  ) fun a3 =>
  m_b (m_go hp x0 2 5) fun v5 =>
  m_b v5 fun a7 =>
  m_b (m_gi hp a7 0 1) fun v9 =>
  F2_why_18 x0 x1 v9 hp
noncomputable def F2_why (x0 : Nat) (x1 : Int32) (hp : m_H) : Option (Int32 × m_H) :=
  m_gd (m_isO hp 2 x0) (F2_why_0 x0 x1 hp)
noncomputable def F2_greatestOwe_23b (x0 : Nat) (x1 : Int32) (s : Int32 × Int32 × m_H) : Option ((Int32 × Int32 × m_H) ⊕ (Int32 × m_H)) :=
  m_if (x1 ≤ s.2.1) (
    some (.inr (s.1, s.2.2))
  ) (
    m_b (F2_holds x0 s.2.1 2 s.2.2) fun z3 =>
    m_if (z3.1 = 0) (
      some (.inl (s.1, (s.2.1 + 1), z3.2))
    ) (
      m_b (m_go z3.2 x0 2 5) fun v5 =>
      m_b v5 fun a7 =>
      m_b (F0_numberOf a7 s.2.1 z3.2) fun v10 =>
      some (.inl ((m_max s.1 v10), (s.2.1 + 1), z3.2))
    )
  )
noncomputable def F2_greatestOwe_23 (x0 : Nat) (x1 : Int32) (x2 : Int32) (x3 : Int32) (hp : m_H) : Option (Int32 × m_H) :=
  m_wh (fun s => F2_greatestOwe_23b x0 x1 s) m_N (x2, x3, hp)
noncomputable def F2_greatestOwe_18 (x0 : Nat) (s0 : Int32) (hp : m_H) : Option (Int32 × m_H) :=
  F2_greatestOwe_23 x0 s0 0 0 hp
noncomputable def F2_greatestOwe_0 (x0 : Nat) (hp : m_H) : Option (Int32 × m_H) :=
  m_b (m_go hp x0 2 5) fun v1 =>
  m_on v1 (
    F2_greatestOwe_18 x0 0 hp
  ) fun a3 =>
  m_b (m_go hp x0 2 5) fun v5 =>
  m_b v5 fun a7 =>
  m_b (m_gi hp a7 0 1) fun v9 =>
  F2_greatestOwe_18 x0 v9 hp
noncomputable def F2_greatestOwe (x0 : Nat) (hp : m_H) : Option (Int32 × m_H) :=
  m_gd (m_isO hp 2 x0) (F2_greatestOwe_0 x0 hp)
noncomputable def F8_init_0 (x0 : Nat) (x1 : Int32) (x2 : Int32) (hp : m_H) : Option m_H :=
  m_b (m_pf m_ft hp x0 6 0 (.int (m_max 1 x2))) fun h1 =>
  m_b (m_gi h1 x0 6 0) fun v3 =>
  m_b (m_nw 0 ((m_max 0 x1) * v3) h1) fun h5 =>
  m_b (m_pf m_ft h5 x0 6 1 (.ref (m_id h1))) fun h7 =>
  some h7
noncomputable def F8_init (x0 : Nat) (x1 : Int32) (x2 : Int32) (hp : m_H) : Option m_H :=
  m_gd (m_isO hp 6 x0) (F8_init_0 x0 x1 x2 hp)
noncomputable def F8_set_0 (x0 : Nat) (x1 : Int32) (x2 : Int32) (x3 : Int32) (hp : m_H) : Option m_H :=
  m_b (F8_reaches x0 x1 x2 hp) fun v2 =>
  m_if (v2 = 0) (
    some hp
  ) (
    m_b (m_gr hp x0 6 1) fun v4 =>
    m_b (m_gi hp x0 6 0) fun v6 =>
    m_b (m_si hp 0 v4 ((x1 * v6) + x2) x3) fun h8 =>
    some h8
  )
noncomputable def F8_set (x0 : Nat) (x1 : Int32) (x2 : Int32) (x3 : Int32) (hp : m_H) : Option m_H :=
  m_gd (m_isO hp 6 x0) (F8_set_0 x0 x1 x2 x3 hp)
noncomputable def F8_full_0 (x0 : Nat) (hp : m_H) : Option Int32 :=
  m_b (m_gi hp x0 6 2) fun v1 =>
  m_b (m_gi hp x0 6 0) fun v3 =>
  m_b (m_gr hp x0 6 1) fun v5 =>
  m_b (m_len hp v5) fun v7 =>
  m_if (((v1 + 1) * v3) ≤ v7) (
    some 0
  ) (
    some 1
  )
noncomputable def F8_full (x0 : Nat) (hp : m_H) : Option Int32 :=
  m_gd (m_isO hp 6 x0) (F8_full_0 x0 hp)
noncomputable def F8_add_21b (x0 : Nat) (s : Int32 × m_H) : Option ((Int32 × m_H) ⊕ (Int32 × m_H)) :=
  m_b (m_gi s.2 x0 6 0) fun v1 =>
  m_if (v1 ≤ s.1) (
    m_b (m_gi s.2 x0 6 2) fun v4 =>
    some (.inr ((v4 - 1), s.2))
  ) (
    m_b (m_gi s.2 x0 6 2) fun v6 =>
    m_b (F8_set x0 (v6 - 1) s.1 0 s.2) fun h9 =>
    some (.inl ((s.1 + 1), h9))
  )
noncomputable def F8_add_21 (x0 : Nat) (x1 : Int32) (hp : m_H) : Option (Int32 × m_H) :=
  m_wh (fun s => F8_add_21b x0 s) m_N (x1, hp)
noncomputable def F8_add_0 (x0 : Nat) (hp : m_H) : Option (Int32 × m_H) :=
  m_b (F8_full x0 hp) fun v2 =>
  m_if (v2 = 0) (
    m_b (m_gi hp x0 6 2) fun v4 =>
    m_b (m_pf m_ft hp x0 6 2 (.int (v4 + 1))) fun h6 =>
    F8_add_21 x0 0 h6
  ) (
    some ((-1), hp)
  )
noncomputable def F8_add (x0 : Nat) (hp : m_H) : Option (Int32 × m_H) :=
  m_gd (m_isO hp 6 x0) (F8_add_0 x0 hp)
noncomputable def F3_setUp_96b (x0 : Nat) (s : Int32 × m_H) : Option ((Int32 × m_H) ⊕ m_H) :=
  m_if (15 ≤ s.1) (
    some (.inr s.2)
  ) (
    m_b (m_gr s.2 x0 3 19) fun v2 =>
    m_b (F8_add v2 s.2) fun z5 =>
    some (.inl ((s.1 + 1), z5.2))
  )
noncomputable def F3_setUp_96 (x0 : Nat) (x1 : Int32) (hp : m_H) : Option m_H :=
  m_wh (fun s => F3_setUp_96b x0 s) m_N (x1, hp)
noncomputable def F3_setUp_74b (x0 : Nat) (s : Int32 × m_H) : Option ((Int32 × m_H) ⊕ m_H) :=
  m_if (48 ≤ s.1) (
    (F3_setUp_96 x0 0 s.2).map .inr
  ) (
    m_b (m_gr s.2 x0 3 12) fun v2 =>
    m_b (F8_add v2 s.2) fun z5 =>
    some (.inl ((s.1 + 1), z5.2))
  )
noncomputable def F3_setUp_74 (x0 : Nat) (x1 : Int32) (hp : m_H) : Option m_H :=
  m_wh (fun s => F3_setUp_74b x0 s) m_N (x1, hp)
noncomputable def F3_setUp_44b (x0 : Nat) (s : Int32 × m_H) : Option ((Int32 × m_H) ⊕ m_H) :=
  m_if (6 ≤ s.1) (
    (F3_setUp_74 x0 0 s.2).map .inr
  ) (
    m_b (m_gr s.2 x0 3 11) fun v2 =>
    m_b (m_gr s.2 x0 3 11) fun v4 =>
    m_b (F8_add v4 s.2) fun z7 =>
    m_b (F8_set v2 z7.1 2 2 z7.2) fun h9 =>
    some (.inl ((s.1 + 1), h9))
  )
noncomputable def F3_setUp_44 (x0 : Nat) (x1 : Int32) (hp : m_H) : Option m_H :=
  m_wh (fun s => F3_setUp_44b x0 s) m_N (x1, hp)
noncomputable def F3_setUp_2b (x0 : Nat) (s : Int32 × m_H) : Option ((Int32 × m_H) ⊕ m_H) :=
  m_if (8 ≤ s.1) (
    (F3_setUp_44 x0 0 s.2).map .inr
  ) (
    m_b (m_gr s.2 x0 3 6) fun v2 =>
    m_b (F8_add v2 s.2) fun z5 =>
    m_b (m_gr z5.2 x0 3 6) fun v6 =>
    m_b (F8_set v6 z5.1 0 1 z5.2) fun h9 =>
    m_b (m_gr h9 x0 3 6) fun v10 =>
    m_b (F8_set v10 z5.1 3 1 h9) fun h13 =>
    some (.inl ((s.1 + 1), h13))
  )
noncomputable def F3_setUp_2 (x0 : Nat) (x1 : Int32) (hp : m_H) : Option m_H :=
  m_wh (fun s => F3_setUp_2b x0 s) m_N (x1, hp)
noncomputable def F3_setUp_0 (x0 : Nat) (hp : m_H) : Option m_H :=
  F3_setUp_2 x0 0 hp
noncomputable def F3_setUp (x0 : Nat) (hp : m_H) : Option m_H :=
  m_gd (m_isO hp 3 x0) (F3_setUp_0 x0 hp)
noncomputable def F3_init_0 (x0 : Nat) (hp : m_H) : Option m_H :=
  m_b (m_nw 5 10 hp) fun h1 =>
  m_b (m_pf m_ft h1 x0 3 4 (.ref (m_id hp))) fun h3 =>
  m_b (m_nwo 6 h3) fun h5 =>
  m_b (F8_init (m_id h3) 8 4 h5) fun h8 =>
  m_b (m_pf m_ft h8 x0 3 6 (.ref (m_id h3))) fun h9 =>
  m_b (m_nwo 6 h9) fun h11 =>
  m_b (F8_init (m_id h9) 100 3 h11) fun h14 =>
  m_b (m_pf m_ft h14 x0 3 7 (.ref (m_id h9))) fun h15 =>
  m_b (m_nwo 6 h15) fun h17 =>
  m_b (F8_init (m_id h15) 100 21 h17) fun h20 =>
  m_b (m_pf m_ft h20 x0 3 8 (.ref (m_id h15))) fun h21 =>
  m_b (m_nwo 6 h21) fun h23 =>
  m_b (F8_init (m_id h21) 60 5 h23) fun h26 =>
  m_b (m_pf m_ft h26 x0 3 9 (.ref (m_id h21))) fun h27 =>
  m_b (m_nwo 6 h27) fun h29 =>
  m_b (F8_init (m_id h27) 12 23 h29) fun h32 =>
  m_b (m_pf m_ft h32 x0 3 10 (.ref (m_id h27))) fun h33 =>
  m_b (m_nwo 6 h33) fun h35 =>
  m_b (F8_init (m_id h33) 6 4 h35) fun h38 =>
  m_b (m_pf m_ft h38 x0 3 11 (.ref (m_id h33))) fun h39 =>
  m_b (m_nwo 6 h39) fun h41 =>
  m_b (F8_init (m_id h39) 48 3 h41) fun h44 =>
  m_b (m_pf m_ft h44 x0 3 12 (.ref (m_id h39))) fun h45 =>
  m_b (m_nwo 6 h45) fun h47 =>
  m_b (F8_init (m_id h45) 100 3 h47) fun h50 =>
  m_b (m_pf m_ft h50 x0 3 13 (.ref (m_id h45))) fun h51 =>
  m_b (m_nwo 6 h51) fun h53 =>
  m_b (F8_init (m_id h51) 100 5 h53) fun h56 =>
  m_b (m_pf m_ft h56 x0 3 14 (.ref (m_id h51))) fun h57 =>
  m_b (m_nwo 6 h57) fun h59 =>
  m_b (F8_init (m_id h57) 60 3 h59) fun h62 =>
  m_b (m_pf m_ft h62 x0 3 15 (.ref (m_id h57))) fun h63 =>
  m_b (m_nwo 6 h63) fun h65 =>
  m_b (F8_init (m_id h63) 10 6 h65) fun h68 =>
  m_b (m_pf m_ft h68 x0 3 16 (.ref (m_id h63))) fun h69 =>
  m_b (m_nwo 6 h69) fun h71 =>
  m_b (F8_init (m_id h69) 9 2 h71) fun h74 =>
  m_b (m_pf m_ft h74 x0 3 17 (.ref (m_id h69))) fun h75 =>
  m_b (m_nwo 6 h75) fun h77 =>
  m_b (F8_init (m_id h75) 8 4 h77) fun h80 =>
  m_b (m_pf m_ft h80 x0 3 18 (.ref (m_id h75))) fun h81 =>
  m_b (m_nwo 6 h81) fun h83 =>
  m_b (F8_init (m_id h81) 15 3 h83) fun h86 =>
  m_b (m_pf m_ft h86 x0 3 19 (.ref (m_id h81))) fun h87 =>
  m_b (F3_setUp x0 h87) fun h90 =>
  some h90
noncomputable def F3_init (x0 : Nat) (hp : m_H) : Option m_H :=
  m_gd (m_isO hp 3 x0) (F3_init_0 x0 hp)
noncomputable def F8_copyFrom_0 (x0 : Nat) (x1 : Nat) (hp : m_H) : Option m_H :=
  m_b (m_gi hp x1 6 2) fun v1 =>
  m_b (m_gi hp x1 6 0) fun v3 =>
  m_if ((v1 * v3) < 0) (
    some hp
  ) (
    m_b (m_gr hp x0 6 1) fun v6 =>
    m_b (m_len hp v6) fun v8 =>
    m_if (v8 < (v1 * v3)) (
      some hp
    ) (
      m_b (m_gr hp x1 6 1) fun v11 =>
      m_b (m_len hp v11) fun v13 =>
      m_if (v13 < (v1 * v3)) (
        some hp
      ) (
        m_b (m_gr hp x1 6 1) fun v16 =>
        m_b (m_gr hp x0 6 1) fun v18 =>
        m_b (m_cpy hp v16 v18 0 0 (v1 * v3)) fun h21 =>
        m_b (m_gi h21 x1 6 2) fun v22 =>
        m_b (m_pf m_ft h21 x0 6 2 (.int v22)) fun h24 =>
        some h24
      )
    )
  )
noncomputable def F8_copyFrom (x0 : Nat) (x1 : Nat) (hp : m_H) : Option m_H :=
  m_gd (m_isO hp 6 x0) (F8_copyFrom_0 x0 x1 hp)
noncomputable def F3_copyFrom_78 (x0 : Nat) (x1 : Nat) (hp : m_H) : Option m_H :=
  m_b (m_gr hp x0 3 6) fun v1 =>
  m_b (m_gr hp x1 3 6) fun v3 =>
  m_b (F8_copyFrom v1 v3 hp) fun h6 =>
  m_b (m_gr h6 x0 3 7) fun v7 =>
  m_b (m_gr h6 x1 3 7) fun v9 =>
  m_b (F8_copyFrom v7 v9 h6) fun h12 =>
  m_b (m_gr h12 x0 3 8) fun v13 =>
  m_b (m_gr h12 x1 3 8) fun v15 =>
  m_b (F8_copyFrom v13 v15 h12) fun h18 =>
  m_b (m_gr h18 x0 3 9) fun v19 =>
  m_b (m_gr h18 x1 3 9) fun v21 =>
  m_b (F8_copyFrom v19 v21 h18) fun h24 =>
  m_b (m_gr h24 x0 3 10) fun v25 =>
  m_b (m_gr h24 x1 3 10) fun v27 =>
  m_b (F8_copyFrom v25 v27 h24) fun h30 =>
  m_b (m_gr h30 x0 3 11) fun v31 =>
  m_b (m_gr h30 x1 3 11) fun v33 =>
  m_b (F8_copyFrom v31 v33 h30) fun h36 =>
  m_b (m_gr h36 x0 3 12) fun v37 =>
  m_b (m_gr h36 x1 3 12) fun v39 =>
  m_b (F8_copyFrom v37 v39 h36) fun h42 =>
  m_b (m_gr h42 x0 3 13) fun v43 =>
  m_b (m_gr h42 x1 3 13) fun v45 =>
  m_b (F8_copyFrom v43 v45 h42) fun h48 =>
  m_b (m_gr h48 x0 3 14) fun v49 =>
  m_b (m_gr h48 x1 3 14) fun v51 =>
  m_b (F8_copyFrom v49 v51 h48) fun h54 =>
  m_b (m_gr h54 x0 3 15) fun v55 =>
  m_b (m_gr h54 x1 3 15) fun v57 =>
  m_b (F8_copyFrom v55 v57 h54) fun h60 =>
  m_b (m_gr h60 x0 3 16) fun v61 =>
  m_b (m_gr h60 x1 3 16) fun v63 =>
  m_b (F8_copyFrom v61 v63 h60) fun h66 =>
  m_b (m_gr h66 x0 3 17) fun v67 =>
  m_b (m_gr h66 x1 3 17) fun v69 =>
  m_b (F8_copyFrom v67 v69 h66) fun h72 =>
  m_b (m_gr h72 x0 3 18) fun v73 =>
  m_b (m_gr h72 x1 3 18) fun v75 =>
  m_b (F8_copyFrom v73 v75 h72) fun h78 =>
  m_b (m_gr h78 x0 3 19) fun v79 =>
  m_b (m_gr h78 x1 3 19) fun v81 =>
  m_b (F8_copyFrom v79 v81 h78) fun h84 =>
  some h84
noncomputable def F3_copyFrom_42b (x0 : Nat) (x1 : Nat) (s : Int32 × m_H) : Option ((Int32 × m_H) ⊕ m_H) :=
  m_b (m_gr s.2 x0 3 4) fun v1 =>
  m_b (m_len s.2 v1) fun v3 =>
  m_if (v3 ≤ s.1) (
    (F3_copyFrom_78 x0 x1 s.2).map .inr
  ) (
    m_b (m_gr s.2 x1 3 4) fun v6 =>
    m_b (m_len s.2 v6) fun v8 =>
    m_if (v8 ≤ s.1) (
      (F3_copyFrom_78 x0 x1 s.2).map .inr
    ) (
      m_b (m_gr s.2 x0 3 4) fun v11 =>
      m_b (m_gr s.2 x1 3 4) fun v13 =>
      m_b (m_aq s.2 v13 s.1) fun v15 =>
      m_b (m_sq s.2 v11 s.1 v15) fun h17 =>
      some (.inl ((s.1 + 1), h17))
    )
  )
noncomputable def F3_copyFrom_42 (x0 : Nat) (x1 : Nat) (x2 : Int32) (hp : m_H) : Option m_H :=
  m_wh (fun s => F3_copyFrom_42b x0 x1 s) m_N (x2, hp)
noncomputable def F3_copyFrom_0 (x0 : Nat) (x1 : Nat) (hp : m_H) : Option m_H :=
  m_b (m_gi hp x1 3 0) fun v1 =>
  m_b (m_pf m_ft hp x0 3 0 (.int v1)) fun h3 =>
  m_b (m_gi h3 x1 3 1) fun v5 =>
  m_b (m_pf m_ft h3 x0 3 1 (.int v5)) fun h7 =>
  m_b (m_gi h7 x1 3 2) fun v9 =>
  m_b (m_pf m_ft h7 x0 3 2 (.int v9)) fun h11 =>
  m_b (m_gi h11 x1 3 3) fun v13 =>
  m_b (m_pf m_ft h11 x0 3 3 (.int v13)) fun h15 =>
  m_b (m_gi h15 x1 3 5) fun v17 =>
  m_b (m_pf m_ft h15 x0 3 5 (.int v17)) fun h19 =>
  F3_copyFrom_42 x0 x1 0 h19
noncomputable def F3_copyFrom (x0 : Nat) (x1 : Nat) (hp : m_H) : Option m_H :=
  m_gd (m_isO hp 3 x0) (F3_copyFrom_0 x0 x1 hp)
noncomputable def F3_tell_0 (x0 : Nat) (x1 : Int32) (x2 : Int32) (x3 : Int32) (hp : m_H) : Option (Int32 × m_H) :=
  m_b (F8_add x0 hp) fun z2 =>
  m_if (z2.1 = (-1)) (
    some ((-1), z2.2)
  ) (
    m_b (F8_set x0 z2.1 0 x1 z2.2) fun h5 =>
    m_b (F8_set x0 z2.1 1 x2 h5) fun h7 =>
    m_b (F8_set x0 z2.1 2 x3 h7) fun h9 =>
    m_b (m_gi h9 x0 6 2) fun v10 =>
    some (v10, h9)
  )
noncomputable def F3_tell (x0 : Nat) (x1 : Int32) (x2 : Int32) (x3 : Int32) (hp : m_H) : Option (Int32 × m_H) :=
  F3_tell_0 x0 x1 x2 x3 hp
noncomputable def F3_riskIn_0 (x0 : Nat) (x1 : Int32) (x2 : Int32) (hp : m_H) : Option Int32 :=
  m_b (m_gr hp x0 3 13) fun v1 =>
  m_b (F3_toldFor v1 x1 x2 hp) fun v4 =>
  some v4
noncomputable def F3_riskIn (x0 : Nat) (x1 : Int32) (x2 : Int32) (hp : m_H) : Option Int32 :=
  m_gd (m_isO hp 3 x0) (F3_riskIn_0 x0 x1 x2 hp)
noncomputable def F3_addAct_0 (x0 : Nat) (x1 : Nat) (hp : m_H) : Option m_H :=
  m_b (m_gi hp x0 3 5) fun v1 =>
  m_if (v1 < 0) (
    some hp
  ) (
    m_b (m_gi hp x0 3 5) fun v4 =>
    m_b (m_gr hp x0 3 4) fun v6 =>
    m_b (m_len hp v6) fun v8 =>
    m_if (v8 ≤ v4) (
      some hp
    ) (
      m_b (m_gr hp x0 3 4) fun v11 =>
      m_b (m_gi hp x0 3 5) fun v13 =>
      m_b (m_sq hp v11 v13 (some x1)) fun h15 =>
      m_b (m_gi h15 x0 3 5) fun v17 =>
      m_b (m_pf m_ft h15 x0 3 5 (.int (v17 + 1))) fun h19 =>
      some h19
    )
  )
noncomputable def F3_addAct (x0 : Nat) (x1 : Nat) (hp : m_H) : Option m_H :=
  m_gd (m_isO hp 3 x0) (F3_addAct_0 x0 x1 hp)
noncomputable def F3_linesOfWeek_0 (x0 : Nat) (hp : m_H) : Option Int32 :=
  m_b (F3_actInForce x0 hp) fun v2 =>
  m_on v2 (
    some 0
  ) fun a3 =>
  m_b (m_gi hp a3 0 1) fun v5 =>
  some v5
noncomputable def F3_linesOfWeek (x0 : Nat) (hp : m_H) : Option Int32 :=
  m_gd (m_isO hp 3 x0) (F3_linesOfWeek_0 x0 hp)
noncomputable def F3_addLot_0 (x0 : Nat) (x1 : Int32) (x2 : Int32) (x3 : Int32) (x4 : Int32) (hp : m_H) : Option (Int32 × m_H) :=
  m_b (m_gr hp x0 3 8) fun v1 =>
  m_b (F8_add v1 hp) fun z4 =>
  m_b (m_gr z4.2 x0 3 8) fun v5 =>
  m_b (F8_set v5 z4.1 0 x1 z4.2) fun h8 =>
  m_b (m_gr h8 x0 3 8) fun v9 =>
  m_b (F8_set v9 z4.1 1 x2 h8) fun h12 =>
  m_b (m_gr h12 x0 3 8) fun v13 =>
  m_b (F8_set v13 z4.1 2 x3 h12) fun h16 =>
  m_b (m_gr h16 x0 3 8) fun v17 =>
  m_b (F8_set v17 z4.1 6 (-1) h16) fun h20 =>
  m_b (m_gr h20 x0 3 8) fun v21 =>
  m_b (F8_set v21 z4.1 8 (-1) h20) fun h24 =>
  m_b (m_gr h24 x0 3 8) fun v25 =>
  m_b (F8_set v25 z4.1 (10 + x4) x2 h24) fun h28 =>
  some (z4.1, h28)
noncomputable def F3_addLot (x0 : Nat) (x1 : Int32) (x2 : Int32) (x3 : Int32) (x4 : Int32) (hp : m_H) : Option (Int32 × m_H) :=
  m_gd (m_isO hp 3 x0) (F3_addLot_0 x0 x1 x2 x3 x4 hp)
noncomputable def F3_isStock_0 (x0 : Nat) (x1 : Int32) (hp : m_H) : Option Int32 :=
  m_b (m_gr hp x0 3 8) fun v1 =>
  m_b (F8_get v1 x1 2 hp) fun v4 =>
  m_if (v4 = 0) (
    some 1
  ) (
    some 0
  )
noncomputable def F3_isStock (x0 : Nat) (x1 : Int32) (hp : m_H) : Option Int32 :=
  m_gd (m_isO hp 3 x0) (F3_isStock_0 x0 x1 hp)
noncomputable def F3_isBack_0 (x0 : Nat) (x1 : Int32) (hp : m_H) : Option Int32 :=
  m_b (m_gr hp x0 3 8) fun v1 =>
  m_b (F8_get v1 x1 3 hp) fun v4 =>
  m_if (v4 = 1) (
    some 1
  ) (
    some 0
  )
noncomputable def F3_isBack (x0 : Nat) (x1 : Int32) (hp : m_H) : Option Int32 :=
  m_gd (m_isO hp 3 x0) (F3_isBack_0 x0 x1 hp)
noncomputable def F3_isOrderNotBegun_0 (x0 : Nat) (x1 : Int32) (hp : m_H) : Option Int32 :=
  m_b (F3_isStock x0 x1 hp) fun v2 =>
  m_if (v2 = 0) (
    some 0
  ) (
    m_b (m_gr hp x0 3 8) fun v4 =>
    m_b (F8_get v4 x1 5 hp) fun v7 =>
    m_if (v7 = 0) (
      some 1
    ) (
      some 0
    )
  )
noncomputable def F3_isOrderNotBegun (x0 : Nat) (x1 : Int32) (hp : m_H) : Option Int32 :=
  m_gd (m_isO hp 3 x0) (F3_isOrderNotBegun_0 x0 x1 hp)
noncomputable def F8_raise_0 (x0 : Nat) (x1 : Int32) (x2 : Int32) (x3 : Int32) (hp : m_H) : Option m_H :=
  m_b (F8_reaches x0 x1 x2 hp) fun v2 =>
  m_if (v2 = 0) (
    some hp
  ) (
    m_b (m_gr hp x0 6 1) fun v4 =>
    m_b (m_gi hp x0 6 0) fun v6 =>
    m_b (m_ai hp 0 v4 ((x1 * v6) + x2)) fun v8 =>
    m_b (m_si hp 0 v4 ((x1 * v6) + x2) (v8 + x3)) fun h10 =>
    some h10
  )
noncomputable def F8_raise (x0 : Nat) (x1 : Int32) (x2 : Int32) (x3 : Int32) (hp : m_H) : Option m_H :=
  m_gd (m_isO hp 6 x0) (F8_raise_0 x0 x1 x2 x3 hp)
noncomputable def F3_move_0 (x0 : Nat) (x1 : Int32) (x2 : Int32) (x3 : Int32) (x4 : Int32) (hp : m_H) : Option m_H :=
  m_b (m_gr hp x0 3 8) fun v1 =>
  m_b (F8_raise v1 x1 (10 + x3) (-x2) hp) fun h4 =>
  m_b (m_gr h4 x0 3 8) fun v5 =>
  m_b (F8_raise v5 x1 (10 + x4) x2 h4) fun h8 =>
  some h8
noncomputable def F3_move (x0 : Nat) (x1 : Int32) (x2 : Int32) (x3 : Int32) (x4 : Int32) (hp : m_H) : Option m_H :=
  m_gd (m_isO hp 3 x0) (F3_move_0 x0 x1 x2 x3 x4 hp)
noncomputable def F8_sumOf_4b (x0 : Nat) (x1 : Int32) (hp : m_H) (s : Int32 × Int32) : Option ((Int32 × Int32) ⊕ Int32) :=
  m_b (m_gi hp x0 6 2) fun v1 =>
  m_if (v1 ≤ s.2) (
    some (.inr s.1)
  ) (
    m_b (F8_get x0 s.2 x1 hp) fun v5 =>
    some (.inl ((s.1 + v5), (s.2 + 1)))
  )
noncomputable def F8_sumOf_4 (x0 : Nat) (x1 : Int32) (x2 : Int32) (x3 : Int32) (hp : m_H) : Option Int32 :=
  m_wh (fun s => F8_sumOf_4b x0 x1 hp s) m_N (x2, x3)
noncomputable def F8_sumOf_0 (x0 : Nat) (x1 : Int32) (hp : m_H) : Option Int32 :=
  F8_sumOf_4 x0 x1 0 0 hp
noncomputable def F8_sumOf (x0 : Nat) (x1 : Int32) (hp : m_H) : Option Int32 :=
  m_gd (m_isO hp 6 x0) (F8_sumOf_0 x0 x1 hp)
noncomputable def F3_cratesAt_0 (x0 : Nat) (x1 : Int32) (hp : m_H) : Option Int32 :=
  m_b (m_gr hp x0 3 8) fun v1 =>
  m_b (F8_sumOf v1 (10 + x1) hp) fun v4 =>
  some v4
noncomputable def F3_cratesAt (x0 : Nat) (x1 : Int32) (hp : m_H) : Option Int32 :=
  m_gd (m_isO hp 3 x0) (F3_cratesAt_0 x0 x1 hp)
noncomputable def F3_needOfAll_0 (x0 : Nat) (x1 : Int32) (x2 : Int32) (hp : m_H) : Option Int32 :=
  m_b (m_gr hp x0 3 8) fun v1 =>
  m_b (F8_get v1 x1 1 hp) fun v4 =>
  m_b (m_gr hp x0 3 6) fun v5 =>
  m_b (m_gr hp x0 3 8) fun v7 =>
  m_b (F8_get v7 x1 0 hp) fun v10 =>
  m_b (F8_get v5 v10 x2 hp) fun v12 =>
  some (v4 * v12)
noncomputable def F3_needOfAll (x0 : Nat) (x1 : Int32) (x2 : Int32) (hp : m_H) : Option Int32 :=
  m_gd (m_isO hp 3 x0) (F3_needOfAll_0 x0 x1 x2 hp)
noncomputable def F3_stockInPort_4b (x0 : Nat) (x1 : Int32) (hp : m_H) (s : Int32 × Int32) : Option ((Int32 × Int32) ⊕ Int32) :=
  m_b (m_gr hp x0 3 8) fun v1 =>
  m_b (m_gi hp v1 6 2) fun v3 =>
  m_if (v3 ≤ s.2) (
    some (.inr s.1)
  ) (
    m_b (F3_isStock x0 s.2 hp) fun v7 =>
    m_if (v7 = 0) (
      some (.inl (s.1, (s.2 + 1)))
    ) (
      m_b (m_gr hp x0 3 8) fun v9 =>
      m_b (F8_get v9 s.2 0 hp) fun v12 =>
      m_if (v12 = x1) (
        m_b (F3_crates x0 s.2 1 hp) fun v15 =>
        some (.inl ((s.1 + v15), (s.2 + 1)))
      ) (
        some (.inl (s.1, (s.2 + 1)))
      )
    )
  )
noncomputable def F3_stockInPort_4 (x0 : Nat) (x1 : Int32) (x2 : Int32) (x3 : Int32) (hp : m_H) : Option Int32 :=
  m_wh (fun s => F3_stockInPort_4b x0 x1 hp s) m_N (x2, x3)
noncomputable def F3_stockInPort_0 (x0 : Nat) (x1 : Int32) (hp : m_H) : Option Int32 :=
  F3_stockInPort_4 x0 x1 0 0 hp
noncomputable def F3_stockInPort (x0 : Nat) (x1 : Int32) (hp : m_H) : Option Int32 :=
  m_gd (m_isO hp 3 x0) (F3_stockInPort_0 x0 x1 hp)
noncomputable def F3_takeFromStock_5b (x0 : Nat) (x1 : Int32) (s : Int32 × Int32 × m_H) : Option ((Int32 × Int32 × m_H) ⊕ m_H) :=
  m_b (m_gr s.2.2 x0 3 8) fun v1 =>
  m_b (m_gi s.2.2 v1 6 2) fun v3 =>
  m_if (v3 ≤ s.2.1) (
    some (.inr s.2.2)
  ) (
    m_if (s.1 ≤ 0) (
      some (.inr s.2.2)
    ) (
      m_b (F3_isStock x0 s.2.1 s.2.2) fun v8 =>
      m_if (v8 = 0) (
        some (.inl (s.1, (s.2.1 + 1), s.2.2))
      ) (
        m_b (m_gr s.2.2 x0 3 8) fun v10 =>
        m_b (F8_get v10 s.2.1 0 s.2.2) fun v13 =>
        m_if (v13 = x1) (
          m_b (F3_crates x0 s.2.1 1 s.2.2) fun v16 =>
          m_b (m_gr s.2.2 x0 3 8) fun v17 =>
          m_b (F8_raise v17 s.2.1 11 (-(m_min s.1 v16)) s.2.2) fun h20 =>
          m_b (m_gr h20 x0 3 8) fun v21 =>
          m_b (F8_raise v21 s.2.1 1 (-(m_min s.1 v16)) h20) fun h24 =>
          some (.inl ((s.1 - (m_min s.1 v16)), (s.2.1 + 1), h24))
        ) (
          some (.inl (s.1, (s.2.1 + 1), s.2.2))
        )
      )
    )
  )
noncomputable def F3_takeFromStock_5 (x0 : Nat) (x1 : Int32) (x3 : Int32) (x4 : Int32) (hp : m_H) : Option m_H :=
  m_wh (fun s => F3_takeFromStock_5b x0 x1 s) m_N (x3, x4, hp)
noncomputable def F3_takeFromStock_0 (x0 : Nat) (x1 : Int32) (x2 : Int32) (hp : m_H) : Option m_H :=
  F3_takeFromStock_5 x0 x1 x2 0 hp
noncomputable def F3_takeFromStock (x0 : Nat) (x1 : Int32) (x2 : Int32) (hp : m_H) : Option m_H :=
  m_gd (m_isO hp 3 x0) (F3_takeFromStock_0 x0 x1 x2 hp)
noncomputable def F3_lend_0 (x0 : Nat) (x1 : Int32) (x2 : Int32) (x3 : Int32) (hp : m_H) : Option m_H :=
  m_b (m_gr hp x0 3 9) fun v1 =>
  m_b (F8_get v1 x1 1 hp) fun v4 =>
  m_b (F3_takeFromStock x0 v4 x2 hp) fun h6 =>
  m_b (m_gr h6 x0 3 9) fun v7 =>
  m_b (F8_get v7 x1 0 h6) fun v10 =>
  m_b (F3_addLot x0 v4 x2 v10 1 h6) fun z12 =>
  m_b (m_gr z12.2 x0 3 8) fun v13 =>
  m_b (m_gi z12.2 x0 3 0) fun v15 =>
  m_b (F8_set v13 z12.1 6 v15 z12.2) fun h18 =>
  m_b (m_gr h18 x0 3 8) fun v19 =>
  m_b (F8_set v19 z12.1 19 x3 h18) fun h22 =>
  m_b (m_gr h22 x0 3 8) fun v23 =>
  m_b (m_gi h22 x0 3 0) fun v25 =>
  m_b (F3_priceIn x0 v4 v25 h22) fun v28 =>
  m_b (F8_set v23 z12.1 20 v28 h22) fun h30 =>
  m_b (m_gr h30 x0 3 9) fun v31 =>
  m_b (F8_raise v31 x1 4 x2 h30) fun h34 =>
  some h34
noncomputable def F3_lend (x0 : Nat) (x1 : Int32) (x2 : Int32) (x3 : Int32) (hp : m_H) : Option m_H :=
  m_gd (m_isO hp 3 x0) (F3_lend_0 x0 x1 x2 x3 hp)
noncomputable def F3_giveOn_60 (x0 : Nat) (x2 : Int32) (x3 : Int32) (x5 : Int32) (x6 : Int32) (s0 : Int32) (s1 : Int32) (s2 : Int32) (s3 : Nat) (hp : m_H) : Option (Int32 × m_H) :=
  m_b (F8_set s3 s2 s1 s0 hp) fun h2 =>
  m_b (m_gr h2 x0 3 12) fun v3 =>
  m_b (F3_tradeRow x3 x5 h2) fun v6 =>
  m_b (F8_raise v3 v6 2 x2 h2) fun h8 =>
  some (x6, h8)
noncomputable def F3_giveOn_0 (x0 : Nat) (x1 : Int32) (x2 : Int32) (x3 : Int32) (x4 : Int32) (hp : m_H) : Option (Int32 × m_H) :=
  m_b (m_gr hp x0 3 8) fun v1 =>
  m_b (F8_get v1 x1 0 hp) fun v4 =>
  m_b (F3_move x0 x1 x2 3 5 hp) fun h6 =>
  m_b (F3_addLot x0 v4 x2 x3 3 h6) fun z8 =>
  m_b (m_gr z8.2 x0 3 8) fun v9 =>
  m_b (F8_set v9 z8.1 8 x1 z8.2) fun h12 =>
  m_b (m_gr h12 x0 3 8) fun v13 =>
  m_if (x4 = 0) (
    F3_giveOn_60 x0 x2 x3 v4 z8.1 0 9 z8.1 v13 h12
  ) (
    F3_giveOn_60 x0 x2 x3 v4 z8.1 1 9 z8.1 v13 h12
  )
noncomputable def F3_giveOn (x0 : Nat) (x1 : Int32) (x2 : Int32) (x3 : Int32) (x4 : Int32) (hp : m_H) : Option (Int32 × m_H) :=
  m_gd (m_isO hp 3 x0) (F3_giveOn_0 x0 x1 x2 x3 x4 hp)
noncomputable def F3_close_4b (x0 : Nat) (s : Int32 × Int32 × m_H) : Option ((Int32 × Int32 × m_H) ⊕ (Int32 × m_H)) :=
  m_b (m_gr s.2.2 x0 3 8) fun v1 =>
  m_b (m_gi s.2.2 v1 6 2) fun v3 =>
  m_if (v3 ≤ s.2.1) (
    m_b (m_pf m_ft s.2.2 x0 3 3 (.int 1)) fun h6 =>
    some (.inr (s.1, h6))
  ) (
    m_b (F3_crates x0 s.2.1 3 s.2.2) fun v9 =>
    m_b (F3_move x0 s.2.1 v9 3 8 s.2.2) fun h11 =>
    some (.inl ((s.1 + v9), (s.2.1 + 1), h11))
  )
noncomputable def F3_close_4 (x0 : Nat) (x1 : Int32) (x2 : Int32) (hp : m_H) : Option (Int32 × m_H) :=
  m_wh (fun s => F3_close_4b x0 s) m_N (x1, x2, hp)
noncomputable def F3_close_0 (x0 : Nat) (hp : m_H) : Option (Int32 × m_H) :=
  F3_close_4 x0 0 0 hp
noncomputable def F3_close (x0 : Nat) (hp : m_H) : Option (Int32 × m_H) :=
  m_gd (m_isO hp 3 x0) (F3_close_0 x0 hp)
noncomputable def F3_openRequests_4b (x0 : Nat) (hp : m_H) (s : Int32 × Int32) : Option ((Int32 × Int32) ⊕ Int32) :=
  m_b (m_gr hp x0 3 9) fun v1 =>
  m_b (m_gi hp v1 6 2) fun v3 =>
  m_if (v3 ≤ s.2) (
    some (.inr s.1)
  ) (
    m_b (F3_lackOf x0 s.2 hp) fun v7 =>
    m_if (v7 ≤ 0) (
      some (.inl (s.1, (s.2 + 1)))
    ) (
      some (.inl ((s.1 + 1), (s.2 + 1)))
    )
  )
noncomputable def F3_openRequests_4 (x0 : Nat) (x1 : Int32) (x2 : Int32) (hp : m_H) : Option Int32 :=
  m_wh (fun s => F3_openRequests_4b x0 hp s) m_N (x1, x2)
noncomputable def F3_openRequests_0 (x0 : Nat) (hp : m_H) : Option Int32 :=
  F3_openRequests_4 x0 0 0 hp
noncomputable def F3_openRequests (x0 : Nat) (hp : m_H) : Option Int32 :=
  m_gd (m_isO hp 3 x0) (F3_openRequests_0 x0 hp)
noncomputable def F3_cargoLot_0 (x0 : Nat) (x1 : Int32) (x2 : Int32) (hp : m_H) : Option Int32 :=
  m_b (m_gr hp x0 3 10) fun v1 =>
  m_b (F8_get v1 x1 (7 + (2 * x2)) hp) fun v4 =>
  some v4
noncomputable def F3_cargoLot (x0 : Nat) (x1 : Int32) (x2 : Int32) (hp : m_H) : Option Int32 :=
  m_gd (m_isO hp 3 x0) (F3_cargoLot_0 x0 x1 x2 hp)
noncomputable def F3_cargoCrates_0 (x0 : Nat) (x1 : Int32) (x2 : Int32) (hp : m_H) : Option Int32 :=
  m_b (m_gr hp x0 3 10) fun v1 =>
  m_b (F8_get v1 x1 ((7 + (2 * x2)) + 1) hp) fun v4 =>
  some v4
noncomputable def F3_cargoCrates (x0 : Nat) (x1 : Int32) (x2 : Int32) (hp : m_H) : Option Int32 :=
  m_gd (m_isO hp 3 x0) (F3_cargoCrates_0 x0 x1 x2 hp)
noncomputable def F3_tonsOf_0 (x0 : Nat) (x1 : Int32) (hp : m_H) : Option Int32 :=
  m_b (m_gr hp x0 3 6) fun v1 =>
  m_b (m_gr hp x0 3 8) fun v3 =>
  m_b (F8_get v3 x1 0 hp) fun v6 =>
  m_b (F8_get v1 v6 0 hp) fun v8 =>
  some v8
noncomputable def F3_tonsOf (x0 : Nat) (x1 : Int32) (hp : m_H) : Option Int32 :=
  m_gd (m_isO hp 3 x0) (F3_tonsOf_0 x0 x1 hp)
noncomputable def F3_tonsAboard_4b (x0 : Nat) (x1 : Int32) (hp : m_H) (s : Int32 × Int32) : Option ((Int32 × Int32) ⊕ Int32) :=
  m_b (m_gr hp x0 3 10) fun v1 =>
  m_b (F8_get v1 x1 6 hp) fun v4 =>
  m_if (v4 ≤ s.2) (
    some (.inr s.1)
  ) (
    m_if (8 ≤ s.2) (
      some (.inr s.1)
    ) (
      m_b (F3_cargoCrates x0 x1 s.2 hp) fun v8 =>
      m_b (F3_cargoLot x0 x1 s.2 hp) fun v10 =>
      m_b (F3_tonsOf x0 v10 hp) fun v12 =>
      some (.inl ((s.1 + (v8 * v12)), (s.2 + 1)))
    )
  )
noncomputable def F3_tonsAboard_4 (x0 : Nat) (x1 : Int32) (x2 : Int32) (x3 : Int32) (hp : m_H) : Option Int32 :=
  m_wh (fun s => F3_tonsAboard_4b x0 x1 hp s) m_N (x2, x3)
noncomputable def F3_tonsAboard_0 (x0 : Nat) (x1 : Int32) (hp : m_H) : Option Int32 :=
  F3_tonsAboard_4 x0 x1 0 0 hp
noncomputable def F3_tonsAboard (x0 : Nat) (x1 : Int32) (hp : m_H) : Option Int32 :=
  m_gd (m_isO hp 3 x0) (F3_tonsAboard_0 x0 x1 hp)
noncomputable def F3_slotFor_19b (x0 : Nat) (x1 : Int32) (x2 : Int32) (x3 : Int32) (hp : m_H) (s : Int32) : Option (Int32 ⊕ Int32) :=
  m_if (x3 ≤ s) (
    some (.inr x3)
  ) (
    m_b (F3_cargoLot x0 x1 s hp) fun v3 =>
    m_if (v3 = x2) (
      some (.inr s)
    ) (
      some (.inl (s + 1))
    )
  )
noncomputable def F3_slotFor_19 (x0 : Nat) (x1 : Int32) (x2 : Int32) (x3 : Int32) (x4 : Int32) (hp : m_H) : Option Int32 :=
  m_wh (fun s => F3_slotFor_19b x0 x1 x2 x3 hp s) m_N x4
noncomputable def F3_slotFor_0 (x0 : Nat) (x1 : Int32) (x2 : Int32) (hp : m_H) : Option Int32 :=
  m_b (m_gr hp x0 3 10) fun v1 =>
  m_b (F8_get v1 x1 6 hp) fun v4 =>
  F3_slotFor_19 x0 x1 x2 (m_min 8 v4) 0 hp
noncomputable def F3_slotFor (x0 : Nat) (x1 : Int32) (x2 : Int32) (hp : m_H) : Option Int32 :=
  m_gd (m_isO hp 3 x0) (F3_slotFor_0 x0 x1 x2 hp)
noncomputable def F3_landOfCargo_0 (x0 : Nat) (x1 : Int32) (hp : m_H) : Option Int32 :=
  m_b (m_gr hp x0 3 8) fun v1 =>
  m_b (F3_cargoLot x0 x1 0 hp) fun v4 =>
  m_b (F8_get v1 v4 2 hp) fun v6 =>
  some v6
noncomputable def F3_landOfCargo (x0 : Nat) (x1 : Int32) (hp : m_H) : Option Int32 :=
  m_gd (m_isO hp 3 x0) (F3_landOfCargo_0 x0 x1 hp)
noncomputable def F3_fits_0 (x0 : Nat) (x1 : Int32) (x2 : Int32) (hp : m_H) : Option Int32 :=
  m_b (m_gr hp x0 3 10) fun v1 =>
  m_b (F8_get v1 x1 2 hp) fun v4 =>
  m_b (m_gr hp x0 3 8) fun v5 =>
  m_b (F8_get v5 x2 2 hp) fun v8 =>
  m_if (v4 = 0) (
    m_b (F3_isLent x0 x2 hp) fun v20 =>
    m_if (v20 = 0) (
      some 0
    ) (
      m_b (m_gr hp x0 3 10) fun v22 =>
      m_b (F8_get v22 x1 6 hp) fun v25 =>
      m_if (v25 = 0) (
        some 1
      ) (
        m_b (F3_landOfCargo x0 x1 hp) fun v28 =>
        m_if (v28 = v8) (
          some 1
        ) (
          some 0
        )
      )
    )
  ) (
    m_if (v4 = 2) (
      m_b (F3_isBack x0 x2 hp) fun v12 =>
      m_if (v12 = 0) (
        some 0
      ) (
        m_b (m_gr hp x0 3 10) fun v14 =>
        m_b (F8_get v14 x1 3 hp) fun v17 =>
        m_if (v17 = v8) (
          some 1
        ) (
          some 0
        )
      )
    ) (
      some 0
    )
  )
noncomputable def F3_fits (x0 : Nat) (x1 : Int32) (x2 : Int32) (hp : m_H) : Option Int32 :=
  m_gd (m_isO hp 3 x0) (F3_fits_0 x0 x1 x2 hp)
noncomputable def F3_mayLoad_17 (x0 : Nat) (x1 : Int32) (x2 : Int32) (x3 : Int32) (s0 : Int32) (hp : m_H) : Option Int32 :=
  m_b (F3_fits x0 x1 x2 hp) fun v2 =>
  m_if (v2 = 0) (
    some 0
  ) (
    m_if (x3 < 1) (
      some 0
    ) (
      m_b (F3_crates x0 x2 s0 hp) fun v6 =>
      m_if (v6 < x3) (
        some 0
      ) (
        m_b (F3_slotFor x0 x1 x2 hp) fun v9 =>
        m_if (v9 < 8) (
          m_b (F3_tonsAboard x0 x1 hp) fun v12 =>
          m_b (F3_tonsOf x0 x2 hp) fun v14 =>
          m_b (m_gr hp x0 3 10) fun v15 =>
          m_b (F8_get v15 x1 0 hp) fun v18 =>
          m_if (v18 < (v12 + (x3 * v14))) (
            some 0
          ) (
            some 1
          )
        ) (
          some 0
        )
      )
    )
  )
noncomputable def F3_mayLoad_0 (x0 : Nat) (x1 : Int32) (x2 : Int32) (x3 : Int32) (hp : m_H) : Option Int32 :=
  m_b (m_gr hp x0 3 10) fun v1 =>
  m_b (F8_get v1 x1 2 hp) fun v4 =>
  m_if (v4 = 0) (
    F3_mayLoad_17 x0 x1 x2 x3 1 hp
  ) (
    F3_mayLoad_17 x0 x1 x2 x3 3 hp
  )
noncomputable def F3_mayLoad (x0 : Nat) (x1 : Int32) (x2 : Int32) (x3 : Int32) (hp : m_H) : Option Int32 :=
  m_gd (m_isO hp 3 x0) (F3_mayLoad_0 x0 x1 x2 x3 hp)
noncomputable def F3_putAboard_92 (x0 : Nat) (x1 : Int32) (x3 : Int32) (x4 : Int32) (hp : m_H) : Option m_H :=
  m_b (m_gr hp x0 3 10) fun v1 =>
  m_b (F8_raise v1 x1 ((7 + (2 * x4)) + 1) x3 hp) fun h4 =>
  some h4
noncomputable def F3_putAboard_20 (x0 : Nat) (x1 : Int32) (x2 : Int32) (x3 : Int32) (s0 : Int32) (s1 : Int32) (s2 : Int32) (s3 : Nat) (hp : m_H) : Option m_H :=
  m_b (F3_move s3 s2 s1 s0 2 hp) fun h2 =>
  m_b (F3_slotFor x0 x1 x2 h2) fun v4 =>
  m_b (m_gr h2 x0 3 10) fun v5 =>
  m_b (F8_get v5 x1 6 h2) fun v8 =>
  m_if (v4 = v8) (
    m_b (m_gr h2 x0 3 10) fun v10 =>
    m_b (F8_raise v10 x1 6 1 h2) fun h13 =>
    m_b (m_gr h13 x0 3 10) fun v14 =>
    m_b (F8_set v14 x1 (7 + (2 * v4)) x2 h13) fun h17 =>
    m_b (m_gr h17 x0 3 10) fun v18 =>
    m_b (F8_set v18 x1 ((7 + (2 * v4)) + 1) 0 h17) fun h21 =>
    F3_putAboard_92 x0 x1 x3 v4 h21
  ) (
    F3_putAboard_92 x0 x1 x3 v4 h2
  )
noncomputable def F3_putAboard_0 (x0 : Nat) (x1 : Int32) (x2 : Int32) (x3 : Int32) (hp : m_H) : Option m_H :=
  m_b (m_gr hp x0 3 10) fun v1 =>
  m_b (F8_get v1 x1 2 hp) fun v4 =>
  m_if (v4 = 0) (
    F3_putAboard_20 x0 x1 x2 x3 1 x3 x2 x0 hp
  ) (
    F3_putAboard_20 x0 x1 x2 x3 3 x3 x2 x0 hp
  )
noncomputable def F3_putAboard (x0 : Nat) (x1 : Int32) (x2 : Int32) (x3 : Int32) (hp : m_H) : Option m_H :=
  m_gd (m_isO hp 3 x0) (F3_putAboard_0 x0 x1 x2 x3 hp)
noncomputable def F3_maySail_0 (x0 : Nat) (x1 : Int32) (x2 : Int32) (hp : m_H) : Option Int32 :=
  m_b (m_gr hp x0 3 10) fun v1 =>
  m_b (F8_get v1 x1 2 hp) fun v4 =>
  m_if (v4 = 0) (
    m_if (x2 = 0) (
      some 0
    ) (
      m_b (m_gr hp x0 3 10) fun v9 =>
      m_b (F8_get v9 x1 6 hp) fun v12 =>
      m_if (v12 = 0) (
        some 1
      ) (
        m_b (F3_landOfCargo x0 x1 hp) fun v15 =>
        m_if (v15 = x2) (
          some 1
        ) (
          some 0
        )
      )
    )
  ) (
    m_if (v4 = 2) (
      m_if (x2 = 0) (
        some 1
      ) (
        some 0
      )
    ) (
      some 0
    )
  )
noncomputable def F3_maySail (x0 : Nat) (x1 : Int32) (x2 : Int32) (hp : m_H) : Option Int32 :=
  m_gd (m_isO hp 3 x0) (F3_maySail_0 x0 x1 x2 hp)
noncomputable def F3_putToSea_29 (x0 : Nat) (x1 : Int32) (s0 : Int32) (s1 : Int32) (s2 : Int32) (s3 : Nat) (hp : m_H) : Option m_H :=
  m_b (F8_set s3 s2 s1 s0 hp) fun h2 =>
  m_b (m_gr h2 x0 3 10) fun v3 =>
  m_b (m_gr h2 x0 3 11) fun v5 =>
  m_b (m_gr h2 x0 3 10) fun v7 =>
  m_b (F8_get v7 x1 3 h2) fun v10 =>
  m_b (F8_get v5 v10 2 h2) fun v12 =>
  m_b (F8_set v3 x1 4 v12 h2) fun h14 =>
  some h14
noncomputable def F3_putToSea_14 (x0 : Nat) (x1 : Int32) (x2 : Int32) (hp : m_H) : Option m_H :=
  m_b (m_gr hp x0 3 10) fun v1 =>
  m_if (x2 = 0) (
    F3_putToSea_29 x0 x1 3 2 x1 v1 hp
  ) (
    F3_putToSea_29 x0 x1 1 2 x1 v1 hp
  )
noncomputable def F3_putToSea_0 (x0 : Nat) (x1 : Int32) (x2 : Int32) (hp : m_H) : Option m_H :=
  m_if (x2 = 0) (
    F3_putToSea_14 x0 x1 x2 hp
  ) (
    m_b (m_gr hp x0 3 10) fun v2 =>
    m_b (F8_set v2 x1 3 x2 hp) fun h5 =>
    F3_putToSea_14 x0 x1 x2 h5
  )
noncomputable def F3_putToSea (x0 : Nat) (x1 : Int32) (x2 : Int32) (hp : m_H) : Option m_H :=
  m_gd (m_isO hp 3 x0) (F3_putToSea_0 x0 x1 x2 hp)
noncomputable def F4_init_0 (x0 : Nat) (hp : m_H) : Option m_H :=
  m_b (m_nw 0 6 hp) fun h1 =>
  m_b (m_pf m_ft h1 x0 4 0 (.ref (m_id hp))) fun h3 =>
  m_b (m_nw 0 6 h3) fun h5 =>
  m_b (m_pf m_ft h5 x0 4 1 (.ref (m_id h3))) fun h7 =>
  m_b (m_nw 0 6 h7) fun h9 =>
  m_b (m_pf m_ft h9 x0 4 2 (.ref (m_id h7))) fun h11 =>
  m_b (m_nw 0 6 h11) fun h13 =>
  m_b (m_pf m_ft h13 x0 4 3 (.ref (m_id h11))) fun h15 =>
  m_b (m_nw 0 6 h15) fun h17 =>
  m_b (m_pf m_ft h17 x0 4 4 (.ref (m_id h15))) fun h19 =>
  m_b (m_nw 0 6 h19) fun h21 =>
  m_b (m_pf m_ft h21 x0 4 5 (.ref (m_id h19))) fun h23 =>
  some h23
noncomputable def F4_init (x0 : Nat) (hp : m_H) : Option m_H :=
  m_gd (m_isO hp 4 x0) (F4_init_0 x0 hp)
noncomputable def F4_lacking_4b (x0 : Nat) (hp : m_H) (s : Int32 × Int32) : Option ((Int32 × Int32) ⊕ Int32) :=
  m_b (m_gr hp x0 4 5) fun v1 =>
  m_b (m_len hp v1) fun v3 =>
  m_if (v3 ≤ s.2) (
    some (.inr s.1)
  ) (
    m_b (m_gr hp x0 4 5) fun v6 =>
    m_b (m_ai hp 0 v6 s.2) fun v8 =>
    some (.inl ((s.1 + (m_max 0 v8)), (s.2 + 1)))
  )
noncomputable def F4_lacking_4 (x0 : Nat) (x1 : Int32) (x2 : Int32) (hp : m_H) : Option Int32 :=
  m_wh (fun s => F4_lacking_4b x0 hp s) m_N (x1, x2)
noncomputable def F4_lacking_0 (x0 : Nat) (hp : m_H) : Option Int32 :=
  F4_lacking_4 x0 0 1 hp
noncomputable def F4_lacking (x0 : Nat) (hp : m_H) : Option Int32 :=
  m_gd (m_isO hp 4 x0) (F4_lacking_0 x0 hp)
noncomputable def F4_send_43 (A : Nat → Int32 → Int32 → Int32 → m_H → Option m_H) (x0 : Nat) (x3 : Int32) (hp : m_H) : Option m_H :=
  m_b (m_pf m_ft hp x0 4 7 (.int x3)) fun h1 =>
  m_b (m_gr h1 x0 4 2) fun v3 =>
  m_b (m_gr h1 x0 4 3) fun v5 =>
  m_b (m_gr h1 x0 4 2) fun v7 =>
  m_b (m_len h1 v7) fun v9 =>
  m_b (m_gr h1 x0 4 3) fun v11 =>
  m_b (m_len h1 v11) fun v13 =>
  m_b (m_cpy h1 v3 v5 0 0 (m_min v9 v13)) fun h16 =>
  some h16
noncomputable def F4_send_113 (A : Nat → Int32 → Int32 → Int32 → m_H → Option m_H) (x0 : Nat) (x1 : Int32) (x2 : Int32) (x3 : Int32) (x4 : Int32) (hp : m_H) : Option ((Int32 × m_H) ⊕ m_H) :=
  m_b (m_gr hp x0 4 2) fun v1 =>
  m_b (m_si hp 0 v1 x1 x4) fun h3 =>
  m_b (m_gr h3 x0 4 5) fun v5 =>
  m_b (m_ai h3 0 v5 x4) fun v7 =>
  m_b (m_gr h3 x0 4 1) fun v9 =>
  m_b (m_ai h3 0 v9 x1) fun v11 =>
  m_b (m_si h3 0 v5 x4 (v7 - v11)) fun h13 =>
  m_b (m_gr h13 x0 4 1) fun v15 =>
  m_b (m_ai h13 0 v15 x1) fun v17 =>
  m_b (m_gr h13 x0 4 1) fun v19 =>
  m_b (m_ai h13 0 v19 x1) fun v21 =>
  m_b (m_gr h13 x0 4 4) fun v23 =>
  m_b (m_ai h13 0 v23 x4) fun v25 =>
  m_b (A x0 (x1 + 1) (x2 - v17) (x3 + (v21 * v25)) h13) fun h28 =>
  m_b (m_gr h28 x0 4 5) fun v29 =>
  m_b (m_ai h28 0 v29 x4) fun v31 =>
  m_b (m_gr h28 x0 4 1) fun v33 =>
  m_b (m_ai h28 0 v33 x1) fun v35 =>
  m_b (m_si h28 0 v29 x4 (v31 + v35)) fun h37 =>
  some (.inl ((x4 + 1), h37))
noncomputable def F4_send_78b (A : Nat → Int32 → Int32 → Int32 → m_H → Option m_H) (x0 : Nat) (x1 : Int32) (x2 : Int32) (x3 : Int32) (s : Int32 × m_H) : Option ((Int32 × m_H) ⊕ m_H) :=
  m_b (m_gr s.2 x0 4 5) fun v1 =>
  m_b (m_len s.2 v1) fun v3 =>
  m_if (v3 ≤ s.1) (
    some (.inr s.2)
  ) (
    m_b (m_gr s.2 x0 4 4) fun v6 =>
    m_b (m_len s.2 v6) fun v8 =>
    m_if (v8 ≤ s.1) (
      some (.inr s.2)
    ) (
      m_if (s.1 = 0) (
        F4_send_113 A x0 x1 x2 x3 s.1 s.2
      ) (
        m_b (m_gr s.2 x0 4 5) fun v12 =>
        m_b (m_ai s.2 0 v12 s.1) fun v14 =>
        m_if (v14 ≤ 0) (
          some (.inl ((s.1 + 1), s.2))
        ) (
          F4_send_113 A x0 x1 x2 x3 s.1 s.2
        )
      )
    )
  )
noncomputable def F4_send_78 (A : Nat → Int32 → Int32 → Int32 → m_H → Option m_H) (x0 : Nat) (x1 : Int32) (x2 : Int32) (x3 : Int32) (x4 : Int32) (hp : m_H) : Option m_H :=
  m_wh (fun s => F4_send_78b A x0 x1 x2 x3 s) m_N (x4, hp)
noncomputable def F4_send_0 (A : Nat → Int32 → Int32 → Int32 → m_H → Option m_H) (x0 : Nat) (x1 : Int32) (x2 : Int32) (x3 : Int32) (hp : m_H) : Option m_H :=
  m_b (m_gi hp x0 4 7) fun v1 =>
  m_if (v1 ≤ x3) (
    some hp
  ) (
    m_b (F4_lacking x0 hp) fun v5 =>
    m_if (v5 ≤ x2) (
      m_b (m_gi hp x0 4 6) fun v7 =>
      m_if (v7 ≤ x1) (
        F4_send_43 A x0 x3 hp
      ) (
        m_b (m_gr hp x0 4 1) fun v10 =>
        m_b (m_len hp v10) fun v12 =>
        m_if (v12 ≤ x1) (
          F4_send_43 A x0 x3 hp
        ) (
          m_b (m_gr hp x0 4 2) fun v15 =>
          m_b (m_len hp v15) fun v17 =>
          m_if (x1 < v17) (
            F4_send_78 A x0 x1 x2 x3 0 hp
          ) (
            F4_send_43 A x0 x3 hp
          )
        )
      )
    ) (
      some hp
    )
  )
noncomputable def F4_sends (A : Nat → Int32 → Int32 → Int32 → m_H → Option m_H) (x0 : Nat) (x1 : Int32) (x2 : Int32) (x3 : Int32) (hp : m_H) : Option m_H :=
  m_gd (m_isO hp 4 x0) (F4_send_0 A x0 x1 x2 x3 hp)
noncomputable def F4_send : Nat → Nat → Int32 → Int32 → Int32 → m_H → Option m_H
  | 0 => fun _ _ _ _ _ => none
  | n + 1 => F4_sends (F4_send n)
noncomputable def F4_plan_182 (x0 : Nat) (x2 : Int32) (hp : m_H) : Option m_H :=
  m_b (F4_send m_FD x0 0 x2 0 hp) fun h2 =>
  some h2
noncomputable def F4_plan_120b (x0 : Nat) (x1 : Nat) (x2 : Int32) (s : Int32 × m_H) : Option ((Int32 × m_H) ⊕ m_H) :=
  m_if (6 ≤ s.1) (
    (F4_plan_182 x0 x2 s.2).map .inr
  ) (
    m_b (m_gr s.2 x0 4 5) fun v2 =>
    m_b (m_len s.2 v2) fun v4 =>
    m_if (v4 ≤ s.1) (
      (F4_plan_182 x0 x2 s.2).map .inr
    ) (
      m_b (m_gr s.2 x0 4 4) fun v7 =>
      m_b (m_len s.2 v7) fun v9 =>
      m_if (v9 ≤ s.1) (
        (F4_plan_182 x0 x2 s.2).map .inr
      ) (
        m_b (m_gr s.2 x0 4 5) fun v12 =>
        m_b (m_gr s.2 x1 3 11) fun v14 =>
        m_b (F8_get v14 s.1 3 s.2) fun v17 =>
        m_b (m_si s.2 0 v12 s.1 v17) fun h18 =>
        m_b (m_gr h18 x0 4 4) fun v20 =>
        m_b (m_gi h18 x1 3 0) fun v22 =>
        m_b (F3_riskIn x1 s.1 (v22 + 1) h18) fun v25 =>
        m_b (m_si h18 0 v20 s.1 v25) fun h26 =>
        some (.inl ((s.1 + 1), h26))
      )
    )
  )
noncomputable def F4_plan_120 (x0 : Nat) (x1 : Nat) (x2 : Int32) (x3 : Int32) (hp : m_H) : Option m_H :=
  m_wh (fun s => F4_plan_120b x0 x1 x2 s) m_N (x3, hp)
noncomputable def F4_plan_15b (x0 : Nat) (x1 : Nat) (s : Int32 × Int32 × m_H) : Option ((Int32 × Int32 × m_H) ⊕ m_H) :=
  m_b (m_gr s.2.2 x1 3 10) fun v1 =>
  m_b (m_gi s.2.2 v1 6 2) fun v3 =>
  m_if (v3 ≤ s.2.1) (
    (F4_plan_120 x0 x1 s.1 0 s.2.2).map .inr
  ) (
    m_b (m_gr s.2.2 x1 3 10) fun v6 =>
    m_b (F8_get v6 s.2.1 2 s.2.2) fun v9 =>
    m_if (v9 = 0) (
      m_b (m_gi s.2.2 x0 4 6) fun v11 =>
      m_b (m_gr s.2.2 x0 4 0) fun v13 =>
      m_b (m_len s.2.2 v13) fun v15 =>
      m_if (v15 ≤ v11) (
        some (.inl (s.1, (s.2.1 + 1), s.2.2))
      ) (
        m_b (m_gi s.2.2 x0 4 6) fun v18 =>
        m_b (m_gr s.2.2 x0 4 1) fun v20 =>
        m_b (m_len s.2.2 v20) fun v22 =>
        m_if (v22 ≤ v18) (
          some (.inl (s.1, (s.2.1 + 1), s.2.2))
        ) (
          m_b (m_gr s.2.2 x0 4 0) fun v25 =>
          m_b (m_gi s.2.2 x0 4 6) fun v27 =>
          m_b (m_si s.2.2 0 v25 v27 s.2.1) fun h29 =>
          m_b (m_gr h29 x0 4 1) fun v31 =>
          m_b (m_gi h29 x0 4 6) fun v33 =>
          m_b (m_gr h29 x1 3 10) fun v35 =>
          m_b (F8_get v35 s.2.1 0 h29) fun v38 =>
          m_b (m_si h29 0 v31 v33 v38) fun h39 =>
          m_b (m_gr h39 x0 4 1) fun v41 =>
          m_b (m_gi h39 x0 4 6) fun v43 =>
          m_b (m_ai h39 0 v41 v43) fun v45 =>
          m_b (m_gi h39 x0 4 6) fun v47 =>
          m_b (m_pf m_ft h39 x0 4 6 (.int (v47 + 1))) fun h49 =>
          some (.inl ((s.1 + v45), (s.2.1 + 1), h49))
        )
      )
    ) (
      some (.inl (s.1, (s.2.1 + 1), s.2.2))
    )
  )
noncomputable def F4_plan_15 (x0 : Nat) (x1 : Nat) (x2 : Int32) (x3 : Int32) (hp : m_H) : Option m_H :=
  m_wh (fun s => F4_plan_15b x0 x1 s) m_N (x2, x3, hp)
noncomputable def F4_plan_0 (x0 : Nat) (x1 : Nat) (hp : m_H) : Option m_H :=
  m_b (m_pf m_ft hp x0 4 6 (.int 0)) fun h1 =>
  m_b (m_pf m_ft h1 x0 4 7 (.int 1000000000)) fun h3 =>
  F4_plan_15 x0 x1 0 0 h3
noncomputable def F4_plan (x0 : Nat) (x1 : Nat) (hp : m_H) : Option m_H :=
  m_gd (m_isO hp 4 x0) (F4_plan_0 x0 x1 hp)
noncomputable def F4_leastLost_0 (x0 : Nat) (hp : m_H) : Option Int32 :=
  m_b (m_gi hp x0 4 7) fun v1 =>
  m_if (v1 = 1000000000) (
    some (-1)
  ) (
    m_b (m_gi hp x0 4 7) fun v4 =>
    some v4
  )
noncomputable def F4_leastLost (x0 : Nat) (hp : m_H) : Option Int32 :=
  m_gd (m_isO hp 4 x0) (F4_leastLost_0 x0 hp)
noncomputable def F4_landOf_13b (x0 : Nat) (x1 : Int32) (hp : m_H) (s : Int32) : Option (Int32 ⊕ Int32) :=
  m_b (m_gi hp x0 4 6) fun v1 =>
  m_if (v1 ≤ s) (
    some (.inr (-1))
  ) (
    m_b (m_gr hp x0 4 0) fun v4 =>
    m_b (m_len hp v4) fun v6 =>
    m_if (v6 ≤ s) (
      some (.inr (-1))
    ) (
      m_b (m_gr hp x0 4 3) fun v9 =>
      m_b (m_len hp v9) fun v11 =>
      m_if (v11 ≤ s) (
        some (.inr (-1))
      ) (
        m_b (m_gr hp x0 4 0) fun v14 =>
        m_b (m_ai hp 0 v14 s) fun v16 =>
        m_if (v16 = x1) (
          m_b (m_gr hp x0 4 3) fun v19 =>
          m_b (m_ai hp 0 v19 s) fun v21 =>
          some (.inr v21)
        ) (
          some (.inl (s + 1))
        )
      )
    )
  )
noncomputable def F4_landOf_13 (x0 : Nat) (x1 : Int32) (x2 : Int32) (hp : m_H) : Option Int32 :=
  m_wh (fun s => F4_landOf_13b x0 x1 hp s) m_N x2
noncomputable def F4_landOf_0 (x0 : Nat) (x1 : Int32) (hp : m_H) : Option Int32 :=
  m_b (m_gi hp x0 4 7) fun v1 =>
  m_if (v1 = 1000000000) (
    some (-1)
  ) (
    F4_landOf_13 x0 x1 0 hp
  )
noncomputable def F4_landOf (x0 : Nat) (x1 : Int32) (hp : m_H) : Option Int32 :=
  m_gd (m_isO hp 4 x0) (F4_landOf_0 x0 x1 hp)
noncomputable def F5_isLentTo_0 (x0 : Nat) (x1 : Int32) (x2 : Int32) (hp : m_H) : Option Int32 :=
  m_b (m_gr hp x0 3 8) fun v1 =>
  m_b (F8_get v1 x1 2 hp) fun v4 =>
  m_if (v4 = x2) (
    m_b (F3_isLent x0 x1 hp) fun v7 =>
    m_if (v7 = 0) (
      some 0
    ) (
      some 1
    )
  ) (
    some 0
  )
noncomputable def F5_isLentTo (x0 : Nat) (x1 : Int32) (x2 : Int32) (hp : m_H) : Option Int32 :=
  F5_isLentTo_0 x0 x1 x2 hp
noncomputable def F5_owedFor_0 (x0 : Nat) (x1 : Int32) (hp : m_H) : Option Int64 :=
  m_b (m_gr hp x0 3 8) fun v1 =>
  m_b (F8_get v1 x1 1 hp) fun v4 =>
  m_b (F3_crates x0 x1 7 hp) fun v6 =>
  m_b (F3_crates x0 x1 8 hp) fun v8 =>
  m_b (m_gr hp x0 3 8) fun v9 =>
  m_b (F8_get v9 x1 20 hp) fun v12 =>
  m_b (m_gr hp x0 3 8) fun v13 =>
  m_b (F8_get v13 x1 19 hp) fun v16 =>
  m_b (m_dl (((m_i2l ((v4 - v6) - v8)) * (m_i2l v12)) * (m_i2l v16)) 100) fun v17 =>
  some v17
noncomputable def F5_owedFor (x0 : Nat) (x1 : Int32) (hp : m_H) : Option Int64 :=
  F5_owedFor_0 x0 x1 hp
noncomputable def F5_owed_5b (x0 : Nat) (x1 : Int32) (hp : m_H) (s : Int64 × Int32) : Option ((Int64 × Int32) ⊕ Int64) :=
  m_b (m_gr hp x0 3 8) fun v1 =>
  m_b (m_gi hp v1 6 2) fun v3 =>
  m_if (v3 ≤ s.2) (
    some (.inr s.1)
  ) (
    m_b (F5_isLentTo x0 s.2 x1 hp) fun v7 =>
    m_if (v7 = 0) (
      some (.inl (s.1, (s.2 + 1)))
    ) (
      m_b (F5_owedFor x0 s.2 hp) fun v10 =>
      some (.inl ((s.1 + v10), (s.2 + 1)))
    )
  )
noncomputable def F5_owed_5 (x0 : Nat) (x1 : Int32) (x2 : Int64) (x4 : Int32) (hp : m_H) : Option Int64 :=
  m_wh (fun s => F5_owed_5b x0 x1 hp s) m_N (x2, x4)
noncomputable def F5_owed_0 (x0 : Nat) (x1 : Int32) (hp : m_H) : Option Int64 :=
  F5_owed_5 x0 x1 0 0 hp
noncomputable def F5_owed (x0 : Nat) (x1 : Int32) (hp : m_H) : Option Int64 :=
  F5_owed_0 x0 x1 hp
noncomputable def F5_lentAt_5b (x0 : Nat) (x1 : Int32) (x2 : Int32) (hp : m_H) (s : Int32 × Int32) : Option ((Int32 × Int32) ⊕ Int32) :=
  m_b (m_gr hp x0 3 8) fun v1 =>
  m_b (m_gi hp v1 6 2) fun v3 =>
  m_if (v3 ≤ s.2) (
    some (.inr s.1)
  ) (
    m_b (F5_isLentTo x0 s.2 x1 hp) fun v7 =>
    m_if (v7 = 0) (
      some (.inl (s.1, (s.2 + 1)))
    ) (
      m_b (F3_crates x0 s.2 x2 hp) fun v10 =>
      some (.inl ((s.1 + v10), (s.2 + 1)))
    )
  )
noncomputable def F5_lentAt_5 (x0 : Nat) (x1 : Int32) (x2 : Int32) (x3 : Int32) (x4 : Int32) (hp : m_H) : Option Int32 :=
  m_wh (fun s => F5_lentAt_5b x0 x1 x2 hp s) m_N (x3, x4)
noncomputable def F5_lentAt_0 (x0 : Nat) (x1 : Int32) (x2 : Int32) (hp : m_H) : Option Int32 :=
  F5_lentAt_5 x0 x1 x2 0 0 hp
noncomputable def F5_lentAt (x0 : Nat) (x1 : Int32) (x2 : Int32) (hp : m_H) : Option Int32 :=
  F5_lentAt_0 x0 x1 x2 hp
noncomputable def F5_landedOf_5b (x0 : Nat) (x1 : Int32) (x2 : Int32) (hp : m_H) (s : Int32 × Int32) : Option ((Int32 × Int32) ⊕ Int32) :=
  m_b (m_gr hp x0 3 8) fun v1 =>
  m_b (m_gi hp v1 6 2) fun v3 =>
  m_if (v3 ≤ s.2) (
    some (.inr s.1)
  ) (
    m_b (F5_isLentTo x0 s.2 x1 hp) fun v7 =>
    m_if (v7 = 0) (
      some (.inl (s.1, (s.2 + 1)))
    ) (
      m_b (m_gr hp x0 3 8) fun v9 =>
      m_b (F8_get v9 s.2 0 hp) fun v12 =>
      m_if (v12 = x2) (
        m_b (F3_crates x0 s.2 3 hp) fun v15 =>
        some (.inl ((s.1 + v15), (s.2 + 1)))
      ) (
        some (.inl (s.1, (s.2 + 1)))
      )
    )
  )
noncomputable def F5_landedOf_5 (x0 : Nat) (x1 : Int32) (x2 : Int32) (x3 : Int32) (x4 : Int32) (hp : m_H) : Option Int32 :=
  m_wh (fun s => F5_landedOf_5b x0 x1 x2 hp s) m_N (x3, x4)
noncomputable def F5_landedOf_0 (x0 : Nat) (x1 : Int32) (x2 : Int32) (hp : m_H) : Option Int32 :=
  F5_landedOf_5 x0 x1 x2 0 0 hp
noncomputable def F5_landedOf (x0 : Nat) (x1 : Int32) (x2 : Int32) (hp : m_H) : Option Int32 :=
  F5_landedOf_0 x0 x1 x2 hp
noncomputable def F5_landedAtEnd_0 (x0 : Nat) (x1 : Nat) (x2 : Int32) (x3 : Int32) (x4 : Int32) (hp : m_H) : Option Int32 :=
  m_b (m_gi hp x0 3 0) fun v1 =>
  m_if (x4 = v1) (
    m_b (F5_landedOf x0 x2 x3 hp) fun v7 =>
    some v7
  ) (
    m_b (F1_at x1 x4 x2 x3 hp) fun v5 =>
    some v5
  )
noncomputable def F5_landedAtEnd (x0 : Nat) (x1 : Nat) (x2 : Int32) (x3 : Int32) (x4 : Int32) (hp : m_H) : Option Int32 :=
  F5_landedAtEnd_0 x0 x1 x2 x3 x4 hp
noncomputable def F5_latestReturn_5b (x0 : Nat) (x1 : Int32) (x2 : Int32) (hp : m_H) (s : Int32 × Int32) : Option ((Int32 × Int32) ⊕ Int32) :=
  m_b (m_gr hp x0 3 14) fun v1 =>
  m_b (m_gi hp v1 6 2) fun v3 =>
  m_if (v3 ≤ s.2) (
    some (.inr s.1)
  ) (
    m_b (m_gr hp x0 3 14) fun v6 =>
    m_b (F8_get v6 s.2 0 hp) fun v9 =>
    m_if (v9 = x1) (
      m_b (m_gr hp x0 3 14) fun v11 =>
      m_b (F8_get v11 s.2 1 hp) fun v14 =>
      m_if (v14 = x2) (
        m_if (s.1 = (-1)) (
          some (.inl (s.2, (s.2 + 1)))
        ) (
          m_b (m_gr hp x0 3 14) fun v17 =>
          m_b (F8_get v17 s.2 3 hp) fun v20 =>
          m_b (m_gr hp x0 3 14) fun v21 =>
          m_b (F8_get v21 s.1 3 hp) fun v24 =>
          m_if (v20 < v24) (
            some (.inl (s.1, (s.2 + 1)))
          ) (
            some (.inl (s.2, (s.2 + 1)))
          )
        )
      ) (
        some (.inl (s.1, (s.2 + 1)))
      )
    ) (
      some (.inl (s.1, (s.2 + 1)))
    )
  )
noncomputable def F5_latestReturn_5 (x0 : Nat) (x1 : Int32) (x2 : Int32) (x3 : Int32) (x4 : Int32) (hp : m_H) : Option Int32 :=
  m_wh (fun s => F5_latestReturn_5b x0 x1 x2 hp s) m_N (x3, x4)
noncomputable def F5_latestReturn_0 (x0 : Nat) (x1 : Int32) (x2 : Int32) (hp : m_H) : Option Int32 :=
  F5_latestReturn_5 x0 x1 x2 (-1) 0 hp
noncomputable def F5_latestReturn (x0 : Nat) (x1 : Int32) (x2 : Int32) (hp : m_H) : Option Int32 :=
  F5_latestReturn_0 x0 x1 x2 hp
noncomputable def F5_sure_5b (x0 : Nat) (x1 : Nat) (x2 : Int32) (hp : m_H) (s : Int64 × Int32) : Option ((Int64 × Int32) ⊕ Int64) :=
  m_if (8 ≤ s.2) (
    some (.inr s.1)
  ) (
    m_b (F5_latestReturn x0 x2 s.2 hp) fun v3 =>
    m_if (v3 = (-1)) (
      some (.inl (s.1, (s.2 + 1)))
    ) (
      m_b (m_gr hp x0 3 14) fun v5 =>
      m_b (F8_get v5 v3 3 hp) fun v8 =>
      m_b (F5_landedAtEnd x0 x1 x2 s.2 v8 hp) fun v10 =>
      m_b (m_gr hp x0 3 14) fun v11 =>
      m_b (F8_get v11 v3 2 hp) fun v14 =>
      some (.inl ((s.1 + (m_maxl 0 ((m_i2l v10) - (m_i2l v14)))), (s.2 + 1)))
    )
  )
noncomputable def F5_sure_5 (x0 : Nat) (x1 : Nat) (x2 : Int32) (x3 : Int64) (x5 : Int32) (hp : m_H) : Option Int64 :=
  m_wh (fun s => F5_sure_5b x0 x1 x2 hp s) m_N (x3, x5)
noncomputable def F5_sure_0 (x0 : Nat) (x1 : Nat) (x2 : Int32) (hp : m_H) : Option Int64 :=
  F5_sure_5 x0 x1 x2 0 0 hp
noncomputable def F5_sure (x0 : Nat) (x1 : Nat) (x2 : Int32) (hp : m_H) : Option Int64 :=
  F5_sure_0 x0 x1 x2 hp
noncomputable def F5_landedWithoutReturn_5b (x0 : Nat) (x1 : Int32) (hp : m_H) (s : Int64 × Int32) : Option ((Int64 × Int32) ⊕ Int64) :=
  m_if (8 ≤ s.2) (
    some (.inr s.1)
  ) (
    m_b (F5_latestReturn x0 x1 s.2 hp) fun v3 =>
    m_if (v3 = (-1)) (
      m_b (F5_landedOf x0 x1 s.2 hp) fun v6 =>
      some (.inl ((s.1 + (m_i2l v6)), (s.2 + 1)))
    ) (
      some (.inl (s.1, (s.2 + 1)))
    )
  )
noncomputable def F5_landedWithoutReturn_5 (x0 : Nat) (x1 : Int32) (x2 : Int64) (x4 : Int32) (hp : m_H) : Option Int64 :=
  m_wh (fun s => F5_landedWithoutReturn_5b x0 x1 hp s) m_N (x2, x4)
noncomputable def F5_landedWithoutReturn_0 (x0 : Nat) (x1 : Int32) (hp : m_H) : Option Int64 :=
  F5_landedWithoutReturn_5 x0 x1 0 0 hp
noncomputable def F5_landedWithoutReturn (x0 : Nat) (x1 : Int32) (hp : m_H) : Option Int64 :=
  F5_landedWithoutReturn_0 x0 x1 hp
noncomputable def F5_worthOf_0 (x0 : Nat) (x1 : Int32) (x2 : Int32) (x3 : Int32) (hp : m_H) : Option Int32 :=
  m_if (x2 = 0) (
    m_b (F3_priceIn x0 x1 x3 hp) fun v10 =>
    some v10
  ) (
    m_b (m_gr hp x0 3 6) fun v2 =>
    m_if (x2 = 1) (
      m_b (F8_get v2 x1 2 hp) fun v8 =>
      some v8
    ) (
      m_b (F8_get v2 x1 0 hp) fun v6 =>
      some v6
    )
  )
noncomputable def F5_worthOf (x0 : Nat) (x1 : Int32) (x2 : Int32) (x3 : Int32) (hp : m_H) : Option Int32 :=
  F5_worthOf_0 x0 x1 x2 x3 hp
noncomputable def F5_cameBack_5b (x0 : Nat) (x1 : Int32) (x2 : Int32) (hp : m_H) (s : Int32 × Int32) : Option ((Int32 × Int32) ⊕ Int32) :=
  m_b (m_gr hp x0 3 8) fun v1 =>
  m_b (m_gi hp v1 6 2) fun v3 =>
  m_if (v3 ≤ s.2) (
    some (.inr s.1)
  ) (
    m_b (m_gr hp x0 3 8) fun v6 =>
    m_b (F8_get v6 s.2 2 hp) fun v9 =>
    m_if (v9 = x1) (
      m_b (m_gr hp x0 3 8) fun v11 =>
      m_b (F8_get v11 s.2 0 hp) fun v14 =>
      m_if (v14 = x2) (
        m_b (F3_crates x0 s.2 7 hp) fun v17 =>
        some (.inl ((s.1 + v17), (s.2 + 1)))
      ) (
        some (.inl (s.1, (s.2 + 1)))
      )
    ) (
      some (.inl (s.1, (s.2 + 1)))
    )
  )
noncomputable def F5_cameBack_5 (x0 : Nat) (x1 : Int32) (x2 : Int32) (x3 : Int32) (x4 : Int32) (hp : m_H) : Option Int32 :=
  m_wh (fun s => F5_cameBack_5b x0 x1 x2 hp s) m_N (x3, x4)
noncomputable def F5_cameBack_0 (x0 : Nat) (x1 : Int32) (x2 : Int32) (hp : m_H) : Option Int32 :=
  F5_cameBack_5 x0 x1 x2 0 0 hp
noncomputable def F5_cameBack (x0 : Nat) (x1 : Int32) (x2 : Int32) (hp : m_H) : Option Int32 :=
  F5_cameBack_0 x0 x1 x2 hp
noncomputable def F5_balanceBy_6b (x0 : Nat) (x1 : Int32) (x2 : Int32) (x3 : Int32) (hp : m_H) (s : Int64 × Int32) : Option ((Int64 × Int32) ⊕ Int64) :=
  m_if (8 ≤ s.2) (
    some (.inr s.1)
  ) (
    m_b (m_gr hp x0 3 12) fun v2 =>
    m_b (F3_tradeRow x1 s.2 hp) fun v5 =>
    m_b (F8_get v2 v5 1 hp) fun v7 =>
    m_b (F5_cameBack x0 x1 s.2 hp) fun v9 =>
    m_b (F5_worthOf x0 s.2 x2 x3 hp) fun v11 =>
    some (.inl ((s.1 + ((m_i2l (v7 - v9)) * (m_i2l v11))), (s.2 + 1)))
  )
noncomputable def F5_balanceBy_6 (x0 : Nat) (x1 : Int32) (x2 : Int32) (x3 : Int32) (x4 : Int64) (x6 : Int32) (hp : m_H) : Option Int64 :=
  m_wh (fun s => F5_balanceBy_6b x0 x1 x2 x3 hp s) m_N (x4, x6)
noncomputable def F5_balanceBy_0 (x0 : Nat) (x1 : Int32) (x2 : Int32) (x3 : Int32) (hp : m_H) : Option Int64 :=
  F5_balanceBy_6 x0 x1 x2 x3 0 0 hp
noncomputable def F5_balanceBy (x0 : Nat) (x1 : Int32) (x2 : Int32) (x3 : Int32) (hp : m_H) : Option Int64 :=
  F5_balanceBy_0 x0 x1 x2 x3 hp
noncomputable def F5_unexplained_5b (x0 : Nat) (x1 : Int32) (x2 : Int32) (hp : m_H) (s : Int32 × Int32) : Option ((Int32 × Int32) ⊕ Int32) :=
  m_b (m_gr hp x0 3 15) fun v1 =>
  m_b (m_gi hp v1 6 2) fun v3 =>
  m_if (v3 ≤ s.2) (
    m_b (F3_tradeRow x1 x2 hp) fun v7 =>
    m_b (m_gr hp x0 3 12) fun v8 =>
    m_b (F8_get v8 v7 1 hp) fun v11 =>
    m_b (m_gr hp x0 3 12) fun v12 =>
    m_b (F8_get v12 v7 2 hp) fun v15 =>
    some (.inr (m_max 0 (s.1 - (v11 + v15))))
  ) (
    m_b (m_gr hp x0 3 15) fun v16 =>
    m_b (F8_get v16 s.2 0 hp) fun v19 =>
    m_if (v19 = x1) (
      m_b (m_gr hp x0 3 15) fun v21 =>
      m_b (F8_get v21 s.2 1 hp) fun v24 =>
      m_if (v24 = x2) (
        m_b (m_gr hp x0 3 15) fun v26 =>
        m_b (F8_get v26 s.2 2 hp) fun v29 =>
        some (.inl ((m_max s.1 v29), (s.2 + 1)))
      ) (
        some (.inl (s.1, (s.2 + 1)))
      )
    ) (
      some (.inl (s.1, (s.2 + 1)))
    )
  )
noncomputable def F5_unexplained_5 (x0 : Nat) (x1 : Int32) (x2 : Int32) (x3 : Int32) (x4 : Int32) (hp : m_H) : Option Int32 :=
  m_wh (fun s => F5_unexplained_5b x0 x1 x2 hp s) m_N (x3, x4)
noncomputable def F5_unexplained_0 (x0 : Nat) (x1 : Int32) (x2 : Int32) (hp : m_H) : Option Int32 :=
  F5_unexplained_5 x0 x1 x2 0 0 hp
noncomputable def F5_unexplained (x0 : Nat) (x1 : Int32) (x2 : Int32) (hp : m_H) : Option Int32 :=
  F5_unexplained_0 x0 x1 x2 hp
noncomputable def F5_landsWith_4b (x0 : Nat) (x1 : Int32) (hp : m_H) (s : Int32 × Int32) : Option ((Int32 × Int32) ⊕ Int32) :=
  m_if (6 ≤ s.2) (
    some (.inr s.1)
  ) (
    m_b (m_gr hp x0 3 12) fun v2 =>
    m_b (F3_tradeRow s.2 x1 hp) fun v5 =>
    m_b (F8_get v2 v5 1 hp) fun v7 =>
    m_if (v7 ≤ 0) (
      some (.inl (s.1, (s.2 + 1)))
    ) (
      some (.inl ((s.1 ||| (1 <<< (s.2 &&& 31))), (s.2 + 1)))
    )
  )
noncomputable def F5_landsWith_4 (x0 : Nat) (x1 : Int32) (x2 : Int32) (x3 : Int32) (hp : m_H) : Option Int32 :=
  m_wh (fun s => F5_landsWith_4b x0 x1 hp s) m_N (x2, x3)
noncomputable def F5_landsWith_0 (x0 : Nat) (x1 : Int32) (hp : m_H) : Option Int32 :=
  F5_landsWith_4 x0 x1 0 1 hp
noncomputable def F5_landsWith (x0 : Nat) (x1 : Int32) (hp : m_H) : Option Int32 :=
  F5_landsWith_0 x0 x1 hp
noncomputable def F5_firstNotPaid_2b (x0 : Nat) (x1 : Nat) (s : Int32 × m_H) : Option ((Int32 × m_H) ⊕ (Int32 × m_H)) :=
  m_b (m_gr s.2 x0 3 8) fun v1 =>
  m_b (m_gi s.2 v1 6 2) fun v3 =>
  m_if (v3 ≤ s.1) (
    some (.inr ((-1), s.2))
  ) (
    m_b (m_gr s.2 x0 3 8) fun v6 =>
    m_b (F8_get v6 s.1 2 s.2) fun v9 =>
    m_b (m_gr s.2 x0 3 8) fun v10 =>
    m_b (F8_get v10 s.1 6 s.2) fun v13 =>
    m_if (v13 = (-1)) (
      some (.inl ((s.1 + 1), s.2))
    ) (
      m_if (v9 < 0) (
        some (.inl ((s.1 + 1), s.2))
      ) (
        m_b (m_len s.2 x1) fun v16 =>
        m_if (v16 ≤ v9) (
          some (.inl ((s.1 + 1), s.2))
        ) (
          m_b (m_gr s.2 x0 3 8) fun v19 =>
          m_b (F8_get v19 s.1 1 s.2) fun v22 =>
          m_b (m_gr s.2 x0 3 8) fun v23 =>
          m_b (F8_get v23 s.1 20 s.2) fun v26 =>
          m_b (m_ai s.2 0 x1 v9) fun v27 =>
          m_if ((v22 * v26) ≤ v27) (
            m_b (m_ai s.2 0 x1 v9) fun v30 =>
            m_b (m_si s.2 0 x1 v9 (v30 - (v22 * v26))) fun h32 =>
            some (.inl ((s.1 + 1), h32))
          ) (
            some (.inr (s.1, s.2))
          )
        )
      )
    )
  )
noncomputable def F5_firstNotPaid_2 (x0 : Nat) (x1 : Nat) (x2 : Int32) (hp : m_H) : Option (Int32 × m_H) :=
  m_wh (fun s => F5_firstNotPaid_2b x0 x1 s) m_N (x2, hp)
noncomputable def F5_firstNotPaid_0 (x0 : Nat) (x1 : Nat) (hp : m_H) : Option (Int32 × m_H) :=
  F5_firstNotPaid_2 x0 x1 0 hp
noncomputable def F5_firstNotPaid (x0 : Nat) (x1 : Nat) (hp : m_H) : Option (Int32 × m_H) :=
  F5_firstNotPaid_0 x0 x1 hp
noncomputable def F6_isIn_0 (x0 : Int32) (x1 : Int32) (hp : m_H) : Option Int32 :=
  m_if (((m_ushr x0 x1) &&& 1) = 1) (
    some 1
  ) (
    some 0
  )
noncomputable def F6_isIn (x0 : Int32) (x1 : Int32) (hp : m_H) : Option Int32 :=
  F6_isIn_0 x0 x1 hp
noncomputable def F6_ordersNotBegun_4b (x0 : Nat) (x1 : Nat) (s : Int32 × Int32 × m_H) : Option ((Int32 × Int32 × m_H) ⊕ (Int32 × m_H)) :=
  m_b (m_gr s.2.2 x0 3 8) fun v1 =>
  m_b (m_gi s.2.2 v1 6 2) fun v3 =>
  m_if (v3 ≤ s.2.1) (
    some (.inr (s.1, s.2.2))
  ) (
    m_b (F3_isOrderNotBegun x0 s.2.1 s.2.2) fun v7 =>
    m_if (v7 = 0) (
      some (.inl (s.1, (s.2.1 + 1), s.2.2))
    ) (
      m_b (m_len s.2.2 x1) fun v9 =>
      m_if (v9 ≤ s.1) (
        some (.inl (s.1, (s.2.1 + 1), s.2.2))
      ) (
        m_b (m_si s.2.2 0 x1 s.1 s.2.1) fun h12 =>
        some (.inl ((s.1 + 1), (s.2.1 + 1), h12))
      )
    )
  )
noncomputable def F6_ordersNotBegun_4 (x0 : Nat) (x1 : Nat) (x2 : Int32) (x3 : Int32) (hp : m_H) : Option (Int32 × m_H) :=
  m_wh (fun s => F6_ordersNotBegun_4b x0 x1 s) m_N (x2, x3, hp)
noncomputable def F6_ordersNotBegun_0 (x0 : Nat) (x1 : Nat) (hp : m_H) : Option (Int32 × m_H) :=
  F6_ordersNotBegun_4 x0 x1 0 0 hp
noncomputable def F6_ordersNotBegun (x0 : Nat) (x1 : Nat) (hp : m_H) : Option (Int32 × m_H) :=
  F6_ordersNotBegun_0 x0 x1 hp
noncomputable def F6_bestOrdersOf_168 (x0 : Nat) (x1 : Nat) (x2 : Int32) (x3 : Int32) (x4 : Int32) (x5 : Int32) (x6 : Int32) (x7 : Int32) (x8 : Int32) (x9 : Int32) (s0 : Int32) (hp : m_H) : Option ((Int32 × Int32 × Int32 × Int32) ⊕ (Int32 × m_H)) :=
  m_b (m_gi hp x0 3 1) fun v1 =>
  m_if (v1 < x7) (
    some (.inl (x3, x4, x5, (x6 + 1)))
  ) (
    m_b (m_gi hp x0 3 2) fun v4 =>
    m_if (v4 < x8) (
      some (.inl (x3, x4, x5, (x6 + 1)))
    ) (
      m_if (s0 = 0) (
        some (.inl (x3, x4, x5, (x6 + 1)))
      ) (
        some (.inl (x6, x9, x7, (x6 + 1)))
      )
    )
  )
noncomputable def F6_bestOrdersOf_163 (x0 : Nat) (x1 : Nat) (x2 : Int32) (x3 : Int32) (x4 : Int32) (x5 : Int32) (x6 : Int32) (x7 : Int32) (x8 : Int32) (x9 : Int32) (hp : m_H) : Option ((Int32 × Int32 × Int32 × Int32) ⊕ (Int32 × m_H)) :=
  F6_bestOrdersOf_168 x0 x1 x2 x3 x4 x5 x6 x7 x8 x9 1 hp
noncomputable def F6_bestOrdersOf_167 (x0 : Nat) (x1 : Nat) (x2 : Int32) (x3 : Int32) (x4 : Int32) (x5 : Int32) (x6 : Int32) (x7 : Int32) (x8 : Int32) (x9 : Int32) (hp : m_H) : Option ((Int32 × Int32 × Int32 × Int32) ⊕ (Int32 × m_H)) :=
  F6_bestOrdersOf_168 x0 x1 x2 x3 x4 x5 x6 x7 x8 x9 0 hp
noncomputable def F6_bestOrdersOf_142 (x0 : Nat) (x1 : Nat) (x2 : Int32) (x3 : Int32) (x4 : Int32) (x5 : Int32) (x6 : Int32) (x7 : Int32) (x8 : Int32) (x9 : Int32) (hp : m_H) : Option ((Int32 × Int32 × Int32 × Int32) ⊕ (Int32 × m_H)) :=
  m_if (x4 < x9) (
    F6_bestOrdersOf_163 x0 x1 x2 x3 x4 x5 x6 x7 x8 x9 hp
  ) (
    m_if (x9 = x4) (
      m_if (x5 ≤ x7) (
        F6_bestOrdersOf_167 x0 x1 x2 x3 x4 x5 x6 x7 x8 x9 hp
      ) (
        F6_bestOrdersOf_163 x0 x1 x2 x3 x4 x5 x6 x7 x8 x9 hp
      )
    ) (
      F6_bestOrdersOf_167 x0 x1 x2 x3 x4 x5 x6 x7 x8 x9 hp
    )
  )
noncomputable def F6_bestOrdersOf_47b (x0 : Nat) (x1 : Nat) (x2 : Int32) (x3 : Int32) (x4 : Int32) (x5 : Int32) (x6 : Int32) (hp : m_H) (s : Int32 × Int32 × Int32 × Int32) : Option ((Int32 × Int32 × Int32 × Int32) ⊕ ((Int32 × Int32 × Int32 × Int32) ⊕ (Int32 × m_H))) :=
  m_if (x2 ≤ s.2.2.2) (
    (F6_bestOrdersOf_142 x0 x1 x2 x3 x4 x5 x6 s.1 s.2.1 s.2.2.1 hp).map .inr
  ) (
    m_b (m_len hp x1) fun v2 =>
    m_if (v2 ≤ s.2.2.2) (
      (F6_bestOrdersOf_142 x0 x1 x2 x3 x4 x5 x6 s.1 s.2.1 s.2.2.1 hp).map .inr
    ) (
      m_b (F6_isIn x6 s.2.2.2 hp) fun v6 =>
      m_if (v6 = 0) (
        some (.inl (s.1, s.2.1, s.2.2.1, (s.2.2.2 + 1)))
      ) (
        m_b (m_ai hp 0 x1 s.2.2.2) fun v8 =>
        m_b (F3_needOfAll x0 v8 1 hp) fun v11 =>
        m_b (m_ai hp 0 x1 s.2.2.2) fun v12 =>
        m_b (F3_needOfAll x0 v12 2 hp) fun v15 =>
        m_b (m_gr hp x0 3 8) fun v16 =>
        m_b (m_ai hp 0 x1 s.2.2.2) fun v18 =>
        m_b (F8_get v16 v18 1 hp) fun v21 =>
        m_b (m_gr hp x0 3 8) fun v22 =>
        m_b (m_ai hp 0 x1 s.2.2.2) fun v24 =>
        m_b (F8_get v22 v24 0 hp) fun v27 =>
        m_b (m_gi hp x0 3 0) fun v28 =>
        m_b (F3_priceIn x0 v27 v28 hp) fun v31 =>
        some (.inl ((s.1 + v11), (s.2.1 + v15), (s.2.2.1 + (v21 * v31)), (s.2.2.2 + 1)))
      )
    )
  )
noncomputable def F6_bestOrdersOf_47 (x0 : Nat) (x1 : Nat) (x2 : Int32) (x3 : Int32) (x4 : Int32) (x5 : Int32) (x6 : Int32) (x7 : Int32) (x8 : Int32) (x9 : Int32) (x10 : Int32) (hp : m_H) : Option ((Int32 × Int32 × Int32 × Int32) ⊕ (Int32 × m_H)) :=
  m_wh (fun s => F6_bestOrdersOf_47b x0 x1 x2 x3 x4 x5 x6 hp s) m_N (x7, x8, x9, x10)
noncomputable def F6_bestOrdersOf_27b (x0 : Nat) (x1 : Nat) (x2 : Int32) (hp : m_H) (s : Int32 × Int32 × Int32 × Int32) : Option ((Int32 × Int32 × Int32 × Int32) ⊕ (Int32 × m_H)) :=
  m_if ((1 <<< (x2 &&& 31)) ≤ s.2.2.2) (
    some (.inr (s.1, hp))
  ) (
    F6_bestOrdersOf_47 x0 x1 x2 s.1 s.2.1 s.2.2.1 s.2.2.2 0 0 0 0 hp
  )
noncomputable def F6_bestOrdersOf_27 (x0 : Nat) (x1 : Nat) (x2 : Int32) (x3 : Int32) (x4 : Int32) (x5 : Int32) (x6 : Int32) (hp : m_H) : Option (Int32 × m_H) :=
  m_wh (fun s => F6_bestOrdersOf_27b x0 x1 x2 hp s) m_N (x3, x4, x5, x6)
noncomputable def F6_bestOrdersOf_0 (x0 : Nat) (hp : m_H) : Option (Int32 × m_H) :=
  m_b (m_nw 0 8 hp) fun h1 =>
  m_b (F6_ordersNotBegun x0 (m_id hp) h1) fun z4 =>
  m_b (m_len z4.2 (m_id hp)) fun v5 =>
  F6_bestOrdersOf_27 x0 (m_id hp) (m_min z4.1 v5) 0 0 0 1 z4.2
noncomputable def F6_bestOrdersOf (x0 : Nat) (hp : m_H) : Option (Int32 × m_H) :=
  F6_bestOrdersOf_0 x0 hp
noncomputable def F6_sumIn_5b (x0 : Nat) (x1 : Int32) (x2 : Int32) (hp : m_H) (s : Int32 × Int32) : Option ((Int32 × Int32) ⊕ Int32) :=
  m_b (m_gi hp x0 6 2) fun v1 =>
  m_if (v1 ≤ s.2) (
    some (.inr s.1)
  ) (
    m_b (F6_isIn x2 s.2 hp) fun v5 =>
    m_if (v5 = 0) (
      some (.inl (s.1, (s.2 + 1)))
    ) (
      m_b (F8_get x0 s.2 x1 hp) fun v8 =>
      some (.inl ((s.1 + v8), (s.2 + 1)))
    )
  )
noncomputable def F6_sumIn_5 (x0 : Nat) (x1 : Int32) (x2 : Int32) (x3 : Int32) (x4 : Int32) (hp : m_H) : Option Int32 :=
  m_wh (fun s => F6_sumIn_5b x0 x1 x2 hp s) m_N (x3, x4)
noncomputable def F6_sumIn_0 (x0 : Nat) (x1 : Int32) (x2 : Int32) (hp : m_H) : Option Int32 :=
  F6_sumIn_5 x0 x1 x2 0 0 hp
noncomputable def F6_sumIn (x0 : Nat) (x1 : Int32) (x2 : Int32) (hp : m_H) : Option Int32 :=
  F6_sumIn_0 x0 x1 x2 hp
noncomputable def F6_pagesSigned_71 (x0 : Nat) (x1 : Int32) (x2 : Int32) (x3 : Int32) (x4 : Int32) (x5 : Int32) (x6 : Int32) (x7 : Int32) (x8 : Int32) (s0 : Int32) (hp : m_H) : Option ((Int32 × Int32 × Int32 × Int32) ⊕ Int32) :=
  m_if (x7 < x1) (
    some (.inl (x3, x4, x5, (x6 + 1)))
  ) (
    m_if (x8 < x2) (
      some (.inl (x3, x4, x5, (x6 + 1)))
    ) (
      m_if (s0 = 0) (
        some (.inl (x3, x4, x5, (x6 + 1)))
      ) (
        some (.inl (x6, x7, x8, (x6 + 1)))
      )
    )
  )
noncomputable def F6_pagesSigned_66 (x0 : Nat) (x1 : Int32) (x2 : Int32) (x3 : Int32) (x4 : Int32) (x5 : Int32) (x6 : Int32) (x7 : Int32) (x8 : Int32) (hp : m_H) : Option ((Int32 × Int32 × Int32 × Int32) ⊕ Int32) :=
  F6_pagesSigned_71 x0 x1 x2 x3 x4 x5 x6 x7 x8 1 hp
noncomputable def F6_pagesSigned_70 (x0 : Nat) (x1 : Int32) (x2 : Int32) (x3 : Int32) (x4 : Int32) (x5 : Int32) (x6 : Int32) (x7 : Int32) (x8 : Int32) (hp : m_H) : Option ((Int32 × Int32 × Int32 × Int32) ⊕ Int32) :=
  F6_pagesSigned_71 x0 x1 x2 x3 x4 x5 x6 x7 x8 0 hp
noncomputable def F6_pagesSigned_11b (x0 : Nat) (x1 : Int32) (x2 : Int32) (hp : m_H) (s : Int32 × Int32 × Int32 × Int32) : Option ((Int32 × Int32 × Int32 × Int32) ⊕ Int32) :=
  m_b (m_gi hp x0 6 2) fun v1 =>
  m_if ((1 <<< (v1 &&& 31)) ≤ s.2.2.2) (
    some (.inr s.1)
  ) (
    m_b (F6_sumIn x0 0 s.2.2.2 hp) fun v5 =>
    m_b (F6_sumIn x0 1 s.2.2.2 hp) fun v7 =>
    m_if (s.1 = (-1)) (
      F6_pagesSigned_66 x0 x1 x2 s.1 s.2.1 s.2.2.1 s.2.2.2 v5 v7 hp
    ) (
      m_if (s.2.1 < v5) (
        F6_pagesSigned_66 x0 x1 x2 s.1 s.2.1 s.2.2.1 s.2.2.2 v5 v7 hp
      ) (
        m_if (v5 = s.2.1) (
          m_if (v7 ≤ s.2.2.1) (
            F6_pagesSigned_70 x0 x1 x2 s.1 s.2.1 s.2.2.1 s.2.2.2 v5 v7 hp
          ) (
            F6_pagesSigned_66 x0 x1 x2 s.1 s.2.1 s.2.2.1 s.2.2.2 v5 v7 hp
          )
        ) (
          F6_pagesSigned_70 x0 x1 x2 s.1 s.2.1 s.2.2.1 s.2.2.2 v5 v7 hp
        )
      )
    )
  )
noncomputable def F6_pagesSigned_11 (x0 : Nat) (x1 : Int32) (x2 : Int32) (x3 : Int32) (x4 : Int32) (x5 : Int32) (x6 : Int32) (hp : m_H) : Option Int32 :=
  m_wh (fun s => F6_pagesSigned_11b x0 x1 x2 hp s) m_N (x3, x4, x5, x6)
noncomputable def F6_pagesSigned_0 (x0 : Nat) (x1 : Int32) (x2 : Int32) (hp : m_H) : Option Int32 :=
  F6_pagesSigned_11 x0 x1 x2 (-1) 0 0 0 hp
noncomputable def F6_pagesSigned (x0 : Nat) (x1 : Int32) (x2 : Int32) (hp : m_H) : Option Int32 :=
  F6_pagesSigned_0 x0 x1 x2 hp
noncomputable def F14_bitCount_0 (x0 : Int32) (hp : m_H) : Option Int32 :=
  some ((((((((x0 - ((m_ushr x0 1) &&& 1431655765)) &&& 858993459) + ((m_ushr (x0 - ((m_ushr x0 1) &&& 1431655765)) 2) &&& 858993459)) + (m_ushr (((x0 - ((m_ushr x0 1) &&& 1431655765)) &&& 858993459) + ((m_ushr (x0 - ((m_ushr x0 1) &&& 1431655765)) 2) &&& 858993459)) 4)) &&& 252645135) + (m_ushr (((((x0 - ((m_ushr x0 1) &&& 1431655765)) &&& 858993459) + ((m_ushr (x0 - ((m_ushr x0 1) &&& 1431655765)) 2) &&& 858993459)) + (m_ushr (((x0 - ((m_ushr x0 1) &&& 1431655765)) &&& 858993459) + ((m_ushr (x0 - ((m_ushr x0 1) &&& 1431655765)) 2) &&& 858993459)) 4)) &&& 252645135) 8)) + (m_ushr ((((((x0 - ((m_ushr x0 1) &&& 1431655765)) &&& 858993459) + ((m_ushr (x0 - ((m_ushr x0 1) &&& 1431655765)) 2) &&& 858993459)) + (m_ushr (((x0 - ((m_ushr x0 1) &&& 1431655765)) &&& 858993459) + ((m_ushr (x0 - ((m_ushr x0 1) &&& 1431655765)) 2) &&& 858993459)) 4)) &&& 252645135) + (m_ushr (((((x0 - ((m_ushr x0 1) &&& 1431655765)) &&& 858993459) + ((m_ushr (x0 - ((m_ushr x0 1) &&& 1431655765)) 2) &&& 858993459)) + (m_ushr (((x0 - ((m_ushr x0 1) &&& 1431655765)) &&& 858993459) + ((m_ushr (x0 - ((m_ushr x0 1) &&& 1431655765)) 2) &&& 858993459)) 4)) &&& 252645135) 8)) 16)) &&& 63)
noncomputable def F14_bitCount (x0 : Int32) (hp : m_H) : Option Int32 :=
  F14_bitCount_0 x0 hp
noncomputable def F6_yearly_6b (x0 : Nat) (x1 : Int32) (x2 : Int32) (x3 : Int32) (hp : m_H) (s : Int32 × Int32) : Option ((Int32 × Int32) ⊕ Int32) :=
  m_b (m_gr hp x0 3 18) fun v1 =>
  m_b (m_gi hp v1 6 2) fun v3 =>
  m_if (v3 ≤ s.2) (
    some (.inr s.1)
  ) (
    m_b (F6_isIn x1 s.2 hp) fun v7 =>
    m_if (v7 = 0) (
      some (.inl (s.1, (s.2 + 1)))
    ) (
      m_b (m_gr hp x0 3 18) fun v9 =>
      m_b (F8_get v9 s.2 3 hp) fun v12 =>
      m_if (x2 < v12) (
        some (.inl (s.1, (s.2 + 1)))
      ) (
        m_b (m_gr hp x0 3 18) fun v14 =>
        m_b (F8_get v14 s.2 x3 hp) fun v17 =>
        some (.inl ((s.1 + v17), (s.2 + 1)))
      )
    )
  )
noncomputable def F6_yearly_6 (x0 : Nat) (x1 : Int32) (x2 : Int32) (x3 : Int32) (x4 : Int32) (x5 : Int32) (hp : m_H) : Option Int32 :=
  m_wh (fun s => F6_yearly_6b x0 x1 x2 x3 hp s) m_N (x4, x5)
noncomputable def F6_yearly_0 (x0 : Nat) (x1 : Int32) (x2 : Int32) (x3 : Int32) (hp : m_H) : Option Int32 :=
  F6_yearly_6 x0 x1 x2 x3 0 0 hp
noncomputable def F6_yearly (x0 : Nat) (x1 : Int32) (x2 : Int32) (x3 : Int32) (hp : m_H) : Option Int32 :=
  F6_yearly_0 x0 x1 x2 x3 hp
noncomputable def F6_doesLast_36b (x0 : Nat) (x1 : Int32) (x2 : Int32) (x3 : Int32) (x4 : Int32) (x5 : Int32) (hp : m_H) (s : Int32) : Option (Int32 ⊕ (Int32 ⊕ Int32)) :=
  m_if (3 ≤ s) (
    some (.inr (.inl (x2 + 1)))
  ) (
    m_b (m_gr hp x0 3 19) fun v2 =>
    m_b (F8_get v2 ((s * 5) + x2) 0 hp) fun v5 =>
    m_if (v5 < x3) (
      some (.inr (.inr 0))
    ) (
      m_b (m_gr hp x0 3 19) fun v7 =>
      m_b (F8_get v7 ((s * 5) + x2) 1 hp) fun v10 =>
      m_if (x4 < v10) (
        some (.inr (.inr 0))
      ) (
        m_b (m_gr hp x0 3 19) fun v12 =>
        m_b (F8_get v12 ((s * 5) + x2) 2 hp) fun v15 =>
        m_if (v15 ≤ x5) (
          some (.inl (s + 1))
        ) (
          some (.inr (.inr 0))
        )
      )
    )
  )
noncomputable def F6_doesLast_36 (x0 : Nat) (x1 : Int32) (x2 : Int32) (x3 : Int32) (x4 : Int32) (x5 : Int32) (x6 : Int32) (hp : m_H) : Option (Int32 ⊕ Int32) :=
  m_wh (fun s => F6_doesLast_36b x0 x1 x2 x3 x4 x5 hp s) m_N x6
noncomputable def F6_doesLast_2b (x0 : Nat) (x1 : Int32) (hp : m_H) (s : Int32) : Option (Int32 ⊕ Int32) :=
  m_if (5 ≤ s) (
    some (.inr 1)
  ) (
    m_b (F6_yearly x0 x1 s 0 hp) fun v3 =>
    m_b (F6_yearly x0 x1 s 1 hp) fun v5 =>
    m_b (F6_yearly x0 x1 s 2 hp) fun v7 =>
    F6_doesLast_36 x0 x1 s v3 v5 v7 0 hp
  )
noncomputable def F6_doesLast_2 (x0 : Nat) (x1 : Int32) (x2 : Int32) (hp : m_H) : Option Int32 :=
  m_wh (fun s => F6_doesLast_2b x0 x1 hp s) m_N x2
noncomputable def F6_doesLast_0 (x0 : Nat) (x1 : Int32) (hp : m_H) : Option Int32 :=
  F6_doesLast_2 x0 x1 0 hp
noncomputable def F6_doesLast (x0 : Nat) (x1 : Int32) (hp : m_H) : Option Int32 :=
  F6_doesLast_0 x0 x1 hp
noncomputable def F6_choicesThatLast_83 (x0 : Nat) (x1 : Int32) (x2 : Int32) (x3 : Int32) (x4 : Int32) (s0 : Int32) (hp : m_H) : Option ((Int32 × Int32 × Int32) ⊕ Int32) :=
  m_if (s0 = 0) (
    some (.inl (x1, x2, (x3 + 1)))
  ) (
    m_b (F6_doesLast x0 x3 hp) fun v3 =>
    m_if (v3 = 0) (
      some (.inl (x1, x2, (x3 + 1)))
    ) (
      some (.inl (x3, x4, (x3 + 1)))
    )
  )
noncomputable def F6_choicesThatLast_78 (x0 : Nat) (x1 : Int32) (x2 : Int32) (x3 : Int32) (x4 : Int32) (hp : m_H) : Option ((Int32 × Int32 × Int32) ⊕ Int32) :=
  F6_choicesThatLast_83 x0 x1 x2 x3 x4 1 hp
noncomputable def F6_choicesThatLast_82 (x0 : Nat) (x1 : Int32) (x2 : Int32) (x3 : Int32) (x4 : Int32) (hp : m_H) : Option ((Int32 × Int32 × Int32) ⊕ Int32) :=
  F6_choicesThatLast_83 x0 x1 x2 x3 x4 0 hp
noncomputable def F6_choicesThatLast_25b (x0 : Nat) (x1 : Int32) (x2 : Int32) (x3 : Int32) (hp : m_H) (s : Int32 × Int32) : Option ((Int32 × Int32) ⊕ ((Int32 × Int32 × Int32) ⊕ Int32)) :=
  m_if (5 ≤ s.2) (
    m_if (x1 = (-1)) (
      (F6_choicesThatLast_78 x0 x1 x2 x3 s.1 hp).map .inr
    ) (
      m_if (s.1 < x2) (
        (F6_choicesThatLast_78 x0 x1 x2 x3 s.1 hp).map .inr
      ) (
        m_if (s.1 = x2) (
          m_b (F14_bitCount x3 hp) fun v6 =>
          m_b (F14_bitCount x1 hp) fun v8 =>
          m_if (v8 ≤ v6) (
            (F6_choicesThatLast_82 x0 x1 x2 x3 s.1 hp).map .inr
          ) (
            (F6_choicesThatLast_78 x0 x1 x2 x3 s.1 hp).map .inr
          )
        ) (
          (F6_choicesThatLast_82 x0 x1 x2 x3 s.1 hp).map .inr
        )
      )
    )
  ) (
    m_b (F6_yearly x0 x3 s.2 0 hp) fun v11 =>
    some (.inl ((s.1 + v11), (s.2 + 1)))
  )
noncomputable def F6_choicesThatLast_25 (x0 : Nat) (x1 : Int32) (x2 : Int32) (x3 : Int32) (x4 : Int32) (x5 : Int32) (hp : m_H) : Option ((Int32 × Int32 × Int32) ⊕ Int32) :=
  m_wh (fun s => F6_choicesThatLast_25b x0 x1 x2 x3 hp s) m_N (x4, x5)
noncomputable def F6_choicesThatLast_6b (x0 : Nat) (hp : m_H) (s : Int32 × Int32 × Int32) : Option ((Int32 × Int32 × Int32) ⊕ Int32) :=
  m_b (m_gr hp x0 3 18) fun v1 =>
  m_b (m_gi hp v1 6 2) fun v3 =>
  m_if ((1 <<< (v3 &&& 31)) ≤ s.2.2) (
    some (.inr s.1)
  ) (
    F6_choicesThatLast_25 x0 s.1 s.2.1 s.2.2 0 0 hp
  )
noncomputable def F6_choicesThatLast_6 (x0 : Nat) (x1 : Int32) (x2 : Int32) (x3 : Int32) (hp : m_H) : Option Int32 :=
  m_wh (fun s => F6_choicesThatLast_6b x0 hp s) m_N (x1, x2, x3)
noncomputable def F6_choicesThatLast_0 (x0 : Nat) (hp : m_H) : Option Int32 :=
  F6_choicesThatLast_6 x0 (-1) 0 0 hp
noncomputable def F6_choicesThatLast (x0 : Nat) (hp : m_H) : Option Int32 :=
  F6_choicesThatLast_0 x0 hp
noncomputable def F7_init_0 (x0 : Nat) (x1 : Nat) (hp : m_H) : Option m_H :=
  m_b (m_pf m_ft hp x0 5 0 (.ref x1)) fun h1 =>
  m_b (m_nw 0 400 h1) fun h3 =>
  m_b (m_pf m_ft h3 x0 5 8 (.ref (m_id h1))) fun h5 =>
  m_b (m_nw 0 12 h5) fun h7 =>
  m_b (m_pf m_ft h7 x0 5 4 (.ref (m_id h5))) fun h9 =>
  m_b (m_nw 0 12 h9) fun h11 =>
  m_b (m_pf m_ft h11 x0 5 5 (.ref (m_id h9))) fun h13 =>
  m_b (m_nw 0 12 h13) fun h15 =>
  m_b (m_pf m_ft h15 x0 5 6 (.ref (m_id h13))) fun h17 =>
  m_b (m_pf m_ft h17 x0 5 3 (.int (-1))) fun h19 =>
  some h19
noncomputable def F7_init (x0 : Nat) (x1 : Nat) (hp : m_H) : Option m_H :=
  m_gd (m_isO hp 5 x0) (F7_init_0 x0 x1 hp)
noncomputable def F7_refuse_0 (x0 : Nat) (hp : m_H) : Option m_H :=
  m_b (m_gi hp x0 5 3) fun v1 =>
  m_if (v1 = (-1)) (
    m_b (m_gi hp x0 5 1) fun v4 =>
    m_if (v4 < 0) (
      m_b (m_gr hp x0 5 0) fun v7 =>
      m_b (m_gi hp v7 7 2) fun v9 =>
      m_b (m_pf m_ft hp x0 5 3 (.int v9)) fun h11 =>
      some h11
    ) (
      m_b (m_gi hp x0 5 1) fun v13 =>
      m_b (m_gr hp x0 5 0) fun v15 =>
      m_b (m_gi hp v15 7 7) fun v17 =>
      m_if (v17 ≤ v13) (
        m_b (m_gr hp x0 5 0) fun v20 =>
        m_b (m_gi hp v20 7 2) fun v22 =>
        m_b (m_pf m_ft hp x0 5 3 (.int v22)) fun h24 =>
        some h24
      ) (
        m_b (m_gi hp x0 5 1) fun v26 =>
        m_b (m_gr hp x0 5 0) fun v28 =>
        m_b (m_gr hp v28 7 5) fun v30 =>
        m_b (m_len hp v30) fun v32 =>
        m_if (v32 ≤ v26) (
          m_b (m_gr hp x0 5 0) fun v35 =>
          m_b (m_gi hp v35 7 2) fun v37 =>
          m_b (m_pf m_ft hp x0 5 3 (.int v37)) fun h39 =>
          some h39
        ) (
          m_b (m_gr hp x0 5 0) fun v41 =>
          m_b (m_gr hp v41 7 5) fun v43 =>
          m_b (m_gi hp x0 5 1) fun v45 =>
          m_b (m_ai hp 0 v43 v45) fun v47 =>
          m_b (m_pf m_ft hp x0 5 3 (.int v47)) fun h49 =>
          some h49
        )
      )
    )
  ) (
    some hp
  )
noncomputable def F7_refuse (x0 : Nat) (hp : m_H) : Option m_H :=
  m_gd (m_isO hp 5 x0) (F7_refuse_0 x0 hp)
noncomputable def F7_lookAt_0 (x0 : Nat) (x1 : Int32) (hp : m_H) : Option m_H :=
  m_b (m_pf m_ft hp x0 5 1 (.int x1)) fun h1 =>
  m_if (x1 < 0) (
    m_b (m_pf m_ft h1 x0 5 2 (.int 0)) fun h4 =>
    some h4
  ) (
    m_b (m_gr h1 x0 5 0) fun v6 =>
    m_b (m_gi h1 v6 7 7) fun v8 =>
    m_if (v8 ≤ x1) (
      m_b (m_pf m_ft h1 x0 5 2 (.int 0)) fun h11 =>
      some h11
    ) (
      m_b (m_gr h1 x0 5 0) fun v13 =>
      m_b (m_gr h1 v13 7 4) fun v15 =>
      m_b (m_len h1 v15) fun v17 =>
      m_if (v17 ≤ x1) (
        m_b (m_pf m_ft h1 x0 5 2 (.int 0)) fun h20 =>
        some h20
      ) (
        m_b (m_gr h1 x0 5 0) fun v22 =>
        m_b (m_gr h1 v22 7 4) fun v24 =>
        m_b (m_ai h1 0 v24 x1) fun v26 =>
        m_b (m_pf m_ft h1 x0 5 2 (.int v26)) fun h28 =>
        some h28
      )
    )
  )
noncomputable def F7_lookAt (x0 : Nat) (x1 : Int32) (hp : m_H) : Option m_H :=
  m_gd (m_isO hp 5 x0) (F7_lookAt_0 x0 x1 hp)
noncomputable def F9_numberAt_0 (x0 : Nat) (x1 : Int32) (hp : m_H) : Option Int32 :=
  m_if (x1 < 0) (
    some 0
  ) (
    m_b (m_gi hp x0 7 7) fun v2 =>
    m_if (v2 ≤ x1) (
      some 0
    ) (
      m_b (m_gr hp x0 7 6) fun v5 =>
      m_b (m_len hp v5) fun v7 =>
      m_if (v7 ≤ x1) (
        some 0
      ) (
        m_b (m_gr hp x0 7 6) fun v10 =>
        m_b (m_ai hp 0 v10 x1) fun v12 =>
        some v12
      )
    )
  )
noncomputable def F9_numberAt (x0 : Nat) (x1 : Int32) (hp : m_H) : Option Int32 :=
  m_gd (m_isO hp 7 x0) (F9_numberAt_0 x0 x1 hp)
noncomputable def F7_addLine_0 (x0 : Nat) (x1 : Int32) (x2 : Int32) (hp : m_H) : Option m_H :=
  m_b (m_gi hp x0 5 3) fun v1 =>
  m_if (v1 = (-1)) (
    m_b (m_gi hp x0 5 7) fun v4 =>
    m_if (v4 < 0) (
      some hp
    ) (
      m_b (m_gi hp x0 5 7) fun v7 =>
      m_b (m_gr hp x0 5 4) fun v9 =>
      m_b (m_len hp v9) fun v11 =>
      m_if (v11 ≤ v7) (
        some hp
      ) (
        m_b (m_gi hp x0 5 7) fun v14 =>
        m_b (m_gr hp x0 5 5) fun v16 =>
        m_b (m_len hp v16) fun v18 =>
        m_if (v18 ≤ v14) (
          some hp
        ) (
          m_b (m_gi hp x0 5 7) fun v21 =>
          m_b (m_gr hp x0 5 6) fun v23 =>
          m_b (m_len hp v23) fun v25 =>
          m_if (v25 ≤ v21) (
            some hp
          ) (
            m_b (m_gr hp x0 5 4) fun v28 =>
            m_b (m_gi hp x0 5 7) fun v30 =>
            m_b (m_si hp 0 v28 v30 x1) fun h32 =>
            m_b (m_gr h32 x0 5 5) fun v34 =>
            m_b (m_gi h32 x0 5 7) fun v36 =>
            m_b (m_si h32 0 v34 v36 x2) fun h38 =>
            m_b (m_gr h38 x0 5 6) fun v40 =>
            m_b (m_gi h38 x0 5 7) fun v42 =>
            m_b (m_gi h38 x0 5 9) fun v44 =>
            m_b (m_si h38 0 v40 v42 v44) fun h46 =>
            m_b (m_gi h46 x0 5 7) fun v48 =>
            m_b (m_pf m_ft h46 x0 5 7 (.int (v48 + 1))) fun h50 =>
            some h50
          )
        )
      )
    )
  ) (
    some hp
  )
noncomputable def F7_addLine (x0 : Nat) (x1 : Int32) (x2 : Int32) (hp : m_H) : Option m_H :=
  m_gd (m_isO hp 5 x0) (F7_addLine_0 x0 x1 x2 hp)
noncomputable def F7_write_0 (x0 : Nat) (x1 : Int32) (hp : m_H) : Option m_H :=
  m_b (m_gi hp x0 5 9) fun v1 =>
  m_if (v1 < 0) (
    some hp
  ) (
    m_b (m_gi hp x0 5 9) fun v4 =>
    m_b (m_gr hp x0 5 8) fun v6 =>
    m_b (m_len hp v6) fun v8 =>
    m_if (v8 ≤ v4) (
      some hp
    ) (
      m_b (m_gr hp x0 5 8) fun v11 =>
      m_b (m_gi hp x0 5 9) fun v13 =>
      m_b (m_si hp 0 v11 v13 x1) fun h15 =>
      m_b (m_gi h15 x0 5 9) fun v17 =>
      m_b (m_pf m_ft h15 x0 5 9 (.int (v17 + 1))) fun h19 =>
      some h19
    )
  )
noncomputable def F7_write (x0 : Nat) (x1 : Int32) (hp : m_H) : Option m_H :=
  m_gd (m_isO hp 5 x0) (F7_write_0 x0 x1 hp)
noncomputable def F7_readSum_117 (x0 : Nat) (x2 : Int32) (s0 : Int32) (hp : m_H) : Option ((Int32 × Int32 × m_H) ⊕ m_H) :=
  m_if (s0 = 0) (
    some (.inl (s0, (x2 + 1), hp))
  ) (
    m_b (m_gi hp x0 5 1) fun v2 =>
    m_b (F7_lookAt x0 (v2 + 1) hp) fun h5 =>
    some (.inl (s0, (x2 + 1), h5))
  )
noncomputable def F7_readSum_116 (x0 : Nat) (x2 : Int32) (hp : m_H) : Option ((Int32 × Int32 × m_H) ⊕ m_H) :=
  F7_readSum_117 x0 x2 0 hp
noncomputable def F7_readSum_85 (x0 : Nat) (x2 : Int32) (hp : m_H) : Option ((Int32 × Int32 × m_H) ⊕ m_H) :=
  m_b (m_gi hp x0 5 1) fun v1 =>
  m_b (F7_lookAt x0 (v1 + 1) hp) fun h4 =>
  m_b (m_gi h4 x0 5 3) fun v5 =>
  m_if (v5 = (-1)) (
    m_b (m_gi h4 x0 5 2) fun v8 =>
    m_if (v8 = 43) (
      F7_readSum_117 x0 x2 1 h4
    ) (
      F7_readSum_116 x0 x2 h4
    )
  ) (
    F7_readSum_116 x0 x2 h4
  )
noncomputable def F7_readSum_76 (x0 : Nat) (x2 : Int32) (hp : m_H) : Option ((Int32 × Int32 × m_H) ⊕ m_H) :=
  m_if (x2 ≤ 0) (
    F7_readSum_85 x0 x2 hp
  ) (
    m_b (F7_write x0 (-1) hp) fun h3 =>
    F7_readSum_85 x0 x2 h3
  )
noncomputable def F7_readSum_4b (x0 : Nat) (s : Int32 × Int32 × m_H) : Option ((Int32 × Int32 × m_H) ⊕ m_H) :=
  m_if (400 ≤ s.2.1) (
    some (.inr s.2.2)
  ) (
    m_if (s.1 = 0) (
      some (.inr s.2.2)
    ) (
      m_b (m_gi s.2.2 x0 5 2) fun v3 =>
      m_if (v3 = 1) (
        m_b (m_gr s.2.2 x0 5 0) fun v15 =>
        m_b (m_gi s.2.2 x0 5 1) fun v17 =>
        m_b (F9_numberAt v15 v17 s.2.2) fun v20 =>
        m_b (F7_write x0 v20 s.2.2) fun h22 =>
        F7_readSum_76 x0 s.2.1 h22
      ) (
        m_b (m_gi s.2.2 x0 5 2) fun v6 =>
        m_if (v6 < 264) (
          m_b (F7_refuse x0 s.2.2) fun h10 =>
          F7_readSum_76 x0 s.2.1 h10
        ) (
          m_b (m_gi s.2.2 x0 5 2) fun v11 =>
          m_b (F7_write x0 ((-10) - ((v11 - 256) - 8)) s.2.2) fun h14 =>
          F7_readSum_76 x0 s.2.1 h14
        )
      )
    )
  )
noncomputable def F7_readSum_4 (x0 : Nat) (x1 : Int32) (x2 : Int32) (hp : m_H) : Option m_H :=
  m_wh (fun s => F7_readSum_4b x0 s) m_N (x1, x2, hp)
noncomputable def F7_readSum_0 (x0 : Nat) (hp : m_H) : Option m_H :=
  F7_readSum_4 x0 1 0 hp
noncomputable def F7_readSum (x0 : Nat) (hp : m_H) : Option m_H :=
  m_gd (m_isO hp 5 x0) (F7_readSum_0 x0 hp)
noncomputable def F7_readAll_7b (A : Nat → Int32 → m_H → Option m_H) (x0 : Nat) (x1 : Int32) (s : Int32 × m_H) : Option ((Int32 × m_H) ⊕ m_H) :=
  m_if (400 ≤ s.1) (
    some (.inr s.2)
  ) (
    m_b (m_gi s.2 x0 5 3) fun v2 =>
    m_if (v2 = (-1)) (
      m_b (m_gi s.2 x0 5 2) fun v5 =>
      m_if (v5 = 262) (
        m_b (m_gi s.2 x0 5 1) fun v8 =>
        m_b (F7_lookAt x0 (v8 + 1) s.2) fun h11 =>
        m_b (A x0 x1 h11) fun h13 =>
        m_b (F7_write x0 (-5) h13) fun h15 =>
        some (.inl ((s.1 + 1), h15))
      ) (
        some (.inr s.2)
      )
    ) (
      some (.inr s.2)
    )
  )
noncomputable def F7_readAll_7 (A : Nat → Int32 → m_H → Option m_H) (x0 : Nat) (x1 : Int32) (x2 : Int32) (hp : m_H) : Option m_H :=
  m_wh (fun s => F7_readAll_7b A x0 x1 s) m_N (x2, hp)
noncomputable def F7_readAll_0 (A : Nat → Int32 → m_H → Option m_H) (x0 : Nat) (x1 : Int32) (hp : m_H) : Option m_H :=
  m_b (A x0 x1 hp) fun h2 =>
  F7_readAll_7 A x0 x1 0 h2
noncomputable def F7_readAll (A : Nat → Int32 → m_H → Option m_H) (x0 : Nat) (x1 : Int32) (hp : m_H) : Option m_H :=
  m_gd (m_isO hp 5 x0) (F7_readAll_0 A x0 x1 hp)
noncomputable def F7_readAny_7b (A : Nat → Int32 → m_H → Option m_H) (x0 : Nat) (x1 : Int32) (s : Int32 × m_H) : Option ((Int32 × m_H) ⊕ m_H) :=
  m_if (400 ≤ s.1) (
    some (.inr s.2)
  ) (
    m_b (m_gi s.2 x0 5 3) fun v2 =>
    m_if (v2 = (-1)) (
      m_b (m_gi s.2 x0 5 2) fun v5 =>
      m_if (v5 = 261) (
        m_b (m_gi s.2 x0 5 1) fun v8 =>
        m_b (F7_lookAt x0 (v8 + 1) s.2) fun h11 =>
        m_b (F7_readAll A x0 x1 h11) fun h13 =>
        m_b (F7_write x0 (-6) h13) fun h15 =>
        some (.inl ((s.1 + 1), h15))
      ) (
        some (.inr s.2)
      )
    ) (
      some (.inr s.2)
    )
  )
noncomputable def F7_readAny_7 (A : Nat → Int32 → m_H → Option m_H) (x0 : Nat) (x1 : Int32) (x2 : Int32) (hp : m_H) : Option m_H :=
  m_wh (fun s => F7_readAny_7b A x0 x1 s) m_N (x2, hp)
noncomputable def F7_readAny_0 (A : Nat → Int32 → m_H → Option m_H) (x0 : Nat) (x1 : Int32) (hp : m_H) : Option m_H :=
  m_b (F7_readAll A x0 x1 hp) fun h2 =>
  F7_readAny_7 A x0 x1 0 h2
noncomputable def F7_readAny (A : Nat → Int32 → m_H → Option m_H) (x0 : Nat) (x1 : Int32) (hp : m_H) : Option m_H :=
  m_gd (m_isO hp 5 x0) (F7_readAny_0 A x0 x1 hp)
noncomputable def F7_readAtom_146 (A : Nat → Int32 → m_H → Option m_H) (x0 : Nat) (hp : m_H) : Option m_H :=
  m_b (m_gi hp x0 5 1) fun v1 =>
  m_b (F7_lookAt x0 (v1 + 1) hp) fun h4 =>
  some h4
noncomputable def F7_readAtom_87 (A : Nat → Int32 → m_H → Option m_H) (x0 : Nat) (x1 : Int32) (x2 : Int32) (hp : m_H) : Option m_H :=
  m_if (x1 < 6) (
    m_b (m_gi hp x0 5 1) fun v2 =>
    m_b (F7_lookAt x0 (v2 + 1) hp) fun h5 =>
    m_if (x2 = 0) (
      m_b (F7_readAny A x0 (x1 + 1) h5) fun h8 =>
      m_b (m_gi h8 x0 5 2) fun v9 =>
      m_if (v9 = 41) (
        F7_readAtom_146 A x0 h8
      ) (
        m_b (F7_refuse x0 h8) fun h13 =>
        F7_readAtom_146 A x0 h13
      )
    ) (
      m_b (A x0 (x1 + 1) h5) fun h15 =>
      m_b (F7_write x0 (-4) h15) fun h17 =>
      some h17
    )
  ) (
    m_b (F7_refuse x0 hp) fun h19 =>
    some h19
  )
noncomputable def F7_readAtom_55 (A : Nat → Int32 → m_H → Option m_H) (x0 : Nat) (x3 : Int32) (hp : m_H) : Option m_H :=
  m_b (m_gi hp x0 5 1) fun v1 =>
  m_b (F7_lookAt x0 (v1 + 1) hp) fun h4 =>
  m_b (F7_readSum x0 h4) fun h6 =>
  m_if (x3 = 60) (
    m_b (F7_write x0 (-2) h6) fun h11 =>
    some h11
  ) (
    m_b (F7_write x0 (-3) h6) fun h9 =>
    some h9
  )
noncomputable def F7_readAtom_15 (A : Nat → Int32 → m_H → Option m_H) (x0 : Nat) (x1 : Int32) (s0 : Int32) (hp : m_H) : Option m_H :=
  m_if (s0 = 0) (
    m_b (m_gi hp x0 5 2) fun v2 =>
    m_if (v2 = 40) (
      F7_readAtom_87 A x0 x1 s0 hp
    ) (
      m_b (F7_readSum x0 hp) fun h6 =>
      m_b (m_gi h6 x0 5 2) fun v7 =>
      m_if (v7 = 60) (
        F7_readAtom_55 A x0 v7 h6
      ) (
        m_if (v7 = 62) (
          F7_readAtom_55 A x0 v7 h6
        ) (
          m_b (F7_refuse x0 h6) fun h12 =>
          some h12
        )
      )
    )
  ) (
    F7_readAtom_87 A x0 x1 s0 hp
  )
noncomputable def F7_readAtom_0 (A : Nat → Int32 → m_H → Option m_H) (x0 : Nat) (x1 : Int32) (hp : m_H) : Option m_H :=
  m_b (m_gi hp x0 5 2) fun v1 =>
  m_if (v1 = 263) (
    F7_readAtom_15 A x0 x1 1 hp
  ) (
    F7_readAtom_15 A x0 x1 0 hp
  )
noncomputable def F7_readAtoms (A : Nat → Int32 → m_H → Option m_H) (x0 : Nat) (x1 : Int32) (hp : m_H) : Option m_H :=
  m_gd (m_isO hp 5 x0) (F7_readAtom_0 A x0 x1 hp)
noncomputable def F7_readAtom : Nat → Nat → Int32 → m_H → Option m_H
  | 0 => fun _ _ _ => none
  | n + 1 => F7_readAtoms (F7_readAtom n)
noncomputable def F7_readLine_116 (x0 : Nat) (x1 : Int32) (x2 : Int32) (hp : m_H) : Option m_H :=
  m_b (F7_addLine x0 x1 x2 hp) fun h2 =>
  some h2
noncomputable def F7_readLine_91 (x0 : Nat) (x1 : Int32) (x2 : Int32) (hp : m_H) : Option m_H :=
  m_b (m_gi hp x0 5 2) fun v1 =>
  m_if (v1 = 260) (
    m_b (m_gi hp x0 5 1) fun v4 =>
    m_b (F7_lookAt x0 (v4 + 1) hp) fun h7 =>
    m_b (F7_readAny (F7_readAtom m_FD) x0 0 h7) fun h9 =>
    F7_readLine_116 x0 x1 x2 h9
  ) (
    F7_readLine_116 x0 x1 x2 hp
  )
noncomputable def F7_readLine_81 (x0 : Nat) (x1 : Int32) (x2 : Int32) (hp : m_H) : Option m_H :=
  m_b (m_gi hp x0 5 1) fun v1 =>
  m_b (F7_lookAt x0 (v1 + 1) hp) fun h4 =>
  F7_readLine_91 x0 x1 x2 h4
noncomputable def F7_readLine_45 (x0 : Nat) (x1 : Int32) (hp : m_H) : Option m_H :=
  m_b (m_gr hp x0 5 0) fun v1 =>
  m_b (m_gi hp x0 5 1) fun v3 =>
  m_b (F9_numberAt v1 v3 hp) fun v6 =>
  m_b (m_gi hp x0 5 2) fun v7 =>
  m_if (v7 = 1) (
    m_if (x1 = 2) (
      m_if (v6 ≤ 100) (
        F7_readLine_81 x0 x1 v6 hp
      ) (
        m_b (F7_refuse x0 hp) fun h15 =>
        some h15
      )
    ) (
      F7_readLine_81 x0 x1 v6 hp
    )
  ) (
    m_b (F7_refuse x0 hp) fun h11 =>
    some h11
  )
noncomputable def F7_readLine_0 (x0 : Nat) (hp : m_H) : Option m_H :=
  m_b (m_gi hp x0 5 2) fun v1 =>
  m_if ((v1 - 256) < 0) (
    m_b (F7_refuse x0 hp) fun h5 =>
    some h5
  ) (
    m_if ((v1 - 256) ≤ 3) (
      m_b (m_gi hp x0 5 1) fun v7 =>
      m_b (F7_lookAt x0 (v7 + 1) hp) fun h10 =>
      m_if ((v1 - 256) = 1) (
        F7_readLine_45 x0 (v1 - 256) h10
      ) (
        m_if ((v1 - 256) = 2) (
          F7_readLine_45 x0 (v1 - 256) h10
        ) (
          F7_readLine_91 x0 (v1 - 256) 0 h10
        )
      )
    ) (
      m_b (F7_refuse x0 hp) fun h14 =>
      some h14
    )
  )
noncomputable def F7_readLine (x0 : Nat) (hp : m_H) : Option m_H :=
  m_gd (m_isO hp 5 x0) (F7_readLine_0 x0 hp)
noncomputable def F9_addThing_0 (x0 : Nat) (x1 : Int32) (x2 : Int32) (x3 : Int32) (hp : m_H) : Option m_H :=
  m_b (m_gi hp x0 7 7) fun v1 =>
  m_if (v1 < 0) (
    some hp
  ) (
    m_b (m_gi hp x0 7 7) fun v4 =>
    m_b (m_gr hp x0 7 4) fun v6 =>
    m_b (m_len hp v6) fun v8 =>
    m_if (v8 ≤ v4) (
      some hp
    ) (
      m_b (m_gi hp x0 7 7) fun v11 =>
      m_b (m_gr hp x0 7 5) fun v13 =>
      m_b (m_len hp v13) fun v15 =>
      m_if (v15 ≤ v11) (
        some hp
      ) (
        m_b (m_gi hp x0 7 7) fun v18 =>
        m_b (m_gr hp x0 7 6) fun v20 =>
        m_b (m_len hp v20) fun v22 =>
        m_if (v22 ≤ v18) (
          some hp
        ) (
          m_b (m_gr hp x0 7 4) fun v25 =>
          m_b (m_gi hp x0 7 7) fun v27 =>
          m_b (m_si hp 0 v25 v27 x1) fun h29 =>
          m_b (m_gr h29 x0 7 5) fun v31 =>
          m_b (m_gi h29 x0 7 7) fun v33 =>
          m_b (m_si h29 0 v31 v33 x2) fun h35 =>
          m_b (m_gr h35 x0 7 6) fun v37 =>
          m_b (m_gi h35 x0 7 7) fun v39 =>
          m_b (m_si h35 0 v37 v39 x3) fun h41 =>
          m_b (m_gi h41 x0 7 7) fun v43 =>
          m_b (m_pf m_ft h41 x0 7 7 (.int (v43 + 1))) fun h45 =>
          some h45
        )
      )
    )
  )
noncomputable def F9_addThing (x0 : Nat) (x1 : Int32) (x2 : Int32) (x3 : Int32) (hp : m_H) : Option m_H :=
  m_gd (m_isO hp 7 x0) (F9_addThing_0 x0 x1 x2 x3 hp)
noncomputable def F9_byteAt_0 (x0 : Nat) (x1 : Int32) (hp : m_H) : Option Int32 :=
  m_if (x1 < 0) (
    some 0
  ) (
    m_b (m_gi hp x0 7 2) fun v2 =>
    m_if (v2 ≤ x1) (
      some 0
    ) (
      m_b (m_gr hp x0 7 0) fun v5 =>
      m_b (m_len hp v5) fun v7 =>
      m_if (v7 ≤ x1) (
        some 0
      ) (
        m_b (m_gr hp x0 7 0) fun v10 =>
        m_b (m_ai hp 4 v10 x1) fun v12 =>
        m_gd (m_rok .char v12) (
          some v12
        )
      )
    )
  )
noncomputable def F9_byteAt (x0 : Nat) (x1 : Int32) (hp : m_H) : Option Int32 :=
  m_gd (m_isO hp 7 x0) (F9_byteAt_0 x0 x1 hp)
noncomputable def F9_isDigit_0 (x0 : Int32) (hp : m_H) : Option Int32 :=
  m_if (x0 < 48) (
    some 0
  ) (
    m_if (57 < x0) (
      some 0
    ) (
      some 1
    )
  )
noncomputable def F9_isDigit (x0 : Int32) (hp : m_H) : Option Int32 :=
  F9_isDigit_0 x0 hp
noncomputable def F9_passNumber_48 (x0 : Nat) (x1 : Int32) (x2 : Int32) (hp : m_H) : Option ((Int32 × Int32 × m_H) ⊕ (Int32 × m_H)) :=
  m_b (m_gi hp x0 7 3) fun v1 =>
  m_b (m_pf m_ft hp x0 7 3 (.int (v1 + 1))) fun h3 =>
  some (.inl (x1, (x2 + 1), h3))
noncomputable def F9_passNumber_4b (x0 : Nat) (s : Int32 × Int32 × m_H) : Option ((Int32 × Int32 × m_H) ⊕ (Int32 × m_H)) :=
  m_b (m_gi s.2.2 x0 7 2) fun v1 =>
  m_if (v1 ≤ s.2.1) (
    some (.inr (s.1, s.2.2))
  ) (
    m_b (m_gi s.2.2 x0 7 3) fun v4 =>
    m_b (F9_byteAt x0 v4 s.2.2) fun v7 =>
    m_b (F9_isDigit v7 s.2.2) fun v9 =>
    m_if (v9 = 0) (
      some (.inr (s.1, s.2.2))
    ) (
      m_if (5 ≤ s.2.1) (
        F9_passNumber_48 x0 s.1 s.2.1 s.2.2
      ) (
        m_b (m_gi s.2.2 x0 7 3) fun v12 =>
        m_b (F9_byteAt x0 v12 s.2.2) fun v15 =>
        F9_passNumber_48 x0 ((s.1 * 10) + (v15 - 48)) s.2.1 s.2.2
      )
    )
  )
noncomputable def F9_passNumber_4 (x0 : Nat) (x1 : Int32) (x2 : Int32) (hp : m_H) : Option (Int32 × m_H) :=
  m_wh (fun s => F9_passNumber_4b x0 s) m_N (x1, x2, hp)
noncomputable def F9_passNumber_0 (x0 : Nat) (hp : m_H) : Option (Int32 × m_H) :=
  F9_passNumber_4 x0 0 0 hp
noncomputable def F9_passNumber (x0 : Nat) (hp : m_H) : Option (Int32 × m_H) :=
  m_gd (m_isO hp 7 x0) (F9_passNumber_0 x0 hp)
noncomputable def F9_isLetter_0 (x0 : Int32) (hp : m_H) : Option Int32 :=
  m_if (x0 < 97) (
    some 0
  ) (
    m_if (122 < x0) (
      some 0
    ) (
      some 1
    )
  )
noncomputable def F9_isLetter (x0 : Int32) (hp : m_H) : Option Int32 :=
  F9_isLetter_0 x0 hp
noncomputable def F9_passWord_2b (x0 : Nat) (s : Int32 × m_H) : Option ((Int32 × m_H) ⊕ m_H) :=
  m_b (m_gi s.2 x0 7 2) fun v1 =>
  m_if (v1 ≤ s.1) (
    some (.inr s.2)
  ) (
    m_b (m_gi s.2 x0 7 3) fun v4 =>
    m_b (F9_byteAt x0 v4 s.2) fun v7 =>
    m_b (F9_isLetter v7 s.2) fun v9 =>
    m_if (v9 = 0) (
      some (.inr s.2)
    ) (
      m_b (m_gi s.2 x0 7 3) fun v11 =>
      m_b (m_pf m_ft s.2 x0 7 3 (.int (v11 + 1))) fun h13 =>
      some (.inl ((s.1 + 1), h13))
    )
  )
noncomputable def F9_passWord_2 (x0 : Nat) (x1 : Int32) (hp : m_H) : Option m_H :=
  m_wh (fun s => F9_passWord_2b x0 s) m_N (x1, hp)
noncomputable def F9_passWord_0 (x0 : Nat) (hp : m_H) : Option m_H :=
  F9_passWord_2 x0 0 hp
noncomputable def F9_passWord (x0 : Nat) (hp : m_H) : Option m_H :=
  m_gd (m_isO hp 7 x0) (F9_passWord_0 x0 hp)
noncomputable def F9_stands_17b (x0 : Nat) (x1 : Nat) (x2 : Int32) (hp : m_H) (s : Int32) : Option (Int32 ⊕ Int32) :=
  m_b (m_slen x1) fun v2 =>
  m_if (v2 ≤ s) (
    some (.inr 1)
  ) (
    m_b (m_sch x1 s) fun v5 =>
    m_b (F9_byteAt x0 (x2 + s) hp) fun v7 =>
    m_if (v5 = v7) (
      some (.inl (s + 1))
    ) (
      some (.inr 0)
    )
  )
noncomputable def F9_stands_17 (x0 : Nat) (x1 : Nat) (x2 : Int32) (x3 : Int32) (hp : m_H) : Option Int32 :=
  m_wh (fun s => F9_stands_17b x0 x1 x2 hp s) m_N x3
noncomputable def F9_stands_0 (x0 : Nat) (x1 : Nat) (x2 : Int32) (hp : m_H) : Option Int32 :=
  m_b (m_slen x1) fun v2 =>
  m_b (m_gi hp x0 7 3) fun v3 =>
  m_if (v2 = (v3 - x2)) (
    F9_stands_17 x0 x1 x2 0 hp
  ) (
    some 0
  )
noncomputable def F9_stands (x0 : Nat) (x1 : Nat) (x2 : Int32) (hp : m_H) : Option Int32 :=
  m_gd (m_isO hp 7 x0) (F9_stands_0 x0 x1 x2 hp)
noncomputable def F9_factNumbered_0 (x0 : Int32) (hp : m_H) : Option Nat :=
  m_swt (m_swi 0 8 x0) (
    some 28
  ) fun w1 =>
  m_if (w1 = 0) (
    some 19
  ) (
   m_if (w1 = 1) (
     some 20
   ) (
    m_if (w1 = 2) (
      some 21
    ) (
     m_if (w1 = 3) (
       some 22
     ) (
      m_if (w1 = 4) (
        some 23
      ) (
       m_if (w1 = 5) (
         some 24
       ) (
        m_if (w1 = 6) (
          some 25
        ) (
         m_if (w1 = 7) (
           some 26
         ) (
          m_if (w1 = 8) (
            some 27
          ) (
           none
          )
         )
        )
       )
      )
     )
    )
   )
  )
noncomputable def F9_factNumbered (x0 : Int32) (hp : m_H) : Option Nat :=
  F9_factNumbered_0 x0 hp
noncomputable def F9_wordNumbered_0 (x0 : Int32) (hp : m_H) : Option Nat :=
  m_swt (m_swi 0 7 x0) (
    m_b (F9_factNumbered (x0 - 8) hp) fun v4 =>
    some v4
  ) fun w1 =>
  m_if (w1 = 0) (
    some 11
  ) (
   m_if (w1 = 1) (
     some 12
   ) (
    m_if (w1 = 2) (
      some 13
    ) (
     m_if (w1 = 3) (
       some 14
     ) (
      m_if (w1 = 4) (
        some 15
      ) (
       m_if (w1 = 5) (
         some 16
       ) (
        m_if (w1 = 6) (
          some 17
        ) (
         m_if (w1 = 7) (
           some 18
         ) (
          none
         )
        )
       )
      )
     )
    )
   )
  )
noncomputable def F9_wordNumbered (x0 : Int32) (hp : m_H) : Option Nat :=
  F9_wordNumbered_0 x0 hp
noncomputable def F9_wordFrom_2b (x0 : Nat) (x1 : Int32) (hp : m_H) (s : Int32) : Option (Int32 ⊕ Int32) :=
  m_if (18 ≤ s) (
    some (.inr 2)
  ) (
    m_b (F9_wordNumbered s hp) fun v3 =>
    m_b (F9_stands x0 v3 x1 hp) fun v5 =>
    m_if (v5 = 0) (
      some (.inl (s + 1))
    ) (
      some (.inr (256 + s))
    )
  )
noncomputable def F9_wordFrom_2 (x0 : Nat) (x1 : Int32) (x2 : Int32) (hp : m_H) : Option Int32 :=
  m_wh (fun s => F9_wordFrom_2b x0 x1 hp s) m_N x2
noncomputable def F9_wordFrom_0 (x0 : Nat) (x1 : Int32) (hp : m_H) : Option Int32 :=
  F9_wordFrom_2 x0 x1 0 hp
noncomputable def F9_wordFrom (x0 : Nat) (x1 : Int32) (hp : m_H) : Option Int32 :=
  m_gd (m_isO hp 7 x0) (F9_wordFrom_0 x0 x1 hp)
noncomputable def F9_splitOff_117 (x0 : Nat) (x1 : Int32) (x2 : Int32) (s0 : Int32) (hp : m_H) : Option m_H :=
  m_if (s0 = 0) (
    m_b (F9_addThing x0 2 x2 0 hp) fun h3 =>
    some h3
  ) (
    m_b (F9_addThing x0 x1 x2 0 hp) fun h5 =>
    some h5
  )
noncomputable def F9_splitOff_112 (x0 : Nat) (x1 : Int32) (x2 : Int32) (hp : m_H) : Option m_H :=
  F9_splitOff_117 x0 x1 x2 1 hp
noncomputable def F9_splitOff_0 (x0 : Nat) (x1 : Int32) (hp : m_H) : Option m_H :=
  m_b (m_gi hp x0 7 3) fun v1 =>
  m_b (F9_isDigit x1 hp) fun v4 =>
  m_if (v4 = 0) (
    m_b (F9_isLetter x1 hp) fun v7 =>
    m_if (v7 = 0) (
      m_b (m_gi hp x0 7 3) fun v9 =>
      m_b (m_pf m_ft hp x0 7 3 (.int (v9 + 1))) fun h11 =>
      m_if (x1 = 59) (
        F9_splitOff_112 x0 x1 v1 h11
      ) (
        m_if (x1 = 60) (
          F9_splitOff_112 x0 x1 v1 h11
        ) (
          m_if (x1 = 62) (
            F9_splitOff_112 x0 x1 v1 h11
          ) (
            m_if (x1 = 43) (
              F9_splitOff_112 x0 x1 v1 h11
            ) (
              m_if (x1 = 40) (
                F9_splitOff_112 x0 x1 v1 h11
              ) (
                m_if (x1 = 41) (
                  F9_splitOff_112 x0 x1 v1 h11
                ) (
                  F9_splitOff_117 x0 x1 v1 0 h11
                )
              )
            )
          )
        )
      )
    ) (
      m_b (F9_passWord x0 hp) fun h20 =>
      m_b (F9_wordFrom x0 v1 h20) fun v22 =>
      m_b (F9_addThing x0 v22 v1 0 h20) fun h24 =>
      some h24
    )
  ) (
    m_b (F9_passNumber x0 hp) fun z26 =>
    m_b (m_gi z26.2 x0 7 3) fun v27 =>
    m_if ((v27 - v1) ≤ 5) (
      m_b (F9_addThing x0 1 v1 z26.1 z26.2) fun h31 =>
      some h31
    ) (
      m_b (F9_addThing x0 2 v1 z26.1 z26.2) fun h33 =>
      some h33
    )
  )
noncomputable def F9_splitOff (x0 : Nat) (x1 : Int32) (hp : m_H) : Option m_H :=
  m_gd (m_isO hp 7 x0) (F9_splitOff_0 x0 x1 hp)
noncomputable def F9_skipBlanks_2b (x0 : Nat) (s : Int32 × m_H) : Option ((Int32 × m_H) ⊕ m_H) :=
  m_b (m_gi s.2 x0 7 2) fun v1 =>
  m_if (v1 ≤ s.1) (
    some (.inr s.2)
  ) (
    m_b (m_gi s.2 x0 7 3) fun v4 =>
    m_b (F9_byteAt x0 v4 s.2) fun v7 =>
    m_if (v7 = 32) (
      m_b (m_gi s.2 x0 7 3) fun v9 =>
      m_b (m_pf m_ft s.2 x0 7 3 (.int (v9 + 1))) fun h11 =>
      some (.inl ((s.1 + 1), h11))
    ) (
      some (.inr s.2)
    )
  )
noncomputable def F9_skipBlanks_2 (x0 : Nat) (x1 : Int32) (hp : m_H) : Option m_H :=
  m_wh (fun s => F9_skipBlanks_2b x0 s) m_N (x1, hp)
noncomputable def F9_skipBlanks_0 (x0 : Nat) (hp : m_H) : Option m_H :=
  F9_skipBlanks_2 x0 0 hp
noncomputable def F9_skipBlanks (x0 : Nat) (hp : m_H) : Option m_H :=
  m_gd (m_isO hp 7 x0) (F9_skipBlanks_0 x0 hp)
noncomputable def F9_split_12b (x0 : Nat) (s : Int32 × m_H) : Option ((Int32 × m_H) ⊕ m_H) :=
  m_b (m_gi s.2 x0 7 2) fun v1 =>
  m_if (v1 < s.1) (
    some (.inr s.2)
  ) (
    m_b (F9_skipBlanks x0 s.2) fun h5 =>
    m_b (m_gi h5 x0 7 3) fun v6 =>
    m_b (m_gi h5 x0 7 2) fun v8 =>
    m_if (v6 < v8) (
      m_b (m_gi h5 x0 7 3) fun v11 =>
      m_b (F9_byteAt x0 v11 h5) fun v14 =>
      m_b (F9_splitOff x0 v14 h5) fun h16 =>
      some (.inl ((s.1 + 1), h16))
    ) (
      m_b (m_gi h5 x0 7 2) fun v17 =>
      m_b (F9_addThing x0 0 v17 0 h5) fun h20 =>
      some (.inr h20)
    )
  )
noncomputable def F9_split_12 (x0 : Nat) (x1 : Int32) (hp : m_H) : Option m_H :=
  m_wh (fun s => F9_split_12b x0 s) m_N (x1, hp)
noncomputable def F9_split_0 (x0 : Nat) (hp : m_H) : Option m_H :=
  m_b (m_pf m_ft hp x0 7 3 (.int 0)) fun h1 =>
  m_b (m_pf m_ft h1 x0 7 7 (.int 0)) fun h3 =>
  F9_split_12 x0 0 h3
noncomputable def F9_split (x0 : Nat) (hp : m_H) : Option m_H :=
  m_gd (m_isO hp 7 x0) (F9_split_0 x0 hp)
noncomputable def F7_read_29b (x0 : Nat) (s : Int32 × m_H) : Option ((Int32 × m_H) ⊕ m_H) :=
  m_if (12 ≤ s.1) (
    some (.inr s.2)
  ) (
    m_b (m_gi s.2 x0 5 2) fun v2 =>
    m_if (v2 = 0) (
      some (.inr s.2)
    ) (
      m_b (F7_readLine x0 s.2) fun h6 =>
      m_b (m_gi h6 x0 5 3) fun v7 =>
      m_if (v7 = (-1)) (
        m_b (m_gi h6 x0 5 2) fun v10 =>
        m_if (v10 = 0) (
          some (.inr h6)
        ) (
          m_b (m_gi h6 x0 5 2) fun v13 =>
          m_if (v13 = 59) (
            m_b (m_gi h6 x0 5 1) fun v16 =>
            m_b (F7_lookAt x0 (v16 + 1) h6) fun h19 =>
            m_b (m_gi h19 x0 5 2) fun v20 =>
            m_if (v20 = 0) (
              m_b (F7_refuse x0 h19) fun h24 =>
              some (.inr h24)
            ) (
              m_if (s.1 = 11) (
                m_b (F7_refuse x0 h19) fun h27 =>
                some (.inr h27)
              ) (
                some (.inl ((s.1 + 1), h19))
              )
            )
          ) (
            m_b (F7_refuse x0 h6) fun h29 =>
            some (.inr h29)
          )
        )
      ) (
        some (.inr h6)
      )
    )
  )
noncomputable def F7_read_29 (x0 : Nat) (x1 : Int32) (hp : m_H) : Option m_H :=
  m_wh (fun s => F7_read_29b x0 s) m_N (x1, hp)
noncomputable def F7_read_0 (x0 : Nat) (hp : m_H) : Option m_H :=
  m_b (m_pf m_ft hp x0 5 7 (.int 0)) fun h1 =>
  m_b (m_pf m_ft h1 x0 5 9 (.int 0)) fun h3 =>
  m_b (m_pf m_ft h3 x0 5 3 (.int (-1))) fun h5 =>
  m_b (m_gr h5 x0 5 0) fun v7 =>
  m_b (F9_split v7 h5) fun h10 =>
  m_b (F7_lookAt x0 0 h10) fun h12 =>
  F7_read_29 x0 0 h12
noncomputable def F7_read (x0 : Nat) (hp : m_H) : Option m_H :=
  m_gd (m_isO hp 5 x0) (F7_read_0 x0 hp)
noncomputable def F8_rowsWith_5b (x0 : Nat) (x1 : Int32) (x2 : Int32) (hp : m_H) (s : Int32 × Int32) : Option ((Int32 × Int32) ⊕ Int32) :=
  m_b (m_gi hp x0 6 2) fun v1 =>
  m_if (v1 ≤ s.2) (
    some (.inr s.1)
  ) (
    m_b (F8_get x0 s.2 x1 hp) fun v5 =>
    m_if (v5 = x2) (
      some (.inl ((s.1 + 1), (s.2 + 1)))
    ) (
      some (.inl (s.1, (s.2 + 1)))
    )
  )
noncomputable def F8_rowsWith_5 (x0 : Nat) (x1 : Int32) (x2 : Int32) (x3 : Int32) (x4 : Int32) (hp : m_H) : Option Int32 :=
  m_wh (fun s => F8_rowsWith_5b x0 x1 x2 hp s) m_N (x3, x4)
noncomputable def F8_rowsWith_0 (x0 : Nat) (x1 : Int32) (x2 : Int32) (hp : m_H) : Option Int32 :=
  F8_rowsWith_5 x0 x1 x2 0 0 hp
noncomputable def F8_rowsWith (x0 : Nat) (x1 : Int32) (x2 : Int32) (hp : m_H) : Option Int32 :=
  m_gd (m_isO hp 6 x0) (F8_rowsWith_0 x0 x1 x2 hp)
noncomputable def F9_init_0 (x0 : Nat) (hp : m_H) : Option m_H :=
  m_b (m_nw 4 400 hp) fun h1 =>
  m_b (m_pf m_ft h1 x0 7 0 (.ref (m_id hp))) fun h3 =>
  m_b (m_nw 0 401 h3) fun h5 =>
  m_b (m_pf m_ft h5 x0 7 4 (.ref (m_id h3))) fun h7 =>
  m_b (m_nw 0 401 h7) fun h9 =>
  m_b (m_pf m_ft h9 x0 7 5 (.ref (m_id h7))) fun h11 =>
  m_b (m_nw 0 401 h11) fun h13 =>
  m_b (m_pf m_ft h13 x0 7 6 (.ref (m_id h11))) fun h15 =>
  some h15
noncomputable def F9_init (x0 : Nat) (hp : m_H) : Option m_H :=
  m_gd (m_isO hp 7 x0) (F9_init_0 x0 hp)
noncomputable def F9_put_3b (x0 : Nat) (x1 : Int32) (s : Int32 × m_H) : Option ((Int32 × m_H) ⊕ m_H) :=
  m_if (s.1 < 0) (
    some (.inr s.2)
  ) (
    m_b (m_gi s.2 x0 7 1) fun v2 =>
    m_if (v2 < 0) (
      some (.inl ((s.1 + (-8)), s.2))
    ) (
      m_b (m_gi s.2 x0 7 1) fun v5 =>
      m_b (m_gr s.2 x0 7 0) fun v7 =>
      m_b (m_len s.2 v7) fun v9 =>
      m_if (v9 ≤ v5) (
        some (.inl ((s.1 + (-8)), s.2))
      ) (
        m_b (m_gr s.2 x0 7 0) fun v12 =>
        m_b (m_gi s.2 x0 7 1) fun v14 =>
        m_b (m_si s.2 4 v12 v14 (m_i2c ((m_ushr x1 s.1) &&& 255))) fun h16 =>
        m_b (m_gi h16 x0 7 1) fun v18 =>
        m_b (m_pf m_ft h16 x0 7 1 (.int (v18 + 1))) fun h20 =>
        some (.inl ((s.1 + (-8)), h20))
      )
    )
  )
noncomputable def F9_put_3 (x0 : Nat) (x1 : Int32) (x2 : Int32) (hp : m_H) : Option m_H :=
  m_wh (fun s => F9_put_3b x0 x1 s) m_N (x2, hp)
noncomputable def F9_put_0 (x0 : Nat) (x1 : Int32) (hp : m_H) : Option m_H :=
  F9_put_3 x0 x1 24 hp
noncomputable def F9_put (x0 : Nat) (x1 : Int32) (hp : m_H) : Option m_H :=
  m_gd (m_isO hp 7 x0) (F9_put_0 x0 x1 hp)
noncomputable def F9_useUp_0 (x0 : Nat) (hp : m_H) : Option m_H :=
  m_b (m_gi hp x0 7 1) fun v1 =>
  m_b (m_pf m_ft hp x0 7 2 (.int v1)) fun h3 =>
  m_b (m_pf m_ft h3 x0 7 1 (.int 0)) fun h5 =>
  some h5
noncomputable def F9_useUp (x0 : Nat) (hp : m_H) : Option m_H :=
  m_gd (m_isO hp 7 x0) (F9_useUp_0 x0 hp)
noncomputable def F10_beginOrders_2b (x0 : Nat) (s : Int32 × m_H) : Option ((Int32 × m_H) ⊕ m_H) :=
  m_b (m_gr s.2 x0 3 8) fun v1 =>
  m_b (m_gi s.2 v1 6 2) fun v3 =>
  m_if (v3 ≤ s.1) (
    some (.inr s.2)
  ) (
    m_b (F3_isOrderNotBegun x0 s.1 s.2) fun v7 =>
    m_if (v7 = 0) (
      some (.inl ((s.1 + 1), s.2))
    ) (
      m_b (F3_needOfAll x0 s.1 1 s.2) fun v10 =>
      m_b (m_gi s.2 x0 3 1) fun v11 =>
      m_if (v11 < v10) (
        some (.inl ((s.1 + 1), s.2))
      ) (
        m_b (m_gi s.2 x0 3 1) fun v14 =>
        m_b (F3_needOfAll x0 s.1 1 s.2) fun v17 =>
        m_b (m_pf m_ft s.2 x0 3 1 (.int (v14 - v17))) fun h18 =>
        m_b (m_gr h18 x0 3 8) fun v20 =>
        m_b (F8_set v20 s.1 5 1 h18) fun h23 =>
        some (.inl ((s.1 + 1), h23))
      )
    )
  )
noncomputable def F10_beginOrders_2 (x0 : Nat) (x1 : Int32) (hp : m_H) : Option m_H :=
  m_wh (fun s => F10_beginOrders_2b x0 s) m_N (x1, hp)
noncomputable def F10_beginOrders_0 (x0 : Nat) (hp : m_H) : Option m_H :=
  F10_beginOrders_2 x0 0 hp
noncomputable def F10_beginOrders (x0 : Nat) (hp : m_H) : Option m_H :=
  F10_beginOrders_0 x0 hp
noncomputable def F10_workOn_0 (x0 : Nat) (x1 : Int32) (hp : m_H) : Option m_H :=
  m_b (m_gr hp x0 3 8) fun v1 =>
  m_b (F8_raise v1 x1 4 1 hp) fun h4 =>
  m_b (m_gr h4 x0 3 8) fun v5 =>
  m_b (F8_get v5 x1 4 h4) fun v8 =>
  m_b (m_gr h4 x0 3 6) fun v9 =>
  m_b (m_gr h4 x0 3 8) fun v11 =>
  m_b (F8_get v11 x1 0 h4) fun v14 =>
  m_b (F8_get v9 v14 3 h4) fun v16 =>
  m_if (v8 < v16) (
    some h4
  ) (
    m_b (F3_crates x0 x1 0 h4) fun v19 =>
    m_b (F3_move x0 x1 v19 0 1 h4) fun h21 =>
    some h21
  )
noncomputable def F10_workOn (x0 : Nat) (x1 : Int32) (hp : m_H) : Option m_H :=
  F10_workOn_0 x0 x1 hp
noncomputable def F10_workOnOrders_45 (x0 : Nat) (x1 : Int32) (x2 : Int32) (s0 : Int32) (hp : m_H) : Option ((Int32 × Int32 × m_H) ⊕ m_H) :=
  m_if (s0 = 0) (
    some (.inl (x1, (x2 + 1), hp))
  ) (
    m_b (F3_needOfAll x0 x2 2 hp) fun v3 =>
    m_if (x1 < v3) (
      some (.inl (x1, (x2 + 1), hp))
    ) (
      m_b (F3_needOfAll x0 x2 2 hp) fun v6 =>
      m_b (F10_workOn x0 x2 hp) fun h8 =>
      some (.inl ((x1 - v6), (x2 + 1), h8))
    )
  )
noncomputable def F10_workOnOrders_44 (x0 : Nat) (x1 : Int32) (x2 : Int32) (hp : m_H) : Option ((Int32 × Int32 × m_H) ⊕ m_H) :=
  F10_workOnOrders_45 x0 x1 x2 0 hp
noncomputable def F10_workOnOrders_7b (x0 : Nat) (s : Int32 × Int32 × m_H) : Option ((Int32 × Int32 × m_H) ⊕ m_H) :=
  m_b (m_gr s.2.2 x0 3 8) fun v1 =>
  m_b (m_gi s.2.2 v1 6 2) fun v3 =>
  m_if (v3 ≤ s.2.1) (
    some (.inr s.2.2)
  ) (
    m_b (F3_crates x0 s.2.1 0 s.2.2) fun v7 =>
    m_if (v7 ≤ 0) (
      F10_workOnOrders_44 x0 s.1 s.2.1 s.2.2
    ) (
      m_b (m_gr s.2.2 x0 3 8) fun v9 =>
      m_b (F8_get v9 s.2.1 5 s.2.2) fun v12 =>
      m_if (v12 = 1) (
        F10_workOnOrders_45 x0 s.1 s.2.1 1 s.2.2
      ) (
        F10_workOnOrders_44 x0 s.1 s.2.1 s.2.2
      )
    )
  )
noncomputable def F10_workOnOrders_7 (x0 : Nat) (x1 : Int32) (x2 : Int32) (hp : m_H) : Option m_H :=
  m_wh (fun s => F10_workOnOrders_7b x0 s) m_N (x1, x2, hp)
noncomputable def F10_workOnOrders_0 (x0 : Nat) (hp : m_H) : Option m_H :=
  m_b (m_gi hp x0 3 2) fun v1 =>
  F10_workOnOrders_7 x0 v1 0 hp
noncomputable def F10_workOnOrders (x0 : Nat) (hp : m_H) : Option m_H :=
  F10_workOnOrders_0 x0 hp
noncomputable def F10_unload_46 (x0 : Nat) (x1 : Int32) (hp : m_H) : Option m_H :=
  m_b (m_gr hp x0 3 10) fun v1 =>
  m_b (F8_set v1 x1 6 0 hp) fun h4 =>
  some h4
noncomputable def F10_unload_2b (x0 : Nat) (x1 : Int32) (x2 : Int32) (s : Int32 × m_H) : Option ((Int32 × m_H) ⊕ m_H) :=
  m_b (m_gr s.2 x0 3 10) fun v1 =>
  m_b (F8_get v1 x1 6 s.2) fun v4 =>
  m_if (v4 ≤ s.1) (
    (F10_unload_46 x0 x1 s.2).map .inr
  ) (
    m_if (8 ≤ s.1) (
      (F10_unload_46 x0 x1 s.2).map .inr
    ) (
      m_b (F3_cargoLot x0 x1 s.1 s.2) fun v8 =>
      m_b (F3_cargoCrates x0 x1 s.1 s.2) fun v10 =>
      m_b (F3_move x0 v8 v10 2 x2 s.2) fun h12 =>
      some (.inl ((s.1 + 1), h12))
    )
  )
noncomputable def F10_unload_2 (x0 : Nat) (x1 : Int32) (x2 : Int32) (x3 : Int32) (hp : m_H) : Option m_H :=
  m_wh (fun s => F10_unload_2b x0 x1 x2 s) m_N (x3, hp)
noncomputable def F10_unload_0 (x0 : Nat) (x1 : Int32) (x2 : Int32) (hp : m_H) : Option m_H :=
  F10_unload_2 x0 x1 x2 0 hp
noncomputable def F10_unload (x0 : Nat) (x1 : Int32) (x2 : Int32) (hp : m_H) : Option m_H :=
  F10_unload_0 x0 x1 x2 hp
noncomputable def F10_sink_0 (x0 : Nat) (x1 : Int32) (hp : m_H) : Option m_H :=
  m_b (F10_unload x0 x1 6 hp) fun h2 =>
  m_b (m_gr h2 x0 3 10) fun v3 =>
  m_b (F8_set v3 x1 2 4 h2) fun h6 =>
  m_b (m_gr h6 x0 3 10) fun v7 =>
  m_b (F8_set v7 x1 4 0 h6) fun h10 =>
  m_b (m_gr h10 x0 3 10) fun v11 =>
  m_b (m_gi h10 x0 3 0) fun v13 =>
  m_b (F8_set v11 x1 5 v13 h10) fun h16 =>
  some h16
noncomputable def F10_sink (x0 : Nat) (x1 : Int32) (hp : m_H) : Option m_H :=
  F10_sink_0 x0 x1 hp
noncomputable def F10_arriveAbroad_117 (x0 : Nat) (x1 : Int32) (hp : m_H) : Option m_H :=
  m_b (F10_unload x0 x1 3 hp) fun h2 =>
  m_b (m_gr h2 x0 3 10) fun v3 =>
  m_b (F8_set v3 x1 2 2 h2) fun h6 =>
  some h6
noncomputable def F10_arriveAbroad_12b (x0 : Nat) (x1 : Int32) (x2 : Int32) (s : Int32 × m_H) : Option ((Int32 × m_H) ⊕ m_H) :=
  m_b (m_gr s.2 x0 3 10) fun v1 =>
  m_b (F8_get v1 x1 6 s.2) fun v4 =>
  m_if (v4 ≤ s.1) (
    (F10_arriveAbroad_117 x0 x1 s.2).map .inr
  ) (
    m_if (8 ≤ s.1) (
      (F10_arriveAbroad_117 x0 x1 s.2).map .inr
    ) (
      m_b (F3_cargoLot x0 x1 s.1 s.2) fun v8 =>
      m_b (m_gr s.2 x0 3 8) fun v9 =>
      m_b (F8_get v9 v8 0 s.2) fun v12 =>
      m_b (m_gr s.2 x0 3 12) fun v13 =>
      m_b (F3_tradeRow x2 v12 s.2) fun v16 =>
      m_b (F3_cargoCrates x0 x1 s.1 s.2) fun v18 =>
      m_b (F8_raise v13 v16 1 v18 s.2) fun h20 =>
      m_b (m_gr h20 x0 3 11) fun v21 =>
      m_b (F8_get v21 x2 1 h20) fun v24 =>
      m_b (m_gr h20 x0 3 8) fun v25 =>
      m_b (F8_get v25 v8 7 h20) fun v28 =>
      m_b (m_gr h20 x0 3 11) fun v29 =>
      m_b (F8_set v29 x2 1 (m_max (-100) (v24 - v28)) h20) fun h32 =>
      some (.inl ((s.1 + 1), h32))
    )
  )
noncomputable def F10_arriveAbroad_12 (x0 : Nat) (x1 : Int32) (x2 : Int32) (x3 : Int32) (hp : m_H) : Option m_H :=
  m_wh (fun s => F10_arriveAbroad_12b x0 x1 x2 s) m_N (x3, hp)
noncomputable def F10_arriveAbroad_0 (x0 : Nat) (x1 : Int32) (hp : m_H) : Option m_H :=
  m_b (m_gr hp x0 3 10) fun v1 =>
  m_b (F8_get v1 x1 3 hp) fun v4 =>
  F10_arriveAbroad_12 x0 x1 v4 0 hp
noncomputable def F10_arriveAbroad (x0 : Nat) (x1 : Int32) (hp : m_H) : Option m_H :=
  F10_arriveAbroad_0 x0 x1 hp
noncomputable def F10_arriveHome_0 (x0 : Nat) (x1 : Int32) (hp : m_H) : Option m_H :=
  m_b (F10_unload x0 x1 7 hp) fun h2 =>
  m_b (m_gr h2 x0 3 10) fun v3 =>
  m_b (F8_set v3 x1 2 0 h2) fun h6 =>
  m_b (m_gr h6 x0 3 10) fun v7 =>
  m_b (F8_set v7 x1 3 0 h6) fun h10 =>
  some h10
noncomputable def F10_arriveHome (x0 : Nat) (x1 : Int32) (hp : m_H) : Option m_H :=
  F10_arriveHome_0 x0 x1 hp
noncomputable def F10_goBySea_0 (x0 : Nat) (x1 : Int32) (hp : m_H) : Option m_H :=
  m_b (m_gr hp x0 3 10) fun v1 =>
  m_b (F8_get v1 x1 3 hp) fun v4 =>
  m_b (m_gr hp x0 3 10) fun v5 =>
  m_b (F8_get v5 x1 1 hp) fun v8 =>
  m_b (m_gi hp x0 3 0) fun v9 =>
  m_b (m_rm (v8 + (37 * v9)) 100) fun v11 =>
  m_b (m_gi hp x0 3 0) fun v13 =>
  m_b (F3_riskIn x0 v4 v13 hp) fun v16 =>
  m_if (v16 ≤ v11) (
    m_b (m_gr hp x0 3 10) fun v18 =>
    m_b (F8_raise v18 x1 4 (-1) hp) fun h21 =>
    m_b (m_gr h21 x0 3 10) fun v22 =>
    m_b (F8_get v22 x1 4 h21) fun v25 =>
    m_if (v25 ≤ 0) (
      m_b (m_gr h21 x0 3 10) fun v27 =>
      m_b (F8_get v27 x1 2 h21) fun v30 =>
      m_if (v30 = 1) (
        m_b (F10_arriveAbroad x0 x1 h21) fun h35 =>
        some h35
      ) (
        m_b (F10_arriveHome x0 x1 h21) fun h33 =>
        some h33
      )
    ) (
      some h21
    )
  ) (
    m_b (F10_sink x0 x1 hp) fun h37 =>
    some h37
  )
noncomputable def F10_goBySea (x0 : Nat) (x1 : Int32) (hp : m_H) : Option m_H :=
  F10_goBySea_0 x0 x1 hp
noncomputable def F10_useSort_6b (x0 : Nat) (x1 : Int32) (x2 : Int32) (x3 : Int32) (s : Int32 × Int32 × m_H) : Option ((Int32 × Int32 × m_H) ⊕ (Int32 × m_H)) :=
  m_b (m_gr s.2.2 x0 3 8) fun v1 =>
  m_b (m_gi s.2.2 v1 6 2) fun v3 =>
  m_if (v3 ≤ s.2.1) (
    some (.inr (s.1, s.2.2))
  ) (
    m_if (x3 ≤ s.1) (
      some (.inr (s.1, s.2.2))
    ) (
      m_b (F3_crates x0 s.2.1 3 s.2.2) fun v8 =>
      m_if (v8 ≤ 0) (
        some (.inl (s.1, (s.2.1 + 1), s.2.2))
      ) (
        m_b (m_gr s.2.2 x0 3 8) fun v10 =>
        m_b (F8_get v10 s.2.1 2 s.2.2) fun v13 =>
        m_if (v13 = x1) (
          m_b (m_gr s.2.2 x0 3 8) fun v15 =>
          m_b (F8_get v15 s.2.1 0 s.2.2) fun v18 =>
          m_if (v18 = x2) (
            m_b (F3_isLent x0 s.2.1 s.2.2) fun v21 =>
            m_if (v21 = 0) (
              some (.inl (s.1, (s.2.1 + 1), s.2.2))
            ) (
              m_b (F3_crates x0 s.2.1 3 s.2.2) fun v24 =>
              m_b (F3_move x0 s.2.1 (m_min (x3 - s.1) v24) 3 4 s.2.2) fun h26 =>
              some (.inl ((s.1 + (m_min (x3 - s.1) v24)), (s.2.1 + 1), h26))
            )
          ) (
            some (.inl (s.1, (s.2.1 + 1), s.2.2))
          )
        ) (
          some (.inl (s.1, (s.2.1 + 1), s.2.2))
        )
      )
    )
  )
noncomputable def F10_useSort_6 (x0 : Nat) (x1 : Int32) (x2 : Int32) (x3 : Int32) (x4 : Int32) (x5 : Int32) (hp : m_H) : Option (Int32 × m_H) :=
  m_wh (fun s => F10_useSort_6b x0 x1 x2 x3 s) m_N (x4, x5, hp)
noncomputable def F10_useSort_0 (x0 : Nat) (x1 : Int32) (x2 : Int32) (x3 : Int32) (hp : m_H) : Option (Int32 × m_H) :=
  F10_useSort_6 x0 x1 x2 x3 0 0 hp
noncomputable def F10_useSort (x0 : Nat) (x1 : Int32) (x2 : Int32) (x3 : Int32) (hp : m_H) : Option (Int32 × m_H) :=
  F10_useSort_0 x0 x1 x2 x3 hp
noncomputable def F10_useGoods_62 (x0 : Nat) (x1 : Int32) (x2 : Int32) (x3 : Int32) (x4 : Int32) (s0 : Int32) (s1 : Int32) (s2 : Int32) (s3 : Nat) (hp : m_H) : Option ((Int32 × m_H) ⊕ m_H) :=
  m_b (F10_useSort s3 s2 s1 s0 hp) fun z2 =>
  m_b (m_gr z2.2 x0 3 11) fun v3 =>
  m_b (F8_raise v3 x1 0 (x4 - z2.1) z2.2) fun h6 =>
  some (.inl ((x3 + 1), h6))
noncomputable def F10_useGoods_20b (x0 : Nat) (x1 : Int32) (x2 : Int32) (s : Int32 × m_H) : Option ((Int32 × m_H) ⊕ m_H) :=
  m_if (8 ≤ s.1) (
    some (.inr s.2)
  ) (
    m_b (m_gr s.2 x0 3 12) fun v2 =>
    m_b (F3_tradeRow x1 s.1 s.2) fun v5 =>
    m_b (F8_get v2 v5 0 s.2) fun v7 =>
    m_if (v7 ≤ 0) (
      some (.inl ((s.1 + 1), s.2))
    ) (
      m_if (x2 = 0) (
        F10_useGoods_62 x0 x1 x2 s.1 v7 v7 s.1 x1 x0 s.2
      ) (
        m_b (m_dv v7 2) fun v10 =>
        F10_useGoods_62 x0 x1 x2 s.1 v7 v10 s.1 x1 x0 s.2
      )
    )
  )
noncomputable def F10_useGoods_20 (x0 : Nat) (x1 : Int32) (x2 : Int32) (x3 : Int32) (hp : m_H) : Option m_H :=
  m_wh (fun s => F10_useGoods_20b x0 x1 x2 s) m_N (x3, hp)
noncomputable def F10_useGoods_17 (x0 : Nat) (x1 : Int32) (s0 : Int32) (hp : m_H) : Option m_H :=
  F10_useGoods_20 x0 x1 s0 0 hp
noncomputable def F10_useGoods_0 (x0 : Nat) (x1 : Int32) (hp : m_H) : Option m_H :=
  m_b (m_gr hp x0 3 11) fun v1 =>
  m_b (F8_get v1 x1 1 hp) fun v4 =>
  m_if (0 ≤ v4) (
    F10_useGoods_17 x0 x1 0 hp
  ) (
    F10_useGoods_17 x0 x1 1 hp
  )
noncomputable def F10_useGoods (x0 : Nat) (x1 : Int32) (hp : m_H) : Option m_H :=
  F10_useGoods_0 x0 x1 hp
noncomputable def F10_collectYields_2b (x0 : Nat) (s : Int32 × m_H) : Option ((Int32 × m_H) ⊕ m_H) :=
  m_b (m_gr s.2 x0 3 16) fun v1 =>
  m_b (m_gi s.2 v1 6 2) fun v3 =>
  m_if (v3 ≤ s.1) (
    some (.inr s.2)
  ) (
    m_b (m_gi s.2 x0 3 0) fun v6 =>
    m_b (m_gr s.2 x0 3 16) fun v8 =>
    m_b (F8_get v8 s.1 1 s.2) fun v11 =>
    m_b (m_gr s.2 x0 3 16) fun v12 =>
    m_b (F8_get v12 s.1 2 s.2) fun v15 =>
    m_if (v15 < (v6 - v11)) (
      some (.inl ((s.1 + 1), s.2))
    ) (
      m_b (m_gr s.2 x0 3 16) fun v17 =>
      m_b (m_gr s.2 x0 3 16) fun v19 =>
      m_b (F8_get v19 s.1 4 s.2) fun v22 =>
      m_b (F8_raise v17 s.1 5 v22 s.2) fun h24 =>
      some (.inl ((s.1 + 1), h24))
    )
  )
noncomputable def F10_collectYields_2 (x0 : Nat) (x1 : Int32) (hp : m_H) : Option m_H :=
  m_wh (fun s => F10_collectYields_2b x0 s) m_N (x1, hp)
noncomputable def F10_collectYields_0 (x0 : Nat) (hp : m_H) : Option m_H :=
  F10_collectYields_2 x0 0 hp
noncomputable def F10_collectYields (x0 : Nat) (hp : m_H) : Option m_H :=
  F10_collectYields_0 x0 hp
noncomputable def F10_pass_91b (x0 : Nat) (s : Int32 × m_H) : Option ((Int32 × m_H) ⊕ m_H) :=
  m_if (6 ≤ s.1) (
    m_b (F10_collectYields x0 s.2) fun h3 =>
    some (.inr h3)
  ) (
    m_b (m_gr s.2 x0 3 11) fun v4 =>
    m_b (F8_get v4 s.1 1 s.2) fun v7 =>
    m_if (0 ≤ v7) (
      some (.inl ((s.1 + 1), s.2))
    ) (
      m_b (m_gr s.2 x0 3 11) fun v9 =>
      m_b (F8_raise v9 s.1 1 1 s.2) fun h12 =>
      some (.inl ((s.1 + 1), h12))
    )
  )
noncomputable def F10_pass_91 (x0 : Nat) (x1 : Int32) (hp : m_H) : Option m_H :=
  m_wh (fun s => F10_pass_91b x0 s) m_N (x1, hp)
noncomputable def F10_pass_72b (x0 : Nat) (s : Int32 × m_H) : Option ((Int32 × m_H) ⊕ m_H) :=
  m_if (6 ≤ s.1) (
    (F10_pass_91 x0 1 s.2).map .inr
  ) (
    m_b (F10_useGoods x0 s.1 s.2) fun h3 =>
    some (.inl ((s.1 + 1), h3))
  )
noncomputable def F10_pass_72 (x0 : Nat) (x1 : Int32) (hp : m_H) : Option m_H :=
  m_wh (fun s => F10_pass_72b x0 s) m_N (x1, hp)
noncomputable def F10_pass_28b (x0 : Nat) (s : Int32 × m_H) : Option ((Int32 × m_H) ⊕ m_H) :=
  m_b (m_gr s.2 x0 3 10) fun v1 =>
  m_b (m_gi s.2 v1 6 2) fun v3 =>
  m_if (v3 ≤ s.1) (
    (F10_pass_72 x0 1 s.2).map .inr
  ) (
    m_b (m_gr s.2 x0 3 10) fun v6 =>
    m_b (F8_get v6 s.1 2 s.2) fun v9 =>
    m_if (v9 = 1) (
      m_b (F10_goBySea x0 s.1 s.2) fun h12 =>
      some (.inl ((s.1 + 1), h12))
    ) (
      m_if (v9 = 3) (
        m_b (F10_goBySea x0 s.1 s.2) fun h15 =>
        some (.inl ((s.1 + 1), h15))
      ) (
        some (.inl ((s.1 + 1), s.2))
      )
    )
  )
noncomputable def F10_pass_28 (x0 : Nat) (x1 : Int32) (hp : m_H) : Option m_H :=
  m_wh (fun s => F10_pass_28b x0 s) m_N (x1, hp)
noncomputable def F10_pass_0 (x0 : Nat) (hp : m_H) : Option m_H :=
  m_b (m_gi hp x0 3 0) fun v1 =>
  m_b (m_pf m_ft hp x0 3 0 (.int (v1 + 1))) fun h3 =>
  m_b (m_gi h3 x0 3 3) fun v5 =>
  m_if (v5 = 0) (
    m_b (F10_beginOrders x0 h3) fun h9 =>
    m_b (F10_workOnOrders x0 h9) fun h11 =>
    F10_pass_28 x0 0 h11
  ) (
    some h3
  )
noncomputable def F10_pass (x0 : Nat) (hp : m_H) : Option m_H :=
  F10_pass_0 x0 hp
noncomputable def F11_init_0 (x0 : Nat) (hp : m_H) : Option m_H :=
  m_b (m_nwo 7 hp) fun h1 =>
  m_b (F9_init (m_id hp) h1) fun h4 =>
  m_b (m_pf m_ft h4 x0 8 0 (.ref (m_id hp))) fun h5 =>
  m_b (m_nwo 5 h5) fun h7 =>
  m_b (m_gr h7 x0 8 0) fun v9 =>
  m_b (F7_init (m_id h5) v9 h7) fun h12 =>
  m_b (m_pf m_ft h12 x0 8 1 (.ref (m_id h5))) fun h13 =>
  m_b (m_nwo 2 h13) fun h15 =>
  m_b (F2_init (m_id h13) h15) fun h18 =>
  m_b (m_pf m_ft h18 x0 8 2 (.ref (m_id h13))) fun h19 =>
  m_b (m_nwo 4 h19) fun h21 =>
  m_b (F4_init (m_id h19) h21) fun h24 =>
  m_b (m_pf m_ft h24 x0 8 3 (.ref (m_id h19))) fun h25 =>
  m_b (m_nwo 3 h25) fun h27 =>
  m_b (F3_init (m_id h25) h27) fun h30 =>
  m_b (m_pf m_ft h30 x0 8 4 (.ref (m_id h25))) fun h31 =>
  m_b (m_nwo 3 h31) fun h33 =>
  m_b (F3_init (m_id h31) h33) fun h36 =>
  m_b (m_pf m_ft h36 x0 8 5 (.ref (m_id h31))) fun h37 =>
  m_b (m_nwo 3 h37) fun h39 =>
  m_b (F3_init (m_id h37) h39) fun h42 =>
  m_b (m_pf m_ft h42 x0 8 6 (.ref (m_id h37))) fun h43 =>
  m_b (m_nwo 1 h43) fun h45 =>
  m_b (F1_init (m_id h43) h45) fun h48 =>
  m_b (m_pf m_ft h48 x0 8 7 (.ref (m_id h43))) fun h49 =>
  m_b (m_nwo 1 h49) fun h51 =>
  m_b (F1_init (m_id h49) h51) fun h54 =>
  m_b (m_pf m_ft h54 x0 8 8 (.ref (m_id h49))) fun h55 =>
  m_b (m_pf m_ft h55 x0 8 11 (.int (-1))) fun h57 =>
  some h57
noncomputable def F11_init (x0 : Nat) (hp : m_H) : Option m_H :=
  m_gd (m_isO hp 8 x0) (F11_init_0 x0 hp)
noncomputable def F11_feed_0 (x0 : Nat) (x1 : Int32) (x2 : Int32) (x3 : Int32) (x4 : Int32) (x5 : Int32) (hp : m_H) : Option (Int32 × m_H) :=
  m_b (m_gr hp x0 8 0) fun v1 =>
  m_b (m_gi hp v1 7 1) fun v3 =>
  m_if (v3 ≤ 380) (
    m_b (m_gr hp x0 8 0) fun v6 =>
    m_b (F9_put v6 x1 hp) fun h9 =>
    m_b (m_gr h9 x0 8 0) fun v10 =>
    m_b (F9_put v10 x2 h9) fun h13 =>
    m_b (m_gr h13 x0 8 0) fun v14 =>
    m_b (F9_put v14 x3 h13) fun h17 =>
    m_b (m_gr h17 x0 8 0) fun v18 =>
    m_b (F9_put v18 x4 h17) fun h21 =>
    m_b (m_gr h21 x0 8 0) fun v22 =>
    m_b (F9_put v22 x5 h21) fun h25 =>
    m_b (m_gr h25 x0 8 0) fun v26 =>
    m_b (m_gi h25 v26 7 1) fun v28 =>
    some (v28, h25)
  ) (
    some ((-1), hp)
  )
noncomputable def F11_feed (x0 : Nat) (x1 : Int32) (x2 : Int32) (x3 : Int32) (x4 : Int32) (x5 : Int32) (hp : m_H) : Option (Int32 × m_H) :=
  m_gd (m_isO hp 8 x0) (F11_feed_0 x0 x1 x2 x3 x4 x5 hp)
noncomputable def F11_end_0 (x0 : Nat) (x1 : Int32) (hp : m_H) : Option (Int32 × m_H) :=
  m_if (x1 < 0) (
    some (0, hp)
  ) (
    m_b (m_gr hp x0 8 0) fun v2 =>
    m_b (m_gi hp v2 7 1) fun v4 =>
    m_if (x1 ≤ v4) (
      m_b (m_gr hp x0 8 0) fun v7 =>
      m_b (m_pf m_ft hp v7 7 1 (.int x1)) fun h9 =>
      some (1, h9)
    ) (
      some (0, hp)
    )
  )
noncomputable def F11_end (x0 : Nat) (x1 : Int32) (hp : m_H) : Option (Int32 × m_H) :=
  m_gd (m_isO hp 8 x0) (F11_end_0 x0 x1 hp)
noncomputable def F11_outside_0 (x0 : Int32) (x1 : Int32) (x2 : Int32) (hp : m_H) : Option Int32 :=
  m_if (x0 < x1) (
    some 1
  ) (
    m_if (x0 ≤ x2) (
      some 0
    ) (
      some 1
    )
  )
noncomputable def F11_outside (x0 : Int32) (x1 : Int32) (x2 : Int32) (hp : m_H) : Option Int32 :=
  F11_outside_0 x0 x1 x2 hp
noncomputable def F11_act_0 (x0 : Nat) (x1 : Int32) (hp : m_H) : Option ((Int32 ⊕ Nat) × m_H) :=
  m_b (m_gr hp x0 8 0) fun v1 =>
  m_b (F9_useUp v1 hp) fun h4 =>
  m_b (m_gr h4 x0 8 4) fun v5 =>
  m_b (m_gi h4 v5 3 0) fun v7 =>
  m_b (F11_outside x1 v7 500 h4) fun v10 =>
  m_if (v10 = 0) (
    m_b (m_gr h4 x0 8 1) fun v12 =>
    m_b (F7_read v12 h4) fun h15 =>
    m_b (m_gr h15 x0 8 1) fun v16 =>
    m_b (m_gi h15 v16 5 3) fun v18 =>
    m_b (m_pf m_ft h15 x0 8 11 (.int v18)) fun h20 =>
    m_b (m_gi h20 x0 8 11) fun v22 =>
    m_if (v22 = (-1)) (
      m_b (m_gr h20 x0 8 4) fun v25 =>
      m_b (m_gi h20 v25 3 5) fun v27 =>
      m_if (v27 < 10) (
        m_b (m_nwo 0 h20) fun h30 =>
        m_b (m_gr h30 x0 8 1) fun v32 =>
        m_b (F0_init (m_id h20) x1 v32 h30) fun h35 =>
        m_b (m_gr h35 x0 8 4) fun v36 =>
        m_b (F3_addAct v36 (m_id h20) h35) fun h39 =>
        m_b (m_gi h39 (m_id h20) 0 1) fun v40 =>
        some (.inl v40, h39)
      ) (
        some (.inr 2, (m_junk h20))
      )
    ) (
      some (.inr 1, (m_junk h20))
    )
  ) (
    some (.inr 1, (m_junk h4))
  )
noncomputable def F11_act (x0 : Nat) (x1 : Int32) (hp : m_H) : Option ((Int32 ⊕ Nat) × m_H) :=
  m_gd (m_isO hp 8 x0) (F11_act_0 x0 x1 hp)
noncomputable def F11_fault_0 (x0 : Nat) (hp : m_H) : Option Int32 :=
  m_b (m_gi hp x0 8 11) fun v1 =>
  some v1
noncomputable def F11_fault (x0 : Nat) (hp : m_H) : Option Int32 :=
  m_gd (m_isO hp 8 x0) (F11_fault_0 x0 hp)
noncomputable def F11_testSort_0 (x0 : Int32) (hp : m_H) : Option ((Unit ⊕ Nat) × m_H) :=
  m_b (F11_outside x0 0 7 hp) fun v2 =>
  m_if (v2 = 0) (
    some (.inl (), hp)
  ) (
    some (.inr 0, (m_junk hp))
  )
noncomputable def F11_testSort (x0 : Int32) (hp : m_H) : Option ((Unit ⊕ Nat) × m_H) :=
  F11_testSort_0 x0 hp
noncomputable def F11_sort_0 (x0 : Nat) (x1 : Int32) (x2 : Int32) (x3 : Int32) (x4 : Int32) (x5 : Int32) (hp : m_H) : Option ((Unit ⊕ Nat) × m_H) :=
  m_b (F11_testSort x1 hp) fun z2 =>
  m_sx z2.1 (fun _ =>
    m_b (F11_outside x2 1 20 z2.2) fun v7 =>
    m_if (v7 = 0) (
      m_b (F11_outside x3 0 50 z2.2) fun v10 =>
      m_if (v10 = 0) (
        m_b (F11_outside x4 0 50 z2.2) fun v13 =>
        m_if (v13 = 0) (
          m_b (F11_outside x5 1 9 z2.2) fun v16 =>
          m_if (v16 = 0) (
            m_b (m_gr z2.2 x0 8 4) fun v18 =>
            m_b (m_gr z2.2 v18 3 6) fun v20 =>
            m_b (F8_set v20 x1 0 x2 z2.2) fun h23 =>
            m_b (m_gr h23 x0 8 4) fun v24 =>
            m_b (m_gr h23 v24 3 6) fun v26 =>
            m_b (F8_set v26 x1 1 x3 h23) fun h29 =>
            m_b (m_gr h29 x0 8 4) fun v30 =>
            m_b (m_gr h29 v30 3 6) fun v32 =>
            m_b (F8_set v32 x1 2 x4 h29) fun h35 =>
            m_b (m_gr h35 x0 8 4) fun v36 =>
            m_b (m_gr h35 v36 3 6) fun v38 =>
            m_b (F8_set v38 x1 3 x5 h35) fun h41 =>
            some (.inl (), h41)
          ) (
            some (.inr 1, (m_junk z2.2))
          )
        ) (
          some (.inr 1, (m_junk z2.2))
        )
      ) (
        some (.inr 1, (m_junk z2.2))
      )
    ) (
      some (.inr 1, (m_junk z2.2))
    )
  ) fun E4 =>
  some (.inr E4, z2.2)
noncomputable def F11_sort (x0 : Nat) (x1 : Int32) (x2 : Int32) (x3 : Int32) (x4 : Int32) (x5 : Int32) (hp : m_H) : Option ((Unit ⊕ Nat) × m_H) :=
  m_gd (m_isO hp 8 x0) (F11_sort_0 x0 x1 x2 x3 x4 x5 hp)
noncomputable def F11_price_0 (x0 : Nat) (x1 : Int32) (x2 : Int32) (x3 : Int32) (hp : m_H) : Option ((Int32 ⊕ Nat) × m_H) :=
  m_b (F11_testSort x1 hp) fun z2 =>
  m_sx z2.1 (fun _ =>
    m_b (m_gr z2.2 x0 8 4) fun v6 =>
    m_b (m_gi z2.2 v6 3 0) fun v8 =>
    m_b (F11_outside x2 v8 500 z2.2) fun v11 =>
    m_if (v11 = 0) (
      m_b (F11_outside x3 0 1000 z2.2) fun v14 =>
      m_if (v14 = 0) (
        m_b (m_gr z2.2 x0 8 4) fun v16 =>
        m_b (m_gr z2.2 v16 3 7) fun v18 =>
        m_b (F3_tell v18 x1 x2 x3 z2.2) fun z21 =>
        some (.inl z21.1, z21.2)
      ) (
        some (.inr 1, (m_junk z2.2))
      )
    ) (
      some (.inr 1, (m_junk z2.2))
    )
  ) fun E4 =>
  some (.inr E4, z2.2)
noncomputable def F11_price (x0 : Nat) (x1 : Int32) (x2 : Int32) (x3 : Int32) (hp : m_H) : Option ((Int32 ⊕ Nat) × m_H) :=
  m_gd (m_isO hp 8 x0) (F11_price_0 x0 x1 x2 x3 hp)
noncomputable def F11_cost_0 (x0 : Nat) (x1 : Int32) (x2 : Int32) (hp : m_H) : Option ((Int32 ⊕ Nat) × m_H) :=
  m_b (F11_testSort x1 hp) fun z2 =>
  m_sx z2.1 (fun _ =>
    m_b (m_gr z2.2 x0 8 4) fun v6 =>
    m_b (F3_priceIn v6 x1 x2 z2.2) fun v9 =>
    some (.inl v9, z2.2)
  ) fun E4 =>
  some (.inr E4, z2.2)
noncomputable def F11_cost (x0 : Nat) (x1 : Int32) (x2 : Int32) (hp : m_H) : Option ((Int32 ⊕ Nat) × m_H) :=
  m_gd (m_isO hp 8 x0) (F11_cost_0 x0 x1 x2 hp)
noncomputable def F11_works_0 (x0 : Nat) (x1 : Int32) (x2 : Int32) (hp : m_H) : Option ((Int32 ⊕ Nat) × m_H) :=
  m_b (m_gr hp x0 8 4) fun v1 =>
  m_b (m_gi hp v1 3 1) fun v3 =>
  m_b (F11_outside x1 0 (1000000 - v3) hp) fun v6 =>
  m_if (v6 = 0) (
    m_b (F11_outside x2 0 1000000 hp) fun v9 =>
    m_if (v9 = 0) (
      m_b (m_gr hp x0 8 4) fun v11 =>
      m_b (m_gi hp v11 3 1) fun v13 =>
      m_b (m_pf m_ft hp v11 3 1 (.int (v13 + x1))) fun h15 =>
      m_b (m_gr h15 x0 8 4) fun v17 =>
      m_b (m_pf m_ft h15 v17 3 2 (.int x2)) fun h19 =>
      m_b (m_gr h19 x0 8 4) fun v21 =>
      m_b (m_gi h19 v21 3 1) fun v23 =>
      some (.inl v23, h19)
    ) (
      some (.inr 1, (m_junk hp))
    )
  ) (
    some (.inr 1, (m_junk hp))
  )
noncomputable def F11_works (x0 : Nat) (x1 : Int32) (x2 : Int32) (hp : m_H) : Option ((Int32 ⊕ Nat) × m_H) :=
  m_gd (m_isO hp 8 x0) (F11_works_0 x0 x1 x2 hp)
noncomputable def F11_testCrates_0 (x0 : Int32) (hp : m_H) : Option ((Unit ⊕ Nat) × m_H) :=
  m_b (F11_outside x0 1 1000 hp) fun v2 =>
  m_if (v2 = 0) (
    some (.inl (), hp)
  ) (
    some (.inr 1, (m_junk hp))
  )
noncomputable def F11_testCrates (x0 : Int32) (hp : m_H) : Option ((Unit ⊕ Nat) × m_H) :=
  F11_testCrates_0 x0 hp
noncomputable def F11_testRoomForLot_0 (x0 : Nat) (hp : m_H) : Option ((Unit ⊕ Nat) × m_H) :=
  m_b (m_gr hp x0 8 4) fun v1 =>
  m_b (m_gr hp v1 3 8) fun v3 =>
  m_b (F8_full v3 hp) fun v6 =>
  m_if (v6 = 0) (
    some (.inl (), hp)
  ) (
    some (.inr 2, (m_junk hp))
  )
noncomputable def F11_testRoomForLot (x0 : Nat) (hp : m_H) : Option ((Unit ⊕ Nat) × m_H) :=
  m_gd (m_isO hp 8 x0) (F11_testRoomForLot_0 x0 hp)
noncomputable def F11_testNotEnded_0 (x0 : Nat) (hp : m_H) : Option ((Unit ⊕ Nat) × m_H) :=
  m_b (m_gr hp x0 8 4) fun v1 =>
  m_b (m_gi hp v1 3 3) fun v3 =>
  m_if (v3 = 0) (
    some (.inl (), hp)
  ) (
    some (.inr 3, (m_junk hp))
  )
noncomputable def F11_testNotEnded (x0 : Nat) (hp : m_H) : Option ((Unit ⊕ Nat) × m_H) :=
  m_gd (m_isO hp 8 x0) (F11_testNotEnded_0 x0 hp)
noncomputable def F11_order_0 (x0 : Nat) (x1 : Int32) (x2 : Int32) (hp : m_H) : Option ((Int32 ⊕ Nat) × m_H) :=
  m_b (F11_testSort x1 hp) fun z2 =>
  m_sx z2.1 (fun _ =>
    m_b (F11_testCrates x2 z2.2) fun z7 =>
    m_sx z7.1 (fun _ =>
      m_b (F11_testRoomForLot x0 z7.2) fun z12 =>
      m_sx z12.1 (fun _ =>
        m_b (F11_testNotEnded x0 z12.2) fun z17 =>
        m_sx z17.1 (fun _ =>
          m_b (m_gr z17.2 x0 8 4) fun v21 =>
          m_b (F3_addLot v21 x1 x2 0 0 z17.2) fun z24 =>
          some (.inl z24.1, z24.2)
        ) fun E19 =>
        some (.inr E19, z17.2)
      ) fun E14 =>
      some (.inr E14, z12.2)
    ) fun E9 =>
    some (.inr E9, z7.2)
  ) fun E4 =>
  some (.inr E4, z2.2)
noncomputable def F11_order (x0 : Nat) (x1 : Int32) (x2 : Int32) (hp : m_H) : Option ((Int32 ⊕ Nat) × m_H) :=
  m_gd (m_isO hp 8 x0) (F11_order_0 x0 x1 x2 hp)
noncomputable def F11_testLot_0 (x0 : Nat) (x1 : Int32) (hp : m_H) : Option ((Unit ⊕ Nat) × m_H) :=
  m_b (m_gr hp x0 8 4) fun v1 =>
  m_b (m_gr hp v1 3 8) fun v3 =>
  m_b (F8_has v3 x1 hp) fun v6 =>
  m_if (v6 = 0) (
    some (.inr 0, (m_junk hp))
  ) (
    some (.inl (), hp)
  )
noncomputable def F11_testLot (x0 : Nat) (x1 : Int32) (hp : m_H) : Option ((Unit ⊕ Nat) × m_H) :=
  m_gd (m_isO hp 8 x0) (F11_testLot_0 x0 x1 hp)
noncomputable def F11_lot_0 (x0 : Nat) (x1 : Int32) (x2 : Int32) (hp : m_H) : Option ((Int32 ⊕ Nat) × m_H) :=
  m_b (F11_testLot x0 x1 hp) fun z2 =>
  m_sx z2.1 (fun _ =>
    m_b (F11_outside x2 0 18 z2.2) fun v7 =>
    m_if (v7 = 0) (
      m_b (m_gr z2.2 x0 8 4) fun v9 =>
      m_b (m_gr z2.2 v9 3 8) fun v11 =>
      m_b (F8_get v11 x1 x2 z2.2) fun v14 =>
      some (.inl v14, z2.2)
    ) (
      some (.inr 4, (m_junk z2.2))
    )
  ) fun E4 =>
  some (.inr E4, z2.2)
noncomputable def F11_lot (x0 : Nat) (x1 : Int32) (x2 : Int32) (hp : m_H) : Option ((Int32 ⊕ Nat) × m_H) :=
  m_gd (m_isO hp 8 x0) (F11_lot_0 x0 x1 x2 hp)
noncomputable def F11_testLand_0 (x0 : Int32) (hp : m_H) : Option ((Unit ⊕ Nat) × m_H) :=
  m_b (F11_outside x0 0 5 hp) fun v2 =>
  m_if (v2 = 0) (
    some (.inl (), hp)
  ) (
    some (.inr 0, (m_junk hp))
  )
noncomputable def F11_testLand (x0 : Int32) (hp : m_H) : Option ((Unit ⊕ Nat) × m_H) :=
  F11_testLand_0 x0 hp
noncomputable def F11_testAbroad_0 (x0 : Int32) (hp : m_H) : Option ((Unit ⊕ Nat) × m_H) :=
  m_if (x0 = 0) (
    some (.inr 1, (m_junk hp))
  ) (
    some (.inl (), hp)
  )
noncomputable def F11_testAbroad (x0 : Int32) (hp : m_H) : Option ((Unit ⊕ Nat) × m_H) :=
  F11_testAbroad_0 x0 hp
noncomputable def F11_ask_0 (x0 : Nat) (x1 : Int32) (x2 : Int32) (x3 : Int32) (x4 : Int32) (hp : m_H) : Option ((Int32 ⊕ Nat) × m_H) :=
  m_b (F11_testLand x1 hp) fun z2 =>
  m_sx z2.1 (fun _ =>
    m_b (F11_testSort x2 z2.2) fun z7 =>
    m_sx z7.1 (fun _ =>
      m_b (F11_testAbroad x1 z7.2) fun z12 =>
      m_sx z12.1 (fun _ =>
        m_b (F11_testCrates x3 z12.2) fun z17 =>
        m_sx z17.1 (fun _ =>
          m_b (F11_outside x4 0 9999 z17.2) fun v22 =>
          m_if (v22 = 0) (
            m_b (m_gr z17.2 x0 8 4) fun v24 =>
            m_b (m_gr z17.2 v24 3 9) fun v26 =>
            m_b (F8_full v26 z17.2) fun v29 =>
            m_if (v29 = 0) (
              m_b (m_gr z17.2 x0 8 4) fun v31 =>
              m_b (m_gr z17.2 v31 3 9) fun v33 =>
              m_b (F8_add v33 z17.2) fun z36 =>
              m_b (m_gr z36.2 x0 8 4) fun v37 =>
              m_b (m_gr z36.2 v37 3 9) fun v39 =>
              m_b (F8_set v39 z36.1 0 x1 z36.2) fun h42 =>
              m_b (m_gr h42 x0 8 4) fun v43 =>
              m_b (m_gr h42 v43 3 9) fun v45 =>
              m_b (F8_set v45 z36.1 1 x2 h42) fun h48 =>
              m_b (m_gr h48 x0 8 4) fun v49 =>
              m_b (m_gr h48 v49 3 9) fun v51 =>
              m_b (F8_set v51 z36.1 2 x3 h48) fun h54 =>
              m_b (m_gr h54 x0 8 4) fun v55 =>
              m_b (m_gr h54 v55 3 9) fun v57 =>
              m_b (F8_set v57 z36.1 3 x4 h54) fun h60 =>
              some (.inl z36.1, h60)
            ) (
              some (.inr 2, (m_junk z17.2))
            )
          ) (
            some (.inr 1, (m_junk z17.2))
          )
        ) fun E19 =>
        some (.inr E19, z17.2)
      ) fun E14 =>
      some (.inr E14, z12.2)
    ) fun E9 =>
    some (.inr E9, z7.2)
  ) fun E4 =>
  some (.inr E4, z2.2)
noncomputable def F11_ask (x0 : Nat) (x1 : Int32) (x2 : Int32) (x3 : Int32) (x4 : Int32) (hp : m_H) : Option ((Int32 ⊕ Nat) × m_H) :=
  m_gd (m_isO hp 8 x0) (F11_ask_0 x0 x1 x2 x3 x4 hp)
noncomputable def F11_weighed_0 (x0 : Nat) (x1 : Int32) (hp : m_H) : Option (Int32 × m_H) :=
  m_swt (m_swi 0 2 x1) (
    m_b (m_gr hp x0 8 2) fun v3 =>
    m_b (F2_greatestOwe v3 hp) fun z6 =>
    some (z6.1, z6.2)
  ) fun w1 =>
  m_if (w1 = 0) (
    m_b (m_gr hp x0 8 2) fun v8 =>
    m_b (F2_sumOfMarks v8 hp) fun z11 =>
    some (z11.1, z11.2)
  ) (
   m_if (w1 = 1) (
     m_b (m_gr hp x0 8 2) fun v13 =>
     m_b (F2_why v13 1 hp) fun z16 =>
     some (z16.1, z16.2)
   ) (
    m_if (w1 = 2) (
      m_b (m_gr hp x0 8 2) fun v18 =>
      m_b (F2_why v18 0 hp) fun z21 =>
      some (z21.1, z21.2)
    ) (
     none
    )
   )
  )
noncomputable def F11_weighed (x0 : Nat) (x1 : Int32) (hp : m_H) : Option (Int32 × m_H) :=
  m_gd (m_isO hp 8 x0) (F11_weighed_0 x0 x1 hp)
noncomputable def F11_weigh_0 (x0 : Nat) (x1 : Int32) (x2 : Int32) (hp : m_H) : Option ((Int32 ⊕ Nat) × m_H) :=
  m_b (m_gr hp x0 8 4) fun v1 =>
  m_b (m_gr hp v1 3 9) fun v3 =>
  m_b (F8_has v3 x1 hp) fun v6 =>
  m_if (v6 = 0) (
    some (.inr 0, (m_junk hp))
  ) (
    m_b (F11_outside x2 0 5 hp) fun v9 =>
    m_if (v9 = 0) (
      m_if (x2 = 3) (
        m_b (m_gr hp x0 8 4) fun v31 =>
        m_b (m_gr hp v31 3 9) fun v33 =>
        m_b (F8_get v33 x1 4 hp) fun v36 =>
        some (.inl v36, hp)
      ) (
        m_if (x2 = 4) (
          m_b (m_gr hp x0 8 4) fun v27 =>
          m_b (F3_lackOf v27 x1 hp) fun v30 =>
          some (.inl v30, hp)
        ) (
          m_b (m_gr hp x0 8 2) fun v13 =>
          m_b (m_gr hp x0 8 4) fun v15 =>
          m_b (m_gr hp x0 8 4) fun v17 =>
          m_b (m_gr hp v17 3 9) fun v19 =>
          m_b (F8_get v19 x1 2 hp) fun v22 =>
          m_b (F2_hear v13 v15 x1 v22 hp) fun h24 =>
          m_b (F11_weighed x0 x2 h24) fun z26 =>
          some (.inl z26.1, z26.2)
        )
      )
    ) (
      some (.inr 4, (m_junk hp))
    )
  )
noncomputable def F11_weigh (x0 : Nat) (x1 : Int32) (x2 : Int32) (hp : m_H) : Option ((Int32 ⊕ Nat) × m_H) :=
  m_gd (m_isO hp 8 x0) (F11_weigh_0 x0 x1 x2 hp)
noncomputable def F11_remember_0 (x0 : Nat) (hp : m_H) : Option m_H :=
  m_b (m_gr hp x0 8 5) fun v1 =>
  m_b (m_gr hp x0 8 4) fun v3 =>
  m_b (F3_copyFrom v1 v3 hp) fun h6 =>
  m_b (m_pf m_ft h6 x0 8 9 (.int 1)) fun h7 =>
  some h7
noncomputable def F11_remember (x0 : Nat) (hp : m_H) : Option m_H :=
  m_gd (m_isO hp 8 x0) (F11_remember_0 x0 hp)
noncomputable def F11_allot_130 (x0 : Nat) (x2 : Int32) (x3 : Int32) (x4 : Int32) (x5 : Int32) (x6 : Int32) (hp : m_H) : Option ((Int32 × Int32 × Int32 × m_H) ⊕ ((Int32 ⊕ Nat) × m_H)) :=
  m_b (m_gr hp x0 8 4) fun v1 =>
  m_b (m_gr hp x0 8 2) fun v3 =>
  m_b (F2_greatestOwe v3 hp) fun z6 =>
  m_b (F3_lend v1 x5 x6 z6.1 z6.2) fun h8 =>
  some (.inl ((x2 - x6), (x3 + x6), (x4 + 1), h8))
noncomputable def F11_allot_34b (x0 : Nat) (s : Int32 × Int32 × Int32 × m_H) : Option ((Int32 × Int32 × Int32 × m_H) ⊕ ((Int32 ⊕ Nat) × m_H)) :=
  m_if (60 ≤ s.2.2.1) (
    some (.inr (.inl s.2.1, s.2.2.2))
  ) (
    m_if (s.1 ≤ 0) (
      some (.inr (.inl s.2.1, s.2.2.2))
    ) (
      m_b (m_gr s.2.2.2 x0 8 4) fun v3 =>
      m_b (m_gr s.2.2.2 v3 3 8) fun v5 =>
      m_b (F8_full v5 s.2.2.2) fun v8 =>
      m_if (v8 = 0) (
        m_b (m_gr s.2.2.2 x0 8 2) fun v10 =>
        m_b (m_gr s.2.2.2 x0 8 4) fun v12 =>
        m_b (F2_nextCalled v10 v12 s.2.2.2) fun z15 =>
        m_if (z15.1 = (-1)) (
          some (.inr (.inl s.2.1, z15.2))
        ) (
          m_b (m_gr z15.2 x0 8 4) fun v17 =>
          m_b (F3_lackOf v17 z15.1 z15.2) fun v20 =>
          m_b (m_gr z15.2 x0 8 2) fun v21 =>
          m_b (m_gr z15.2 x0 8 4) fun v23 =>
          m_b (F2_hear v21 v23 z15.1 (m_min s.1 v20) z15.2) fun h26 =>
          m_b (m_gr h26 x0 8 2) fun v27 =>
          m_b (F2_why v27 0 h26) fun z30 =>
          m_if (z30.1 = (-1)) (
            some (.inl (s.1, s.2.1, (s.2.2.1 + 1), z30.2))
          ) (
            m_if (s.2.1 = 0) (
              m_b (F11_remember x0 z30.2) fun h34 =>
              F11_allot_130 x0 s.1 s.2.1 s.2.2.1 z15.1 (m_min s.1 v20) h34
            ) (
              F11_allot_130 x0 s.1 s.2.1 s.2.2.1 z15.1 (m_min s.1 v20) z30.2
            )
          )
        )
      ) (
        some (.inr (.inl s.2.1, s.2.2.2))
      )
    )
  )
noncomputable def F11_allot_34 (x0 : Nat) (x2 : Int32) (x3 : Int32) (x4 : Int32) (hp : m_H) : Option ((Int32 ⊕ Nat) × m_H) :=
  m_wh (fun s => F11_allot_34b x0 s) m_N (x2, x3, x4, hp)
noncomputable def F11_allot_0 (x0 : Nat) (x1 : Int32) (hp : m_H) : Option ((Int32 ⊕ Nat) × m_H) :=
  m_b (F11_testSort x1 hp) fun z2 =>
  m_sx z2.1 (fun _ =>
    m_b (F11_testNotEnded x0 z2.2) fun z7 =>
    m_sx z7.1 (fun _ =>
      m_b (m_gr z7.2 x0 8 2) fun v11 =>
      m_b (m_gr z7.2 x0 8 4) fun v13 =>
      m_b (F2_call v11 v13 x1 z7.2) fun h16 =>
      m_b (m_gr h16 x0 8 4) fun v17 =>
      m_b (F3_stockInPort v17 x1 h16) fun v20 =>
      F11_allot_34 x0 v20 0 0 h16
    ) fun E9 =>
    some (.inr E9, z7.2)
  ) fun E4 =>
  some (.inr E4, z2.2)
noncomputable def F11_allot (x0 : Nat) (x1 : Int32) (hp : m_H) : Option ((Int32 ⊕ Nat) × m_H) :=
  m_gd (m_isO hp 8 x0) (F11_allot_0 x0 x1 hp)
noncomputable def F11_label_0 (x0 : Nat) (x1 : Int32) (x2 : Int32) (hp : m_H) : Option ((Int32 ⊕ Nat) × m_H) :=
  m_b (F11_testLot x0 x1 hp) fun z2 =>
  m_sx z2.1 (fun _ =>
    m_b (F11_outside x2 0 9 z2.2) fun v7 =>
    m_if (v7 = 0) (
      m_b (m_gr z2.2 x0 8 4) fun v9 =>
      m_b (F3_isLent v9 x1 z2.2) fun v12 =>
      m_if (v12 = 0) (
        some (.inl 0, z2.2)
      ) (
        m_b (m_gr z2.2 x0 8 4) fun v14 =>
        m_b (F3_crates v14 x1 1 z2.2) fun v17 =>
        m_if (v17 = 0) (
          some (.inl 0, z2.2)
        ) (
          m_b (m_gr z2.2 x0 8 4) fun v19 =>
          m_b (m_gr z2.2 v19 3 8) fun v21 =>
          m_b (F8_get v21 x1 7 z2.2) fun v24 =>
          m_if (v24 = x2) (
            some (.inl 0, z2.2)
          ) (
            m_b (m_gr z2.2 x0 8 4) fun v26 =>
            m_b (m_gr z2.2 v26 3 8) fun v28 =>
            m_b (F8_set v28 x1 7 x2 z2.2) fun h31 =>
            some (.inl 1, h31)
          )
        )
      )
    ) (
      some (.inr 1, (m_junk z2.2))
    )
  ) fun E4 =>
  some (.inr E4, z2.2)
noncomputable def F11_label (x0 : Nat) (x1 : Int32) (x2 : Int32) (hp : m_H) : Option ((Int32 ⊕ Nat) × m_H) :=
  m_gd (m_isO hp 8 x0) (F11_label_0 x0 x1 x2 hp)
noncomputable def F11_give_138 (x0 : Nat) (x1 : Int32) (x2 : Int32) (x3 : Int32) (x6 : Int32) (hp : m_H) : Option ((Int32 ⊕ Nat) × m_H) :=
  m_b (F11_remember x0 hp) fun h2 =>
  m_b (m_gr h2 x0 8 4) fun v3 =>
  m_if (x6 = 0) (
    m_b (F3_giveOn v3 x1 x2 x3 1 h2) fun z9 =>
    some (.inl z9.1, z9.2)
  ) (
    m_b (F3_giveOn v3 x1 x2 x3 0 h2) fun z7 =>
    some (.inl z7.1, z7.2)
  )
noncomputable def F11_give_124 (x0 : Nat) (x1 : Int32) (x2 : Int32) (x3 : Int32) (x4 : Int32) (s0 : Int32) (hp : m_H) : Option ((Int32 ⊕ Nat) × m_H) :=
  m_if (s0 = 0) (
    m_if (x4 = 0) (
      some (.inl (-1), hp)
    ) (
      F11_give_138 x0 x1 x2 x3 s0 hp
    )
  ) (
    F11_give_138 x0 x1 x2 x3 s0 hp
  )
noncomputable def F11_give_0 (x0 : Nat) (x1 : Int32) (x2 : Int32) (x3 : Int32) (x4 : Int32) (hp : m_H) : Option ((Int32 ⊕ Nat) × m_H) :=
  m_b (F11_testLot x0 x1 hp) fun z2 =>
  m_sx z2.1 (fun _ =>
    m_b (F11_testLand x3 z2.2) fun z7 =>
    m_sx z7.1 (fun _ =>
      m_b (F11_testNotEnded x0 z7.2) fun z12 =>
      m_sx z12.1 (fun _ =>
        m_b (m_gr z12.2 x0 8 4) fun v16 =>
        m_b (m_gr z12.2 v16 3 8) fun v18 =>
        m_b (F8_get v18 x1 2 z12.2) fun v21 =>
        m_b (m_gr z12.2 x0 8 4) fun v22 =>
        m_b (F3_isLent v22 x1 z12.2) fun v25 =>
        m_if (v25 = 0) (
          some (.inl (-1), z12.2)
        ) (
          m_b (m_gr z12.2 x0 8 4) fun v27 =>
          m_b (F3_crates v27 x1 3 z12.2) fun v30 =>
          m_b (F11_outside x2 1 v30 z12.2) fun v32 =>
          m_if (v32 = 0) (
            m_if (x3 = 0) (
              some (.inl (-1), z12.2)
            ) (
              m_if (x3 = v21) (
                some (.inl (-1), z12.2)
              ) (
                m_b (m_gr z12.2 x0 8 4) fun v36 =>
                m_b (m_gr z12.2 v36 3 8) fun v38 =>
                m_b (F8_full v38 z12.2) fun v41 =>
                m_if (v41 = 0) (
                  m_b (m_gr z12.2 x0 8 2) fun v43 =>
                  m_b (m_gr z12.2 x0 8 4) fun v45 =>
                  m_b (m_gr z12.2 x0 8 4) fun v47 =>
                  m_b (m_gr z12.2 v47 3 8) fun v49 =>
                  m_b (F8_get v49 x1 0 z12.2) fun v52 =>
                  m_b (F2_gather v43 v45 v21 v52 x2 x3 z12.2) fun h54 =>
                  m_b (m_gr h54 x0 8 2) fun v55 =>
                  m_b (F2_why v55 3 h54) fun z58 =>
                  m_if (z58.1 = (-1)) (
                    F11_give_124 x0 x1 x2 x3 x4 0 z58.2
                  ) (
                    F11_give_124 x0 x1 x2 x3 x4 1 z58.2
                  )
                ) (
                  some (.inl (-1), z12.2)
                )
              )
            )
          ) (
            some (.inl (-1), z12.2)
          )
        )
      ) fun E14 =>
      some (.inr E14, z12.2)
    ) fun E9 =>
    some (.inr E9, z7.2)
  ) fun E4 =>
  some (.inr E4, z2.2)
noncomputable def F11_give (x0 : Nat) (x1 : Int32) (x2 : Int32) (x3 : Int32) (x4 : Int32) (hp : m_H) : Option ((Int32 ⊕ Nat) × m_H) :=
  m_gd (m_isO hp 8 x0) (F11_give_0 x0 x1 x2 x3 x4 hp)
noncomputable def F11_back_0 (x0 : Nat) (x1 : Int32) (x2 : Int32) (x3 : Int32) (hp : m_H) : Option ((Int32 ⊕ Nat) × m_H) :=
  m_b (F11_testLand x1 hp) fun z2 =>
  m_sx z2.1 (fun _ =>
    m_b (F11_testSort x2 z2.2) fun z7 =>
    m_sx z7.1 (fun _ =>
      m_b (F11_testAbroad x1 z7.2) fun z12 =>
      m_sx z12.1 (fun _ =>
        m_b (F11_testCrates x3 z12.2) fun z17 =>
        m_sx z17.1 (fun _ =>
          m_b (F11_testRoomForLot x0 z17.2) fun z22 =>
          m_sx z22.1 (fun _ =>
            m_b (F11_testNotEnded x0 z22.2) fun z27 =>
            m_sx z27.1 (fun _ =>
              m_b (m_gr z27.2 x0 8 4) fun v31 =>
              m_b (F3_addLot v31 x2 x3 x1 3 z27.2) fun z34 =>
              m_b (m_gr z34.2 x0 8 4) fun v35 =>
              m_b (m_gr z34.2 v35 3 8) fun v37 =>
              m_b (F8_set v37 z34.1 3 1 z34.2) fun h40 =>
              some (.inl z34.1, h40)
            ) fun E29 =>
            some (.inr E29, z27.2)
          ) fun E24 =>
          some (.inr E24, z22.2)
        ) fun E19 =>
        some (.inr E19, z17.2)
      ) fun E14 =>
      some (.inr E14, z12.2)
    ) fun E9 =>
    some (.inr E9, z7.2)
  ) fun E4 =>
  some (.inr E4, z2.2)
noncomputable def F11_back (x0 : Nat) (x1 : Int32) (x2 : Int32) (x3 : Int32) (hp : m_H) : Option ((Int32 ⊕ Nat) × m_H) :=
  m_gd (m_isO hp 8 x0) (F11_back_0 x0 x1 x2 x3 hp)
noncomputable def F11_ship_0 (x0 : Nat) (x1 : Int32) (x2 : Int32) (hp : m_H) : Option ((Int32 ⊕ Nat) × m_H) :=
  m_b (F11_outside x1 1 5000 hp) fun v2 =>
  m_if (v2 = 0) (
    m_b (F11_outside x2 0 99 hp) fun v5 =>
    m_if (v5 = 0) (
      m_b (m_gr hp x0 8 4) fun v7 =>
      m_b (m_gr hp v7 3 10) fun v9 =>
      m_b (F8_full v9 hp) fun v12 =>
      m_if (v12 = 0) (
        m_b (m_gr hp x0 8 4) fun v14 =>
        m_b (m_gr hp v14 3 10) fun v16 =>
        m_b (F8_add v16 hp) fun z19 =>
        m_b (m_gr z19.2 x0 8 4) fun v20 =>
        m_b (m_gr z19.2 v20 3 10) fun v22 =>
        m_b (F8_set v22 z19.1 0 x1 z19.2) fun h25 =>
        m_b (m_gr h25 x0 8 4) fun v26 =>
        m_b (m_gr h25 v26 3 10) fun v28 =>
        m_b (F8_set v28 z19.1 1 x2 h25) fun h31 =>
        m_b (m_gr h31 x0 8 4) fun v32 =>
        m_b (m_gr h31 v32 3 10) fun v34 =>
        m_b (F8_set v34 z19.1 5 (-1) h31) fun h37 =>
        some (.inl z19.1, h37)
      ) (
        some (.inr 2, (m_junk hp))
      )
    ) (
      some (.inr 1, (m_junk hp))
    )
  ) (
    some (.inr 1, (m_junk hp))
  )
noncomputable def F11_ship (x0 : Nat) (x1 : Int32) (x2 : Int32) (hp : m_H) : Option ((Int32 ⊕ Nat) × m_H) :=
  m_gd (m_isO hp 8 x0) (F11_ship_0 x0 x1 x2 hp)
noncomputable def F11_way_0 (x0 : Nat) (x1 : Int32) (x2 : Int32) (hp : m_H) : Option ((Unit ⊕ Nat) × m_H) :=
  m_b (F11_testLand x1 hp) fun z2 =>
  m_sx z2.1 (fun _ =>
    m_b (F11_testAbroad x1 z2.2) fun z7 =>
    m_sx z7.1 (fun _ =>
      m_b (F11_outside x2 1 6 z7.2) fun v12 =>
      m_if (v12 = 0) (
        m_b (m_gr z7.2 x0 8 4) fun v14 =>
        m_b (m_gr z7.2 v14 3 11) fun v16 =>
        m_b (F8_set v16 x1 2 x2 z7.2) fun h19 =>
        some (.inl (), h19)
      ) (
        some (.inr 1, (m_junk z7.2))
      )
    ) fun E9 =>
    some (.inr E9, z7.2)
  ) fun E4 =>
  some (.inr E4, z2.2)
noncomputable def F11_way (x0 : Nat) (x1 : Int32) (x2 : Int32) (hp : m_H) : Option ((Unit ⊕ Nat) × m_H) :=
  m_gd (m_isO hp 8 x0) (F11_way_0 x0 x1 x2 hp)
noncomputable def F11_risk_0 (x0 : Nat) (x1 : Int32) (x2 : Int32) (x3 : Int32) (hp : m_H) : Option ((Int32 ⊕ Nat) × m_H) :=
  m_b (F11_testLand x1 hp) fun z2 =>
  m_sx z2.1 (fun _ =>
    m_b (F11_testAbroad x1 z2.2) fun z7 =>
    m_sx z7.1 (fun _ =>
      m_b (m_gr z7.2 x0 8 4) fun v11 =>
      m_b (m_gi z7.2 v11 3 0) fun v13 =>
      m_b (F11_outside x2 v13 500 z7.2) fun v16 =>
      m_if (v16 = 0) (
        m_b (F11_outside x3 0 100 z7.2) fun v19 =>
        m_if (v19 = 0) (
          m_b (m_gr z7.2 x0 8 4) fun v21 =>
          m_b (m_gr z7.2 v21 3 13) fun v23 =>
          m_b (F3_tell v23 x1 x2 x3 z7.2) fun z26 =>
          some (.inl z26.1, z26.2)
        ) (
          some (.inr 1, (m_junk z7.2))
        )
      ) (
        some (.inr 1, (m_junk z7.2))
      )
    ) fun E9 =>
    some (.inr E9, z7.2)
  ) fun E4 =>
  some (.inr E4, z2.2)
noncomputable def F11_risk (x0 : Nat) (x1 : Int32) (x2 : Int32) (x3 : Int32) (hp : m_H) : Option ((Int32 ⊕ Nat) × m_H) :=
  m_gd (m_isO hp 8 x0) (F11_risk_0 x0 x1 x2 x3 hp)
noncomputable def F11_testShip_0 (x0 : Nat) (x1 : Int32) (hp : m_H) : Option ((Unit ⊕ Nat) × m_H) :=
  m_b (m_gr hp x0 8 4) fun v1 =>
  m_b (m_gr hp v1 3 10) fun v3 =>
  m_b (F8_has v3 x1 hp) fun v6 =>
  m_if (v6 = 0) (
    some (.inr 0, (m_junk hp))
  ) (
    some (.inl (), hp)
  )
noncomputable def F11_testShip (x0 : Nat) (x1 : Int32) (hp : m_H) : Option ((Unit ⊕ Nat) × m_H) :=
  m_gd (m_isO hp 8 x0) (F11_testShip_0 x0 x1 hp)
noncomputable def F11_load_0 (x0 : Nat) (x1 : Int32) (x2 : Int32) (x3 : Int32) (hp : m_H) : Option ((Int32 ⊕ Nat) × m_H) :=
  m_b (F11_testShip x0 x1 hp) fun z2 =>
  m_sx z2.1 (fun _ =>
    m_b (F11_testLot x0 x2 z2.2) fun z7 =>
    m_sx z7.1 (fun _ =>
      m_b (F11_testNotEnded x0 z7.2) fun z12 =>
      m_sx z12.1 (fun _ =>
        m_b (m_gr z12.2 x0 8 4) fun v16 =>
        m_b (F3_mayLoad v16 x1 x2 x3 z12.2) fun v19 =>
        m_if (v19 = 0) (
          some (.inl 0, z12.2)
        ) (
          m_b (F11_remember x0 z12.2) fun h22 =>
          m_b (m_gr h22 x0 8 4) fun v23 =>
          m_b (F3_putAboard v23 x1 x2 x3 h22) fun h26 =>
          some (.inl 1, h26)
        )
      ) fun E14 =>
      some (.inr E14, z12.2)
    ) fun E9 =>
    some (.inr E9, z7.2)
  ) fun E4 =>
  some (.inr E4, z2.2)
noncomputable def F11_load (x0 : Nat) (x1 : Int32) (x2 : Int32) (x3 : Int32) (hp : m_H) : Option ((Int32 ⊕ Nat) × m_H) :=
  m_gd (m_isO hp 8 x0) (F11_load_0 x0 x1 x2 x3 hp)
noncomputable def F11_sail_0 (x0 : Nat) (x1 : Int32) (x2 : Int32) (hp : m_H) : Option ((Int32 ⊕ Nat) × m_H) :=
  m_b (F11_testShip x0 x1 hp) fun z2 =>
  m_sx z2.1 (fun _ =>
    m_b (F11_testLand x2 z2.2) fun z7 =>
    m_sx z7.1 (fun _ =>
      m_b (F11_testNotEnded x0 z7.2) fun z12 =>
      m_sx z12.1 (fun _ =>
        m_b (m_gr z12.2 x0 8 4) fun v16 =>
        m_b (F3_maySail v16 x1 x2 z12.2) fun v19 =>
        m_if (v19 = 0) (
          some (.inl 0, z12.2)
        ) (
          m_b (F11_remember x0 z12.2) fun h22 =>
          m_b (m_gr h22 x0 8 4) fun v23 =>
          m_b (F3_putToSea v23 x1 x2 h22) fun h26 =>
          some (.inl 1, h26)
        )
      ) fun E14 =>
      some (.inr E14, z12.2)
    ) fun E9 =>
    some (.inr E9, z7.2)
  ) fun E4 =>
  some (.inr E4, z2.2)
noncomputable def F11_sail (x0 : Nat) (x1 : Int32) (x2 : Int32) (hp : m_H) : Option ((Int32 ⊕ Nat) × m_H) :=
  m_gd (m_isO hp 8 x0) (F11_sail_0 x0 x1 x2 hp)
noncomputable def F11_led_0 (x0 : Nat) (x1 : Int32) (x2 : Int32) (hp : m_H) : Option ((Int32 ⊕ Nat) × m_H) :=
  m_b (F11_testShip x0 x1 hp) fun z2 =>
  m_sx z2.1 (fun _ =>
    m_swt (m_swi 0 5 x2) (
      some (.inr 4, (m_junk z2.2))
    ) fun w6 =>
    m_if (w6 = 0) (
      m_b (m_gr z2.2 x0 8 4) fun v9 =>
      m_b (m_gr z2.2 v9 3 10) fun v11 =>
      m_b (F8_get v11 x1 2 z2.2) fun v14 =>
      some (.inl v14, z2.2)
    ) (
     m_if (w6 = 1) (
       m_b (m_gr z2.2 x0 8 4) fun v16 =>
       m_b (m_gr z2.2 v16 3 10) fun v18 =>
       m_b (F8_get v18 x1 3 z2.2) fun v21 =>
       some (.inl v21, z2.2)
     ) (
      m_if (w6 = 2) (
        m_b (m_gr z2.2 x0 8 4) fun v23 =>
        m_b (m_gr z2.2 v23 3 10) fun v25 =>
        m_b (F8_get v25 x1 4 z2.2) fun v28 =>
        some (.inl v28, z2.2)
      ) (
       m_if (w6 = 3) (
         m_b (m_gr z2.2 x0 8 4) fun v30 =>
         m_b (F3_tonsAboard v30 x1 z2.2) fun v33 =>
         some (.inl v33, z2.2)
       ) (
        m_if (w6 = 4) (
          m_b (m_gr z2.2 x0 8 4) fun v35 =>
          m_b (m_gr z2.2 v35 3 10) fun v37 =>
          m_b (F8_get v37 x1 5 z2.2) fun v40 =>
          some (.inl v40, z2.2)
        ) (
         m_if (w6 = 5) (
           m_b (m_gr z2.2 x0 8 4) fun v42 =>
           m_b (m_gr z2.2 v42 3 10) fun v44 =>
           m_b (F8_get v44 x1 6 z2.2) fun v47 =>
           some (.inl v47, z2.2)
         ) (
          none
         )
        )
       )
      )
     )
    )
  ) fun E4 =>
  some (.inr E4, z2.2)
noncomputable def F11_led (x0 : Nat) (x1 : Int32) (x2 : Int32) (hp : m_H) : Option ((Int32 ⊕ Nat) × m_H) :=
  m_gd (m_isO hp 8 x0) (F11_led_0 x0 x1 x2 hp)
noncomputable def F11_need_0 (x0 : Nat) (x1 : Int32) (x2 : Int32) (x3 : Int32) (hp : m_H) : Option ((Unit ⊕ Nat) × m_H) :=
  m_b (F11_testLand x1 hp) fun z2 =>
  m_sx z2.1 (fun _ =>
    m_b (F11_testSort x2 z2.2) fun z7 =>
    m_sx z7.1 (fun _ =>
      m_b (F11_testAbroad x1 z7.2) fun z12 =>
      m_sx z12.1 (fun _ =>
        m_b (F11_outside x3 0 1000 z12.2) fun v17 =>
        m_if (v17 = 0) (
          m_b (m_gr z12.2 x0 8 4) fun v19 =>
          m_b (m_gr z12.2 v19 3 12) fun v21 =>
          m_b (F3_tradeRow x1 x2 z12.2) fun v24 =>
          m_b (F8_set v21 v24 0 x3 z12.2) fun h26 =>
          some (.inl (), h26)
        ) (
          some (.inr 1, (m_junk z12.2))
        )
      ) fun E14 =>
      some (.inr E14, z12.2)
    ) fun E9 =>
    some (.inr E9, z7.2)
  ) fun E4 =>
  some (.inr E4, z2.2)
noncomputable def F11_need (x0 : Nat) (x1 : Int32) (x2 : Int32) (x3 : Int32) (hp : m_H) : Option ((Unit ⊕ Nat) × m_H) :=
  m_gd (m_isO hp 8 x0) (F11_need_0 x0 x1 x2 x3 hp)
noncomputable def F11_weeks_44b (x0 : Nat) (x1 : Int32) (s : Int32 × m_H) : Option ((Int32 × m_H) ⊕ ((Int32 ⊕ Nat) × m_H)) :=
  m_if (x1 ≤ s.1) (
    m_b (m_gr s.2 x0 8 4) fun v2 =>
    m_b (m_gi s.2 v2 3 0) fun v4 =>
    some (.inr (.inl v4, s.2))
  ) (
    m_b (m_gr s.2 x0 8 4) fun v6 =>
    m_b (m_gi s.2 v6 3 0) fun v8 =>
    m_if (500 ≤ v8) (
      m_b (m_gr s.2 x0 8 4) fun v11 =>
      m_b (m_gi s.2 v11 3 0) fun v13 =>
      some (.inr (.inl v13, s.2))
    ) (
      m_b (m_gr s.2 x0 8 7) fun v15 =>
      m_b (m_gr s.2 x0 8 4) fun v17 =>
      m_b (F1_write v15 v17 s.2) fun h20 =>
      m_b (m_gr h20 x0 8 4) fun v21 =>
      m_b (F10_pass v21 h20) fun h24 =>
      some (.inl ((s.1 + 1), h24))
    )
  )
noncomputable def F11_weeks_44 (x0 : Nat) (x1 : Int32) (x2 : Int32) (hp : m_H) : Option ((Int32 ⊕ Nat) × m_H) :=
  m_wh (fun s => F11_weeks_44b x0 x1 s) m_N (x2, hp)
noncomputable def F11_weeks_42 (x0 : Nat) (x1 : Int32) (hp : m_H) : Option ((Int32 ⊕ Nat) × m_H) :=
  F11_weeks_44 x0 x1 0 hp
noncomputable def F11_weeks_0 (x0 : Nat) (x1 : Int32) (hp : m_H) : Option ((Int32 ⊕ Nat) × m_H) :=
  m_b (F11_outside x1 0 60 hp) fun v2 =>
  m_if (v2 = 0) (
    m_if (x1 ≤ 0) (
      F11_weeks_42 x0 x1 hp
    ) (
      m_b (m_gr hp x0 8 4) fun v5 =>
      m_b (m_gi hp v5 3 0) fun v7 =>
      m_if (500 ≤ v7) (
        F11_weeks_42 x0 x1 hp
      ) (
        m_b (F11_remember x0 hp) fun h11 =>
        F11_weeks_42 x0 x1 h11
      )
    )
  ) (
    some (.inr 1, (m_junk hp))
  )
noncomputable def F11_weeks (x0 : Nat) (x1 : Int32) (hp : m_H) : Option ((Int32 ⊕ Nat) × m_H) :=
  m_gd (m_isO hp 8 x0) (F11_weeks_0 x0 x1 hp)
noncomputable def F11_land_0 (x0 : Nat) (x1 : Int32) (x2 : Int32) (hp : m_H) : Option ((Int64 ⊕ Nat) × m_H) :=
  m_b (F11_testLand x1 hp) fun z2 =>
  m_sx z2.1 (fun _ =>
    m_b (F11_testAbroad x1 z2.2) fun z7 =>
    m_sx z7.1 (fun _ =>
      m_swt (m_swi 0 7 x2) (
        some (.inr 4, (m_junk z7.2))
      ) fun w11 =>
      m_if (w11 = 0) (
        m_b (m_gr z7.2 x0 8 4) fun v14 =>
        m_b (m_gr z7.2 v14 3 11) fun v16 =>
        m_b (F8_get v16 x1 0 z7.2) fun v19 =>
        some (.inl (m_i2l v19), z7.2)
      ) (
       m_if (w11 = 1) (
         m_b (m_gr z7.2 x0 8 4) fun v21 =>
         m_b (m_gr z7.2 v21 3 11) fun v23 =>
         m_b (F8_get v23 x1 1 z7.2) fun v26 =>
         some (.inl (m_i2l v26), z7.2)
       ) (
        m_if (w11 = 2) (
          m_b (m_gr z7.2 x0 8 4) fun v28 =>
          m_b (F5_owed v28 x1 z7.2) fun v31 =>
          some (.inl v31, z7.2)
        ) (
         m_if (w11 = 3) (
           m_b (m_gr z7.2 x0 8 4) fun v33 =>
           m_b (F5_lentAt v33 x1 3 z7.2) fun v36 =>
           some (.inl (m_i2l v36), z7.2)
         ) (
          m_if (w11 = 4) (
            m_b (m_gr z7.2 x0 8 4) fun v38 =>
            m_b (F5_lentAt v38 x1 6 z7.2) fun v41 =>
            some (.inl (m_i2l v41), z7.2)
          ) (
           m_if (w11 = 5) (
             m_b (m_gr z7.2 x0 8 4) fun v43 =>
             m_b (F3_basesOf v43 x1 z7.2) fun v46 =>
             some (.inl (m_i2l v46), z7.2)
           ) (
            m_if (w11 = 6) (
              m_b (m_gr z7.2 x0 8 4) fun v48 =>
              m_b (m_gr z7.2 x0 8 7) fun v50 =>
              m_b (F5_sure v48 v50 x1 z7.2) fun v53 =>
              some (.inl v53, z7.2)
            ) (
             m_if (w11 = 7) (
               m_b (m_gr z7.2 x0 8 4) fun v55 =>
               m_b (m_gr z7.2 x0 8 7) fun v57 =>
               m_b (F5_sure v55 v57 x1 z7.2) fun v60 =>
               m_b (m_gr z7.2 x0 8 4) fun v61 =>
               m_b (F5_landedWithoutReturn v61 x1 z7.2) fun v64 =>
               some (.inl (v60 + v64), z7.2)
             ) (
              none
             )
            )
           )
          )
         )
        )
       )
      )
    ) fun E9 =>
    some (.inr E9, z7.2)
  ) fun E4 =>
  some (.inr E4, z2.2)
noncomputable def F11_land (x0 : Nat) (x1 : Int32) (x2 : Int32) (hp : m_H) : Option ((Int64 ⊕ Nat) × m_H) :=
  m_gd (m_isO hp 8 x0) (F11_land_0 x0 x1 x2 hp)
noncomputable def F11_balance_0 (x0 : Nat) (x1 : Int32) (x2 : Int32) (x3 : Int32) (hp : m_H) : Option ((Int64 ⊕ Nat) × m_H) :=
  m_b (F11_testLand x1 hp) fun z2 =>
  m_sx z2.1 (fun _ =>
    m_b (F11_testAbroad x1 z2.2) fun z7 =>
    m_sx z7.1 (fun _ =>
      m_b (F11_outside x2 0 2 z7.2) fun v12 =>
      m_if (v12 = 0) (
        m_b (m_gr z7.2 x0 8 4) fun v14 =>
        m_b (F5_balanceBy v14 x1 x2 x3 z7.2) fun v17 =>
        some (.inl v17, z7.2)
      ) (
        some (.inr 4, (m_junk z7.2))
      )
    ) fun E9 =>
    some (.inr E9, z7.2)
  ) fun E4 =>
  some (.inr E4, z2.2)
noncomputable def F11_balance (x0 : Nat) (x1 : Int32) (x2 : Int32) (x3 : Int32) (hp : m_H) : Option ((Int64 ⊕ Nat) × m_H) :=
  m_gd (m_isO hp 8 x0) (F11_balance_0 x0 x1 x2 x3 hp)
noncomputable def F11_over_0 (x0 : Nat) (hp : m_H) : Option (Int32 × m_H) :=
  m_b (m_gr hp x0 8 4) fun v1 =>
  m_b (m_gi hp v1 3 3) fun v3 =>
  m_if (v3 = 0) (
    m_b (m_gr hp x0 8 4) fun v6 =>
    m_b (F3_close v6 hp) fun z9 =>
    some (z9.1, z9.2)
  ) (
    some ((-1), hp)
  )
noncomputable def F11_over (x0 : Nat) (hp : m_H) : Option (Int32 × m_H) :=
  m_gd (m_isO hp 8 x0) (F11_over_0 x0 hp)
noncomputable def F11_returned_0 (x0 : Nat) (x1 : Int32) (x2 : Int32) (x3 : Int32) (x4 : Int32) (hp : m_H) : Option ((Int32 ⊕ Nat) × m_H) :=
  m_b (F11_testLand x1 hp) fun z2 =>
  m_sx z2.1 (fun _ =>
    m_b (F11_testSort x2 z2.2) fun z7 =>
    m_sx z7.1 (fun _ =>
      m_b (F11_testAbroad x1 z7.2) fun z12 =>
      m_sx z12.1 (fun _ =>
        m_b (m_gr z12.2 x0 8 4) fun v16 =>
        m_b (m_gi z12.2 v16 3 0) fun v18 =>
        m_b (F11_outside x3 0 v18 z12.2) fun v21 =>
        m_if (v21 = 0) (
          m_b (F11_outside x4 0 100000 z12.2) fun v24 =>
          m_if (v24 = 0) (
            m_b (m_gr z12.2 x0 8 4) fun v26 =>
            m_b (m_gr z12.2 v26 3 14) fun v28 =>
            m_b (F8_full v28 z12.2) fun v31 =>
            m_if (v31 = 0) (
              m_b (m_gr z12.2 x0 8 4) fun v33 =>
              m_b (m_gr z12.2 v33 3 14) fun v35 =>
              m_b (F8_add v35 z12.2) fun z38 =>
              m_b (m_gr z38.2 x0 8 4) fun v39 =>
              m_b (m_gr z38.2 v39 3 14) fun v41 =>
              m_b (F8_set v41 z38.1 0 x1 z38.2) fun h44 =>
              m_b (m_gr h44 x0 8 4) fun v45 =>
              m_b (m_gr h44 v45 3 14) fun v47 =>
              m_b (F8_set v47 z38.1 1 x2 h44) fun h50 =>
              m_b (m_gr h50 x0 8 4) fun v51 =>
              m_b (m_gr h50 v51 3 14) fun v53 =>
              m_b (F8_set v53 z38.1 2 x4 h50) fun h56 =>
              m_b (m_gr h56 x0 8 4) fun v57 =>
              m_b (m_gr h56 v57 3 14) fun v59 =>
              m_b (F8_set v59 z38.1 3 x3 h56) fun h62 =>
              m_b (m_gr h62 x0 8 4) fun v63 =>
              m_b (m_gr h62 v63 3 14) fun v65 =>
              m_b (F8_set v65 z38.1 4 x4 h62) fun h68 =>
              m_b (m_gr h68 x0 8 4) fun v69 =>
              m_b (m_gr h68 v69 3 14) fun v71 =>
              m_b (m_gi h68 v71 6 2) fun v73 =>
              some (.inl v73, h68)
            ) (
              some (.inl (-1), z12.2)
            )
          ) (
            some (.inr 1, (m_junk z12.2))
          )
        ) (
          some (.inr 1, (m_junk z12.2))
        )
      ) fun E14 =>
      some (.inr E14, z12.2)
    ) fun E9 =>
    some (.inr E9, z7.2)
  ) fun E4 =>
  some (.inr E4, z2.2)
noncomputable def F11_returned (x0 : Nat) (x1 : Int32) (x2 : Int32) (x3 : Int32) (x4 : Int32) (hp : m_H) : Option ((Int32 ⊕ Nat) × m_H) :=
  m_gd (m_isO hp 8 x0) (F11_returned_0 x0 x1 x2 x3 x4 hp)
noncomputable def F11_mustBe_0 (x0 : Nat) (x1 : Int32) (x2 : Int32) (x3 : Int32) (hp : m_H) : Option ((Int32 ⊕ Nat) × m_H) :=
  m_b (F11_testLand x1 hp) fun z2 =>
  m_sx z2.1 (fun _ =>
    m_b (F11_testSort x2 z2.2) fun z7 =>
    m_sx z7.1 (fun _ =>
      m_b (F11_testAbroad x1 z7.2) fun z12 =>
      m_sx z12.1 (fun _ =>
        m_b (m_gr z12.2 x0 8 4) fun v16 =>
        m_b (m_gi z12.2 v16 3 0) fun v18 =>
        m_b (F11_outside x3 0 v18 z12.2) fun v21 =>
        m_if (v21 = 0) (
          m_b (m_gr z12.2 x0 8 4) fun v23 =>
          m_b (m_gr z12.2 x0 8 7) fun v25 =>
          m_b (F5_landedAtEnd v23 v25 x1 x2 x3 z12.2) fun v28 =>
          some (.inl v28, z12.2)
        ) (
          some (.inr 1, (m_junk z12.2))
        )
      ) fun E14 =>
      some (.inr E14, z12.2)
    ) fun E9 =>
    some (.inr E9, z7.2)
  ) fun E4 =>
  some (.inr E4, z2.2)
noncomputable def F11_mustBe (x0 : Nat) (x1 : Int32) (x2 : Int32) (x3 : Int32) (hp : m_H) : Option ((Int32 ⊕ Nat) × m_H) :=
  m_gd (m_isO hp 8 x0) (F11_mustBe_0 x0 x1 x2 x3 hp)
noncomputable def F11_seen_0 (x0 : Nat) (x1 : Int32) (x2 : Int32) (x3 : Int32) (hp : m_H) : Option ((Int32 ⊕ Nat) × m_H) :=
  m_b (F11_testLand x1 hp) fun z2 =>
  m_sx z2.1 (fun _ =>
    m_b (F11_testSort x2 z2.2) fun z7 =>
    m_sx z7.1 (fun _ =>
      m_b (F11_testAbroad x1 z7.2) fun z12 =>
      m_sx z12.1 (fun _ =>
        m_b (F11_outside x3 1 100000 z12.2) fun v17 =>
        m_if (v17 = 0) (
          m_b (m_gr z12.2 x0 8 4) fun v19 =>
          m_b (m_gr z12.2 v19 3 15) fun v21 =>
          m_b (F8_full v21 z12.2) fun v24 =>
          m_if (v24 = 0) (
            m_b (m_gr z12.2 x0 8 4) fun v26 =>
            m_b (m_gr z12.2 v26 3 15) fun v28 =>
            m_b (F8_add v28 z12.2) fun z31 =>
            m_b (m_gr z31.2 x0 8 4) fun v32 =>
            m_b (m_gr z31.2 v32 3 15) fun v34 =>
            m_b (F8_set v34 z31.1 0 x1 z31.2) fun h37 =>
            m_b (m_gr h37 x0 8 4) fun v38 =>
            m_b (m_gr h37 v38 3 15) fun v40 =>
            m_b (F8_set v40 z31.1 1 x2 h37) fun h43 =>
            m_b (m_gr h43 x0 8 4) fun v44 =>
            m_b (m_gr h43 v44 3 15) fun v46 =>
            m_b (F8_set v46 z31.1 2 x3 h43) fun h49 =>
            m_b (m_gr h49 x0 8 4) fun v50 =>
            m_b (m_gr h49 v50 3 15) fun v52 =>
            m_b (m_gi h49 v52 6 2) fun v54 =>
            some (.inl v54, h49)
          ) (
            some (.inl (-1), z12.2)
          )
        ) (
          some (.inr 1, (m_junk z12.2))
        )
      ) fun E14 =>
      some (.inr E14, z12.2)
    ) fun E9 =>
    some (.inr E9, z7.2)
  ) fun E4 =>
  some (.inr E4, z2.2)
noncomputable def F11_seen (x0 : Nat) (x1 : Int32) (x2 : Int32) (x3 : Int32) (hp : m_H) : Option ((Int32 ⊕ Nat) × m_H) :=
  m_gd (m_isO hp 8 x0) (F11_seen_0 x0 x1 x2 x3 hp)
noncomputable def F11_whence_0 (x0 : Nat) (x1 : Int32) (x2 : Int32) (x3 : Int32) (hp : m_H) : Option ((Int32 ⊕ Nat) × m_H) :=
  m_b (F11_testLand x1 hp) fun z2 =>
  m_sx z2.1 (fun _ =>
    m_b (F11_testSort x2 z2.2) fun z7 =>
    m_sx z7.1 (fun _ =>
      m_b (F11_testAbroad x1 z7.2) fun z12 =>
      m_sx z12.1 (fun _ =>
        m_if (x3 = 0) (
          m_b (m_gr z12.2 x0 8 4) fun v17 =>
          m_b (F5_unexplained v17 x1 x2 z12.2) fun v20 =>
          some (.inl v20, z12.2)
        ) (
          m_b (m_gr z12.2 x0 8 4) fun v21 =>
          m_b (F5_landsWith v21 x2 z12.2) fun v24 =>
          some (.inl v24, z12.2)
        )
      ) fun E14 =>
      some (.inr E14, z12.2)
    ) fun E9 =>
    some (.inr E9, z7.2)
  ) fun E4 =>
  some (.inr E4, z2.2)
noncomputable def F11_whence (x0 : Nat) (x1 : Int32) (x2 : Int32) (x3 : Int32) (hp : m_H) : Option ((Int32 ⊕ Nat) × m_H) :=
  m_gd (m_isO hp 8 x0) (F11_whence_0 x0 x1 x2 x3 hp)
noncomputable def F11_tear_0 (x0 : Nat) (x1 : Int32) (x2 : Int32) (hp : m_H) : Option ((Int32 ⊕ Nat) × m_H) :=
  m_b (m_gr hp x0 8 4) fun v1 =>
  m_b (m_gr hp v1 3 14) fun v3 =>
  m_b (m_gi hp v3 6 2) fun v5 =>
  m_b (F11_outside x1 0 ((m_min 6 v5) - 1) hp) fun v8 =>
  m_if (v8 = 0) (
    m_b (m_gr hp x0 8 4) fun v10 =>
    m_b (m_gr hp v10 3 14) fun v12 =>
    m_b (m_gi hp v12 6 2) fun v14 =>
    m_b (m_gr hp x0 8 4) fun v16 =>
    m_b (m_gr hp v16 3 14) fun v18 =>
    m_b (F8_get v18 ((v14 - (m_min 6 v5)) + x1) 2 hp) fun v21 =>
    m_b (m_gr hp x0 8 4) fun v22 =>
    m_b (m_gr hp v22 3 14) fun v24 =>
    m_b (F8_set v24 ((v14 - (m_min 6 v5)) + x1) 2 (v21 ^^^ x2) hp) fun h27 =>
    some (.inl (v21 ^^^ x2), h27)
  ) (
    some (.inr 4, (m_junk hp))
  )
noncomputable def F11_tear (x0 : Nat) (x1 : Int32) (x2 : Int32) (hp : m_H) : Option ((Int32 ⊕ Nat) × m_H) :=
  m_gd (m_isO hp 8 x0) (F11_tear_0 x0 x1 x2 hp)
noncomputable def F11_check_18b (x0 : Nat) (x1 : Int32) (hp : m_H) (s : Int32) : Option (Int32 ⊕ Int32) :=
  m_if (x1 ≤ s) (
    some (.inr (-1))
  ) (
    m_b (m_gr hp x0 8 4) fun v2 =>
    m_b (m_gr hp v2 3 14) fun v4 =>
    m_b (m_gi hp v4 6 2) fun v6 =>
    m_b (m_gr hp x0 8 4) fun v8 =>
    m_b (m_gr hp v8 3 14) fun v10 =>
    m_b (F8_get v10 ((v6 - x1) + s) 2 hp) fun v13 =>
    m_b (m_gr hp x0 8 4) fun v14 =>
    m_b (m_gr hp v14 3 14) fun v16 =>
    m_b (F8_get v16 ((v6 - x1) + s) 4 hp) fun v19 =>
    m_if (v13 = v19) (
      some (.inl (s + 1))
    ) (
      some (.inr s)
    )
  )
noncomputable def F11_check_18 (x0 : Nat) (x1 : Int32) (x2 : Int32) (hp : m_H) : Option Int32 :=
  m_wh (fun s => F11_check_18b x0 x1 hp s) m_N x2
noncomputable def F11_check_0 (x0 : Nat) (hp : m_H) : Option Int32 :=
  m_b (m_gr hp x0 8 4) fun v1 =>
  m_b (m_gr hp v1 3 14) fun v3 =>
  m_b (m_gi hp v3 6 2) fun v5 =>
  F11_check_18 x0 (m_min 6 v5) 0 hp
noncomputable def F11_check (x0 : Nat) (hp : m_H) : Option Int32 :=
  m_gd (m_isO hp 8 x0) (F11_check_0 x0 hp)
noncomputable def F11_rock_0 (x0 : Nat) (x1 : Int32) (x2 : Int32) (x3 : Int32) (x4 : Int32) (hp : m_H) : Option ((Int32 ⊕ Nat) × m_H) :=
  m_b (F11_testLand x1 hp) fun z2 =>
  m_sx z2.1 (fun _ =>
    m_b (F11_testAbroad x1 z2.2) fun z7 =>
    m_sx z7.1 (fun _ =>
      m_b (F11_outside x2 1 500 z7.2) fun v12 =>
      m_if (v12 = 0) (
        m_b (F11_outside x3 0 10000 z7.2) fun v15 =>
        m_if (v15 = 0) (
          m_b (F11_outside x4 0 1000 z7.2) fun v18 =>
          m_if (v18 = 0) (
            m_b (m_gr z7.2 x0 8 4) fun v20 =>
            m_b (m_gr z7.2 v20 3 16) fun v22 =>
            m_b (F8_full v22 z7.2) fun v25 =>
            m_if (v25 = 0) (
              m_b (m_gr z7.2 x0 8 4) fun v27 =>
              m_b (m_gr z7.2 v27 3 16) fun v29 =>
              m_b (F8_add v29 z7.2) fun z32 =>
              m_b (m_gr z32.2 x0 8 4) fun v33 =>
              m_b (m_gr z32.2 v33 3 16) fun v35 =>
              m_b (F8_set v35 z32.1 0 x1 z32.2) fun h38 =>
              m_b (m_gr h38 x0 8 4) fun v39 =>
              m_b (m_gr h38 v39 3 16) fun v41 =>
              m_b (m_gr h38 x0 8 4) fun v43 =>
              m_b (m_gi h38 v43 3 0) fun v45 =>
              m_b (F8_set v41 z32.1 1 v45 h38) fun h48 =>
              m_b (m_gr h48 x0 8 4) fun v49 =>
              m_b (m_gr h48 v49 3 16) fun v51 =>
              m_b (F8_set v51 z32.1 2 x2 h48) fun h54 =>
              m_b (m_gr h54 x0 8 4) fun v55 =>
              m_b (m_gr h54 v55 3 16) fun v57 =>
              m_b (F8_set v57 z32.1 3 x3 h54) fun h60 =>
              m_b (m_gr h60 x0 8 4) fun v61 =>
              m_b (m_gr h60 v61 3 16) fun v63 =>
              m_b (F8_set v63 z32.1 4 x4 h60) fun h66 =>
              some (.inl z32.1, h66)
            ) (
              some (.inr 2, (m_junk z7.2))
            )
          ) (
            some (.inr 1, (m_junk z7.2))
          )
        ) (
          some (.inr 1, (m_junk z7.2))
        )
      ) (
        some (.inr 1, (m_junk z7.2))
      )
    ) fun E9 =>
    some (.inr E9, z7.2)
  ) fun E4 =>
  some (.inr E4, z2.2)
noncomputable def F11_rock (x0 : Nat) (x1 : Int32) (x2 : Int32) (x3 : Int32) (x4 : Int32) (hp : m_H) : Option ((Int32 ⊕ Nat) × m_H) :=
  m_gd (m_isO hp 8 x0) (F11_rock_0 x0 x1 x2 x3 x4 hp)
noncomputable def F11_net_0 (x0 : Nat) (x1 : Int32) (hp : m_H) : Option ((Int32 ⊕ Nat) × m_H) :=
  m_b (m_gr hp x0 8 4) fun v1 =>
  m_b (m_gr hp v1 3 16) fun v3 =>
  m_b (F8_has v3 x1 hp) fun v6 =>
  m_if (v6 = 0) (
    some (.inr 0, (m_junk hp))
  ) (
    m_b (m_gr hp x0 8 4) fun v8 =>
    m_b (m_gr hp v8 3 16) fun v10 =>
    m_b (F8_get v10 x1 5 hp) fun v13 =>
    m_b (m_gr hp x0 8 4) fun v14 =>
    m_b (m_gr hp v14 3 16) fun v16 =>
    m_b (F8_get v16 x1 3 hp) fun v19 =>
    some (.inl (v13 - v19), hp)
  )
noncomputable def F11_net (x0 : Nat) (x1 : Int32) (hp : m_H) : Option ((Int32 ⊕ Nat) × m_H) :=
  m_gd (m_isO hp 8 x0) (F11_net_0 x0 x1 hp)
noncomputable def F11_tons_0 (x0 : Nat) (x1 : Int32) (x2 : Int32) (hp : m_H) : Option ((Unit ⊕ Nat) × m_H) :=
  m_b (F11_testLand x1 hp) fun z2 =>
  m_sx z2.1 (fun _ =>
    m_b (F11_testAbroad x1 z2.2) fun z7 =>
    m_sx z7.1 (fun _ =>
      m_b (F11_outside x2 0 100000 z7.2) fun v12 =>
      m_if (v12 = 0) (
        m_b (m_gr z7.2 x0 8 4) fun v14 =>
        m_b (m_gr z7.2 v14 3 11) fun v16 =>
        m_b (F8_set v16 x1 3 x2 z7.2) fun h19 =>
        some (.inl (), h19)
      ) (
        some (.inr 1, (m_junk z7.2))
      )
    ) fun E9 =>
    some (.inr E9, z7.2)
  ) fun E4 =>
  some (.inr E4, z2.2)
noncomputable def F11_tons (x0 : Nat) (x1 : Int32) (x2 : Int32) (hp : m_H) : Option ((Unit ⊕ Nat) × m_H) :=
  m_gd (m_isO hp 8 x0) (F11_tons_0 x0 x1 x2 hp)
noncomputable def F11_hulls_0 (x0 : Nat) (x1 : Int32) (hp : m_H) : Option (Int32 × m_H) :=
  m_b (m_gr hp x0 8 3) fun v1 =>
  m_b (m_gr hp x0 8 4) fun v3 =>
  m_b (F4_plan v1 v3 hp) fun h6 =>
  m_if (x1 = (-1)) (
    m_b (m_gr h6 x0 8 3) fun v12 =>
    m_b (F4_leastLost v12 h6) fun v15 =>
    some (v15, h6)
  ) (
    m_b (m_gr h6 x0 8 3) fun v8 =>
    m_b (F4_landOf v8 x1 h6) fun v11 =>
    some (v11, h6)
  )
noncomputable def F11_hulls (x0 : Nat) (x1 : Int32) (hp : m_H) : Option (Int32 × m_H) :=
  m_gd (m_isO hp 8 x0) (F11_hulls_0 x0 x1 hp)
noncomputable def F11_bestOrders_0 (x0 : Nat) (hp : m_H) : Option (Int32 × m_H) :=
  m_b (m_gr hp x0 8 4) fun v1 =>
  m_b (F6_bestOrdersOf v1 hp) fun z4 =>
  some (z4.1, z4.2)
noncomputable def F11_bestOrders (x0 : Nat) (hp : m_H) : Option (Int32 × m_H) :=
  m_gd (m_isO hp 8 x0) (F11_bestOrders_0 x0 hp)
noncomputable def F11_page_0 (x0 : Nat) (x1 : Int32) (x2 : Int32) (hp : m_H) : Option ((Int32 ⊕ Nat) × m_H) :=
  m_b (F11_outside x1 (-10000) 10000 hp) fun v2 =>
  m_if (v2 = 0) (
    m_b (F11_outside x2 (-10000) 10000 hp) fun v5 =>
    m_if (v5 = 0) (
      m_b (m_gr hp x0 8 4) fun v7 =>
      m_b (m_gr hp v7 3 17) fun v9 =>
      m_b (F8_add v9 hp) fun z12 =>
      m_b (m_gr z12.2 x0 8 4) fun v13 =>
      m_b (m_gr z12.2 v13 3 17) fun v15 =>
      m_b (F8_set v15 z12.1 0 x1 z12.2) fun h18 =>
      m_b (m_gr h18 x0 8 4) fun v19 =>
      m_b (m_gr h18 v19 3 17) fun v21 =>
      m_b (F8_set v21 z12.1 1 x2 h18) fun h24 =>
      some (.inl z12.1, h24)
    ) (
      some (.inr 1, (m_junk hp))
    )
  ) (
    some (.inr 1, (m_junk hp))
  )
noncomputable def F11_page (x0 : Nat) (x1 : Int32) (x2 : Int32) (hp : m_H) : Option ((Int32 ⊕ Nat) × m_H) :=
  m_gd (m_isO hp 8 x0) (F11_page_0 x0 x1 x2 hp)
noncomputable def F11_signed_0 (x0 : Nat) (x1 : Int32) (x2 : Int32) (hp : m_H) : Option Int32 :=
  m_b (m_gr hp x0 8 4) fun v1 =>
  m_b (m_gr hp v1 3 17) fun v3 =>
  m_b (F6_pagesSigned v3 x1 x2 hp) fun v6 =>
  some v6
noncomputable def F11_signed (x0 : Nat) (x1 : Int32) (x2 : Int32) (hp : m_H) : Option Int32 :=
  m_gd (m_isO hp 8 x0) (F11_signed_0 x0 x1 x2 hp)
noncomputable def F11_choice_0 (x0 : Nat) (x1 : Int32) (x2 : Int32) (x3 : Int32) (x4 : Int32) (hp : m_H) : Option ((Int32 ⊕ Nat) × m_H) :=
  m_b (F11_outside x1 0 10000 hp) fun v2 =>
  m_if (v2 = 0) (
    m_b (F11_outside x2 0 4 hp) fun v5 =>
    m_if (v5 = 0) (
      m_b (F11_outside x3 0 10000 hp) fun v8 =>
      m_if (v8 = 0) (
        m_b (F11_outside x4 0 10000 hp) fun v11 =>
        m_if (v11 = 0) (
          m_b (m_gr hp x0 8 4) fun v13 =>
          m_b (m_gr hp v13 3 18) fun v15 =>
          m_b (F8_full v15 hp) fun v18 =>
          m_if (v18 = 0) (
            m_b (m_gr hp x0 8 4) fun v20 =>
            m_b (m_gr hp v20 3 18) fun v22 =>
            m_b (F8_add v22 hp) fun z25 =>
            m_b (m_gr z25.2 x0 8 4) fun v26 =>
            m_b (m_gr z25.2 v26 3 18) fun v28 =>
            m_b (F8_set v28 z25.1 0 x1 z25.2) fun h31 =>
            m_b (m_gr h31 x0 8 4) fun v32 =>
            m_b (m_gr h31 v32 3 18) fun v34 =>
            m_b (F8_set v34 z25.1 1 x3 h31) fun h37 =>
            m_b (m_gr h37 x0 8 4) fun v38 =>
            m_b (m_gr h37 v38 3 18) fun v40 =>
            m_b (F8_set v40 z25.1 2 x4 h37) fun h43 =>
            m_b (m_gr h43 x0 8 4) fun v44 =>
            m_b (m_gr h43 v44 3 18) fun v46 =>
            m_b (F8_set v46 z25.1 3 x2 h43) fun h49 =>
            m_b (m_gr h49 x0 8 4) fun v50 =>
            m_b (m_gr h49 v50 3 18) fun v52 =>
            m_b (m_gi h49 v52 6 2) fun v54 =>
            some (.inl v54, h49)
          ) (
            some (.inl (-1), hp)
          )
        ) (
          some (.inr 1, (m_junk hp))
        )
      ) (
        some (.inr 1, (m_junk hp))
      )
    ) (
      some (.inr 1, (m_junk hp))
    )
  ) (
    some (.inr 1, (m_junk hp))
  )
noncomputable def F11_choice (x0 : Nat) (x1 : Int32) (x2 : Int32) (x3 : Int32) (x4 : Int32) (hp : m_H) : Option ((Int32 ⊕ Nat) × m_H) :=
  m_gd (m_isO hp 8 x0) (F11_choice_0 x0 x1 x2 x3 x4 hp)
noncomputable def F11_row_0 (x0 : Nat) (x1 : Int32) (x2 : Int32) (x3 : Int32) (x4 : Int32) (x5 : Int32) (hp : m_H) : Option ((Unit ⊕ Nat) × m_H) :=
  m_b (F11_outside x1 0 2 hp) fun v2 =>
  m_if (v2 = 0) (
    m_b (F11_outside x2 0 4 hp) fun v5 =>
    m_if (v5 = 0) (
      m_b (F11_outside x3 0 100000 hp) fun v8 =>
      m_if (v8 = 0) (
        m_b (F11_outside x4 0 100000 hp) fun v11 =>
        m_if (v11 = 0) (
          m_b (F11_outside x5 0 100000 hp) fun v14 =>
          m_if (v14 = 0) (
            m_b (m_gr hp x0 8 4) fun v16 =>
            m_b (m_gr hp v16 3 19) fun v18 =>
            m_b (F8_set v18 ((x1 * 5) + x2) 0 x3 hp) fun h21 =>
            m_b (m_gr h21 x0 8 4) fun v22 =>
            m_b (m_gr h21 v22 3 19) fun v24 =>
            m_b (F8_set v24 ((x1 * 5) + x2) 1 x4 h21) fun h27 =>
            m_b (m_gr h27 x0 8 4) fun v28 =>
            m_b (m_gr h27 v28 3 19) fun v30 =>
            m_b (F8_set v30 ((x1 * 5) + x2) 2 x5 h27) fun h33 =>
            some (.inl (), h33)
          ) (
            some (.inr 1, (m_junk hp))
          )
        ) (
          some (.inr 1, (m_junk hp))
        )
      ) (
        some (.inr 1, (m_junk hp))
      )
    ) (
      some (.inr 1, (m_junk hp))
    )
  ) (
    some (.inr 1, (m_junk hp))
  )
noncomputable def F11_row (x0 : Nat) (x1 : Int32) (x2 : Int32) (x3 : Int32) (x4 : Int32) (x5 : Int32) (hp : m_H) : Option ((Unit ⊕ Nat) × m_H) :=
  m_gd (m_isO hp 8 x0) (F11_row_0 x0 x1 x2 x3 x4 x5 hp)
noncomputable def F11_lasts_0 (x0 : Nat) (hp : m_H) : Option Int32 :=
  m_b (m_gr hp x0 8 4) fun v1 =>
  m_b (F6_choicesThatLast v1 hp) fun v4 =>
  some v4
noncomputable def F11_lasts (x0 : Nat) (hp : m_H) : Option Int32 :=
  m_gd (m_isO hp 8 x0) (F11_lasts_0 x0 hp)
noncomputable def F11_cash_0 (x0 : Nat) (x1 : Int32) (x2 : Int32) (x3 : Int32) (x4 : Int32) (x5 : Int32) (hp : m_H) : Option ((Int32 ⊕ Nat) × m_H) :=
  m_if (x1 < 0) (
    some (.inr 1, (m_junk hp))
  ) (
    m_if (x2 < 0) (
      some (.inr 1, (m_junk hp))
    ) (
      m_if (x3 < 0) (
        some (.inr 1, (m_junk hp))
      ) (
        m_if (x4 < 0) (
          some (.inr 1, (m_junk hp))
        ) (
          m_if (0 ≤ x5) (
            m_b (m_nw 0 6 hp) fun h6 =>
            m_b (m_si h6 0 (m_id hp) 0 0) fun h8 =>
            m_b (m_si h8 0 (m_id hp) 1 x1) fun h10 =>
            m_b (m_si h10 0 (m_id hp) 2 x2) fun h12 =>
            m_b (m_si h12 0 (m_id hp) 3 x3) fun h14 =>
            m_b (m_si h14 0 (m_id hp) 4 x4) fun h16 =>
            m_b (m_si h16 0 (m_id hp) 5 x5) fun h18 =>
            m_b (m_gr h18 x0 8 4) fun v20 =>
            m_b (F5_firstNotPaid v20 (m_id hp) h18) fun z23 =>
            some (.inl z23.1, z23.2)
          ) (
            some (.inr 1, (m_junk hp))
          )
        )
      )
    )
  )
noncomputable def F11_cash (x0 : Nat) (x1 : Int32) (x2 : Int32) (x3 : Int32) (x4 : Int32) (x5 : Int32) (hp : m_H) : Option ((Int32 ⊕ Nat) × m_H) :=
  m_gd (m_isO hp 8 x0) (F11_cash_0 x0 x1 x2 x3 x4 x5 hp)
noncomputable def F11_undo_0 (x0 : Nat) (hp : m_H) : Option (Int32 × m_H) :=
  m_b (m_gi hp x0 8 9) fun v1 =>
  m_if (v1 = 0) (
    some (0, hp)
  ) (
    m_b (m_gr hp x0 8 4) fun v4 =>
    m_b (m_gr hp x0 8 5) fun v6 =>
    m_b (F3_copyFrom v4 v6 hp) fun h9 =>
    m_b (m_pf m_ft h9 x0 8 9 (.int 0)) fun h10 =>
    some (1, h10)
  )
noncomputable def F11_undo (x0 : Nat) (hp : m_H) : Option (Int32 × m_H) :=
  m_gd (m_isO hp 8 x0) (F11_undo_0 x0 hp)
noncomputable def F11_keep_0 (x0 : Nat) (hp : m_H) : Option m_H :=
  m_b (m_gr hp x0 8 6) fun v1 =>
  m_b (m_gr hp x0 8 4) fun v3 =>
  m_b (F3_copyFrom v1 v3 hp) fun h6 =>
  m_b (m_gr h6 x0 8 8) fun v7 =>
  m_b (m_gr h6 x0 8 7) fun v9 =>
  m_b (m_gr h6 x0 8 4) fun v11 =>
  m_b (m_gi h6 v11 3 0) fun v13 =>
  m_b (F1_copyFrom v7 v9 v13 h6) fun h16 =>
  m_b (m_pf m_ft h16 x0 8 10 (.int 1)) fun h17 =>
  some h17
noncomputable def F11_keep (x0 : Nat) (hp : m_H) : Option m_H :=
  m_gd (m_isO hp 8 x0) (F11_keep_0 x0 hp)
noncomputable def F11_again_0 (x0 : Nat) (hp : m_H) : Option (Int32 × m_H) :=
  m_b (m_gi hp x0 8 10) fun v1 =>
  m_if (v1 = 0) (
    some (0, hp)
  ) (
    m_b (m_gr hp x0 8 4) fun v4 =>
    m_b (m_gr hp x0 8 6) fun v6 =>
    m_b (F3_copyFrom v4 v6 hp) fun h9 =>
    m_b (m_gr h9 x0 8 7) fun v10 =>
    m_b (m_gr h9 x0 8 8) fun v12 =>
    m_b (m_gr h9 x0 8 6) fun v14 =>
    m_b (m_gi h9 v14 3 0) fun v16 =>
    m_b (F1_copyFrom v10 v12 v16 h9) fun h19 =>
    m_b (m_pf m_ft h19 x0 8 9 (.int 0)) fun h20 =>
    some (1, h20)
  )
noncomputable def F11_again (x0 : Nat) (hp : m_H) : Option (Int32 × m_H) :=
  m_gd (m_isO hp 8 x0) (F11_again_0 x0 hp)
noncomputable def F11_count_24 (x0 : Nat) (x1 : Int32) (hp : m_H) : Option Int32 :=
  m_swt (m_swi 0 11 x1) (
    some (-1)
  ) fun w1 =>
  m_if (w1 = 0) (
    m_b (m_gr hp x0 8 4) fun v4 =>
    m_b (m_gi hp v4 3 0) fun v6 =>
    some v6
  ) (
   m_if (w1 = 1) (
     m_b (m_gr hp x0 8 4) fun v9 =>
     m_b (m_gr hp v9 3 8) fun v11 =>
     m_b (m_gi hp v11 6 2) fun v13 =>
     some v13
   ) (
    m_if (w1 = 2) (
      m_b (m_gr hp x0 8 4) fun v16 =>
      m_b (m_gi hp v16 3 1) fun v18 =>
      some v18
    ) (
     m_if (w1 = 3) (
       m_b (m_gr hp x0 8 4) fun v21 =>
       m_b (m_gi hp v21 3 5) fun v23 =>
       some v23
     ) (
      m_if (w1 = 4) (
        m_b (m_gr hp x0 8 4) fun v26 =>
        m_b (F3_linesOfWeek v26 hp) fun v29 =>
        some v29
      ) (
       m_if (w1 = 5) (
         m_b (m_gr hp x0 8 4) fun v31 =>
         m_b (F3_openRequests v31 hp) fun v34 =>
         some v34
       ) (
        m_if (w1 = 6) (
          m_b (m_gr hp x0 8 4) fun v36 =>
          m_b (m_gr hp v36 3 10) fun v38 =>
          m_b (m_gi hp v38 6 2) fun v40 =>
          some v40
        ) (
         m_if (w1 = 7) (
           m_b (m_gr hp x0 8 4) fun v43 =>
           m_b (m_gr hp v43 3 10) fun v45 =>
           m_b (F8_rowsWith v45 2 4 hp) fun v48 =>
           some v48
         ) (
          m_if (w1 = 8) (
            m_b (m_gr hp x0 8 4) fun v50 =>
            m_b (m_gr hp v50 3 8) fun v52 =>
            m_b (F8_rowsWith v52 9 1 hp) fun v55 =>
            some v55
          ) (
           m_if (w1 = 9) (
             m_b (m_gr hp x0 8 4) fun v57 =>
             m_b (m_gr hp v57 3 16) fun v59 =>
             m_b (m_gi hp v59 6 2) fun v61 =>
             some v61
           ) (
            m_if (w1 = 10) (
              m_b (m_gr hp x0 8 4) fun v64 =>
              m_b (m_gr hp v64 3 16) fun v66 =>
              m_b (F8_sumOf v66 5 hp) fun v69 =>
              some v69
            ) (
             m_if (w1 = 11) (
               m_b (m_gr hp x0 8 4) fun v71 =>
               m_b (m_gi hp v71 3 3) fun v73 =>
               m_if (v73 = 0) (
                 some 0
               ) (
                 some 1
               )
             ) (
              none
             )
            )
           )
          )
         )
        )
       )
      )
     )
    )
   )
  )
noncomputable def F11_count_0 (x0 : Nat) (x1 : Int32) (hp : m_H) : Option Int32 :=
  m_if (x1 < 12) (
    F11_count_24 x0 x1 hp
  ) (
    m_if (21 ≤ x1) (
      F11_count_24 x0 x1 hp
    ) (
      m_b (m_gr hp x0 8 4) fun v3 =>
      m_b (F3_cratesAt v3 (x1 - 12) hp) fun v6 =>
      some v6
    )
  )
noncomputable def F11_count (x0 : Nat) (x1 : Int32) (hp : m_H) : Option Int32 :=
  m_gd (m_isO hp 8 x0) (F11_count_0 x0 x1 hp)
noncomputable def F12_thrown_0 (x0 : Nat) (hp : m_H) : Option Int32 :=
  m_b (m_gi hp x0 9 0) fun v1 =>
  some v1
noncomputable def F12_thrown (x0 : Nat) (hp : m_H) : Option Int32 :=
  m_gd (m_isO hp 9 x0) (F12_thrown_0 x0 hp)
noncomputable def F12_throwsIf_0 (x0 : Nat) (x1 : Int32) (x2 : Int32) (hp : m_H) : Option (Int32 × m_H) :=
  m_if (x1 = 0) (
    m_gd (m_rok .boolean x1) (
      some (x1, hp)
    )
  ) (
    m_b (m_pf m_ft hp x0 9 0 (.int x2)) fun h3 =>
    m_gd (m_rok .boolean x1) (
      some (x1, h3)
    )
  )
noncomputable def F12_throwsIf (x0 : Nat) (x1 : Int32) (x2 : Int32) (hp : m_H) : Option (Int32 × m_H) :=
  m_gd (m_isO hp 9 x0) (F12_throwsIf_0 x0 x1 x2 hp)
noncomputable def F12_in_0 (x0 : Int32) (x1 : Int32) (x2 : Int32) (hp : m_H) : Option Int32 :=
  m_if (x0 < x1) (
    some 0
  ) (
    m_if (x2 < x0) (
      some 0
    ) (
      some 1
    )
  )
noncomputable def F12_in (x0 : Int32) (x1 : Int32) (x2 : Int32) (hp : m_H) : Option Int32 :=
  F12_in_0 x0 x1 x2 hp
noncomputable def F12_init_170b (x0 : Nat) (s : Int32 × m_H) : Option ((Int32 × m_H) ⊕ m_H) :=
  m_if (6 ≤ s.1) (
    some (.inr s.2)
  ) (
    m_b (m_gr s.2 x0 9 1) fun v2 =>
    m_b (m_si s.2 0 v2 ((37 + (4 * s.1)) + 2) 2) fun h4 =>
    some (.inl ((s.1 + 1), h4))
  )
noncomputable def F12_init_170 (x0 : Nat) (x1 : Int32) (hp : m_H) : Option m_H :=
  m_wh (fun s => F12_init_170b x0 s) m_N (x1, hp)
noncomputable def F12_init_132b (x0 : Nat) (s : Int32 × m_H) : Option ((Int32 × m_H) ⊕ m_H) :=
  m_if (8 ≤ s.1) (
    (F12_init_170 x0 0 s.2).map .inr
  ) (
    m_b (m_gr s.2 x0 9 1) fun v2 =>
    m_b (m_si s.2 0 v2 (5 + (4 * s.1)) 1) fun h4 =>
    m_b (m_gr h4 x0 9 1) fun v6 =>
    m_b (m_si h4 0 v6 ((5 + (4 * s.1)) + 3) 1) fun h8 =>
    some (.inl ((s.1 + 1), h8))
  )
noncomputable def F12_init_132 (x0 : Nat) (x1 : Int32) (hp : m_H) : Option m_H :=
  m_wh (fun s => F12_init_132b x0 s) m_N (x1, hp)
noncomputable def F12_init_0 (x0 : Nat) (hp : m_H) : Option m_H :=
  m_b (m_nw 0 37677 hp) fun h1 =>
  m_b (m_pf m_ft h1 x0 9 1 (.ref (m_id hp))) fun h3 =>
  m_b (m_nw 0 36827 h3) fun h5 =>
  m_b (m_pf m_ft h5 x0 9 2 (.ref (m_id h3))) fun h7 =>
  m_b (m_nw 0 36827 h7) fun h9 =>
  m_b (m_pf m_ft h9 x0 9 3 (.ref (m_id h7))) fun h11 =>
  m_b (m_nw 2 400 h11) fun h13 =>
  m_b (m_pf m_ft h13 x0 9 6 (.ref (m_id h11))) fun h15 =>
  m_b (m_pf m_ft h15 x0 9 12 (.int (-1))) fun h17 =>
  m_b (m_nw 0 5 h17) fun h19 =>
  m_b (m_pf m_ft h19 x0 9 13 (.ref (m_id h17))) fun h21 =>
  m_b (m_nw 1 10 h21) fun h23 =>
  m_b (m_pf m_ft h23 x0 9 15 (.ref (m_id h21))) fun h25 =>
  m_b (m_nw 1 400 h25) fun h27 =>
  m_b (m_pf m_ft h27 x0 9 16 (.ref (m_id h25))) fun h29 =>
  m_b (m_nw 0 60 h29) fun h31 =>
  m_b (m_pf m_ft h31 x0 9 17 (.ref (m_id h29))) fun h33 =>
  m_b (m_nw 3 60 h33) fun h35 =>
  m_b (m_pf m_ft h35 x0 9 18 (.ref (m_id h33))) fun h37 =>
  m_b (m_nw 0 6 h37) fun h39 =>
  m_b (m_pf m_ft h39 x0 9 19 (.ref (m_id h37))) fun h41 =>
  m_b (m_nw 0 6 h41) fun h43 =>
  m_b (m_pf m_ft h43 x0 9 20 (.ref (m_id h41))) fun h45 =>
  m_b (m_nw 0 6 h45) fun h47 =>
  m_b (m_pf m_ft h47 x0 9 21 (.ref (m_id h45))) fun h49 =>
  m_b (m_nw 0 6 h49) fun h51 =>
  m_b (m_pf m_ft h51 x0 9 22 (.ref (m_id h49))) fun h53 =>
  m_b (m_nw 0 8 h53) fun h55 =>
  m_b (m_pf m_ft h55 x0 9 24 (.ref (m_id h53))) fun h57 =>
  m_b (m_nw 1 6 h57) fun h59 =>
  m_b (m_pf m_ft h59 x0 9 25 (.ref (m_id h57))) fun h61 =>
  F12_init_132 x0 0 h61
noncomputable def F12_init (x0 : Nat) (hp : m_H) : Option m_H :=
  m_gd (m_isO hp 9 x0) (F12_init_0 x0 hp)
noncomputable def F12_week_0 (x0 : Nat) (hp : m_H) : Option Int32 :=
  m_b (m_gr hp x0 9 1) fun v1 =>
  m_b (m_ai hp 0 v1 0) fun v3 =>
  some v3
noncomputable def F12_week (x0 : Nat) (hp : m_H) : Option Int32 :=
  m_gd (m_isO hp 9 x0) (F12_week_0 x0 hp)
noncomputable def F12_isOver_0 (x0 : Nat) (hp : m_H) : Option Int32 :=
  m_b (m_gr hp x0 9 1) fun v1 =>
  m_b (m_ai hp 0 v1 3) fun v3 =>
  m_if (v3 = 1) (
    some 1
  ) (
    some 0
  )
noncomputable def F12_isOver (x0 : Nat) (hp : m_H) : Option Int32 :=
  m_gd (m_isO hp 9 x0) (F12_isOver_0 x0 hp)
noncomputable def F12_deed_2b (x0 : Nat) (s : Int32 × m_H) : Option ((Int32 × m_H) ⊕ m_H) :=
  m_if (36827 ≤ s.1) (
    m_b (m_pf m_ft s.2 x0 9 5 (.int 1)) fun h2 =>
    some (.inr h2)
  ) (
    m_b (m_gr s.2 x0 9 3) fun v4 =>
    m_b (m_gr s.2 x0 9 1) fun v6 =>
    m_b (m_ai s.2 0 v6 s.1) fun v8 =>
    m_b (m_si s.2 0 v4 s.1 v8) fun h10 =>
    some (.inl ((s.1 + 1), h10))
  )
noncomputable def F12_deed_2 (x0 : Nat) (x1 : Int32) (hp : m_H) : Option m_H :=
  m_wh (fun s => F12_deed_2b x0 s) m_N (x1, hp)
noncomputable def F12_deed_0 (x0 : Nat) (hp : m_H) : Option m_H :=
  F12_deed_2 x0 0 hp
noncomputable def F12_deed (x0 : Nat) (hp : m_H) : Option m_H :=
  m_gd (m_isO hp 9 x0) (F12_deed_0 x0 hp)
noncomputable def F12_undo_16b (x0 : Nat) (s : Int32 × m_H) : Option ((Int32 × m_H) ⊕ (Int32 × m_H)) :=
  m_if (36827 ≤ s.1) (
    m_b (m_pf m_ft s.2 x0 9 5 (.int 0)) fun h2 =>
    some (.inr (1, h2))
  ) (
    m_b (m_gr s.2 x0 9 1) fun v4 =>
    m_b (m_gr s.2 x0 9 3) fun v6 =>
    m_b (m_ai s.2 0 v6 s.1) fun v8 =>
    m_b (m_si s.2 0 v4 s.1 v8) fun h10 =>
    some (.inl ((s.1 + 1), h10))
  )
noncomputable def F12_undo_16 (x0 : Nat) (x1 : Int32) (hp : m_H) : Option (Int32 × m_H) :=
  m_wh (fun s => F12_undo_16b x0 s) m_N (x1, hp)
noncomputable def F12_undo_0 (x0 : Nat) (hp : m_H) : Option (Int32 × m_H) :=
  m_b (m_pf m_ft hp x0 9 0 (.int 0)) fun h1 =>
  m_b (m_gi h1 x0 9 5) fun v3 =>
  m_if (v3 = 0) (
    some (0, h1)
  ) (
    F12_undo_16 x0 0 h1
  )
noncomputable def F12_undo (x0 : Nat) (hp : m_H) : Option (Int32 × m_H) :=
  m_gd (m_isO hp 9 x0) (F12_undo_0 x0 hp)
noncomputable def F12_keep_7b (x0 : Nat) (s : Int32 × m_H) : Option ((Int32 × m_H) ⊕ m_H) :=
  m_if (36827 ≤ s.1) (
    m_b (m_pf m_ft s.2 x0 9 4 (.int 1)) fun h2 =>
    some (.inr h2)
  ) (
    m_b (m_gr s.2 x0 9 2) fun v4 =>
    m_b (m_gr s.2 x0 9 1) fun v6 =>
    m_b (m_ai s.2 0 v6 s.1) fun v8 =>
    m_b (m_si s.2 0 v4 s.1 v8) fun h10 =>
    some (.inl ((s.1 + 1), h10))
  )
noncomputable def F12_keep_7 (x0 : Nat) (x1 : Int32) (hp : m_H) : Option m_H :=
  m_wh (fun s => F12_keep_7b x0 s) m_N (x1, hp)
noncomputable def F12_keep_0 (x0 : Nat) (hp : m_H) : Option m_H :=
  m_b (m_pf m_ft hp x0 9 0 (.int 0)) fun h1 =>
  F12_keep_7 x0 0 h1
noncomputable def F12_keep (x0 : Nat) (hp : m_H) : Option m_H :=
  m_gd (m_isO hp 9 x0) (F12_keep_0 x0 hp)
noncomputable def F12_again_16b (x0 : Nat) (s : Int32 × m_H) : Option ((Int32 × m_H) ⊕ (Int32 × m_H)) :=
  m_if (36827 ≤ s.1) (
    m_b (m_pf m_ft s.2 x0 9 5 (.int 0)) fun h2 =>
    some (.inr (1, h2))
  ) (
    m_b (m_gr s.2 x0 9 1) fun v4 =>
    m_b (m_gr s.2 x0 9 2) fun v6 =>
    m_b (m_ai s.2 0 v6 s.1) fun v8 =>
    m_b (m_si s.2 0 v4 s.1 v8) fun h10 =>
    some (.inl ((s.1 + 1), h10))
  )
noncomputable def F12_again_16 (x0 : Nat) (x1 : Int32) (hp : m_H) : Option (Int32 × m_H) :=
  m_wh (fun s => F12_again_16b x0 s) m_N (x1, hp)
noncomputable def F12_again_0 (x0 : Nat) (hp : m_H) : Option (Int32 × m_H) :=
  m_b (m_pf m_ft hp x0 9 0 (.int 0)) fun h1 =>
  m_b (m_gi h1 x0 9 4) fun v3 =>
  m_if (v3 = 0) (
    some (0, h1)
  ) (
    F12_again_16 x0 0 h1
  )
noncomputable def F12_again (x0 : Nat) (hp : m_H) : Option (Int32 × m_H) :=
  m_gd (m_isO hp 9 x0) (F12_again_0 x0 hp)
noncomputable def F12_noSort_0 (x0 : Int32) (hp : m_H) : Option Int32 :=
  m_b (F12_in x0 0 7 hp) fun v2 =>
  m_if (v2 = 0) (
    some 1
  ) (
    some 0
  )
noncomputable def F12_noSort (x0 : Int32) (hp : m_H) : Option Int32 :=
  F12_noSort_0 x0 hp
noncomputable def F12_noLand_0 (x0 : Int32) (hp : m_H) : Option Int32 :=
  m_b (F12_in x0 0 5 hp) fun v2 =>
  m_if (v2 = 0) (
    some 1
  ) (
    some 0
  )
noncomputable def F12_noLand (x0 : Int32) (hp : m_H) : Option Int32 :=
  F12_noLand_0 x0 hp
noncomputable def F12_sortOf_0 (x0 : Nat) (x1 : Int32) (x2 : Int32) (hp : m_H) : Option Int32 :=
  m_b (m_gr hp x0 9 1) fun v1 =>
  m_b (m_ai hp 0 v1 ((5 + (4 * x1)) + x2)) fun v3 =>
  some v3
noncomputable def F12_sortOf (x0 : Nat) (x1 : Int32) (x2 : Int32) (hp : m_H) : Option Int32 :=
  m_gd (m_isO hp 9 x0) (F12_sortOf_0 x0 x1 x2 hp)
noncomputable def F12_landAt_0 (x0 : Int32) (x1 : Int32) (hp : m_H) : Option Int32 :=
  some ((37 + (4 * x0)) + x1)
noncomputable def F12_landAt (x0 : Int32) (x1 : Int32) (hp : m_H) : Option Int32 :=
  F12_landAt_0 x0 x1 hp
noncomputable def F12_both_0 (x0 : Int32) (x1 : Int32) (x2 : Int32) (hp : m_H) : Option Int32 :=
  some ((x0 + (8 * x1)) + x2)
noncomputable def F12_both (x0 : Int32) (x1 : Int32) (x2 : Int32) (hp : m_H) : Option Int32 :=
  F12_both_0 x0 x1 x2 hp
noncomputable def F12_sort_65 (x0 : Nat) (x1 : Int32) (x2 : Int32) (x3 : Int32) (x4 : Int32) (x5 : Int32) (s0 : Int32) (s1 : Nat) (hp : m_H) : Option m_H :=
  m_b (F12_throwsIf s1 s0 2 hp) fun z2 =>
  m_if (z2.1 = 0) (
    m_b (m_gr z2.2 x0 9 1) fun v4 =>
    m_b (m_si z2.2 0 v4 (5 + (4 * x1)) x2) fun h6 =>
    m_b (m_gr h6 x0 9 1) fun v8 =>
    m_b (m_si h6 0 v8 ((5 + (4 * x1)) + 1) x3) fun h10 =>
    m_b (m_gr h10 x0 9 1) fun v12 =>
    m_b (m_si h10 0 v12 ((5 + (4 * x1)) + 2) x4) fun h14 =>
    m_b (m_gr h14 x0 9 1) fun v16 =>
    m_b (m_si h14 0 v16 ((5 + (4 * x1)) + 3) x5) fun h18 =>
    some h18
  ) (
    some z2.2
  )
noncomputable def F12_sort_60 (x0 : Nat) (x1 : Int32) (x2 : Int32) (x3 : Int32) (x4 : Int32) (x5 : Int32) (s0 : Nat) (hp : m_H) : Option m_H :=
  F12_sort_65 x0 x1 x2 x3 x4 x5 1 s0 hp
noncomputable def F12_sort_0 (x0 : Nat) (x1 : Int32) (x2 : Int32) (x3 : Int32) (x4 : Int32) (x5 : Int32) (hp : m_H) : Option m_H :=
  m_b (m_pf m_ft hp x0 9 0 (.int 0)) fun h1 =>
  m_b (F12_noSort x1 h1) fun v4 =>
  m_b (F12_throwsIf x0 v4 1 h1) fun z6 =>
  m_if (z6.1 = 0) (
    m_b (F12_in x2 1 20 z6.2) fun v9 =>
    m_if (v9 = 0) (
      F12_sort_60 x0 x1 x2 x3 x4 x5 x0 z6.2
    ) (
      m_b (F12_in x3 0 50 z6.2) fun v12 =>
      m_if (v12 = 0) (
        F12_sort_60 x0 x1 x2 x3 x4 x5 x0 z6.2
      ) (
        m_b (F12_in x4 0 50 z6.2) fun v15 =>
        m_if (v15 = 0) (
          F12_sort_60 x0 x1 x2 x3 x4 x5 x0 z6.2
        ) (
          m_b (F12_in x5 1 9 z6.2) fun v18 =>
          m_if (v18 = 0) (
            F12_sort_60 x0 x1 x2 x3 x4 x5 x0 z6.2
          ) (
            F12_sort_65 x0 x1 x2 x3 x4 x5 0 x0 z6.2
          )
        )
      )
    )
  ) (
    some z6.2
  )
noncomputable def F12_sort (x0 : Nat) (x1 : Int32) (x2 : Int32) (x3 : Int32) (x4 : Int32) (x5 : Int32) (hp : m_H) : Option m_H :=
  m_gd (m_isO hp 9 x0) (F12_sort_0 x0 x1 x2 x3 x4 x5 hp)
noncomputable def F12_tells_0 (x0 : Nat) (x1 : Int32) (x2 : Int32) (x3 : Int32) (x4 : Int32) (hp : m_H) : Option (Int32 × m_H) :=
  m_b (m_gr hp x0 9 1) fun v1 =>
  m_b (m_ai hp 0 v1 x1) fun v3 =>
  m_if (v3 = 100) (
    some ((-1), hp)
  ) (
    m_b (m_gr hp x0 9 1) fun v6 =>
    m_b (m_si hp 0 v6 ((x1 + 1) + (3 * v3)) x2) fun h8 =>
    m_b (m_gr h8 x0 9 1) fun v10 =>
    m_b (m_si h8 0 v10 ((x1 + 2) + (3 * v3)) x3) fun h12 =>
    m_b (m_gr h12 x0 9 1) fun v14 =>
    m_b (m_si h12 0 v14 ((x1 + 3) + (3 * v3)) x4) fun h16 =>
    m_b (m_gr h16 x0 9 1) fun v18 =>
    m_b (m_ai h16 0 v18 x1) fun v20 =>
    m_b (m_si h16 0 v18 x1 (v20 + 1)) fun h22 =>
    some ((v3 + 1), h22)
  )
noncomputable def F12_tells (x0 : Nat) (x1 : Int32) (x2 : Int32) (x3 : Int32) (x4 : Int32) (hp : m_H) : Option (Int32 × m_H) :=
  m_gd (m_isO hp 9 x0) (F12_tells_0 x0 x1 x2 x3 x4 hp)
noncomputable def F12_toldOf_8b (x0 : Nat) (x1 : Int32) (x2 : Int32) (x3 : Int32) (hp : m_H) (s : Int32 × Int32) : Option ((Int32 × Int32) ⊕ Int32) :=
  m_b (m_gr hp x0 9 1) fun v1 =>
  m_b (m_ai hp 0 v1 x1) fun v3 =>
  m_if (((x1 + 1) + (3 * v3)) ≤ s.2) (
    m_if (0 ≤ s.1) (
      m_b (m_gr hp x0 9 1) fun v7 =>
      m_b (m_ai hp 0 v7 (s.1 + 2)) fun v9 =>
      some (.inr v9)
    ) (
      some (.inr 0)
    )
  ) (
    m_b (m_gr hp x0 9 1) fun v11 =>
    m_b (m_ai hp 0 v11 s.2) fun v13 =>
    m_if (v13 = x2) (
      m_b (m_gr hp x0 9 1) fun v16 =>
      m_b (m_ai hp 0 v16 (s.2 + 1)) fun v18 =>
      m_if (x3 < v18) (
        some (.inl (s.1, (s.2 + 3)))
      ) (
        m_if (s.1 < 0) (
          some (.inl (s.2, (s.2 + 3)))
        ) (
          m_b (m_gr hp x0 9 1) fun v22 =>
          m_b (m_ai hp 0 v22 (s.2 + 1)) fun v24 =>
          m_b (m_gr hp x0 9 1) fun v26 =>
          m_b (m_ai hp 0 v26 (s.1 + 1)) fun v28 =>
          m_if (v24 < v28) (
            some (.inl (s.1, (s.2 + 3)))
          ) (
            some (.inl (s.2, (s.2 + 3)))
          )
        )
      )
    ) (
      some (.inl (s.1, (s.2 + 3)))
    )
  )
noncomputable def F12_toldOf_8 (x0 : Nat) (x1 : Int32) (x2 : Int32) (x3 : Int32) (x4 : Int32) (x5 : Int32) (hp : m_H) : Option Int32 :=
  m_wh (fun s => F12_toldOf_8b x0 x1 x2 x3 hp s) m_N (x4, x5)
noncomputable def F12_toldOf_0 (x0 : Nat) (x1 : Int32) (x2 : Int32) (x3 : Int32) (hp : m_H) : Option Int32 :=
  F12_toldOf_8 x0 x1 x2 x3 (-1) (x1 + 1) hp
noncomputable def F12_toldOf (x0 : Nat) (x1 : Int32) (x2 : Int32) (x3 : Int32) (hp : m_H) : Option Int32 :=
  m_gd (m_isO hp 9 x0) (F12_toldOf_0 x0 x1 x2 x3 hp)
noncomputable def F12_price_48 (x0 : Nat) (x1 : Int32) (x2 : Int32) (x3 : Int32) (s0 : Int32) (s1 : Nat) (hp : m_H) : Option (Int32 × m_H) :=
  m_b (F12_throwsIf s1 s0 2 hp) fun z2 =>
  m_if (z2.1 = 0) (
    m_b (F12_tells x0 205 x1 x2 x3 z2.2) fun z5 =>
    some (z5.1, z5.2)
  ) (
    some (0, z2.2)
  )
noncomputable def F12_price_43 (x0 : Nat) (x1 : Int32) (x2 : Int32) (x3 : Int32) (s0 : Nat) (hp : m_H) : Option (Int32 × m_H) :=
  F12_price_48 x0 x1 x2 x3 1 s0 hp
noncomputable def F12_price_0 (x0 : Nat) (x1 : Int32) (x2 : Int32) (x3 : Int32) (hp : m_H) : Option (Int32 × m_H) :=
  m_b (m_pf m_ft hp x0 9 0 (.int 0)) fun h1 =>
  m_b (F12_noSort x1 h1) fun v4 =>
  m_b (F12_throwsIf x0 v4 1 h1) fun z6 =>
  m_if (z6.1 = 0) (
    m_b (F12_week x0 z6.2) fun v9 =>
    m_b (F12_in x2 v9 500 z6.2) fun v11 =>
    m_if (v11 = 0) (
      F12_price_43 x0 x1 x2 x3 x0 z6.2
    ) (
      m_b (F12_in x3 0 1000 z6.2) fun v14 =>
      m_if (v14 = 0) (
        F12_price_43 x0 x1 x2 x3 x0 z6.2
      ) (
        F12_price_48 x0 x1 x2 x3 0 x0 z6.2
      )
    )
  ) (
    some (0, z6.2)
  )
noncomputable def F12_price (x0 : Nat) (x1 : Int32) (x2 : Int32) (x3 : Int32) (hp : m_H) : Option (Int32 × m_H) :=
  m_gd (m_isO hp 9 x0) (F12_price_0 x0 x1 x2 x3 hp)
noncomputable def F12_priceOf_0 (x0 : Nat) (x1 : Int32) (x2 : Int32) (hp : m_H) : Option Int32 :=
  m_b (F12_toldOf x0 205 x1 x2 hp) fun v2 =>
  some v2
noncomputable def F12_priceOf (x0 : Nat) (x1 : Int32) (x2 : Int32) (hp : m_H) : Option Int32 :=
  m_gd (m_isO hp 9 x0) (F12_priceOf_0 x0 x1 x2 hp)
noncomputable def F12_cost_0 (x0 : Nat) (x1 : Int32) (x2 : Int32) (hp : m_H) : Option (Int32 × m_H) :=
  m_b (m_pf m_ft hp x0 9 0 (.int 0)) fun h1 =>
  m_b (F12_noSort x1 h1) fun v4 =>
  m_b (F12_throwsIf x0 v4 1 h1) fun z6 =>
  m_if (z6.1 = 0) (
    m_b (F12_priceOf x0 x1 x2 z6.2) fun v9 =>
    some (v9, z6.2)
  ) (
    some (0, z6.2)
  )
noncomputable def F12_cost (x0 : Nat) (x1 : Int32) (x2 : Int32) (hp : m_H) : Option (Int32 × m_H) :=
  m_gd (m_isO hp 9 x0) (F12_cost_0 x0 x1 x2 hp)
noncomputable def F12_works_38 (x0 : Nat) (x1 : Int32) (x2 : Int32) (s0 : Int32) (s1 : Nat) (hp : m_H) : Option (Int32 × m_H) :=
  m_b (F12_throwsIf s1 s0 1 hp) fun z2 =>
  m_if (z2.1 = 0) (
    m_b (m_gr z2.2 x0 9 1) fun v4 =>
    m_b (m_ai z2.2 0 v4 1) fun v6 =>
    m_b (m_si z2.2 0 v4 1 (v6 + x1)) fun h8 =>
    m_b (m_gr h8 x0 9 1) fun v10 =>
    m_b (m_si h8 0 v10 2 x2) fun h12 =>
    m_b (m_gr h12 x0 9 1) fun v14 =>
    m_b (m_ai h12 0 v14 1) fun v16 =>
    some (v16, h12)
  ) (
    some (0, z2.2)
  )
noncomputable def F12_works_33 (x0 : Nat) (x1 : Int32) (x2 : Int32) (s0 : Nat) (hp : m_H) : Option (Int32 × m_H) :=
  F12_works_38 x0 x1 x2 1 s0 hp
noncomputable def F12_works_0 (x0 : Nat) (x1 : Int32) (x2 : Int32) (hp : m_H) : Option (Int32 × m_H) :=
  m_b (m_pf m_ft hp x0 9 0 (.int 0)) fun h1 =>
  m_if (x1 < 0) (
    F12_works_33 x0 x1 x2 x0 h1
  ) (
    m_b (m_gr h1 x0 9 1) fun v4 =>
    m_b (m_ai h1 0 v4 1) fun v6 =>
    m_if ((1000000 - v6) < x1) (
      F12_works_33 x0 x1 x2 x0 h1
    ) (
      m_b (F12_in x2 0 1000000 h1) fun v10 =>
      m_if (v10 = 0) (
        F12_works_33 x0 x1 x2 x0 h1
      ) (
        F12_works_38 x0 x1 x2 0 x0 h1
      )
    )
  )
noncomputable def F12_works (x0 : Nat) (x1 : Int32) (x2 : Int32) (hp : m_H) : Option (Int32 × m_H) :=
  m_gd (m_isO hp 9 x0) (F12_works_0 x0 x1 x2 hp)
noncomputable def F12_way_37 (x0 : Nat) (x1 : Int32) (x2 : Int32) (s0 : Int32) (s1 : Nat) (hp : m_H) : Option m_H :=
  m_b (F12_throwsIf s1 s0 2 hp) fun z2 =>
  m_if (z2.1 = 0) (
    m_b (m_gr z2.2 x0 9 1) fun v4 =>
    m_b (F12_landAt x1 2 z2.2) fun v7 =>
    m_b (m_si z2.2 0 v4 v7 x2) fun h8 =>
    some h8
  ) (
    some z2.2
  )
noncomputable def F12_way_32 (x0 : Nat) (x1 : Int32) (x2 : Int32) (s0 : Nat) (hp : m_H) : Option m_H :=
  F12_way_37 x0 x1 x2 1 s0 hp
noncomputable def F12_way_0 (x0 : Nat) (x1 : Int32) (x2 : Int32) (hp : m_H) : Option m_H :=
  m_b (m_pf m_ft hp x0 9 0 (.int 0)) fun h1 =>
  m_b (F12_noLand x1 h1) fun v4 =>
  m_b (F12_throwsIf x0 v4 1 h1) fun z6 =>
  m_if (z6.1 = 0) (
    m_if (x1 = 0) (
      F12_way_32 x0 x1 x2 x0 z6.2
    ) (
      m_b (F12_in x2 1 6 z6.2) fun v10 =>
      m_if (v10 = 0) (
        F12_way_32 x0 x1 x2 x0 z6.2
      ) (
        F12_way_37 x0 x1 x2 0 x0 z6.2
      )
    )
  ) (
    some z6.2
  )
noncomputable def F12_way (x0 : Nat) (x1 : Int32) (x2 : Int32) (hp : m_H) : Option m_H :=
  m_gd (m_isO hp 9 x0) (F12_way_0 x0 x1 x2 hp)
noncomputable def F12_risk_51 (x0 : Nat) (x1 : Int32) (x2 : Int32) (x3 : Int32) (s0 : Int32) (s1 : Nat) (hp : m_H) : Option (Int32 × m_H) :=
  m_b (F12_throwsIf s1 s0 2 hp) fun z2 =>
  m_if (z2.1 = 0) (
    m_b (F12_tells x0 506 x1 x2 x3 z2.2) fun z5 =>
    some (z5.1, z5.2)
  ) (
    some (0, z2.2)
  )
noncomputable def F12_risk_46 (x0 : Nat) (x1 : Int32) (x2 : Int32) (x3 : Int32) (s0 : Nat) (hp : m_H) : Option (Int32 × m_H) :=
  F12_risk_51 x0 x1 x2 x3 1 s0 hp
noncomputable def F12_risk_0 (x0 : Nat) (x1 : Int32) (x2 : Int32) (x3 : Int32) (hp : m_H) : Option (Int32 × m_H) :=
  m_b (m_pf m_ft hp x0 9 0 (.int 0)) fun h1 =>
  m_b (F12_noLand x1 h1) fun v4 =>
  m_b (F12_throwsIf x0 v4 1 h1) fun z6 =>
  m_if (z6.1 = 0) (
    m_if (x1 = 0) (
      F12_risk_46 x0 x1 x2 x3 x0 z6.2
    ) (
      m_b (F12_week x0 z6.2) fun v10 =>
      m_b (F12_in x2 v10 500 z6.2) fun v12 =>
      m_if (v12 = 0) (
        F12_risk_46 x0 x1 x2 x3 x0 z6.2
      ) (
        m_b (F12_in x3 0 100 z6.2) fun v15 =>
        m_if (v15 = 0) (
          F12_risk_46 x0 x1 x2 x3 x0 z6.2
        ) (
          F12_risk_51 x0 x1 x2 x3 0 x0 z6.2
        )
      )
    )
  ) (
    some (0, z6.2)
  )
noncomputable def F12_risk (x0 : Nat) (x1 : Int32) (x2 : Int32) (x3 : Int32) (hp : m_H) : Option (Int32 × m_H) :=
  m_gd (m_isO hp 9 x0) (F12_risk_0 x0 x1 x2 x3 hp)
noncomputable def F12_need_53 (x0 : Nat) (x1 : Int32) (x2 : Int32) (x3 : Int32) (s0 : Int32) (s1 : Nat) (hp : m_H) : Option m_H :=
  m_b (F12_throwsIf s1 s0 2 hp) fun z2 =>
  m_if (z2.1 = 0) (
    m_b (m_gr z2.2 x0 9 1) fun v4 =>
    m_b (F12_both 61 x1 x2 z2.2) fun v7 =>
    m_b (m_si z2.2 0 v4 v7 x3) fun h8 =>
    some h8
  ) (
    some z2.2
  )
noncomputable def F12_need_48 (x0 : Nat) (x1 : Int32) (x2 : Int32) (x3 : Int32) (s0 : Nat) (hp : m_H) : Option m_H :=
  F12_need_53 x0 x1 x2 x3 1 s0 hp
noncomputable def F12_need_25 (x0 : Nat) (x1 : Int32) (x2 : Int32) (x3 : Int32) (s0 : Int32) (s1 : Nat) (hp : m_H) : Option m_H :=
  m_b (F12_throwsIf s1 s0 1 hp) fun z2 =>
  m_if (z2.1 = 0) (
    m_if (x1 = 0) (
      F12_need_48 x0 x1 x2 x3 x0 z2.2
    ) (
      m_b (F12_in x3 0 1000 z2.2) fun v6 =>
      m_if (v6 = 0) (
        F12_need_48 x0 x1 x2 x3 x0 z2.2
      ) (
        F12_need_53 x0 x1 x2 x3 0 x0 z2.2
      )
    )
  ) (
    some z2.2
  )
noncomputable def F12_need_20 (x0 : Nat) (x1 : Int32) (x2 : Int32) (x3 : Int32) (s0 : Nat) (hp : m_H) : Option m_H :=
  F12_need_25 x0 x1 x2 x3 1 s0 hp
noncomputable def F12_need_0 (x0 : Nat) (x1 : Int32) (x2 : Int32) (x3 : Int32) (hp : m_H) : Option m_H :=
  m_b (m_pf m_ft hp x0 9 0 (.int 0)) fun h1 =>
  m_b (F12_noLand x1 h1) fun v4 =>
  m_if (v4 = 0) (
    m_b (F12_noSort x2 h1) fun v7 =>
    m_if (v7 = 0) (
      F12_need_25 x0 x1 x2 x3 0 x0 h1
    ) (
      F12_need_20 x0 x1 x2 x3 x0 h1
    )
  ) (
    F12_need_20 x0 x1 x2 x3 x0 h1
  )
noncomputable def F12_need (x0 : Nat) (x1 : Int32) (x2 : Int32) (x3 : Int32) (hp : m_H) : Option m_H :=
  m_gd (m_isO hp 9 x0) (F12_need_0 x0 x1 x2 x3 hp)
noncomputable def F12_lotAt_0 (x0 : Int32) (x1 : Int32) (hp : m_H) : Option Int32 :=
  some ((808 + (21 * x0)) + x1)
noncomputable def F12_lotAt (x0 : Int32) (x1 : Int32) (hp : m_H) : Option Int32 :=
  F12_lotAt_0 x0 x1 hp
noncomputable def F12_of_0 (x0 : Nat) (x1 : Int32) (x2 : Int32) (hp : m_H) : Option Int32 :=
  m_b (m_gr hp x0 9 1) fun v1 =>
  m_b (F12_lotAt x1 x2 hp) fun v4 =>
  m_b (m_ai hp 0 v1 v4) fun v5 =>
  some v5
noncomputable def F12_of (x0 : Nat) (x1 : Int32) (x2 : Int32) (hp : m_H) : Option Int32 :=
  m_gd (m_isO hp 9 x0) (F12_of_0 x0 x1 x2 hp)
noncomputable def F12_noLot_0 (x0 : Nat) (x1 : Int32) (hp : m_H) : Option Int32 :=
  m_b (m_gr hp x0 9 1) fun v1 =>
  m_b (m_ai hp 0 v1 807) fun v3 =>
  m_b (F12_in x1 0 (v3 - 1) hp) fun v6 =>
  m_if (v6 = 0) (
    some 1
  ) (
    some 0
  )
noncomputable def F12_noLot (x0 : Nat) (x1 : Int32) (hp : m_H) : Option Int32 :=
  m_gd (m_isO hp 9 x0) (F12_noLot_0 x0 x1 hp)
noncomputable def F12_begins_25b (x0 : Nat) (x1 : Int32) (x2 : Int32) (x3 : Int32) (x4 : Int32) (x5 : Int32) (s : Int32 × m_H) : Option ((Int32 × m_H) ⊕ (Int32 × m_H)) :=
  m_if (21 ≤ s.1) (
    m_b (m_gr s.2 x0 9 1) fun v2 =>
    m_b (F12_lotAt x5 0 s.2) fun v5 =>
    m_b (m_si s.2 0 v2 v5 x1) fun h6 =>
    m_b (m_gr h6 x0 9 1) fun v8 =>
    m_b (F12_lotAt x5 1 h6) fun v11 =>
    m_b (m_si h6 0 v8 v11 x2) fun h12 =>
    m_b (m_gr h12 x0 9 1) fun v14 =>
    m_b (F12_lotAt x5 2 h12) fun v17 =>
    m_b (m_si h12 0 v14 v17 x3) fun h18 =>
    m_b (m_gr h18 x0 9 1) fun v20 =>
    m_b (F12_lotAt x5 6 h18) fun v23 =>
    m_b (m_si h18 0 v20 v23 (-1)) fun h24 =>
    m_b (m_gr h24 x0 9 1) fun v26 =>
    m_b (F12_lotAt x5 8 h24) fun v29 =>
    m_b (m_si h24 0 v26 v29 (-1)) fun h30 =>
    m_b (m_gr h30 x0 9 1) fun v32 =>
    m_b (F12_lotAt x5 (10 + x4) h30) fun v35 =>
    m_b (m_si h30 0 v32 v35 x2) fun h36 =>
    some (.inr (x5, h36))
  ) (
    m_b (m_gr s.2 x0 9 1) fun v38 =>
    m_b (F12_lotAt x5 s.1 s.2) fun v41 =>
    m_b (m_si s.2 0 v38 v41 0) fun h42 =>
    some (.inl ((s.1 + 1), h42))
  )
noncomputable def F12_begins_25 (x0 : Nat) (x1 : Int32) (x2 : Int32) (x3 : Int32) (x4 : Int32) (x5 : Int32) (x6 : Int32) (hp : m_H) : Option (Int32 × m_H) :=
  m_wh (fun s => F12_begins_25b x0 x1 x2 x3 x4 x5 s) m_N (x6, hp)
noncomputable def F12_begins_0 (x0 : Nat) (x1 : Int32) (x2 : Int32) (x3 : Int32) (x4 : Int32) (hp : m_H) : Option (Int32 × m_H) :=
  m_b (m_gr hp x0 9 1) fun v1 =>
  m_b (m_ai hp 0 v1 807) fun v3 =>
  m_b (m_gr hp x0 9 1) fun v5 =>
  m_b (m_ai hp 0 v5 807) fun v7 =>
  m_b (m_si hp 0 v5 807 (v7 + 1)) fun h9 =>
  F12_begins_25 x0 x1 x2 x3 x4 v3 0 h9
noncomputable def F12_begins (x0 : Nat) (x1 : Int32) (x2 : Int32) (x3 : Int32) (x4 : Int32) (hp : m_H) : Option (Int32 × m_H) :=
  m_gd (m_isO hp 9 x0) (F12_begins_0 x0 x1 x2 x3 x4 hp)
noncomputable def F12_moves_0 (x0 : Nat) (x1 : Int32) (x2 : Int32) (x3 : Int32) (x4 : Int32) (hp : m_H) : Option m_H :=
  m_b (m_gr hp x0 9 1) fun v1 =>
  m_b (F12_lotAt x1 (10 + x2) hp) fun v4 =>
  m_b (m_ai hp 0 v1 v4) fun v5 =>
  m_b (m_si hp 0 v1 v4 (v5 - x4)) fun h7 =>
  m_b (m_gr h7 x0 9 1) fun v9 =>
  m_b (F12_lotAt x1 (10 + x3) h7) fun v12 =>
  m_b (m_ai h7 0 v9 v12) fun v13 =>
  m_b (m_si h7 0 v9 v12 (v13 + x4)) fun h15 =>
  some h15
noncomputable def F12_moves (x0 : Nat) (x1 : Int32) (x2 : Int32) (x3 : Int32) (x4 : Int32) (hp : m_H) : Option m_H :=
  m_gd (m_isO hp 9 x0) (F12_moves_0 x0 x1 x2 x3 x4 hp)
noncomputable def F12_isStock_0 (x0 : Nat) (x1 : Int32) (hp : m_H) : Option Int32 :=
  m_b (F12_of x0 x1 2 hp) fun v2 =>
  m_if (v2 = 0) (
    some 1
  ) (
    some 0
  )
noncomputable def F12_isStock (x0 : Nat) (x1 : Int32) (hp : m_H) : Option Int32 :=
  m_gd (m_isO hp 9 x0) (F12_isStock_0 x0 x1 hp)
noncomputable def F12_isFor_0 (x0 : Nat) (x1 : Int32) (x2 : Int32) (hp : m_H) : Option Int32 :=
  m_b (F12_of x0 x1 2 hp) fun v2 =>
  m_if (v2 = x2) (
    m_b (F12_of x0 x1 3 hp) fun v5 =>
    m_if (v5 = 0) (
      some 1
    ) (
      some 0
    )
  ) (
    some 0
  )
noncomputable def F12_isFor (x0 : Nat) (x1 : Int32) (x2 : Int32) (hp : m_H) : Option Int32 :=
  m_gd (m_isO hp 9 x0) (F12_isFor_0 x0 x1 x2 hp)
noncomputable def F12_order_60 (x0 : Nat) (x1 : Int32) (x2 : Int32) (s0 : Int32) (s1 : Nat) (hp : m_H) : Option (Int32 × m_H) :=
  m_b (F12_throwsIf s1 s0 3 hp) fun z2 =>
  m_if (z2.1 = 0) (
    m_b (F12_isOver x0 z2.2) fun v5 =>
    m_b (F12_throwsIf x0 v5 4 z2.2) fun z7 =>
    m_if (z7.1 = 0) (
      m_b (F12_begins x0 x1 x2 0 0 z7.2) fun z10 =>
      some (z10.1, z10.2)
    ) (
      some (0, z7.2)
    )
  ) (
    some (0, z2.2)
  )
noncomputable def F12_order_34 (x0 : Nat) (x1 : Int32) (x2 : Int32) (s0 : Int32) (s1 : Nat) (hp : m_H) : Option (Int32 × m_H) :=
  m_b (F12_throwsIf s1 s0 2 hp) fun z2 =>
  m_if (z2.1 = 0) (
    m_b (m_gr z2.2 x0 9 1) fun v4 =>
    m_b (m_ai z2.2 0 v4 807) fun v6 =>
    m_if (v6 = 100) (
      F12_order_60 x0 x1 x2 1 x0 z2.2
    ) (
      F12_order_60 x0 x1 x2 0 x0 z2.2
    )
  ) (
    some (0, z2.2)
  )
noncomputable def F12_order_0 (x0 : Nat) (x1 : Int32) (x2 : Int32) (hp : m_H) : Option (Int32 × m_H) :=
  m_b (m_pf m_ft hp x0 9 0 (.int 0)) fun h1 =>
  m_b (F12_noSort x1 h1) fun v4 =>
  m_b (F12_throwsIf x0 v4 1 h1) fun z6 =>
  m_if (z6.1 = 0) (
    m_b (F12_in x2 1 1000 z6.2) fun v9 =>
    m_if (v9 = 0) (
      F12_order_34 x0 x1 x2 1 x0 z6.2
    ) (
      F12_order_34 x0 x1 x2 0 x0 z6.2
    )
  ) (
    some (0, z6.2)
  )
noncomputable def F12_order (x0 : Nat) (x1 : Int32) (x2 : Int32) (hp : m_H) : Option (Int32 × m_H) :=
  m_gd (m_isO hp 9 x0) (F12_order_0 x0 x1 x2 hp)
noncomputable def F12_lot_34 (x0 : Nat) (x1 : Int32) (x2 : Int32) (s0 : Int32) (s1 : Nat) (hp : m_H) : Option (Int32 × m_H) :=
  m_b (F12_throwsIf s1 s0 2 hp) fun z2 =>
  m_if (z2.1 = 0) (
    m_b (F12_of x0 x1 x2 z2.2) fun v5 =>
    some (v5, z2.2)
  ) (
    some (0, z2.2)
  )
noncomputable def F12_lot_0 (x0 : Nat) (x1 : Int32) (x2 : Int32) (hp : m_H) : Option (Int32 × m_H) :=
  m_b (m_pf m_ft hp x0 9 0 (.int 0)) fun h1 =>
  m_b (F12_noLot x0 x1 h1) fun v4 =>
  m_b (F12_throwsIf x0 v4 1 h1) fun z6 =>
  m_if (z6.1 = 0) (
    m_b (F12_in x2 0 18 z6.2) fun v9 =>
    m_if (v9 = 0) (
      F12_lot_34 x0 x1 x2 1 x0 z6.2
    ) (
      F12_lot_34 x0 x1 x2 0 x0 z6.2
    )
  ) (
    some (0, z6.2)
  )
noncomputable def F12_lot (x0 : Nat) (x1 : Int32) (x2 : Int32) (hp : m_H) : Option (Int32 × m_H) :=
  m_gd (m_isO hp 9 x0) (F12_lot_0 x0 x1 x2 hp)
noncomputable def F12_back_79 (x0 : Nat) (x1 : Int32) (x2 : Int32) (x3 : Int32) (s0 : Int32) (s1 : Nat) (hp : m_H) : Option (Int32 × m_H) :=
  m_b (F12_throwsIf s1 s0 3 hp) fun z2 =>
  m_if (z2.1 = 0) (
    m_b (F12_isOver x0 z2.2) fun v5 =>
    m_b (F12_throwsIf x0 v5 4 z2.2) fun z7 =>
    m_if (z7.1 = 0) (
      m_b (F12_begins x0 x2 x3 x1 3 z7.2) fun z10 =>
      m_b (m_gr z10.2 x0 9 1) fun v11 =>
      m_b (F12_lotAt z10.1 3 z10.2) fun v14 =>
      m_b (m_si z10.2 0 v11 v14 1) fun h15 =>
      some (z10.1, h15)
    ) (
      some (0, z7.2)
    )
  ) (
    some (0, z2.2)
  )
noncomputable def F12_back_53 (x0 : Nat) (x1 : Int32) (x2 : Int32) (x3 : Int32) (s0 : Int32) (s1 : Nat) (hp : m_H) : Option (Int32 × m_H) :=
  m_b (F12_throwsIf s1 s0 2 hp) fun z2 =>
  m_if (z2.1 = 0) (
    m_b (m_gr z2.2 x0 9 1) fun v4 =>
    m_b (m_ai z2.2 0 v4 807) fun v6 =>
    m_if (v6 = 100) (
      F12_back_79 x0 x1 x2 x3 1 x0 z2.2
    ) (
      F12_back_79 x0 x1 x2 x3 0 x0 z2.2
    )
  ) (
    some (0, z2.2)
  )
noncomputable def F12_back_48 (x0 : Nat) (x1 : Int32) (x2 : Int32) (x3 : Int32) (s0 : Nat) (hp : m_H) : Option (Int32 × m_H) :=
  F12_back_53 x0 x1 x2 x3 1 s0 hp
noncomputable def F12_back_25 (x0 : Nat) (x1 : Int32) (x2 : Int32) (x3 : Int32) (s0 : Int32) (s1 : Nat) (hp : m_H) : Option (Int32 × m_H) :=
  m_b (F12_throwsIf s1 s0 1 hp) fun z2 =>
  m_if (z2.1 = 0) (
    m_if (x1 = 0) (
      F12_back_48 x0 x1 x2 x3 x0 z2.2
    ) (
      m_b (F12_in x3 1 1000 z2.2) fun v6 =>
      m_if (v6 = 0) (
        F12_back_48 x0 x1 x2 x3 x0 z2.2
      ) (
        F12_back_53 x0 x1 x2 x3 0 x0 z2.2
      )
    )
  ) (
    some (0, z2.2)
  )
noncomputable def F12_back_20 (x0 : Nat) (x1 : Int32) (x2 : Int32) (x3 : Int32) (s0 : Nat) (hp : m_H) : Option (Int32 × m_H) :=
  F12_back_25 x0 x1 x2 x3 1 s0 hp
noncomputable def F12_back_0 (x0 : Nat) (x1 : Int32) (x2 : Int32) (x3 : Int32) (hp : m_H) : Option (Int32 × m_H) :=
  m_b (m_pf m_ft hp x0 9 0 (.int 0)) fun h1 =>
  m_b (F12_noLand x1 h1) fun v4 =>
  m_if (v4 = 0) (
    m_b (F12_noSort x2 h1) fun v7 =>
    m_if (v7 = 0) (
      F12_back_25 x0 x1 x2 x3 0 x0 h1
    ) (
      F12_back_20 x0 x1 x2 x3 x0 h1
    )
  ) (
    F12_back_20 x0 x1 x2 x3 x0 h1
  )
noncomputable def F12_back (x0 : Nat) (x1 : Int32) (x2 : Int32) (x3 : Int32) (hp : m_H) : Option (Int32 × m_H) :=
  m_gd (m_isO hp 9 x0) (F12_back_0 x0 x1 x2 x3 hp)
noncomputable def F12_label_34 (x0 : Nat) (x1 : Int32) (x2 : Int32) (s0 : Int32) (s1 : Nat) (hp : m_H) : Option (Int32 × m_H) :=
  m_b (F12_throwsIf s1 s0 2 hp) fun z2 =>
  m_if (z2.1 = 0) (
    m_b (F12_isStock x0 x1 z2.2) fun v5 =>
    m_if (v5 = 0) (
      m_b (F12_of x0 x1 11 z2.2) fun v8 =>
      m_if (v8 = 0) (
        some (0, z2.2)
      ) (
        m_b (F12_of x0 x1 7 z2.2) fun v11 =>
        m_if (v11 = x2) (
          some (0, z2.2)
        ) (
          m_b (m_gr z2.2 x0 9 1) fun v13 =>
          m_b (F12_lotAt x1 7 z2.2) fun v16 =>
          m_b (m_si z2.2 0 v13 v16 x2) fun h17 =>
          some (1, h17)
        )
      )
    ) (
      some (0, z2.2)
    )
  ) (
    some (0, z2.2)
  )
noncomputable def F12_label_0 (x0 : Nat) (x1 : Int32) (x2 : Int32) (hp : m_H) : Option (Int32 × m_H) :=
  m_b (m_pf m_ft hp x0 9 0 (.int 0)) fun h1 =>
  m_b (F12_noLot x0 x1 h1) fun v4 =>
  m_b (F12_throwsIf x0 v4 1 h1) fun z6 =>
  m_if (z6.1 = 0) (
    m_b (F12_in x2 0 9 z6.2) fun v9 =>
    m_if (v9 = 0) (
      F12_label_34 x0 x1 x2 1 x0 z6.2
    ) (
      F12_label_34 x0 x1 x2 0 x0 z6.2
    )
  ) (
    some (0, z6.2)
  )
noncomputable def F12_label (x0 : Nat) (x1 : Int32) (x2 : Int32) (hp : m_H) : Option (Int32 × m_H) :=
  m_gd (m_isO hp 9 x0) (F12_label_0 x0 x1 x2 hp)
noncomputable def F12_feed_60b (x0 : Nat) (s : Int32 × m_H) : Option ((Int32 × m_H) ⊕ (Int32 × m_H)) :=
  m_if (20 ≤ s.1) (
    m_b (m_gi s.2 x0 9 7) fun v2 =>
    m_b (m_pf m_ft s.2 x0 9 7 (.int (v2 + 20))) fun h4 =>
    m_b (m_gi h4 x0 9 7) fun v6 =>
    some (.inr (v6, h4))
  ) (
    m_b (m_gr s.2 x0 9 6) fun v8 =>
    m_b (m_gi s.2 x0 9 7) fun v10 =>
    m_b (m_gr s.2 x0 9 13) fun v12 =>
    m_b (m_dv s.1 4) fun v14 =>
    m_b (m_ai s.2 0 v12 v14) fun v16 =>
    m_b (m_rm s.1 4) fun v18 =>
    m_b (m_si s.2 2 v8 (v10 + s.1) (m_i2b (v16 >>> ((24 - (8 * v18)) &&& 31)))) fun h20 =>
    some (.inl ((s.1 + 1), h20))
  )
noncomputable def F12_feed_60 (x0 : Nat) (x6 : Int32) (hp : m_H) : Option (Int32 × m_H) :=
  m_wh (fun s => F12_feed_60b x0 s) m_N (x6, hp)
noncomputable def F12_feed_0 (x0 : Nat) (x1 : Int32) (x2 : Int32) (x3 : Int32) (x4 : Int32) (x5 : Int32) (hp : m_H) : Option (Int32 × m_H) :=
  m_b (m_pf m_ft hp x0 9 0 (.int 0)) fun h1 =>
  m_b (m_gi h1 x0 9 7) fun v3 =>
  m_if ((v3 + 20) ≤ 400) (
    m_b (m_gr h1 x0 9 13) fun v6 =>
    m_b (m_si h1 0 v6 0 x1) fun h8 =>
    m_b (m_gr h8 x0 9 13) fun v10 =>
    m_b (m_si h8 0 v10 1 x2) fun h12 =>
    m_b (m_gr h12 x0 9 13) fun v14 =>
    m_b (m_si h12 0 v14 2 x3) fun h16 =>
    m_b (m_gr h16 x0 9 13) fun v18 =>
    m_b (m_si h16 0 v18 3 x4) fun h20 =>
    m_b (m_gr h20 x0 9 13) fun v22 =>
    m_b (m_si h20 0 v22 4 x5) fun h24 =>
    F12_feed_60 x0 0 h24
  ) (
    some ((-1), h1)
  )
noncomputable def F12_feed (x0 : Nat) (x1 : Int32) (x2 : Int32) (x3 : Int32) (x4 : Int32) (x5 : Int32) (hp : m_H) : Option (Int32 × m_H) :=
  m_gd (m_isO hp 9 x0) (F12_feed_0 x0 x1 x2 x3 x4 x5 hp)
noncomputable def F12_end_0 (x0 : Nat) (x1 : Int32) (hp : m_H) : Option (Int32 × m_H) :=
  m_b (m_pf m_ft hp x0 9 0 (.int 0)) fun h1 =>
  m_if (x1 < 0) (
    some (0, h1)
  ) (
    m_b (m_gi h1 x0 9 7) fun v4 =>
    m_if (x1 ≤ v4) (
      m_b (m_pf m_ft h1 x0 9 7 (.int x1)) fun h7 =>
      some (1, h7)
    ) (
      some (0, h1)
    )
  )
noncomputable def F12_end (x0 : Nat) (x1 : Int32) (hp : m_H) : Option (Int32 × m_H) :=
  m_gd (m_isO hp 9 x0) (F12_end_0 x0 x1 hp)
noncomputable def F12_uses_0 (x0 : Nat) (hp : m_H) : Option m_H :=
  m_b (m_pf m_ft hp x0 9 0 (.int 0)) fun h1 =>
  m_b (m_gi h1 x0 9 7) fun v3 =>
  m_b (m_pf m_ft h1 x0 9 9 (.int v3)) fun h5 =>
  m_b (m_pf m_ft h5 x0 9 7 (.int 0)) fun h7 =>
  m_b (m_pf m_ft h7 x0 9 8 (.int 0)) fun h9 =>
  some h9
noncomputable def F12_uses (x0 : Nat) (hp : m_H) : Option m_H :=
  m_gd (m_isO hp 9 x0) (F12_uses_0 x0 hp)
noncomputable def F12_isAt_0 (x0 : Nat) (x1 : Int32) (x2 : Int32) (hp : m_H) : Option Int32 :=
  m_b (m_gi hp x0 9 8) fun v1 =>
  m_b (m_gi hp x0 9 9) fun v3 =>
  m_if (v3 ≤ v1) (
    some 0
  ) (
    m_b (m_gr hp x0 9 6) fun v6 =>
    m_b (m_gi hp x0 9 8) fun v8 =>
    m_b (m_ai hp 2 v6 v8) fun v10 =>
    m_if (v10 < x1) (
      some 0
    ) (
      m_b (m_gr hp x0 9 6) fun v13 =>
      m_b (m_gi hp x0 9 8) fun v15 =>
      m_b (m_ai hp 2 v13 v15) fun v17 =>
      m_if (x2 < v17) (
        some 0
      ) (
        some 1
      )
    )
  )
noncomputable def F12_isAt (x0 : Nat) (x1 : Int32) (x2 : Int32) (hp : m_H) : Option Int32 :=
  m_gd (m_isO hp 9 x0) (F12_isAt_0 x0 x1 x2 hp)
noncomputable def F12_blanks_0b (x0 : Nat) (s : m_H) : Option (m_H ⊕ m_H) :=
  m_b (F12_isAt x0 32 32 s) fun v2 =>
  m_if (v2 = 0) (
    m_b (m_gi s x0 9 8) fun v4 =>
    m_b (m_pf m_ft s x0 9 10 (.int v4)) fun h6 =>
    some (.inr h6)
  ) (
    m_b (m_gi s x0 9 8) fun v8 =>
    m_b (m_pf m_ft s x0 9 8 (.int (v8 + 1))) fun h10 =>
    some (.inl h10)
  )
noncomputable def F12_blanks_0 (x0 : Nat) (hp : m_H) : Option m_H :=
  m_wh (fun s => F12_blanks_0b x0 s) m_N hp
noncomputable def F12_blanks (x0 : Nat) (hp : m_H) : Option m_H :=
  m_gd (m_isO hp 9 x0) (F12_blanks_0 x0 hp)
noncomputable def F12_word_4b (x0 : Nat) (s : m_H) : Option (m_H ⊕ m_H) :=
  m_b (F12_isAt x0 97 122 s) fun v2 =>
  m_if (v2 = 0) (
    some (.inr s)
  ) (
    m_b (m_gi s x0 9 8) fun v4 =>
    m_b (m_pf m_ft s x0 9 8 (.int (v4 + 1))) fun h6 =>
    some (.inl h6)
  )
noncomputable def F12_word_4 (x0 : Nat) (hp : m_H) : Option m_H :=
  m_wh (fun s => F12_word_4b x0 s) m_N hp
noncomputable def F12_word_0 (x0 : Nat) (hp : m_H) : Option m_H :=
  m_b (F12_blanks x0 hp) fun h2 =>
  F12_word_4 x0 h2
noncomputable def F12_word (x0 : Nat) (hp : m_H) : Option m_H :=
  m_gd (m_isO hp 9 x0) (F12_word_0 x0 hp)
noncomputable def F12_isWord_24b (x0 : Nat) (x1 : Nat) (hp : m_H) (s : Int32 × Int32) : Option ((Int32 × Int32) ⊕ Int32) :=
  m_if (s.1 = 0) (
    m_gd (m_rok .boolean s.1) (
      some (.inr s.1)
    )
  ) (
    m_b (m_slen x1) fun v4 =>
    m_if (v4 ≤ s.2) (
      m_gd (m_rok .boolean s.1) (
        some (.inr s.1)
      )
    ) (
      m_b (m_gr hp x0 9 6) fun v7 =>
      m_b (m_gi hp x0 9 10) fun v9 =>
      m_b (m_ai hp 2 v7 (v9 + s.2)) fun v11 =>
      m_b (m_sch x1 s.2) fun v14 =>
      m_if (v11 = v14) (
        some (.inl (1, (s.2 + 1)))
      ) (
        some (.inl (0, (s.2 + 1)))
      )
    )
  )
noncomputable def F12_isWord_24 (x0 : Nat) (x1 : Nat) (x2 : Int32) (x3 : Int32) (hp : m_H) : Option Int32 :=
  m_wh (fun s => F12_isWord_24b x0 x1 hp s) m_N (x2, x3)
noncomputable def F12_isWord_21 (x0 : Nat) (x1 : Nat) (s0 : Int32) (hp : m_H) : Option Int32 :=
  F12_isWord_24 x0 x1 s0 0 hp
noncomputable def F12_isWord_0 (x0 : Nat) (x1 : Nat) (hp : m_H) : Option Int32 :=
  m_b (m_gi hp x0 9 8) fun v1 =>
  m_b (m_gi hp x0 9 10) fun v3 =>
  m_b (m_slen x1) fun v6 =>
  m_if ((v1 - v3) = v6) (
    F12_isWord_21 x0 x1 1 hp
  ) (
    F12_isWord_21 x0 x1 0 hp
  )
noncomputable def F12_isWord (x0 : Nat) (x1 : Nat) (hp : m_H) : Option Int32 :=
  m_gd (m_isO hp 9 x0) (F12_isWord_0 x0 x1 hp)
noncomputable def F12_passes_0 (x0 : Nat) (x1 : Nat) (hp : m_H) : Option (Int32 × m_H) :=
  m_b (F12_word x0 hp) fun h2 =>
  m_b (F12_isWord x0 x1 h2) fun v4 =>
  m_if (v4 = 0) (
    m_b (m_gi h2 x0 9 10) fun v6 =>
    m_b (m_pf m_ft h2 x0 9 8 (.int v6)) fun h8 =>
    some (0, h8)
  ) (
    some (1, h2)
  )
noncomputable def F12_passes (x0 : Nat) (x1 : Nat) (hp : m_H) : Option (Int32 × m_H) :=
  m_gd (m_isO hp 9 x0) (F12_passes_0 x0 x1 hp)
noncomputable def F12_sign_0 (x0 : Nat) (x1 : Int32) (hp : m_H) : Option (Int32 × m_H) :=
  m_b (F12_blanks x0 hp) fun h2 =>
  m_b (F12_isAt x0 x1 x1 h2) fun v4 =>
  m_if (v4 = 0) (
    some (0, h2)
  ) (
    m_b (m_gi h2 x0 9 8) fun v6 =>
    m_b (m_pf m_ft h2 x0 9 8 (.int (v6 + 1))) fun h8 =>
    some (1, h8)
  )
noncomputable def F12_sign (x0 : Nat) (x1 : Int32) (hp : m_H) : Option (Int32 × m_H) :=
  m_gd (m_isO hp 9 x0) (F12_sign_0 x0 x1 hp)
noncomputable def F12_number_51 (x0 : Nat) (x1 : Int32) (s0 : Int32) (hp : m_H) : Option ((Int32 × m_H) ⊕ (Int32 × m_H)) :=
  m_b (m_gi hp x0 9 8) fun v1 =>
  m_b (m_pf m_ft hp x0 9 8 (.int (v1 + 1))) fun h3 =>
  some (.inl (s0, h3))
noncomputable def F12_number_6b (x0 : Nat) (x1 : Int32) (s : Int32 × m_H) : Option ((Int32 × m_H) ⊕ (Int32 × m_H)) :=
  m_b (F12_isAt x0 48 57 s.2) fun v2 =>
  m_if (v2 = 0) (
    m_b (m_gi s.2 x0 9 8) fun v4 =>
    m_b (m_gi s.2 x0 9 10) fun v6 =>
    m_if (v4 = v6) (
      some (.inr ((-1), s.2))
    ) (
      m_b (m_gi s.2 x0 9 8) fun v9 =>
      m_b (m_gi s.2 x0 9 10) fun v11 =>
      m_if (5 < (v9 - v11)) (
        some (.inr ((-1), s.2))
      ) (
        m_if (s.1 ≤ x1) (
          some (.inr (s.1, s.2))
        ) (
          some (.inr ((-1), s.2))
        )
      )
    )
  ) (
    m_b (m_gi s.2 x0 9 8) fun v15 =>
    m_b (m_gi s.2 x0 9 10) fun v17 =>
    m_if (5 ≤ (v15 - v17)) (
      F12_number_51 x0 x1 s.1 s.2
    ) (
      m_b (m_gr s.2 x0 9 6) fun v20 =>
      m_b (m_gi s.2 x0 9 8) fun v22 =>
      m_b (m_ai s.2 2 v20 v22) fun v24 =>
      F12_number_51 x0 x1 (((10 * s.1) + v24) - 48) s.2
    )
  )
noncomputable def F12_number_6 (x0 : Nat) (x1 : Int32) (x2 : Int32) (hp : m_H) : Option (Int32 × m_H) :=
  m_wh (fun s => F12_number_6b x0 x1 s) m_N (x2, hp)
noncomputable def F12_number_0 (x0 : Nat) (x1 : Int32) (hp : m_H) : Option (Int32 × m_H) :=
  m_b (F12_blanks x0 hp) fun h2 =>
  F12_number_6 x0 x1 0 h2
noncomputable def F12_number (x0 : Nat) (x1 : Int32) (hp : m_H) : Option (Int32 × m_H) :=
  m_gd (m_isO hp 9 x0) (F12_number_0 x0 x1 hp)
noncomputable def F12_fault_0 (x0 : Nat) (hp : m_H) : Option (Int32 × m_H) :=
  m_b (m_pf m_ft hp x0 9 0 (.int 0)) fun h1 =>
  m_b (m_gi h1 x0 9 12) fun v3 =>
  some (v3, h1)
noncomputable def F12_fault (x0 : Nat) (hp : m_H) : Option (Int32 × m_H) :=
  m_gd (m_isO hp 9 x0) (F12_fault_0 x0 hp)
noncomputable def F12_textAt_0 (x0 : Int32) (hp : m_H) : Option Int32 :=
  some (28327 + (850 * x0))
noncomputable def F12_textAt (x0 : Int32) (hp : m_H) : Option Int32 :=
  F12_textAt_0 x0 hp
noncomputable def F12_lineAt_0 (x0 : Int32) (x1 : Int32) (hp : m_H) : Option Int32 :=
  m_b (F12_textAt x0 hp) fun v2 =>
  some ((v2 + 2) + (4 * x1))
noncomputable def F12_lineAt (x0 : Int32) (x1 : Int32) (hp : m_H) : Option Int32 :=
  F12_lineAt_0 x0 x1 hp
noncomputable def F12_emits_0 (x0 : Nat) (x1 : Int32) (x2 : Int32) (hp : m_H) : Option m_H :=
  m_b (F12_textAt 10 hp) fun v2 =>
  m_b (m_gi hp x0 9 14) fun v3 =>
  m_b (m_gr hp x0 9 1) fun v5 =>
  m_b (m_si hp 0 v5 ((v2 + 50) + (2 * v3)) x1) fun h7 =>
  m_b (m_gr h7 x0 9 1) fun v9 =>
  m_b (m_si h7 0 v9 (((v2 + 50) + (2 * v3)) + 1) x2) fun h11 =>
  m_b (m_gi h11 x0 9 14) fun v13 =>
  m_b (m_pf m_ft h11 x0 9 14 (.int (v13 + 1))) fun h15 =>
  some h15
noncomputable def F12_emits (x0 : Nat) (x1 : Int32) (x2 : Int32) (hp : m_H) : Option m_H :=
  m_gd (m_isO hp 9 x0) (F12_emits_0 x0 x1 x2 hp)
noncomputable def F12_fact_0 (x0 : Int32) (hp : m_H) : Option Nat :=
  m_swt (m_swi 0 8 x0) (
    some 74
  ) fun w1 =>
  m_if (w1 = 0) (
    some 65
  ) (
   m_if (w1 = 1) (
     some 66
   ) (
    m_if (w1 = 2) (
      some 67
    ) (
     m_if (w1 = 3) (
       some 68
     ) (
      m_if (w1 = 4) (
        some 69
      ) (
       m_if (w1 = 5) (
         some 70
       ) (
        m_if (w1 = 6) (
          some 71
        ) (
         m_if (w1 = 7) (
           some 72
         ) (
          m_if (w1 = 8) (
            some 73
          ) (
           none
          )
         )
        )
       )
      )
     )
    )
   )
  )
noncomputable def F12_fact (x0 : Int32) (hp : m_H) : Option Nat :=
  F12_fact_0 x0 hp
noncomputable def F12_readPart_40 (x0 : Nat) (x1 : Int32) (hp : m_H) : Option (Int32 × m_H) :=
  m_if (x1 = 10) (
    some (0, hp)
  ) (
    m_b (F12_emits x0 x1 0 hp) fun h3 =>
    some (1, h3)
  )
noncomputable def F12_readPart_17b (x0 : Nat) (hp : m_H) (s : Int32) : Option (Int32 ⊕ (Int32 × m_H)) :=
  m_if (10 ≤ s) (
    (F12_readPart_40 x0 s hp).map .inr
  ) (
    m_b (F12_fact s hp) fun v3 =>
    m_b (F12_isWord x0 v3 hp) fun v5 =>
    m_if (v5 = 0) (
      some (.inl (s + 1))
    ) (
      (F12_readPart_40 x0 s hp).map .inr
    )
  )
noncomputable def F12_readPart_17 (x0 : Nat) (x1 : Int32) (hp : m_H) : Option (Int32 × m_H) :=
  m_wh (fun s => F12_readPart_17b x0 hp s) m_N x1
noncomputable def F12_readPart_0 (x0 : Nat) (hp : m_H) : Option (Int32 × m_H) :=
  m_b (F12_word x0 hp) fun h2 =>
  m_b (m_gi h2 x0 9 8) fun v3 =>
  m_b (m_gi h2 x0 9 10) fun v5 =>
  m_if (v3 ≤ v5) (
    m_b (F12_number x0 99999 h2) fun z9 =>
    m_if (0 ≤ z9.1) (
      m_b (F12_emits x0 100 z9.1 z9.2) fun h12 =>
      some (1, h12)
    ) (
      some (0, z9.2)
    )
  ) (
    F12_readPart_17 x0 0 h2
  )
noncomputable def F12_readPart (x0 : Nat) (hp : m_H) : Option (Int32 × m_H) :=
  m_gd (m_isO hp 9 x0) (F12_readPart_0 x0 hp)
noncomputable def F12_readSum_9b (x0 : Nat) (s : m_H) : Option (m_H ⊕ (Int32 × m_H)) :=
  m_b (F12_sign x0 43 s) fun z2 =>
  m_if (z2.1 = 0) (
    some (.inr (1, z2.2))
  ) (
    m_b (F12_readPart x0 z2.2) fun z5 =>
    m_if (z5.1 = 0) (
      some (.inr (0, z5.2))
    ) (
      m_b (F12_emits x0 101 0 z5.2) fun h8 =>
      some (.inl h8)
    )
  )
noncomputable def F12_readSum_9 (x0 : Nat) (hp : m_H) : Option (Int32 × m_H) :=
  m_wh (fun s => F12_readSum_9b x0 s) m_N hp
noncomputable def F12_readSum_0 (x0 : Nat) (hp : m_H) : Option (Int32 × m_H) :=
  m_b (F12_readPart x0 hp) fun z2 =>
  m_if (z2.1 = 0) (
    some (0, z2.2)
  ) (
    F12_readSum_9 x0 z2.2
  )
noncomputable def F12_readSum (x0 : Nat) (hp : m_H) : Option (Int32 × m_H) :=
  m_gd (m_isO hp 9 x0) (F12_readSum_0 x0 hp)
noncomputable def F12_readAllOf_9b (A : Nat → m_H → Option (Int32 × m_H)) (x0 : Nat) (s : m_H) : Option (m_H ⊕ (Int32 × m_H)) :=
  m_b (F12_passes x0 75 s) fun z2 =>
  m_if (z2.1 = 0) (
    some (.inr (1, z2.2))
  ) (
    m_b (A x0 z2.2) fun z5 =>
    m_if (z5.1 = 0) (
      some (.inr (0, z5.2))
    ) (
      m_b (F12_emits x0 105 0 z5.2) fun h8 =>
      some (.inl h8)
    )
  )
noncomputable def F12_readAllOf_9 (A : Nat → m_H → Option (Int32 × m_H)) (x0 : Nat) (hp : m_H) : Option (Int32 × m_H) :=
  m_wh (fun s => F12_readAllOf_9b A x0 s) m_N hp
noncomputable def F12_readAllOf_0 (A : Nat → m_H → Option (Int32 × m_H)) (x0 : Nat) (hp : m_H) : Option (Int32 × m_H) :=
  m_b (A x0 hp) fun z2 =>
  m_if (z2.1 = 0) (
    some (0, z2.2)
  ) (
    F12_readAllOf_9 A x0 z2.2
  )
noncomputable def F12_readAllOf (A : Nat → m_H → Option (Int32 × m_H)) (x0 : Nat) (hp : m_H) : Option (Int32 × m_H) :=
  m_gd (m_isO hp 9 x0) (F12_readAllOf_0 A x0 hp)
noncomputable def F12_readCond_9b (A : Nat → m_H → Option (Int32 × m_H)) (x0 : Nat) (s : m_H) : Option (m_H ⊕ (Int32 × m_H)) :=
  m_b (F12_passes x0 76 s) fun z2 =>
  m_if (z2.1 = 0) (
    some (.inr (1, z2.2))
  ) (
    m_b (F12_readAllOf A x0 z2.2) fun z5 =>
    m_if (z5.1 = 0) (
      some (.inr (0, z5.2))
    ) (
      m_b (F12_emits x0 106 0 z5.2) fun h8 =>
      some (.inl h8)
    )
  )
noncomputable def F12_readCond_9 (A : Nat → m_H → Option (Int32 × m_H)) (x0 : Nat) (hp : m_H) : Option (Int32 × m_H) :=
  m_wh (fun s => F12_readCond_9b A x0 s) m_N hp
noncomputable def F12_readCond_0 (A : Nat → m_H → Option (Int32 × m_H)) (x0 : Nat) (hp : m_H) : Option (Int32 × m_H) :=
  m_b (F12_readAllOf A x0 hp) fun z2 =>
  m_if (z2.1 = 0) (
    some (0, z2.2)
  ) (
    F12_readCond_9 A x0 z2.2
  )
noncomputable def F12_readCond (A : Nat → m_H → Option (Int32 × m_H)) (x0 : Nat) (hp : m_H) : Option (Int32 × m_H) :=
  m_gd (m_isO hp 9 x0) (F12_readCond_0 A x0 hp)
noncomputable def F12_readAtom_143 (A : Nat → m_H → Option (Int32 × m_H)) (x0 : Nat) (x1 : Int32) (hp : m_H) : Option (Int32 × m_H) :=
  m_b (F12_readSum x0 hp) fun z2 =>
  m_if (z2.1 = 0) (
    some (0, z2.2)
  ) (
    m_if (x1 = 0) (
      m_b (F12_emits x0 103 0 z2.2) fun h6 =>
      some (1, h6)
    ) (
      m_b (F12_emits x0 102 0 z2.2) fun h8 =>
      some (1, h8)
    )
  )
noncomputable def F12_readAtom_0 (A : Nat → m_H → Option (Int32 × m_H)) (x0 : Nat) (hp : m_H) : Option (Int32 × m_H) :=
  m_b (F12_sign x0 40 hp) fun z2 =>
  m_if (z2.1 = 0) (
    m_b (F12_passes x0 64 z2.2) fun z5 =>
    m_if (z5.1 = 0) (
      m_b (F12_readSum x0 z5.2) fun z8 =>
      m_if (z8.1 = 0) (
        some (0, z8.2)
      ) (
        m_b (F12_sign x0 60 z8.2) fun z11 =>
        m_if (z11.1 = 0) (
          m_b (F12_sign x0 62 z11.2) fun z14 =>
          m_if (z14.1 = 0) (
            some (0, z14.2)
          ) (
            F12_readAtom_143 A x0 z11.1 z14.2
          )
        ) (
          F12_readAtom_143 A x0 z11.1 z11.2
        )
      )
    ) (
      m_b (m_gi z5.2 x0 9 11) fun v16 =>
      m_if (v16 = 6) (
        some (0, z5.2)
      ) (
        m_b (m_gi z5.2 x0 9 11) fun v19 =>
        m_b (m_pf m_ft z5.2 x0 9 11 (.int (v19 + 1))) fun h21 =>
        m_b (A x0 h21) fun z24 =>
        m_if (z24.1 = 0) (
          some (0, z24.2)
        ) (
          m_b (m_gi z24.2 x0 9 11) fun v26 =>
          m_b (m_pf m_ft z24.2 x0 9 11 (.int (v26 - 1))) fun h28 =>
          m_b (F12_emits x0 104 0 h28) fun h31 =>
          some (1, h31)
        )
      )
    )
  ) (
    m_b (m_gi z2.2 x0 9 11) fun v32 =>
    m_if (v32 = 6) (
      some (0, z2.2)
    ) (
      m_b (m_gi z2.2 x0 9 11) fun v35 =>
      m_b (m_pf m_ft z2.2 x0 9 11 (.int (v35 + 1))) fun h37 =>
      m_b (F12_readCond A x0 h37) fun z40 =>
      m_if (z40.1 = 0) (
        some (0, z40.2)
      ) (
        m_b (m_gi z40.2 x0 9 11) fun v42 =>
        m_b (m_pf m_ft z40.2 x0 9 11 (.int (v42 - 1))) fun h44 =>
        m_b (F12_sign x0 41 h44) fun z47 =>
        m_gd (m_rok .boolean z47.1) (
          some (z47.1, z47.2)
        )
      )
    )
  )
noncomputable def F12_readAtoms (A : Nat → m_H → Option (Int32 × m_H)) (x0 : Nat) (hp : m_H) : Option (Int32 × m_H) :=
  m_gd (m_isO hp 9 x0) (F12_readAtom_0 A x0 hp)
noncomputable def F12_readAtom : Nat → Nat → m_H → Option (Int32 × m_H)
  | 0 => fun _ _ => none
  | n + 1 => F12_readAtoms (F12_readAtom n)
noncomputable def F12_readLine_166 (x0 : Nat) (x2 : Int32) (hp : m_H) : Option (Int32 × m_H) :=
  m_b (F12_passes x0 63 hp) fun z2 =>
  m_if (z2.1 = 0) (
    some (1, z2.2)
  ) (
    m_b (m_pf m_ft z2.2 x0 9 11 (.int 0)) fun h4 =>
    m_b (F12_readCond (F12_readAtom m_FD) x0 h4) fun z7 =>
    m_if (z7.1 = 0) (
      some (0, z7.2)
    ) (
      m_b (m_gr z7.2 x0 9 1) fun v9 =>
      m_b (m_gi z7.2 x0 9 14) fun v11 =>
      m_b (m_si z7.2 0 v9 (x2 + 3) v11) fun h13 =>
      some (1, h13)
    )
  )
noncomputable def F12_readLine_149 (x0 : Nat) (x2 : Int32) (s0 : Int32) (s1 : Nat) (s2 : Int32) (s3 : Nat) (hp : m_H) : Option (Int32 × m_H) :=
  m_b (F12_number s1 s0 hp) fun z2 =>
  m_b (m_si z2.2 0 s3 s2 z2.1) fun h3 =>
  m_b (m_gr h3 x0 9 1) fun v5 =>
  m_b (m_ai h3 0 v5 (x2 + 1)) fun v7 =>
  m_if (0 ≤ v7) (
    F12_readLine_166 x0 x2 h3
  ) (
    some (0, h3)
  )
noncomputable def F12_readLine_129 (x0 : Nat) (x2 : Int32) (x3 : Int32) (hp : m_H) : Option (Int32 × m_H) :=
  m_b (m_gr hp x0 9 1) fun v1 =>
  m_if (x3 = 2) (
    F12_readLine_149 x0 x2 100 x0 (x2 + 1) v1 hp
  ) (
    F12_readLine_149 x0 x2 99999 x0 (x2 + 1) v1 hp
  )
noncomputable def F12_readLine_72 (x0 : Nat) (x2 : Int32) (s0 : Int32) (hp : m_H) : Option (Int32 × m_H) :=
  m_b (m_gr hp x0 9 1) fun v1 =>
  m_b (m_si hp 0 v1 x2 s0) fun h3 =>
  m_b (m_gr h3 x0 9 1) fun v5 =>
  m_b (m_si h3 0 v5 (x2 + 1) 0) fun h7 =>
  m_b (m_gr h7 x0 9 1) fun v9 =>
  m_b (m_gi h7 x0 9 14) fun v11 =>
  m_b (m_si h7 0 v9 (x2 + 2) v11) fun h13 =>
  m_b (m_gr h13 x0 9 1) fun v15 =>
  m_b (m_gi h13 x0 9 14) fun v17 =>
  m_b (m_si h13 0 v15 (x2 + 3) v17) fun h19 =>
  m_if (0 ≤ s0) (
    m_if (s0 = 1) (
      F12_readLine_129 x0 x2 s0 h19
    ) (
      m_if (s0 = 2) (
        F12_readLine_129 x0 x2 s0 h19
      ) (
        F12_readLine_166 x0 x2 h19
      )
    )
  ) (
    some (0, h19)
  )
noncomputable def F12_readLine_0 (x0 : Nat) (x1 : Int32) (hp : m_H) : Option (Int32 × m_H) :=
  m_b (F12_word x0 hp) fun h2 =>
  m_if (x1 = 12) (
    some (0, h2)
  ) (
    m_b (F12_lineAt 10 x1 h2) fun v5 =>
    m_b (F12_isWord x0 59 h2) fun v7 =>
    m_if (v7 = 0) (
      m_b (F12_isWord x0 60 h2) fun v10 =>
      m_if (v10 = 0) (
        m_b (F12_isWord x0 61 h2) fun v13 =>
        m_if (v13 = 0) (
          m_b (F12_isWord x0 62 h2) fun v16 =>
          m_if (v16 = 0) (
            F12_readLine_72 x0 v5 (-1) h2
          ) (
            F12_readLine_72 x0 v5 3 h2
          )
        ) (
          F12_readLine_72 x0 v5 2 h2
        )
      ) (
        F12_readLine_72 x0 v5 1 h2
      )
    ) (
      F12_readLine_72 x0 v5 0 h2
    )
  )
noncomputable def F12_readLine (x0 : Nat) (x1 : Int32) (hp : m_H) : Option (Int32 × m_H) :=
  m_gd (m_isO hp 9 x0) (F12_readLine_0 x0 x1 hp)
noncomputable def F12_readAll_24b (x0 : Nat) (s : Int32 × m_H) : Option ((Int32 × m_H) ⊕ (Int32 × m_H)) :=
  m_b (F12_readLine x0 s.1 s.2) fun z2 =>
  m_if (z2.1 = 0) (
    some (.inr ((-1), z2.2))
  ) (
    m_b (F12_blanks x0 z2.2) fun h5 =>
    m_b (m_gi h5 x0 9 8) fun v6 =>
    m_b (m_gi h5 x0 9 9) fun v8 =>
    m_if (v6 = v8) (
      some (.inr ((s.1 + 1), h5))
    ) (
      m_b (F12_isAt x0 59 59 h5) fun v12 =>
      m_if (v12 = 0) (
        some (.inr ((-1), h5))
      ) (
        m_b (m_gi h5 x0 9 8) fun v14 =>
        m_b (m_pf m_ft h5 x0 9 8 (.int (v14 + 1))) fun h16 =>
        some (.inl ((s.1 + 1), h16))
      )
    )
  )
noncomputable def F12_readAll_24 (x0 : Nat) (x1 : Int32) (hp : m_H) : Option (Int32 × m_H) :=
  m_wh (fun s => F12_readAll_24b x0 s) m_N (x1, hp)
noncomputable def F12_readAll_0 (x0 : Nat) (hp : m_H) : Option (Int32 × m_H) :=
  m_b (m_pf m_ft hp x0 9 14 (.int 0)) fun h1 =>
  m_b (F12_blanks x0 h1) fun h4 =>
  m_b (m_gi h4 x0 9 8) fun v5 =>
  m_b (m_gi h4 x0 9 9) fun v7 =>
  m_if (v5 = v7) (
    some (0, h4)
  ) (
    F12_readAll_24 x0 0 h4
  )
noncomputable def F12_readAll (x0 : Nat) (hp : m_H) : Option (Int32 × m_H) :=
  m_gd (m_isO hp 9 x0) (F12_readAll_0 x0 hp)
noncomputable def F12_act_123b (x0 : Nat) (x1 : Int32) (x2 : Int32) (x3 : Int32) (s : Int32 × m_H) : Option ((Int32 × m_H) ⊕ (Int32 × m_H)) :=
  m_if (850 ≤ s.1) (
    m_b (m_gr s.2 x0 9 1) fun v2 =>
    m_b (F12_textAt x3 s.2) fun v5 =>
    m_b (m_si s.2 0 v2 v5 x1) fun h6 =>
    m_b (m_gr h6 x0 9 1) fun v8 =>
    m_b (F12_textAt x3 h6) fun v11 =>
    m_b (m_si h6 0 v8 (v11 + 1) x2) fun h12 =>
    some (.inr (x2, h12))
  ) (
    m_b (m_gr s.2 x0 9 1) fun v14 =>
    m_b (F12_textAt x3 s.2) fun v17 =>
    m_b (m_gr s.2 x0 9 1) fun v18 =>
    m_b (F12_textAt 10 s.2) fun v21 =>
    m_b (m_ai s.2 0 v18 (v21 + s.1)) fun v22 =>
    m_b (m_si s.2 0 v14 (v17 + s.1) v22) fun h24 =>
    some (.inl ((s.1 + 1), h24))
  )
noncomputable def F12_act_123 (x0 : Nat) (x1 : Int32) (x2 : Int32) (x3 : Int32) (x4 : Int32) (hp : m_H) : Option (Int32 × m_H) :=
  m_wh (fun s => F12_act_123b x0 x1 x2 x3 s) m_N (x4, hp)
noncomputable def F12_act_90 (x0 : Nat) (x1 : Int32) (x2 : Int32) (s0 : Int32) (s1 : Nat) (hp : m_H) : Option (Int32 × m_H) :=
  m_b (F12_throwsIf s1 s0 2 hp) fun z2 =>
  m_if (z2.1 = 0) (
    m_b (m_gr z2.2 x0 9 1) fun v4 =>
    m_b (m_ai z2.2 0 v4 28326) fun v6 =>
    m_b (m_gr z2.2 x0 9 1) fun v8 =>
    m_b (m_ai z2.2 0 v8 28326) fun v10 =>
    m_b (m_si z2.2 0 v8 28326 (v10 + 1)) fun h12 =>
    F12_act_123 x0 x1 x2 v6 0 h12
  ) (
    some (0, z2.2)
  )
noncomputable def F12_act_64 (x0 : Nat) (x1 : Int32) (x2 : Int32) (s0 : Int32) (s1 : Nat) (hp : m_H) : Option (Int32 × m_H) :=
  m_b (F12_throwsIf s1 s0 1 hp) fun z2 =>
  m_if (z2.1 = 0) (
    m_b (m_gr z2.2 x0 9 1) fun v4 =>
    m_b (m_ai z2.2 0 v4 28326) fun v6 =>
    m_if (v6 = 10) (
      F12_act_90 x0 x1 x2 1 x0 z2.2
    ) (
      F12_act_90 x0 x1 x2 0 x0 z2.2
    )
  ) (
    some (0, z2.2)
  )
noncomputable def F12_act_51 (x0 : Nat) (x1 : Int32) (x2 : Int32) (s0 : Int32) (s1 : Nat) (hp : m_H) : Option (Int32 × m_H) :=
  m_b (m_pf m_ft hp s1 9 12 (.int s0)) fun h1 =>
  m_if (0 ≤ x2) (
    F12_act_64 x0 x1 x2 0 x0 h1
  ) (
    F12_act_64 x0 x1 x2 1 x0 h1
  )
noncomputable def F12_act_24 (x0 : Nat) (x1 : Int32) (s0 : Int32) (s1 : Nat) (hp : m_H) : Option (Int32 × m_H) :=
  m_b (F12_throwsIf s1 s0 1 hp) fun z2 =>
  m_if (z2.1 = 0) (
    m_b (F12_readAll x0 z2.2) fun z5 =>
    m_if (0 ≤ z5.1) (
      F12_act_51 x0 x1 z5.1 (-1) x0 z5.2
    ) (
      m_b (m_gi z5.2 x0 9 10) fun v7 =>
      F12_act_51 x0 x1 z5.1 v7 x0 z5.2
    )
  ) (
    some (0, z2.2)
  )
noncomputable def F12_act_0 (x0 : Nat) (x1 : Int32) (hp : m_H) : Option (Int32 × m_H) :=
  m_b (F12_uses x0 hp) fun h2 =>
  m_b (F12_week x0 h2) fun v4 =>
  m_b (F12_in x1 v4 500 h2) fun v6 =>
  m_if (v6 = 0) (
    F12_act_24 x0 x1 1 x0 h2
  ) (
    F12_act_24 x0 x1 0 x0 h2
  )
noncomputable def F12_act (x0 : Nat) (x1 : Int32) (hp : m_H) : Option (Int32 × m_H) :=
  m_gd (m_isO hp 9 x0) (F12_act_0 x0 x1 hp)
noncomputable def F12_text_4b (x0 : Nat) (hp : m_H) (s : Int32 × Int32) : Option ((Int32 × Int32) ⊕ Int32) :=
  m_b (m_gr hp x0 9 1) fun v1 =>
  m_b (m_ai hp 0 v1 28326) fun v3 =>
  m_if (v3 ≤ s.2) (
    some (.inr s.1)
  ) (
    m_b (m_gr hp x0 9 1) fun v6 =>
    m_b (F12_textAt s.2 hp) fun v9 =>
    m_b (m_ai hp 0 v6 v9) fun v10 =>
    m_b (F12_week x0 hp) fun v13 =>
    m_if (v13 < v10) (
      some (.inl (s.1, (s.2 + 1)))
    ) (
      m_if (s.1 < 0) (
        some (.inl (s.2, (s.2 + 1)))
      ) (
        m_b (m_gr hp x0 9 1) fun v16 =>
        m_b (F12_textAt s.2 hp) fun v19 =>
        m_b (m_ai hp 0 v16 v19) fun v20 =>
        m_b (m_gr hp x0 9 1) fun v22 =>
        m_b (F12_textAt s.1 hp) fun v25 =>
        m_b (m_ai hp 0 v22 v25) fun v26 =>
        m_if (v20 < v26) (
          some (.inl (s.1, (s.2 + 1)))
        ) (
          some (.inl (s.2, (s.2 + 1)))
        )
      )
    )
  )
noncomputable def F12_text_4 (x0 : Nat) (x1 : Int32) (x2 : Int32) (hp : m_H) : Option Int32 :=
  m_wh (fun s => F12_text_4b x0 hp s) m_N (x1, x2)
noncomputable def F12_text_0 (x0 : Nat) (hp : m_H) : Option Int32 :=
  F12_text_4 x0 (-1) 0 hp
noncomputable def F12_text (x0 : Nat) (hp : m_H) : Option Int32 :=
  m_gd (m_isO hp 9 x0) (F12_text_0 x0 hp)
noncomputable def F12_linesOf_0 (x0 : Nat) (x1 : Int32) (hp : m_H) : Option Int32 :=
  m_if (0 ≤ x1) (
    m_b (m_gr hp x0 9 1) fun v2 =>
    m_b (F12_textAt x1 hp) fun v5 =>
    m_b (m_ai hp 0 v2 (v5 + 1)) fun v6 =>
    some v6
  ) (
    some 0
  )
noncomputable def F12_linesOf (x0 : Nat) (x1 : Int32) (hp : m_H) : Option Int32 :=
  m_gd (m_isO hp 9 x0) (F12_linesOf_0 x0 x1 hp)
noncomputable def F12_baseAt_0 (x0 : Int32) (hp : m_H) : Option Int32 :=
  some (4169 + (6 * x0))
noncomputable def F12_baseAt (x0 : Int32) (hp : m_H) : Option Int32 :=
  F12_baseAt_0 x0 hp
noncomputable def F12_leased_4b (x0 : Nat) (x1 : Int32) (hp : m_H) (s : Int32 × Int32) : Option ((Int32 × Int32) ⊕ Int32) :=
  m_b (m_gr hp x0 9 1) fun v1 =>
  m_b (m_ai hp 0 v1 4168) fun v3 =>
  m_if (v3 ≤ s.2) (
    some (.inr s.1)
  ) (
    m_b (m_gr hp x0 9 1) fun v6 =>
    m_b (F12_baseAt s.2 hp) fun v9 =>
    m_b (m_ai hp 0 v6 v9) fun v10 =>
    m_if (v10 = x1) (
      m_b (F12_week x0 hp) fun v14 =>
      m_b (m_gr hp x0 9 1) fun v15 =>
      m_b (F12_baseAt s.2 hp) fun v18 =>
      m_b (m_ai hp 0 v15 (v18 + 1)) fun v19 =>
      m_b (m_gr hp x0 9 1) fun v21 =>
      m_b (F12_baseAt s.2 hp) fun v24 =>
      m_b (m_ai hp 0 v21 (v24 + 2)) fun v25 =>
      m_if ((v19 + v25) ≤ v14) (
        some (.inl ((s.1 + 0), (s.2 + 1)))
      ) (
        some (.inl ((s.1 + 1), (s.2 + 1)))
      )
    ) (
      some (.inl ((s.1 + 0), (s.2 + 1)))
    )
  )
noncomputable def F12_leased_4 (x0 : Nat) (x1 : Int32) (x2 : Int32) (x3 : Int32) (hp : m_H) : Option Int32 :=
  m_wh (fun s => F12_leased_4b x0 x1 hp s) m_N (x2, x3)
noncomputable def F12_leased_0 (x0 : Nat) (x1 : Int32) (hp : m_H) : Option Int32 :=
  F12_leased_4 x0 x1 0 0 hp
noncomputable def F12_leased (x0 : Nat) (x1 : Int32) (hp : m_H) : Option Int32 :=
  m_gd (m_isO hp 9 x0) (F12_leased_0 x0 x1 hp)
noncomputable def F12_looks_0 (x0 : Nat) (x1 : Int32) (x2 : Int32) (x3 : Int32) (x4 : Int32) (hp : m_H) : Option m_H :=
  m_b (m_gr hp x0 9 15) fun v1 =>
  m_b (m_sl hp v1 0 (m_i2l x1)) fun h3 =>
  m_b (m_gr h3 x0 9 15) fun v5 =>
  m_b (m_sl h3 v5 1 (m_i2l x2)) fun h7 =>
  m_b (m_gr h7 x0 9 15) fun v9 =>
  m_b (F12_week x0 h7) fun v12 =>
  m_b (m_sl h7 v9 2 (m_i2l v12)) fun h13 =>
  m_b (m_gr h13 x0 9 15) fun v15 =>
  m_b (m_sl h13 v15 3 (m_i2l x3)) fun h17 =>
  m_b (m_gr h17 x0 9 15) fun v19 =>
  m_b (F12_sortOf x0 x2 0 h17) fun v22 =>
  m_b (m_sl h17 v19 4 (m_i2l (x3 * v22))) fun h23 =>
  m_b (m_gr h23 x0 9 15) fun v25 =>
  m_b (F12_week x0 h23) fun v28 =>
  m_b (F12_priceOf x0 x2 v28 h23) fun v30 =>
  m_b (m_sl h23 v25 5 (m_i2l v30)) fun h31 =>
  m_b (m_gr h31 x0 9 15) fun v33 =>
  m_b (m_gr h31 x0 9 1) fun v35 =>
  m_b (F12_both 109 x1 x2 h31) fun v38 =>
  m_b (m_ai h31 0 v35 v38) fun v39 =>
  m_b (m_sl h31 v33 6 (m_i2l v39)) fun h41 =>
  m_b (m_gr h41 x0 9 15) fun v43 =>
  m_b (m_gr h41 x0 9 1) fun v45 =>
  m_b (F12_landAt x1 0 h41) fun v48 =>
  m_b (m_ai h41 0 v45 v48) fun v49 =>
  m_b (m_sl h41 v43 7 (m_i2l v49)) fun h51 =>
  m_b (m_gr h51 x0 9 15) fun v53 =>
  m_b (F12_leased x0 x1 h51) fun v56 =>
  m_b (m_sl h51 v53 8 (m_i2l v56)) fun h57 =>
  m_b (m_gr h57 x0 9 15) fun v59 =>
  m_b (m_sl h57 v59 9 (m_i2l x4)) fun h61 =>
  some h61
noncomputable def F12_looks (x0 : Nat) (x1 : Int32) (x2 : Int32) (x3 : Int32) (x4 : Int32) (hp : m_H) : Option m_H :=
  m_gd (m_isO hp 9 x0) (F12_looks_0 x0 x1 x2 x3 x4 hp)
noncomputable def F12_holds_19b (x0 : Nat) (x1 : Int32) (x3 : Int32) (s : Int32 × Int32 × m_H) : Option ((Int32 × Int32 × m_H) ⊕ (Int32 × m_H)) :=
  m_b (m_gr s.2.2 x0 9 1) fun v1 =>
  m_b (m_ai s.2.2 0 v1 (x3 + 3)) fun v3 =>
  m_if (v3 ≤ s.2.1) (
    m_if (s.1 = 0) (
      some (.inr (1, s.2.2))
    ) (
      m_b (m_gr s.2.2 x0 9 16) fun v7 =>
      m_b (m_al s.2.2 v7 0) fun v9 =>
      m_if ((lg_cmp v9 1) = 0) (
        some (.inr (1, s.2.2))
      ) (
        some (.inr (0, s.2.2))
      )
    )
  ) (
    m_b (m_gr s.2.2 x0 9 1) fun v12 =>
    m_b (F12_textAt x1 s.2.2) fun v15 =>
    m_b (m_ai s.2.2 0 v12 ((v15 + 50) + (2 * s.2.1))) fun v16 =>
    m_if (100 < v16) (
      m_if (v16 = 104) (
        m_b (m_gr s.2.2 x0 9 16) fun v50 =>
        m_b (m_gr s.2.2 x0 9 16) fun v52 =>
        m_b (m_al s.2.2 v52 (s.1 - 1)) fun v54 =>
        m_b (m_sl s.2.2 v50 (s.1 - 1) (1 - v54)) fun h56 =>
        some (.inl (s.1, (s.2.1 + 1), h56))
      ) (
        m_b (m_gr s.2.2 x0 9 16) fun v20 =>
        m_b (m_al s.2.2 v20 ((s.1 + (-1)) - 1)) fun v22 =>
        m_b (m_gr s.2.2 x0 9 16) fun v24 =>
        m_b (m_al s.2.2 v24 (s.1 + (-1))) fun v26 =>
        m_b (m_gr s.2.2 x0 9 16) fun v28 =>
        m_if (v16 = 101) (
          m_b (m_sl s.2.2 v28 ((s.1 + (-1)) - 1) (v22 + v26)) fun h48 =>
          some (.inl ((s.1 + (-1)), (s.2.1 + 1), h48))
        ) (
          m_if (v16 = 102) (
            m_if (0 ≤ (lg_cmp v22 v26)) (
              m_b (m_sl s.2.2 v28 ((s.1 + (-1)) - 1) 0) fun h44 =>
              some (.inl ((s.1 + (-1)), (s.2.1 + 1), h44))
            ) (
              m_b (m_sl s.2.2 v28 ((s.1 + (-1)) - 1) 1) fun h46 =>
              some (.inl ((s.1 + (-1)), (s.2.1 + 1), h46))
            )
          ) (
            m_if (v16 = 103) (
              m_if ((lg_cmp v22 v26) ≤ 0) (
                m_b (m_sl s.2.2 v28 ((s.1 + (-1)) - 1) 0) fun h39 =>
                some (.inl ((s.1 + (-1)), (s.2.1 + 1), h39))
              ) (
                m_b (m_sl s.2.2 v28 ((s.1 + (-1)) - 1) 1) fun h41 =>
                some (.inl ((s.1 + (-1)), (s.2.1 + 1), h41))
              )
            ) (
              m_if (v16 = 105) (
                m_b (m_sl s.2.2 v28 ((s.1 + (-1)) - 1) (v22 * v26)) fun h36 =>
                some (.inl ((s.1 + (-1)), (s.2.1 + 1), h36))
              ) (
                m_b (m_sl s.2.2 v28 ((s.1 + (-1)) - 1) (m_maxl v22 v26)) fun h34 =>
                some (.inl ((s.1 + (-1)), (s.2.1 + 1), h34))
              )
            )
          )
        )
      )
    ) (
      m_b (m_gr s.2.2 x0 9 16) fun v58 =>
      m_if (v16 = 100) (
        m_b (m_gr s.2.2 x0 9 1) fun v67 =>
        m_b (F12_textAt x1 s.2.2) fun v70 =>
        m_b (m_ai s.2.2 0 v67 (((v70 + 50) + (2 * s.2.1)) + 1)) fun v71 =>
        m_b (m_sl s.2.2 v58 s.1 (m_i2l v71)) fun h73 =>
        some (.inl ((s.1 + 1), (s.2.1 + 1), h73))
      ) (
        m_b (m_gr s.2.2 x0 9 15) fun v61 =>
        m_b (m_al s.2.2 v61 v16) fun v63 =>
        m_b (m_sl s.2.2 v58 s.1 v63) fun h65 =>
        some (.inl ((s.1 + 1), (s.2.1 + 1), h65))
      )
    )
  )
noncomputable def F12_holds_19 (x0 : Nat) (x1 : Int32) (x3 : Int32) (x4 : Int32) (x5 : Int32) (hp : m_H) : Option (Int32 × m_H) :=
  m_wh (fun s => F12_holds_19b x0 x1 x3 s) m_N (x4, x5, hp)
noncomputable def F12_holds_0 (x0 : Nat) (x1 : Int32) (x2 : Int32) (hp : m_H) : Option (Int32 × m_H) :=
  m_b (F12_lineAt x1 x2 hp) fun v2 =>
  m_b (m_gr hp x0 9 1) fun v3 =>
  m_b (m_ai hp 0 v3 (v2 + 2)) fun v5 =>
  F12_holds_19 x0 x1 v2 0 v5 hp
noncomputable def F12_holds (x0 : Nat) (x1 : Int32) (x2 : Int32) (hp : m_H) : Option (Int32 × m_H) :=
  m_gd (m_isO hp 9 x0) (F12_holds_0 x0 x1 x2 hp)
noncomputable def F12_firstOf_7b (x0 : Nat) (x1 : Int32) (x2 : Int32) (s : Int32 × m_H) : Option ((Int32 × m_H) ⊕ (Int32 × m_H)) :=
  m_b (F12_linesOf x0 x2 s.2) fun v2 =>
  m_if (v2 ≤ s.1) (
    some (.inr ((-1), s.2))
  ) (
    m_b (m_gr s.2 x0 9 1) fun v4 =>
    m_b (F12_lineAt x2 s.1 s.2) fun v7 =>
    m_b (m_ai s.2 0 v4 v7) fun v8 =>
    m_if (v8 = x1) (
      m_b (F12_holds x0 x2 s.1 s.2) fun z12 =>
      m_if (z12.1 = 0) (
        some (.inl ((s.1 + 1), z12.2))
      ) (
        some (.inr (s.1, z12.2))
      )
    ) (
      some (.inl ((s.1 + 1), s.2))
    )
  )
noncomputable def F12_firstOf_7 (x0 : Nat) (x1 : Int32) (x2 : Int32) (x3 : Int32) (hp : m_H) : Option (Int32 × m_H) :=
  m_wh (fun s => F12_firstOf_7b x0 x1 x2 s) m_N (x3, hp)
noncomputable def F12_firstOf_0 (x0 : Nat) (x1 : Int32) (hp : m_H) : Option (Int32 × m_H) :=
  m_b (F12_text x0 hp) fun v2 =>
  F12_firstOf_7 x0 x1 v2 0 hp
noncomputable def F12_firstOf (x0 : Nat) (x1 : Int32) (hp : m_H) : Option (Int32 × m_H) :=
  m_gd (m_isO hp 9 x0) (F12_firstOf_0 x0 x1 hp)
noncomputable def F12_allOf_10b (x0 : Nat) (x1 : Int32) (x2 : Int32) (s : Int32 × Int32 × m_H) : Option ((Int32 × Int32 × m_H) ⊕ (Int32 × m_H)) :=
  m_b (F12_linesOf x0 x2 s.2.2) fun v2 =>
  m_if (v2 ≤ s.2.1) (
    some (.inr (s.1, s.2.2))
  ) (
    m_b (m_gr s.2.2 x0 9 1) fun v4 =>
    m_b (F12_lineAt x2 s.2.1 s.2.2) fun v7 =>
    m_b (m_ai s.2.2 0 v4 v7) fun v8 =>
    m_if (v8 = x1) (
      m_b (F12_holds x0 x2 s.2.1 s.2.2) fun z12 =>
      m_if (z12.1 = 0) (
        some (.inl (s.1, (s.2.1 + 1), z12.2))
      ) (
        m_if (x1 = 1) (
          m_b (m_gr z12.2 x0 9 1) fun v21 =>
          m_b (F12_lineAt x2 s.2.1 z12.2) fun v24 =>
          m_b (m_ai z12.2 0 v21 (v24 + 1)) fun v25 =>
          some (.inl ((s.1 + v25), (s.2.1 + 1), z12.2))
        ) (
          m_b (m_gr z12.2 x0 9 1) fun v15 =>
          m_b (F12_lineAt x2 s.2.1 z12.2) fun v18 =>
          m_b (m_ai z12.2 0 v15 (v18 + 1)) fun v19 =>
          some (.inl ((m_max s.1 v19), (s.2.1 + 1), z12.2))
        )
      )
    ) (
      some (.inl (s.1, (s.2.1 + 1), s.2.2))
    )
  )
noncomputable def F12_allOf_10 (x0 : Nat) (x1 : Int32) (x2 : Int32) (x3 : Int32) (x4 : Int32) (hp : m_H) : Option (Int32 × m_H) :=
  m_wh (fun s => F12_allOf_10b x0 x1 x2 s) m_N (x3, x4, hp)
noncomputable def F12_allOf_0 (x0 : Nat) (x1 : Int32) (hp : m_H) : Option (Int32 × m_H) :=
  m_b (F12_text x0 hp) fun v2 =>
  F12_allOf_10 x0 x1 v2 0 0 hp
noncomputable def F12_allOf (x0 : Nat) (x1 : Int32) (hp : m_H) : Option (Int32 × m_H) :=
  m_gd (m_isO hp 9 x0) (F12_allOf_0 x0 x1 hp)
noncomputable def F12_requestAt_0 (x0 : Int32) (hp : m_H) : Option Int32 :=
  some (2909 + (5 * x0))
noncomputable def F12_requestAt (x0 : Int32) (hp : m_H) : Option Int32 :=
  F12_requestAt_0 x0 hp
noncomputable def F12_noRequest_0 (x0 : Nat) (x1 : Int32) (hp : m_H) : Option Int32 :=
  m_b (m_gr hp x0 9 1) fun v1 =>
  m_b (m_ai hp 0 v1 2908) fun v3 =>
  m_b (F12_in x1 0 (v3 - 1) hp) fun v6 =>
  m_if (v6 = 0) (
    some 1
  ) (
    some 0
  )
noncomputable def F12_noRequest (x0 : Nat) (x1 : Int32) (hp : m_H) : Option Int32 :=
  m_gd (m_isO hp 9 x0) (F12_noRequest_0 x0 x1 hp)
noncomputable def F12_ask_91 (x0 : Nat) (x1 : Int32) (x2 : Int32) (x3 : Int32) (x4 : Int32) (s0 : Int32) (s1 : Nat) (hp : m_H) : Option (Int32 × m_H) :=
  m_b (F12_throwsIf s1 s0 3 hp) fun z2 =>
  m_if (z2.1 = 0) (
    m_b (m_gr z2.2 x0 9 1) fun v4 =>
    m_b (m_ai z2.2 0 v4 2908) fun v6 =>
    m_b (F12_requestAt v6 z2.2) fun v9 =>
    m_b (m_gr z2.2 x0 9 1) fun v10 =>
    m_b (m_si z2.2 0 v10 v9 x1) fun h12 =>
    m_b (m_gr h12 x0 9 1) fun v14 =>
    m_b (m_si h12 0 v14 (v9 + 1) x2) fun h16 =>
    m_b (m_gr h16 x0 9 1) fun v18 =>
    m_b (m_si h16 0 v18 (v9 + 2) x3) fun h20 =>
    m_b (m_gr h20 x0 9 1) fun v22 =>
    m_b (m_si h20 0 v22 (v9 + 3) x4) fun h24 =>
    m_b (m_gr h24 x0 9 1) fun v26 =>
    m_b (m_si h24 0 v26 (v9 + 4) 0) fun h28 =>
    m_b (m_gr h28 x0 9 1) fun v30 =>
    m_b (m_ai h28 0 v30 2908) fun v32 =>
    m_b (m_si h28 0 v30 2908 (v32 + 1)) fun h34 =>
    some (v6, h34)
  ) (
    some (0, z2.2)
  )
noncomputable def F12_ask_65 (x0 : Nat) (x1 : Int32) (x2 : Int32) (x3 : Int32) (x4 : Int32) (s0 : Int32) (s1 : Nat) (hp : m_H) : Option (Int32 × m_H) :=
  m_b (F12_throwsIf s1 s0 2 hp) fun z2 =>
  m_if (z2.1 = 0) (
    m_b (m_gr z2.2 x0 9 1) fun v4 =>
    m_b (m_ai z2.2 0 v4 2908) fun v6 =>
    m_if (v6 = 60) (
      F12_ask_91 x0 x1 x2 x3 x4 1 x0 z2.2
    ) (
      F12_ask_91 x0 x1 x2 x3 x4 0 x0 z2.2
    )
  ) (
    some (0, z2.2)
  )
noncomputable def F12_ask_60 (x0 : Nat) (x1 : Int32) (x2 : Int32) (x3 : Int32) (x4 : Int32) (s0 : Nat) (hp : m_H) : Option (Int32 × m_H) :=
  F12_ask_65 x0 x1 x2 x3 x4 1 s0 hp
noncomputable def F12_ask_25 (x0 : Nat) (x1 : Int32) (x2 : Int32) (x3 : Int32) (x4 : Int32) (s0 : Int32) (s1 : Nat) (hp : m_H) : Option (Int32 × m_H) :=
  m_b (F12_throwsIf s1 s0 1 hp) fun z2 =>
  m_if (z2.1 = 0) (
    m_if (x1 = 0) (
      F12_ask_60 x0 x1 x2 x3 x4 x0 z2.2
    ) (
      m_b (F12_in x3 1 1000 z2.2) fun v6 =>
      m_if (v6 = 0) (
        F12_ask_60 x0 x1 x2 x3 x4 x0 z2.2
      ) (
        m_b (F12_in x4 0 9999 z2.2) fun v9 =>
        m_if (v9 = 0) (
          F12_ask_60 x0 x1 x2 x3 x4 x0 z2.2
        ) (
          F12_ask_65 x0 x1 x2 x3 x4 0 x0 z2.2
        )
      )
    )
  ) (
    some (0, z2.2)
  )
noncomputable def F12_ask_20 (x0 : Nat) (x1 : Int32) (x2 : Int32) (x3 : Int32) (x4 : Int32) (s0 : Nat) (hp : m_H) : Option (Int32 × m_H) :=
  F12_ask_25 x0 x1 x2 x3 x4 1 s0 hp
noncomputable def F12_ask_0 (x0 : Nat) (x1 : Int32) (x2 : Int32) (x3 : Int32) (x4 : Int32) (hp : m_H) : Option (Int32 × m_H) :=
  m_b (m_pf m_ft hp x0 9 0 (.int 0)) fun h1 =>
  m_b (F12_noLand x1 h1) fun v4 =>
  m_if (v4 = 0) (
    m_b (F12_noSort x2 h1) fun v7 =>
    m_if (v7 = 0) (
      F12_ask_25 x0 x1 x2 x3 x4 0 x0 h1
    ) (
      F12_ask_20 x0 x1 x2 x3 x4 x0 h1
    )
  ) (
    F12_ask_20 x0 x1 x2 x3 x4 x0 h1
  )
noncomputable def F12_ask (x0 : Nat) (x1 : Int32) (x2 : Int32) (x3 : Int32) (x4 : Int32) (hp : m_H) : Option (Int32 × m_H) :=
  m_gd (m_isO hp 9 x0) (F12_ask_0 x0 x1 x2 x3 x4 hp)
noncomputable def F12_lacks_0 (x0 : Nat) (x1 : Int32) (hp : m_H) : Option Int32 :=
  m_b (m_gr hp x0 9 1) fun v1 =>
  m_b (F12_requestAt x1 hp) fun v4 =>
  m_b (m_ai hp 0 v1 (v4 + 2)) fun v5 =>
  m_b (m_gr hp x0 9 1) fun v7 =>
  m_b (F12_requestAt x1 hp) fun v10 =>
  m_b (m_ai hp 0 v7 (v10 + 4)) fun v11 =>
  some (v5 - v11)
noncomputable def F12_lacks (x0 : Nat) (x1 : Int32) (hp : m_H) : Option Int32 :=
  m_gd (m_isO hp 9 x0) (F12_lacks_0 x0 x1 hp)
noncomputable def F12_looksAt_0 (x0 : Nat) (x1 : Int32) (x2 : Int32) (hp : m_H) : Option m_H :=
  m_b (m_gr hp x0 9 1) fun v1 =>
  m_b (F12_requestAt x1 hp) fun v4 =>
  m_b (m_ai hp 0 v1 v4) fun v5 =>
  m_b (m_gr hp x0 9 1) fun v7 =>
  m_b (F12_requestAt x1 hp) fun v10 =>
  m_b (m_ai hp 0 v7 (v10 + 1)) fun v11 =>
  m_b (F12_looks x0 v5 v11 x2 0 hp) fun h14 =>
  some h14
noncomputable def F12_looksAt (x0 : Nat) (x1 : Int32) (x2 : Int32) (hp : m_H) : Option m_H :=
  m_gd (m_isO hp 9 x0) (F12_looksAt_0 x0 x1 x2 hp)
noncomputable def F12_weigh_0 (x0 : Nat) (x1 : Int32) (x2 : Int32) (hp : m_H) : Option (Int32 × m_H) :=
  m_b (m_pf m_ft hp x0 9 0 (.int 0)) fun h1 =>
  m_b (F12_noRequest x0 x1 h1) fun v4 =>
  m_b (F12_throwsIf x0 v4 1 h1) fun z6 =>
  m_if (z6.1 = 0) (
    m_b (m_gr z6.2 x0 9 1) fun v8 =>
    m_b (F12_requestAt x1 z6.2) fun v11 =>
    m_b (m_ai z6.2 0 v8 (v11 + 2)) fun v12 =>
    m_b (F12_looksAt x0 x1 v12 z6.2) fun h15 =>
    m_swt (m_swi 0 5 x2) (
      m_b (m_pf m_ft h15 x0 9 0 (.int 2)) fun h18 =>
      some (0, h18)
    ) fun w16 =>
    m_if (w16 = 0) (
      m_b (F12_allOf x0 1 h15) fun z22 =>
      some (z22.1, z22.2)
    ) (
     m_if (w16 = 1) (
       m_b (F12_firstOf x0 1 h15) fun z25 =>
       some (z25.1, z25.2)
     ) (
      m_if (w16 = 2) (
        m_b (F12_firstOf x0 0 h15) fun z28 =>
        some (z28.1, z28.2)
      ) (
       m_if (w16 = 3) (
         m_b (m_gr h15 x0 9 1) fun v30 =>
         m_b (F12_requestAt x1 h15) fun v33 =>
         m_b (m_ai h15 0 v30 (v33 + 4)) fun v34 =>
         some (v34, h15)
       ) (
        m_if (w16 = 4) (
          m_b (F12_lacks x0 x1 h15) fun v38 =>
          some (v38, h15)
        ) (
         m_if (w16 = 5) (
           m_b (F12_allOf x0 2 h15) fun z41 =>
           some (z41.1, z41.2)
         ) (
          none
         )
        )
       )
      )
     )
    )
  ) (
    some (0, z6.2)
  )
noncomputable def F12_weigh (x0 : Nat) (x1 : Int32) (x2 : Int32) (hp : m_H) : Option (Int32 × m_H) :=
  m_gd (m_isO hp 9 x0) (F12_weigh_0 x0 x1 x2 hp)
noncomputable def F12_isAhead_0 (x0 : Nat) (x1 : Int32) (x2 : Int32) (hp : m_H) : Option Int32 :=
  m_b (m_gr hp x0 9 17) fun v1 =>
  m_b (m_ai hp 0 v1 x1) fun v3 =>
  m_b (m_gr hp x0 9 17) fun v5 =>
  m_b (m_ai hp 0 v5 x2) fun v7 =>
  m_if (v3 = v7) (
    m_b (m_gr hp x0 9 1) fun v10 =>
    m_b (F12_requestAt x1 hp) fun v13 =>
    m_b (m_ai hp 0 v10 (v13 + 3)) fun v14 =>
    m_b (m_gr hp x0 9 1) fun v16 =>
    m_b (F12_requestAt x2 hp) fun v19 =>
    m_b (m_ai hp 0 v16 (v19 + 3)) fun v20 =>
    m_if (v14 < v20) (
      some 1
    ) (
      m_if (v14 = v20) (
        m_if (x2 ≤ x1) (
          some 0
        ) (
          some 1
        )
      ) (
        some 0
      )
    )
  ) (
    m_b (m_gr hp x0 9 17) fun v25 =>
    m_b (m_ai hp 0 v25 x1) fun v27 =>
    m_b (m_gr hp x0 9 17) fun v29 =>
    m_b (m_ai hp 0 v29 x2) fun v31 =>
    m_if (v27 ≤ v31) (
      some 0
    ) (
      some 1
    )
  )
noncomputable def F12_isAhead (x0 : Nat) (x1 : Int32) (x2 : Int32) (hp : m_H) : Option Int32 :=
  m_gd (m_isO hp 9 x0) (F12_isAhead_0 x0 x1 x2 hp)
noncomputable def F12_nextFor_4b (x0 : Nat) (x1 : Int32) (hp : m_H) (s : Int32 × Int32) : Option ((Int32 × Int32) ⊕ Int32) :=
  m_b (m_gr hp x0 9 1) fun v1 =>
  m_b (m_ai hp 0 v1 2908) fun v3 =>
  m_if (v3 ≤ s.2) (
    some (.inr s.1)
  ) (
    m_b (m_gr hp x0 9 1) fun v6 =>
    m_b (F12_requestAt s.2 hp) fun v9 =>
    m_b (m_ai hp 0 v6 (v9 + 1)) fun v10 =>
    m_if (v10 = x1) (
      m_b (m_gr hp x0 9 18) fun v13 =>
      m_b (m_ai hp 3 v13 s.2) fun v15 =>
      m_if (v15 = 0) (
        m_b (F12_lacks x0 s.2 hp) fun v19 =>
        m_if (v19 ≤ 0) (
          some (.inl (s.1, (s.2 + 1)))
        ) (
          m_if (s.1 < 0) (
            some (.inl (s.2, (s.2 + 1)))
          ) (
            m_b (F12_isAhead x0 s.2 s.1 hp) fun v23 =>
            m_if (v23 = 0) (
              some (.inl (s.1, (s.2 + 1)))
            ) (
              some (.inl (s.2, (s.2 + 1)))
            )
          )
        )
      ) (
        some (.inl (s.1, (s.2 + 1)))
      )
    ) (
      some (.inl (s.1, (s.2 + 1)))
    )
  )
noncomputable def F12_nextFor_4 (x0 : Nat) (x1 : Int32) (x2 : Int32) (x3 : Int32) (hp : m_H) : Option Int32 :=
  m_wh (fun s => F12_nextFor_4b x0 x1 hp s) m_N (x2, x3)
noncomputable def F12_nextFor_0 (x0 : Nat) (x1 : Int32) (hp : m_H) : Option Int32 :=
  F12_nextFor_4 x0 x1 (-1) 0 hp
noncomputable def F12_nextFor (x0 : Nat) (x1 : Int32) (hp : m_H) : Option Int32 :=
  m_gd (m_isO hp 9 x0) (F12_nextFor_0 x0 x1 hp)
noncomputable def F12_stockOf_4b (x0 : Nat) (x1 : Int32) (hp : m_H) (s : Int32 × Int32) : Option ((Int32 × Int32) ⊕ Int32) :=
  m_b (m_gr hp x0 9 1) fun v1 =>
  m_b (m_ai hp 0 v1 807) fun v3 =>
  m_if (v3 ≤ s.2) (
    some (.inr s.1)
  ) (
    m_b (F12_isStock x0 s.2 hp) fun v7 =>
    m_if (v7 = 0) (
      some (.inl ((s.1 + 0), (s.2 + 1)))
    ) (
      m_b (F12_of x0 s.2 0 hp) fun v10 =>
      m_if (v10 = x1) (
        m_b (F12_of x0 s.2 11 hp) fun v13 =>
        some (.inl ((s.1 + v13), (s.2 + 1)))
      ) (
        some (.inl ((s.1 + 0), (s.2 + 1)))
      )
    )
  )
noncomputable def F12_stockOf_4 (x0 : Nat) (x1 : Int32) (x2 : Int32) (x3 : Int32) (hp : m_H) : Option Int32 :=
  m_wh (fun s => F12_stockOf_4b x0 x1 hp s) m_N (x2, x3)
noncomputable def F12_stockOf_0 (x0 : Nat) (x1 : Int32) (hp : m_H) : Option Int32 :=
  F12_stockOf_4 x0 x1 0 0 hp
noncomputable def F12_stockOf (x0 : Nat) (x1 : Int32) (hp : m_H) : Option Int32 :=
  m_gd (m_isO hp 9 x0) (F12_stockOf_0 x0 x1 hp)
noncomputable def F12_empties_5b (x0 : Nat) (x1 : Int32) (s : Int32 × Int32 × m_H) : Option ((Int32 × Int32 × m_H) ⊕ m_H) :=
  m_b (m_gr s.2.2 x0 9 1) fun v1 =>
  m_b (m_ai s.2.2 0 v1 807) fun v3 =>
  m_if (v3 ≤ s.2.1) (
    some (.inr s.2.2)
  ) (
    m_if (s.1 ≤ 0) (
      some (.inr s.2.2)
    ) (
      m_b (F12_isStock x0 s.2.1 s.2.2) fun v8 =>
      m_if (v8 = 0) (
        some (.inl (s.1, (s.2.1 + 1), s.2.2))
      ) (
        m_b (F12_of x0 s.2.1 0 s.2.2) fun v11 =>
        m_if (v11 = x1) (
          m_b (F12_of x0 s.2.1 11 s.2.2) fun v14 =>
          m_b (m_gr s.2.2 x0 9 1) fun v15 =>
          m_b (F12_lotAt s.2.1 11 s.2.2) fun v18 =>
          m_b (m_ai s.2.2 0 v15 v18) fun v19 =>
          m_b (m_si s.2.2 0 v15 v18 (v19 - (m_min s.1 v14))) fun h21 =>
          m_b (m_gr h21 x0 9 1) fun v23 =>
          m_b (F12_lotAt s.2.1 1 h21) fun v26 =>
          m_b (m_ai h21 0 v23 v26) fun v27 =>
          m_b (m_si h21 0 v23 v26 (v27 - (m_min s.1 v14))) fun h29 =>
          some (.inl ((s.1 - (m_min s.1 v14)), (s.2.1 + 1), h29))
        ) (
          some (.inl (s.1, (s.2.1 + 1), s.2.2))
        )
      )
    )
  )
noncomputable def F12_empties_5 (x0 : Nat) (x1 : Int32) (x3 : Int32) (x4 : Int32) (hp : m_H) : Option m_H :=
  m_wh (fun s => F12_empties_5b x0 x1 s) m_N (x3, x4, hp)
noncomputable def F12_empties_0 (x0 : Nat) (x1 : Int32) (x2 : Int32) (hp : m_H) : Option m_H :=
  F12_empties_5 x0 x1 x2 0 hp
noncomputable def F12_empties (x0 : Nat) (x1 : Int32) (x2 : Int32) (hp : m_H) : Option m_H :=
  m_gd (m_isO hp 9 x0) (F12_empties_0 x0 x1 x2 hp)
noncomputable def F12_allot_264 (x0 : Nat) (x1 : Int32) (x2 : Int32) (hp : m_H) : Option ((Int32 × Int32 × m_H) ⊕ (Int32 × m_H)) :=
  m_b (F12_nextFor x0 x1 hp) fun v2 =>
  some (.inl (x2, v2, hp))
noncomputable def F12_allot_163 (x0 : Nat) (x1 : Int32) (x2 : Int32) (x3 : Int32) (x4 : Int32) (hp : m_H) : Option ((Int32 × Int32 × m_H) ⊕ (Int32 × m_H)) :=
  m_b (F12_empties x0 x1 x4 hp) fun h2 =>
  m_b (m_gr h2 x0 9 1) fun v3 =>
  m_b (F12_requestAt x3 h2) fun v6 =>
  m_b (m_ai h2 0 v3 v6) fun v7 =>
  m_b (F12_begins x0 x1 x4 v7 1 h2) fun z10 =>
  m_b (m_gr z10.2 x0 9 1) fun v11 =>
  m_b (F12_lotAt z10.1 6 z10.2) fun v14 =>
  m_b (F12_week x0 z10.2) fun v16 =>
  m_b (m_si z10.2 0 v11 v14 v16) fun h17 =>
  m_b (m_gr h17 x0 9 1) fun v19 =>
  m_b (F12_lotAt z10.1 19 h17) fun v22 =>
  m_b (F12_week x0 h17) fun v24 =>
  m_b (F12_priceOf x0 x1 v24 h17) fun v26 =>
  m_b (m_si h17 0 v19 v22 v26) fun h27 =>
  m_b (m_gr h27 x0 9 1) fun v29 =>
  m_b (F12_lotAt z10.1 20 h27) fun v32 =>
  m_b (F12_allOf x0 2 h27) fun z34 =>
  m_b (m_si z34.2 0 v29 v32 z34.1) fun h35 =>
  m_b (m_gr h35 x0 9 1) fun v37 =>
  m_b (F12_requestAt x3 h35) fun v40 =>
  m_b (m_ai h35 0 v37 (v40 + 4)) fun v41 =>
  m_b (m_si h35 0 v37 (v40 + 4) (v41 + x4)) fun h43 =>
  F12_allot_264 x0 x1 (x2 + x4) h43
noncomputable def F12_allot_93b (x0 : Nat) (x1 : Int32) (s : Int32 × Int32 × m_H) : Option ((Int32 × Int32 × m_H) ⊕ (Int32 × m_H)) :=
  m_if (s.2.1 < 0) (
    some (.inr (s.1, s.2.2))
  ) (
    m_b (m_gr s.2.2 x0 9 1) fun v2 =>
    m_b (m_ai s.2.2 0 v2 807) fun v4 =>
    m_if (100 ≤ v4) (
      some (.inr (s.1, s.2.2))
    ) (
      m_b (F12_stockOf x0 x1 s.2.2) fun v8 =>
      m_if (v8 ≤ 0) (
        some (.inr (s.1, s.2.2))
      ) (
        m_b (m_gr s.2.2 x0 9 18) fun v10 =>
        m_b (m_si s.2.2 3 v10 s.2.1 1) fun h12 =>
        m_b (F12_stockOf x0 x1 h12) fun v15 =>
        m_b (F12_lacks x0 s.2.1 h12) fun v17 =>
        m_b (F12_looksAt x0 s.2.1 (m_min v15 v17) h12) fun h19 =>
        m_b (F12_firstOf x0 0 h19) fun z21 =>
        m_if (z21.1 < 0) (
          F12_allot_264 x0 x1 s.1 z21.2
        ) (
          m_if (s.1 = 0) (
            m_b (F12_deed x0 z21.2) fun h25 =>
            F12_allot_163 x0 x1 s.1 s.2.1 (m_min v15 v17) h25
          ) (
            F12_allot_163 x0 x1 s.1 s.2.1 (m_min v15 v17) z21.2
          )
        )
      )
    )
  )
noncomputable def F12_allot_93 (x0 : Nat) (x1 : Int32) (x2 : Int32) (x3 : Int32) (hp : m_H) : Option (Int32 × m_H) :=
  m_wh (fun s => F12_allot_93b x0 x1 s) m_N (x2, x3, hp)
noncomputable def F12_allot_33b (x0 : Nat) (x1 : Int32) (s : Int32 × m_H) : Option ((Int32 × m_H) ⊕ (Int32 × m_H)) :=
  m_b (m_gr s.2 x0 9 1) fun v1 =>
  m_b (m_ai s.2 0 v1 2908) fun v3 =>
  m_if (v3 ≤ s.1) (
    m_b (F12_nextFor x0 x1 s.2) fun v7 =>
    (F12_allot_93 x0 x1 0 v7 s.2).map .inr
  ) (
    m_b (m_gr s.2 x0 9 1) fun v8 =>
    m_b (F12_requestAt s.1 s.2) fun v11 =>
    m_b (m_ai s.2 0 v8 (v11 + 2)) fun v12 =>
    m_b (F12_looksAt x0 s.1 v12 s.2) fun h15 =>
    m_b (m_gr h15 x0 9 17) fun v16 =>
    m_b (F12_allOf x0 1 h15) fun z19 =>
    m_b (m_si z19.2 0 v16 s.1 z19.1) fun h20 =>
    m_b (m_gr h20 x0 9 18) fun v22 =>
    m_b (m_si h20 3 v22 s.1 0) fun h24 =>
    some (.inl ((s.1 + 1), h24))
  )
noncomputable def F12_allot_33 (x0 : Nat) (x1 : Int32) (x2 : Int32) (hp : m_H) : Option (Int32 × m_H) :=
  m_wh (fun s => F12_allot_33b x0 x1 s) m_N (x2, hp)
noncomputable def F12_allot_0 (x0 : Nat) (x1 : Int32) (hp : m_H) : Option (Int32 × m_H) :=
  m_b (m_pf m_ft hp x0 9 0 (.int 0)) fun h1 =>
  m_b (F12_noSort x1 h1) fun v4 =>
  m_b (F12_throwsIf x0 v4 1 h1) fun z6 =>
  m_if (z6.1 = 0) (
    m_b (F12_isOver x0 z6.2) fun v9 =>
    m_b (F12_throwsIf x0 v9 2 z6.2) fun z11 =>
    m_if (z11.1 = 0) (
      F12_allot_33 x0 x1 0 z11.2
    ) (
      some (0, z11.2)
    )
  ) (
    some (0, z6.2)
  )
noncomputable def F12_allot (x0 : Nat) (x1 : Int32) (hp : m_H) : Option (Int32 × m_H) :=
  m_gd (m_isO hp 9 x0) (F12_allot_0 x0 x1 hp)
noncomputable def F12_shipAt_0 (x0 : Int32) (x1 : Int32) (hp : m_H) : Option Int32 :=
  some ((3210 + (23 * x0)) + x1)
noncomputable def F12_shipAt (x0 : Int32) (x1 : Int32) (hp : m_H) : Option Int32 :=
  F12_shipAt_0 x0 x1 hp
noncomputable def F12_its_0 (x0 : Nat) (x1 : Int32) (x2 : Int32) (hp : m_H) : Option Int32 :=
  m_b (m_gr hp x0 9 1) fun v1 =>
  m_b (F12_shipAt x1 x2 hp) fun v4 =>
  m_b (m_ai hp 0 v1 v4) fun v5 =>
  some v5
noncomputable def F12_its (x0 : Nat) (x1 : Int32) (x2 : Int32) (hp : m_H) : Option Int32 :=
  m_gd (m_isO hp 9 x0) (F12_its_0 x0 x1 x2 hp)
noncomputable def F12_puts_0 (x0 : Nat) (x1 : Int32) (x2 : Int32) (x3 : Int32) (hp : m_H) : Option m_H :=
  m_b (m_gr hp x0 9 1) fun v1 =>
  m_b (F12_shipAt x1 x2 hp) fun v4 =>
  m_b (m_si hp 0 v1 v4 x3) fun h5 =>
  some h5
noncomputable def F12_puts (x0 : Nat) (x1 : Int32) (x2 : Int32) (x3 : Int32) (hp : m_H) : Option m_H :=
  m_gd (m_isO hp 9 x0) (F12_puts_0 x0 x1 x2 x3 hp)
noncomputable def F12_noShip_0 (x0 : Nat) (x1 : Int32) (hp : m_H) : Option Int32 :=
  m_b (m_gr hp x0 9 1) fun v1 =>
  m_b (m_ai hp 0 v1 3209) fun v3 =>
  m_b (F12_in x1 0 (v3 - 1) hp) fun v6 =>
  m_if (v6 = 0) (
    some 1
  ) (
    some 0
  )
noncomputable def F12_noShip (x0 : Nat) (x1 : Int32) (hp : m_H) : Option Int32 :=
  m_gd (m_isO hp 9 x0) (F12_noShip_0 x0 x1 hp)
noncomputable def F12_ship_58 (x0 : Nat) (x1 : Int32) (x2 : Int32) (s0 : Int32) (s1 : Nat) (hp : m_H) : Option (Int32 × m_H) :=
  m_b (F12_throwsIf s1 s0 2 hp) fun z2 =>
  m_if (z2.1 = 0) (
    m_b (m_gr z2.2 x0 9 1) fun v4 =>
    m_b (m_ai z2.2 0 v4 3209) fun v6 =>
    m_b (m_gr z2.2 x0 9 1) fun v8 =>
    m_b (m_ai z2.2 0 v8 3209) fun v10 =>
    m_b (m_si z2.2 0 v8 3209 (v10 + 1)) fun h12 =>
    m_b (F12_puts x0 v6 0 x1 h12) fun h15 =>
    m_b (F12_puts x0 v6 1 x2 h15) fun h17 =>
    m_b (F12_puts x0 v6 5 (-1) h17) fun h19 =>
    some (v6, h19)
  ) (
    some (0, z2.2)
  )
noncomputable def F12_ship_32 (x0 : Nat) (x1 : Int32) (x2 : Int32) (s0 : Int32) (s1 : Nat) (hp : m_H) : Option (Int32 × m_H) :=
  m_b (F12_throwsIf s1 s0 1 hp) fun z2 =>
  m_if (z2.1 = 0) (
    m_b (m_gr z2.2 x0 9 1) fun v4 =>
    m_b (m_ai z2.2 0 v4 3209) fun v6 =>
    m_if (v6 = 12) (
      F12_ship_58 x0 x1 x2 1 x0 z2.2
    ) (
      F12_ship_58 x0 x1 x2 0 x0 z2.2
    )
  ) (
    some (0, z2.2)
  )
noncomputable def F12_ship_27 (x0 : Nat) (x1 : Int32) (x2 : Int32) (s0 : Nat) (hp : m_H) : Option (Int32 × m_H) :=
  F12_ship_32 x0 x1 x2 1 s0 hp
noncomputable def F12_ship_0 (x0 : Nat) (x1 : Int32) (x2 : Int32) (hp : m_H) : Option (Int32 × m_H) :=
  m_b (m_pf m_ft hp x0 9 0 (.int 0)) fun h1 =>
  m_b (F12_in x1 1 5000 h1) fun v4 =>
  m_if (v4 = 0) (
    F12_ship_27 x0 x1 x2 x0 h1
  ) (
    m_b (F12_in x2 0 99 h1) fun v7 =>
    m_if (v7 = 0) (
      F12_ship_27 x0 x1 x2 x0 h1
    ) (
      F12_ship_32 x0 x1 x2 0 x0 h1
    )
  )
noncomputable def F12_ship (x0 : Nat) (x1 : Int32) (x2 : Int32) (hp : m_H) : Option (Int32 × m_H) :=
  m_gd (m_isO hp 9 x0) (F12_ship_0 x0 x1 x2 hp)
noncomputable def F12_tonsIn_4b (x0 : Nat) (x1 : Int32) (hp : m_H) (s : Int32 × Int32) : Option ((Int32 × Int32) ⊕ Int32) :=
  m_b (F12_its x0 x1 6 hp) fun v2 =>
  m_if (v2 ≤ s.2) (
    some (.inr s.1)
  ) (
    m_b (F12_its x0 x1 ((7 + (2 * s.2)) + 1) hp) fun v5 =>
    m_b (F12_its x0 x1 (7 + (2 * s.2)) hp) fun v7 =>
    m_b (F12_of x0 v7 0 hp) fun v9 =>
    m_b (F12_sortOf x0 v9 0 hp) fun v11 =>
    some (.inl ((s.1 + (v5 * v11)), (s.2 + 1)))
  )
noncomputable def F12_tonsIn_4 (x0 : Nat) (x1 : Int32) (x2 : Int32) (x3 : Int32) (hp : m_H) : Option Int32 :=
  m_wh (fun s => F12_tonsIn_4b x0 x1 hp s) m_N (x2, x3)
noncomputable def F12_tonsIn_0 (x0 : Nat) (x1 : Int32) (hp : m_H) : Option Int32 :=
  F12_tonsIn_4 x0 x1 0 0 hp
noncomputable def F12_tonsIn (x0 : Nat) (x1 : Int32) (hp : m_H) : Option Int32 :=
  m_gd (m_isO hp 9 x0) (F12_tonsIn_0 x0 x1 hp)
noncomputable def F12_cargoOf_2b (x0 : Nat) (x1 : Int32) (x2 : Int32) (hp : m_H) (s : Int32) : Option (Int32 ⊕ Int32) :=
  m_b (F12_its x0 x1 6 hp) fun v2 =>
  m_if (v2 ≤ s) (
    some (.inr s)
  ) (
    m_b (F12_its x0 x1 (7 + (2 * s)) hp) fun v5 =>
    m_if (v5 = x2) (
      some (.inr s)
    ) (
      some (.inl (s + 1))
    )
  )
noncomputable def F12_cargoOf_2 (x0 : Nat) (x1 : Int32) (x2 : Int32) (x3 : Int32) (hp : m_H) : Option Int32 :=
  m_wh (fun s => F12_cargoOf_2b x0 x1 x2 hp s) m_N x3
noncomputable def F12_cargoOf_0 (x0 : Nat) (x1 : Int32) (x2 : Int32) (hp : m_H) : Option Int32 :=
  F12_cargoOf_2 x0 x1 x2 0 hp
noncomputable def F12_cargoOf (x0 : Nat) (x1 : Int32) (x2 : Int32) (hp : m_H) : Option Int32 :=
  m_gd (m_isO hp 9 x0) (F12_cargoOf_0 x0 x1 x2 hp)
noncomputable def F12_load_300 (x0 : Nat) (x1 : Int32) (x2 : Int32) (x3 : Int32) (x5 : Int32) (x6 : Int32) (hp : m_H) : Option (Int32 × m_H) :=
  m_b (F12_its x0 x1 ((7 + (2 * x6)) + 1) hp) fun v2 =>
  m_b (F12_puts x0 x1 ((7 + (2 * x6)) + 1) (v2 + x3) hp) fun h4 =>
  m_b (F12_moves x0 x2 x5 2 x3 h4) fun h6 =>
  some (1, h6)
noncomputable def F12_load_200 (x0 : Nat) (x1 : Int32) (x2 : Int32) (x3 : Int32) (x5 : Int32) (hp : m_H) : Option (Int32 × m_H) :=
  m_b (F12_cargoOf x0 x1 x2 hp) fun v2 =>
  m_if (v2 = 8) (
    some (0, hp)
  ) (
    m_b (F12_tonsIn x0 x1 hp) fun v5 =>
    m_b (F12_of x0 x2 0 hp) fun v7 =>
    m_b (F12_sortOf x0 v7 0 hp) fun v9 =>
    m_b (F12_its x0 x1 0 hp) fun v11 =>
    m_if ((v5 + (x3 * v9)) ≤ v11) (
      m_b (F12_deed x0 hp) fun h14 =>
      m_b (F12_its x0 x1 6 h14) fun v16 =>
      m_if (v2 = v16) (
        m_b (F12_puts x0 x1 (7 + (2 * v2)) x2 h14) fun h19 =>
        m_b (F12_puts x0 x1 ((7 + (2 * v2)) + 1) 0 h19) fun h21 =>
        m_b (F12_puts x0 x1 6 (v2 + 1) h21) fun h23 =>
        F12_load_300 x0 x1 x2 x3 x5 v2 h23
      ) (
        F12_load_300 x0 x1 x2 x3 x5 v2 h14
      )
    ) (
      some (0, hp)
    )
  )
noncomputable def F12_load_162 (x0 : Nat) (x1 : Int32) (x2 : Int32) (x3 : Int32) (x4 : Int32) (x5 : Int32) (hp : m_H) : Option (Int32 × m_H) :=
  m_if (x4 = 0) (
    F12_load_200 x0 x1 x2 x3 x5 hp
  ) (
    m_b (F12_its x0 x1 6 hp) fun v3 =>
    m_if (v3 ≤ 0) (
      F12_load_200 x0 x1 x2 x3 x5 hp
    ) (
      m_b (F12_its x0 x1 7 hp) fun v6 =>
      m_b (F12_of x0 v6 2 hp) fun v8 =>
      m_b (F12_of x0 x2 2 hp) fun v10 =>
      m_if (v8 = v10) (
        F12_load_200 x0 x1 x2 x3 x5 hp
      ) (
        some (0, hp)
      )
    )
  )
noncomputable def F12_load_124 (x0 : Nat) (x1 : Int32) (x2 : Int32) (x3 : Int32) (x4 : Int32) (s0 : Int32) (hp : m_H) : Option (Int32 × m_H) :=
  m_b (F12_of x0 x2 (10 + s0) hp) fun v2 =>
  m_if (v2 < x3) (
    some (0, hp)
  ) (
    m_if (x4 = 0) (
      m_b (F12_of x0 x2 2 hp) fun v6 =>
      m_b (F12_its x0 x1 3 hp) fun v8 =>
      m_if (v6 = v8) (
        F12_load_162 x0 x1 x2 x3 x4 s0 hp
      ) (
        some (0, hp)
      )
    ) (
      F12_load_162 x0 x1 x2 x3 x4 s0 hp
    )
  )
noncomputable def F12_load_109 (x0 : Nat) (x1 : Int32) (x2 : Int32) (x3 : Int32) (x4 : Int32) (s0 : Int32) (s1 : Int32) (hp : m_H) : Option (Int32 × m_H) :=
  m_if (s1 = s0) (
    some (0, hp)
  ) (
    m_if (x4 = 0) (
      F12_load_124 x0 x1 x2 x3 x4 3 hp
    ) (
      F12_load_124 x0 x1 x2 x3 x4 1 hp
    )
  )
noncomputable def F12_load_84 (x0 : Nat) (x1 : Int32) (x2 : Int32) (x3 : Int32) (x4 : Int32) (hp : m_H) : Option (Int32 × m_H) :=
  m_b (F12_isStock x0 x2 hp) fun v2 =>
  m_if (v2 = 0) (
    m_b (F12_of x0 x2 3 hp) fun v5 =>
    m_if (v5 = 1) (
      F12_load_109 x0 x1 x2 x3 x4 1 x4 hp
    ) (
      F12_load_109 x0 x1 x2 x3 x4 0 x4 hp
    )
  ) (
    some (0, hp)
  )
noncomputable def F12_load_67 (x0 : Nat) (x1 : Int32) (x2 : Int32) (x3 : Int32) (s0 : Int32) (hp : m_H) : Option (Int32 × m_H) :=
  m_if (s0 = 0) (
    m_b (F12_its x0 x1 2 hp) fun v3 =>
    m_if (v3 = 2) (
      F12_load_84 x0 x1 x2 x3 s0 hp
    ) (
      some (0, hp)
    )
  ) (
    F12_load_84 x0 x1 x2 x3 s0 hp
  )
noncomputable def F12_load_27 (x0 : Nat) (x1 : Int32) (x2 : Int32) (x3 : Int32) (s0 : Int32) (s1 : Nat) (hp : m_H) : Option (Int32 × m_H) :=
  m_b (F12_throwsIf s1 s0 1 hp) fun z2 =>
  m_if (z2.1 = 0) (
    m_b (F12_isOver x0 z2.2) fun v5 =>
    m_b (F12_throwsIf x0 v5 2 z2.2) fun z7 =>
    m_if (z7.1 = 0) (
      m_if (1 ≤ x3) (
        m_b (F12_its x0 x1 2 z7.2) fun v11 =>
        m_if (v11 = 0) (
          F12_load_67 x0 x1 x2 x3 1 z7.2
        ) (
          F12_load_67 x0 x1 x2 x3 0 z7.2
        )
      ) (
        some (0, z7.2)
      )
    ) (
      some (0, z7.2)
    )
  ) (
    some (0, z2.2)
  )
noncomputable def F12_load_22 (x0 : Nat) (x1 : Int32) (x2 : Int32) (x3 : Int32) (s0 : Nat) (hp : m_H) : Option (Int32 × m_H) :=
  F12_load_27 x0 x1 x2 x3 1 s0 hp
noncomputable def F12_load_0 (x0 : Nat) (x1 : Int32) (x2 : Int32) (x3 : Int32) (hp : m_H) : Option (Int32 × m_H) :=
  m_b (m_pf m_ft hp x0 9 0 (.int 0)) fun h1 =>
  m_b (F12_noShip x0 x1 h1) fun v4 =>
  m_if (v4 = 0) (
    m_b (F12_noLot x0 x2 h1) fun v7 =>
    m_if (v7 = 0) (
      F12_load_27 x0 x1 x2 x3 0 x0 h1
    ) (
      F12_load_22 x0 x1 x2 x3 x0 h1
    )
  ) (
    F12_load_22 x0 x1 x2 x3 x0 h1
  )
noncomputable def F12_load (x0 : Nat) (x1 : Int32) (x2 : Int32) (x3 : Int32) (hp : m_H) : Option (Int32 × m_H) :=
  m_gd (m_isO hp 9 x0) (F12_load_0 x0 x1 x2 x3 hp)
noncomputable def F12_sail_147 (x0 : Nat) (x1 : Int32) (s0 : Int32) (s1 : Int32) (s2 : Int32) (s3 : Nat) (hp : m_H) : Option (Int32 × m_H) :=
  m_b (F12_puts s3 s2 s1 s0 hp) fun h2 =>
  m_b (m_gr h2 x0 9 1) fun v3 =>
  m_b (F12_its x0 x1 3 h2) fun v6 =>
  m_b (F12_landAt v6 2 h2) fun v8 =>
  m_b (m_ai h2 0 v3 v8) fun v9 =>
  m_b (F12_puts x0 x1 4 v9 h2) fun h12 =>
  some (1, h12)
noncomputable def F12_sail_135 (x0 : Nat) (x1 : Int32) (x2 : Int32) (hp : m_H) : Option (Int32 × m_H) :=
  m_if (x2 ≤ 0) (
    F12_sail_147 x0 x1 3 2 x1 x0 hp
  ) (
    F12_sail_147 x0 x1 1 2 x1 x0 hp
  )
noncomputable def F12_sail_113 (x0 : Nat) (x1 : Int32) (x2 : Int32) (s0 : Int32) (hp : m_H) : Option (Int32 × m_H) :=
  m_if (s0 = 0) (
    some (0, hp)
  ) (
    m_b (F12_deed x0 hp) fun h3 =>
    m_if (x2 ≤ 0) (
      F12_sail_135 x0 x1 x2 h3
    ) (
      m_b (F12_puts x0 x1 3 x2 h3) fun h6 =>
      F12_sail_135 x0 x1 x2 h6
    )
  )
noncomputable def F12_sail_112 (x0 : Nat) (x1 : Int32) (x2 : Int32) (hp : m_H) : Option (Int32 × m_H) :=
  F12_sail_113 x0 x1 x2 0 hp
noncomputable def F12_sail_90 (x0 : Nat) (x1 : Int32) (x2 : Int32) (hp : m_H) : Option (Int32 × m_H) :=
  F12_sail_113 x0 x1 x2 0 hp
noncomputable def F12_sail_86 (x0 : Nat) (x1 : Int32) (x2 : Int32) (hp : m_H) : Option (Int32 × m_H) :=
  F12_sail_113 x0 x1 x2 1 hp
noncomputable def F12_sail_26 (x0 : Nat) (x1 : Int32) (x2 : Int32) (s0 : Int32) (s1 : Nat) (hp : m_H) : Option (Int32 × m_H) :=
  m_b (F12_throwsIf s1 s0 1 hp) fun z2 =>
  m_if (z2.1 = 0) (
    m_b (F12_isOver x0 z2.2) fun v5 =>
    m_b (F12_throwsIf x0 v5 2 z2.2) fun z7 =>
    m_if (z7.1 = 0) (
      m_b (F12_its x0 x1 2 z7.2) fun v10 =>
      m_if (v10 = 0) (
        m_if (x2 ≤ 0) (
          F12_sail_90 x0 x1 x2 z7.2
        ) (
          m_b (F12_its x0 x1 6 z7.2) fun v18 =>
          m_if (v18 = 0) (
            F12_sail_86 x0 x1 x2 z7.2
          ) (
            m_b (F12_its x0 x1 7 z7.2) fun v21 =>
            m_b (F12_of x0 v21 2 z7.2) fun v23 =>
            m_if (v23 = x2) (
              F12_sail_86 x0 x1 x2 z7.2
            ) (
              F12_sail_90 x0 x1 x2 z7.2
            )
          )
        )
      ) (
        m_b (F12_its x0 x1 2 z7.2) fun v13 =>
        m_if (v13 = 2) (
          m_if (x2 = 0) (
            F12_sail_113 x0 x1 x2 1 z7.2
          ) (
            F12_sail_112 x0 x1 x2 z7.2
          )
        ) (
          F12_sail_112 x0 x1 x2 z7.2
        )
      )
    ) (
      some (0, z7.2)
    )
  ) (
    some (0, z2.2)
  )
noncomputable def F12_sail_21 (x0 : Nat) (x1 : Int32) (x2 : Int32) (s0 : Nat) (hp : m_H) : Option (Int32 × m_H) :=
  F12_sail_26 x0 x1 x2 1 s0 hp
noncomputable def F12_sail_0 (x0 : Nat) (x1 : Int32) (x2 : Int32) (hp : m_H) : Option (Int32 × m_H) :=
  m_b (m_pf m_ft hp x0 9 0 (.int 0)) fun h1 =>
  m_b (F12_noShip x0 x1 h1) fun v4 =>
  m_if (v4 = 0) (
    m_b (F12_noLand x2 h1) fun v7 =>
    m_if (v7 = 0) (
      F12_sail_26 x0 x1 x2 0 x0 h1
    ) (
      F12_sail_21 x0 x1 x2 x0 h1
    )
  ) (
    F12_sail_21 x0 x1 x2 x0 h1
  )
noncomputable def F12_sail (x0 : Nat) (x1 : Int32) (x2 : Int32) (hp : m_H) : Option (Int32 × m_H) :=
  m_gd (m_isO hp 9 x0) (F12_sail_0 x0 x1 x2 hp)
noncomputable def F12_led_0 (x0 : Nat) (x1 : Int32) (x2 : Int32) (hp : m_H) : Option (Int32 × m_H) :=
  m_b (m_pf m_ft hp x0 9 0 (.int 0)) fun h1 =>
  m_b (F12_noShip x0 x1 h1) fun v4 =>
  m_b (F12_throwsIf x0 v4 1 h1) fun z6 =>
  m_if (z6.1 = 0) (
    m_swt (m_swi 0 5 x2) (
      m_b (m_pf m_ft z6.2 x0 9 0 (.int 2)) fun h10 =>
      some (0, h10)
    ) fun w8 =>
    m_if (w8 = 0) (
      m_b (F12_its x0 x1 2 z6.2) fun v14 =>
      some (v14, z6.2)
    ) (
     m_if (w8 = 1) (
       m_b (F12_its x0 x1 3 z6.2) fun v17 =>
       some (v17, z6.2)
     ) (
      m_if (w8 = 2) (
        m_b (F12_its x0 x1 4 z6.2) fun v20 =>
        some (v20, z6.2)
      ) (
       m_if (w8 = 3) (
         m_b (F12_tonsIn x0 x1 z6.2) fun v23 =>
         some (v23, z6.2)
       ) (
        m_if (w8 = 4) (
          m_b (F12_its x0 x1 5 z6.2) fun v26 =>
          some (v26, z6.2)
        ) (
         m_if (w8 = 5) (
           m_b (F12_its x0 x1 6 z6.2) fun v29 =>
           some (v29, z6.2)
         ) (
          none
         )
        )
       )
      )
     )
    )
  ) (
    some (0, z6.2)
  )
noncomputable def F12_led (x0 : Nat) (x1 : Int32) (x2 : Int32) (hp : m_H) : Option (Int32 × m_H) :=
  m_gd (m_isO hp 9 x0) (F12_led_0 x0 x1 x2 hp)
noncomputable def F12_isOrder_0 (x0 : Nat) (x1 : Int32) (hp : m_H) : Option Int32 :=
  m_b (F12_isStock x0 x1 hp) fun v2 =>
  m_if (v2 = 0) (
    some 0
  ) (
    m_b (F12_of x0 x1 10 hp) fun v5 =>
    m_if (v5 ≤ 0) (
      some 0
    ) (
      some 1
    )
  )
noncomputable def F12_isOrder (x0 : Nat) (x1 : Int32) (hp : m_H) : Option Int32 :=
  m_gd (m_isO hp 9 x0) (F12_isOrder_0 x0 x1 hp)
noncomputable def F12_makes_100b (x0 : Nat) (s : Int32 × Int32 × m_H) : Option ((Int32 × Int32 × m_H) ⊕ m_H) :=
  m_b (m_gr s.2.2 x0 9 1) fun v1 =>
  m_b (m_ai s.2.2 0 v1 807) fun v3 =>
  m_if (v3 ≤ s.2.1) (
    some (.inr s.2.2)
  ) (
    m_b (F12_of x0 s.2.1 1 s.2.2) fun v7 =>
    m_b (F12_of x0 s.2.1 0 s.2.2) fun v9 =>
    m_b (F12_sortOf x0 v9 2 s.2.2) fun v11 =>
    m_b (F12_isOrder x0 s.2.1 s.2.2) fun v13 =>
    m_if (v13 = 0) (
      some (.inl (s.1, (s.2.1 + 1), s.2.2))
    ) (
      m_b (F12_of x0 s.2.1 5 s.2.2) fun v16 =>
      m_if (v16 = 0) (
        some (.inl (s.1, (s.2.1 + 1), s.2.2))
      ) (
        m_if ((v7 * v11) ≤ s.1) (
          m_b (m_gr s.2.2 x0 9 1) fun v19 =>
          m_b (F12_lotAt s.2.1 4 s.2.2) fun v22 =>
          m_b (m_ai s.2.2 0 v19 v22) fun v23 =>
          m_b (m_si s.2.2 0 v19 v22 (v23 + 1)) fun h25 =>
          m_b (F12_of x0 s.2.1 4 h25) fun v28 =>
          m_b (F12_of x0 s.2.1 0 h25) fun v30 =>
          m_b (F12_sortOf x0 v30 3 h25) fun v32 =>
          m_if (v28 < v32) (
            some (.inl ((s.1 - (v7 * v11)), (s.2.1 + 1), h25))
          ) (
            m_b (F12_of x0 s.2.1 1 h25) fun v35 =>
            m_b (F12_moves x0 s.2.1 0 1 v35 h25) fun h37 =>
            some (.inl ((s.1 - (v7 * v11)), (s.2.1 + 1), h37))
          )
        ) (
          some (.inl (s.1, (s.2.1 + 1), s.2.2))
        )
      )
    )
  )
noncomputable def F12_makes_100 (x0 : Nat) (x1 : Int32) (x2 : Int32) (hp : m_H) : Option m_H :=
  m_wh (fun s => F12_makes_100b x0 s) m_N (x1, x2, hp)
noncomputable def F12_makes_2b (x0 : Nat) (s : Int32 × m_H) : Option ((Int32 × m_H) ⊕ m_H) :=
  m_b (m_gr s.2 x0 9 1) fun v1 =>
  m_b (m_ai s.2 0 v1 807) fun v3 =>
  m_if (v3 ≤ s.1) (
    m_b (m_gr s.2 x0 9 1) fun v6 =>
    m_b (m_ai s.2 0 v6 2) fun v8 =>
    (F12_makes_100 x0 v8 0 s.2).map .inr
  ) (
    m_b (F12_of x0 s.1 1 s.2) fun v11 =>
    m_b (F12_of x0 s.1 0 s.2) fun v13 =>
    m_b (F12_sortOf x0 v13 1 s.2) fun v15 =>
    m_b (F12_isOrder x0 s.1 s.2) fun v17 =>
    m_if (v17 = 0) (
      some (.inl ((s.1 + 1), s.2))
    ) (
      m_b (F12_of x0 s.1 5 s.2) fun v20 =>
      m_if (v20 = 1) (
        some (.inl ((s.1 + 1), s.2))
      ) (
        m_b (m_gr s.2 x0 9 1) fun v22 =>
        m_b (m_ai s.2 0 v22 1) fun v24 =>
        m_if ((v11 * v15) ≤ v24) (
          m_b (m_gr s.2 x0 9 1) fun v27 =>
          m_b (m_ai s.2 0 v27 1) fun v29 =>
          m_b (m_si s.2 0 v27 1 (v29 - (v11 * v15))) fun h31 =>
          m_b (m_gr h31 x0 9 1) fun v33 =>
          m_b (F12_lotAt s.1 5 h31) fun v36 =>
          m_b (m_si h31 0 v33 v36 1) fun h37 =>
          some (.inl ((s.1 + 1), h37))
        ) (
          some (.inl ((s.1 + 1), s.2))
        )
      )
    )
  )
noncomputable def F12_makes_2 (x0 : Nat) (x1 : Int32) (hp : m_H) : Option m_H :=
  m_wh (fun s => F12_makes_2b x0 s) m_N (x1, hp)
noncomputable def F12_makes_0 (x0 : Nat) (hp : m_H) : Option m_H :=
  F12_makes_2 x0 0 hp
noncomputable def F12_makes (x0 : Nat) (hp : m_H) : Option m_H :=
  m_gd (m_isO hp 9 x0) (F12_makes_0 x0 hp)
noncomputable def F12_clears_2b (x0 : Nat) (x1 : Int32) (x2 : Int32) (s : Int32 × m_H) : Option ((Int32 × m_H) ⊕ m_H) :=
  m_b (F12_its x0 x1 6 s.2) fun v2 =>
  m_if (v2 ≤ s.1) (
    m_b (F12_puts x0 x1 6 0 s.2) fun h5 =>
    some (.inr h5)
  ) (
    m_b (F12_its x0 x1 (7 + (2 * s.1)) s.2) fun v7 =>
    m_b (F12_its x0 x1 ((7 + (2 * s.1)) + 1) s.2) fun v9 =>
    m_b (F12_moves x0 v7 2 x2 v9 s.2) fun h11 =>
    m_if (x2 = 3) (
      m_b (m_gr h11 x0 9 1) fun v13 =>
      m_b (F12_of x0 v7 2 h11) fun v16 =>
      m_b (F12_of x0 v7 0 h11) fun v18 =>
      m_b (F12_both 109 v16 v18 h11) fun v20 =>
      m_b (m_ai h11 0 v13 v20) fun v21 =>
      m_b (m_si h11 0 v13 v20 (v21 + v9)) fun h23 =>
      m_b (F12_of x0 v7 2 h23) fun v26 =>
      m_b (F12_landAt v26 1 h23) fun v28 =>
      m_b (m_gr h23 x0 9 1) fun v29 =>
      m_b (m_gr h23 x0 9 1) fun v31 =>
      m_b (m_ai h23 0 v31 v28) fun v33 =>
      m_b (F12_of x0 v7 7 h23) fun v36 =>
      m_b (m_si h23 0 v29 v28 (m_max (-100) (v33 - v36))) fun h37 =>
      some (.inl ((s.1 + 1), h37))
    ) (
      some (.inl ((s.1 + 1), h11))
    )
  )
noncomputable def F12_clears_2 (x0 : Nat) (x1 : Int32) (x2 : Int32) (x3 : Int32) (hp : m_H) : Option m_H :=
  m_wh (fun s => F12_clears_2b x0 x1 x2 s) m_N (x3, hp)
noncomputable def F12_clears_0 (x0 : Nat) (x1 : Int32) (x2 : Int32) (hp : m_H) : Option m_H :=
  F12_clears_2 x0 x1 x2 0 hp
noncomputable def F12_clears (x0 : Nat) (x1 : Int32) (x2 : Int32) (hp : m_H) : Option m_H :=
  m_gd (m_isO hp 9 x0) (F12_clears_0 x0 x1 x2 hp)
noncomputable def F12_goes_136 (x0 : Nat) (x1 : Int32) (x2 : Int32) (s0 : Int32) (s1 : Int32) (s2 : Int32) (s3 : Nat) (hp : m_H) : Option m_H :=
  m_b (F12_puts s3 s2 s1 s0 hp) fun h2 =>
  m_if (x2 = 0) (
    m_b (F12_puts x0 x1 3 0 h2) fun h5 =>
    some h5
  ) (
    some h2
  )
noncomputable def F12_goes_121 (x0 : Nat) (x1 : Int32) (x2 : Int32) (s0 : Int32) (s1 : Int32) (s2 : Nat) (hp : m_H) : Option m_H :=
  m_b (F12_clears s2 s1 s0 hp) fun h2 =>
  m_if (x2 = 0) (
    F12_goes_136 x0 x1 x2 0 2 x1 x0 h2
  ) (
    F12_goes_136 x0 x1 x2 2 2 x1 x0 h2
  )
noncomputable def F12_goes_15 (x0 : Nat) (x1 : Int32) (s0 : Int32) (hp : m_H) : Option m_H :=
  m_b (F12_its x0 x1 1 hp) fun v2 =>
  m_b (F12_week x0 hp) fun v4 =>
  m_b (m_rm (v2 + (37 * v4)) 100) fun v5 =>
  m_b (F12_its x0 x1 3 hp) fun v8 =>
  m_b (F12_week x0 hp) fun v10 =>
  m_b (F12_toldOf x0 506 v8 v10 hp) fun v12 =>
  m_if (v12 ≤ v5) (
    m_b (F12_its x0 x1 4 hp) fun v15 =>
    m_b (F12_puts x0 x1 4 (v15 - 1) hp) fun h17 =>
    m_b (F12_its x0 x1 4 h17) fun v19 =>
    m_if (v19 ≤ 0) (
      m_if (s0 = 0) (
        F12_goes_121 x0 x1 s0 7 x1 x0 h17
      ) (
        F12_goes_121 x0 x1 s0 3 x1 x0 h17
      )
    ) (
      some h17
    )
  ) (
    m_b (F12_clears x0 x1 6 hp) fun h23 =>
    m_b (F12_puts x0 x1 2 4 h23) fun h25 =>
    m_b (F12_puts x0 x1 4 0 h25) fun h27 =>
    m_b (F12_week x0 h27) fun v29 =>
    m_b (F12_puts x0 x1 5 v29 h27) fun h31 =>
    some h31
  )
noncomputable def F12_goes_0 (x0 : Nat) (x1 : Int32) (hp : m_H) : Option m_H :=
  m_b (F12_its x0 x1 2 hp) fun v2 =>
  m_if (v2 = 1) (
    F12_goes_15 x0 x1 1 hp
  ) (
    F12_goes_15 x0 x1 0 hp
  )
noncomputable def F12_goes (x0 : Nat) (x1 : Int32) (hp : m_H) : Option m_H :=
  m_gd (m_isO hp 9 x0) (F12_goes_0 x0 x1 hp)
noncomputable def F12_landedOf_5b (x0 : Nat) (x1 : Int32) (x2 : Int32) (hp : m_H) (s : Int32 × Int32) : Option ((Int32 × Int32) ⊕ Int32) :=
  m_b (m_gr hp x0 9 1) fun v1 =>
  m_b (m_ai hp 0 v1 807) fun v3 =>
  m_if (v3 ≤ s.2) (
    some (.inr s.1)
  ) (
    m_b (F12_isFor x0 s.2 x1 hp) fun v7 =>
    m_if (v7 = 0) (
      some (.inl ((s.1 + 0), (s.2 + 1)))
    ) (
      m_b (F12_of x0 s.2 0 hp) fun v10 =>
      m_if (v10 = x2) (
        m_b (F12_of x0 s.2 13 hp) fun v13 =>
        some (.inl ((s.1 + v13), (s.2 + 1)))
      ) (
        some (.inl ((s.1 + 0), (s.2 + 1)))
      )
    )
  )
noncomputable def F12_landedOf_5 (x0 : Nat) (x1 : Int32) (x2 : Int32) (x3 : Int32) (x4 : Int32) (hp : m_H) : Option Int32 :=
  m_wh (fun s => F12_landedOf_5b x0 x1 x2 hp s) m_N (x3, x4)
noncomputable def F12_landedOf_0 (x0 : Nat) (x1 : Int32) (x2 : Int32) (hp : m_H) : Option Int32 :=
  F12_landedOf_5 x0 x1 x2 0 0 hp
noncomputable def F12_landedOf (x0 : Nat) (x1 : Int32) (x2 : Int32) (hp : m_H) : Option Int32 :=
  m_gd (m_isO hp 9 x0) (F12_landedOf_0 x0 x1 x2 hp)
noncomputable def F12_eats_64b (x0 : Nat) (x1 : Int32) (x2 : Int32) (s : Int32 × Int32 × m_H) : Option ((Int32 × Int32 × m_H) ⊕ m_H) :=
  m_b (m_gr s.2.2 x0 9 1) fun v1 =>
  m_b (m_ai s.2.2 0 v1 807) fun v3 =>
  m_if (v3 ≤ s.2.1) (
    some (.inr s.2.2)
  ) (
    m_if (s.1 ≤ 0) (
      some (.inr s.2.2)
    ) (
      m_b (F12_isFor x0 s.2.1 x1 s.2.2) fun v8 =>
      m_if (v8 = 0) (
        some (.inl (s.1, (s.2.1 + 1), s.2.2))
      ) (
        m_b (F12_of x0 s.2.1 0 s.2.2) fun v11 =>
        m_if (v11 = x2) (
          m_b (F12_of x0 s.2.1 13 s.2.2) fun v14 =>
          m_b (F12_moves x0 s.2.1 3 4 (m_min s.1 v14) s.2.2) fun h16 =>
          some (.inl ((s.1 - (m_min s.1 v14)), (s.2.1 + 1), h16))
        ) (
          some (.inl (s.1, (s.2.1 + 1), s.2.2))
        )
      )
    )
  )
noncomputable def F12_eats_64 (x0 : Nat) (x1 : Int32) (x2 : Int32) (x4 : Int32) (x5 : Int32) (hp : m_H) : Option m_H :=
  m_wh (fun s => F12_eats_64b x0 x1 x2 s) m_N (x4, x5, hp)
noncomputable def F12_eats_33 (x0 : Nat) (x1 : Int32) (x2 : Int32) (x3 : Int32) (s0 : Int32) (hp : m_H) : Option m_H :=
  m_b (F12_landedOf x0 x1 x2 hp) fun v2 =>
  m_b (m_gr hp x0 9 1) fun v3 =>
  m_b (F12_landAt x1 0 hp) fun v6 =>
  m_b (m_ai hp 0 v3 v6) fun v7 =>
  m_b (m_si hp 0 v3 v6 (v7 + (x3 - (m_min s0 v2)))) fun h9 =>
  F12_eats_64 x0 x1 x2 (m_min s0 v2) 0 h9
noncomputable def F12_eats_0 (x0 : Nat) (x1 : Int32) (x2 : Int32) (hp : m_H) : Option m_H :=
  m_b (m_gr hp x0 9 1) fun v1 =>
  m_b (F12_both 61 x1 x2 hp) fun v4 =>
  m_b (m_ai hp 0 v1 v4) fun v5 =>
  m_b (m_gr hp x0 9 1) fun v7 =>
  m_b (F12_landAt x1 1 hp) fun v10 =>
  m_b (m_ai hp 0 v7 v10) fun v11 =>
  m_if (0 ≤ v11) (
    F12_eats_33 x0 x1 x2 v5 v5 hp
  ) (
    m_b (m_dv v5 2) fun v14 =>
    F12_eats_33 x0 x1 x2 v5 v14 hp
  )
noncomputable def F12_eats (x0 : Nat) (x1 : Int32) (x2 : Int32) (hp : m_H) : Option m_H :=
  m_gd (m_isO hp 9 x0) (F12_eats_0 x0 x1 x2 hp)
noncomputable def F12_goesOn_218b (x0 : Nat) (s : Int32 × m_H) : Option ((Int32 × m_H) ⊕ m_H) :=
  m_b (m_gr s.2 x0 9 1) fun v1 =>
  m_b (m_ai s.2 0 v1 4168) fun v3 =>
  m_if (v3 ≤ s.1) (
    some (.inr s.2)
  ) (
    m_b (F12_baseAt s.1 s.2) fun v7 =>
    m_b (F12_week x0 s.2) fun v9 =>
    m_b (m_gr s.2 x0 9 1) fun v10 =>
    m_b (m_ai s.2 0 v10 (v7 + 1)) fun v12 =>
    m_b (m_gr s.2 x0 9 1) fun v14 =>
    m_b (m_ai s.2 0 v14 (v7 + 1)) fun v16 =>
    m_b (m_gr s.2 x0 9 1) fun v18 =>
    m_b (m_ai s.2 0 v18 (v7 + 2)) fun v20 =>
    m_b (F12_in v9 (v12 + 1) (v16 + v20) s.2) fun v23 =>
    m_if (v23 = 0) (
      some (.inl ((s.1 + 1), s.2))
    ) (
      m_b (m_gr s.2 x0 9 1) fun v25 =>
      m_b (m_ai s.2 0 v25 (v7 + 5)) fun v27 =>
      m_b (m_gr s.2 x0 9 1) fun v29 =>
      m_b (m_ai s.2 0 v29 (v7 + 4)) fun v31 =>
      m_b (m_si s.2 0 v25 (v7 + 5) (v27 + v31)) fun h33 =>
      m_b (m_gr h33 x0 9 1) fun v35 =>
      m_b (m_ai h33 0 v35 4) fun v37 =>
      m_b (m_gr h33 x0 9 1) fun v39 =>
      m_b (m_ai h33 0 v39 (v7 + 4)) fun v41 =>
      m_b (m_si h33 0 v35 4 (v37 + v41)) fun h43 =>
      some (.inl ((s.1 + 1), h43))
    )
  )
noncomputable def F12_goesOn_218 (x0 : Nat) (x2 : Int32) (hp : m_H) : Option m_H :=
  m_wh (fun s => F12_goesOn_218b x0 s) m_N (x2, hp)
noncomputable def F12_goesOn_162b (x0 : Nat) (s : Int32 × m_H) : Option ((Int32 × m_H) ⊕ m_H) :=
  m_if (6 ≤ s.1) (
    (F12_goesOn_218 x0 0 s.2).map .inr
  ) (
    m_b (m_gr s.2 x0 9 1) fun v2 =>
    m_b (F12_landAt s.1 1 s.2) fun v5 =>
    m_b (m_ai s.2 0 v2 v5) fun v6 =>
    m_b (m_gr s.2 x0 9 1) fun v8 =>
    m_b (F12_landAt s.1 1 s.2) fun v11 =>
    m_if (0 ≤ v6) (
      m_if (v6 ≤ 0) (
        m_b (m_si s.2 0 v8 v11 0) fun h14 =>
        some (.inl ((s.1 + 1), h14))
      ) (
        m_b (m_si s.2 0 v8 v11 (v6 - 1)) fun h16 =>
        some (.inl ((s.1 + 1), h16))
      )
    ) (
      m_b (m_si s.2 0 v8 v11 (v6 + 1)) fun h18 =>
      some (.inl ((s.1 + 1), h18))
    )
  )
noncomputable def F12_goesOn_162 (x0 : Nat) (x2 : Int32) (hp : m_H) : Option m_H :=
  m_wh (fun s => F12_goesOn_162b x0 s) m_N (x2, hp)
noncomputable def F12_goesOn_136b (x0 : Nat) (x2 : Int32) (s : Int32 × m_H) : Option ((Int32 × m_H) ⊕ ((Int32 × m_H) ⊕ m_H)) :=
  m_if (8 ≤ s.1) (
    some (.inr (.inl ((x2 + 1), s.2)))
  ) (
    m_b (F12_eats x0 x2 s.1 s.2) fun h3 =>
    some (.inl ((s.1 + 1), h3))
  )
noncomputable def F12_goesOn_136 (x0 : Nat) (x2 : Int32) (x3 : Int32) (hp : m_H) : Option ((Int32 × m_H) ⊕ m_H) :=
  m_wh (fun s => F12_goesOn_136b x0 x2 s) m_N (x3, hp)
noncomputable def F12_goesOn_128b (x0 : Nat) (s : Int32 × m_H) : Option ((Int32 × m_H) ⊕ m_H) :=
  m_if (6 ≤ s.1) (
    (F12_goesOn_162 x0 1 s.2).map .inr
  ) (
    F12_goesOn_136 x0 s.1 0 s.2
  )
noncomputable def F12_goesOn_128 (x0 : Nat) (x2 : Int32) (hp : m_H) : Option m_H :=
  m_wh (fun s => F12_goesOn_128b x0 s) m_N (x2, hp)
noncomputable def F12_goesOn_83b (x0 : Nat) (s : Int32 × m_H) : Option ((Int32 × m_H) ⊕ m_H) :=
  m_b (m_gr s.2 x0 9 1) fun v1 =>
  m_b (m_ai s.2 0 v1 3209) fun v3 =>
  m_if (v3 ≤ s.1) (
    (F12_goesOn_128 x0 1 s.2).map .inr
  ) (
    m_b (F12_its x0 s.1 2 s.2) fun v7 =>
    m_if (v7 = 1) (
      m_b (F12_goes x0 s.1 s.2) fun h10 =>
      some (.inl ((s.1 + 1), h10))
    ) (
      m_b (F12_its x0 s.1 2 s.2) fun v12 =>
      m_if (v12 = 3) (
        m_b (F12_goes x0 s.1 s.2) fun h15 =>
        some (.inl ((s.1 + 1), h15))
      ) (
        some (.inl ((s.1 + 1), s.2))
      )
    )
  )
noncomputable def F12_goesOn_83 (x0 : Nat) (x2 : Int32) (hp : m_H) : Option m_H :=
  m_wh (fun s => F12_goesOn_83b x0 s) m_N (x2, hp)
noncomputable def F12_goesOn_15b (x0 : Nat) (x1 : Int32) (x2 : Int32) (s : Int32 × m_H) : Option ((Int32 × m_H) ⊕ ((Int32 × m_H) ⊕ m_H)) :=
  m_if (8 ≤ s.1) (
    some (.inr (.inl ((x2 + 1), s.2)))
  ) (
    m_b (m_gr s.2 x0 9 1) fun v2 =>
    m_b (F12_week x0 s.2) fun v5 =>
    m_b (F12_landedOf x0 x2 s.1 s.2) fun v7 =>
    m_b (m_si s.2 0 v2 (((4326 + (48 * v5)) + (8 * x2)) + s.1) v7) fun h8 =>
    some (.inl ((s.1 + 1), h8))
  )
noncomputable def F12_goesOn_15 (x0 : Nat) (x1 : Int32) (x2 : Int32) (x3 : Int32) (hp : m_H) : Option ((Int32 × m_H) ⊕ m_H) :=
  m_wh (fun s => F12_goesOn_15b x0 x1 x2 s) m_N (x3, hp)
noncomputable def F12_goesOn_7b (x0 : Nat) (x1 : Int32) (s : Int32 × m_H) : Option ((Int32 × m_H) ⊕ m_H) :=
  m_if (6 ≤ s.1) (
    m_b (m_gr s.2 x0 9 1) fun v2 =>
    m_b (m_ai s.2 0 v2 0) fun v4 =>
    m_b (m_si s.2 0 v2 0 (v4 + 1)) fun h6 =>
    m_if (x1 = 0) (
      m_b (F12_makes x0 h6) fun h10 =>
      (F12_goesOn_83 x0 0 h10).map .inr
    ) (
      some (.inr h6)
    )
  ) (
    F12_goesOn_15 x0 x1 s.1 0 s.2
  )
noncomputable def F12_goesOn_7 (x0 : Nat) (x1 : Int32) (x2 : Int32) (hp : m_H) : Option m_H :=
  m_wh (fun s => F12_goesOn_7b x0 x1 s) m_N (x2, hp)
noncomputable def F12_goesOn_0 (x0 : Nat) (hp : m_H) : Option m_H :=
  m_b (F12_isOver x0 hp) fun v2 =>
  F12_goesOn_7 x0 v2 1 hp
noncomputable def F12_goesOn (x0 : Nat) (hp : m_H) : Option m_H :=
  m_gd (m_isO hp 9 x0) (F12_goesOn_0 x0 hp)
noncomputable def F12_weeks_50b (x0 : Nat) (x1 : Int32) (s : Int32 × m_H) : Option ((Int32 × m_H) ⊕ (Int32 × m_H)) :=
  m_if (x1 ≤ s.1) (
    m_b (F12_week x0 s.2) fun v3 =>
    some (.inr (v3, s.2))
  ) (
    m_b (F12_week x0 s.2) fun v5 =>
    m_if (500 ≤ v5) (
      m_b (F12_week x0 s.2) fun v8 =>
      some (.inr (v8, s.2))
    ) (
      m_b (F12_goesOn x0 s.2) fun h10 =>
      some (.inl ((s.1 + 1), h10))
    )
  )
noncomputable def F12_weeks_50 (x0 : Nat) (x1 : Int32) (x2 : Int32) (hp : m_H) : Option (Int32 × m_H) :=
  m_wh (fun s => F12_weeks_50b x0 x1 s) m_N (x2, hp)
noncomputable def F12_weeks_48 (x0 : Nat) (x1 : Int32) (hp : m_H) : Option (Int32 × m_H) :=
  F12_weeks_50 x0 x1 0 hp
noncomputable def F12_weeks_21 (x0 : Nat) (x1 : Int32) (s0 : Int32) (s1 : Nat) (hp : m_H) : Option (Int32 × m_H) :=
  m_b (F12_throwsIf s1 s0 1 hp) fun z2 =>
  m_if (z2.1 = 0) (
    m_if (x1 ≤ 0) (
      F12_weeks_48 x0 x1 z2.2
    ) (
      m_b (F12_week x0 z2.2) fun v6 =>
      m_if (500 ≤ v6) (
        F12_weeks_48 x0 x1 z2.2
      ) (
        m_b (F12_deed x0 z2.2) fun h9 =>
        F12_weeks_48 x0 x1 h9
      )
    )
  ) (
    some (0, z2.2)
  )
noncomputable def F12_weeks_0 (x0 : Nat) (x1 : Int32) (hp : m_H) : Option (Int32 × m_H) :=
  m_b (m_pf m_ft hp x0 9 0 (.int 0)) fun h1 =>
  m_b (F12_in x1 0 60 h1) fun v4 =>
  m_if (v4 = 0) (
    F12_weeks_21 x0 x1 1 x0 h1
  ) (
    F12_weeks_21 x0 x1 0 x0 h1
  )
noncomputable def F12_weeks (x0 : Nat) (x1 : Int32) (hp : m_H) : Option (Int32 × m_H) :=
  m_gd (m_isO hp 9 x0) (F12_weeks_0 x0 x1 hp)
noncomputable def F12_give_216 (x0 : Nat) (x1 : Int32) (x2 : Int32) (x3 : Int32) (x6 : Int32) (s0 : Int32) (s1 : Int32) (s2 : Nat) (hp : m_H) : Option (Int32 × m_H) :=
  m_b (m_si hp 0 s2 s1 s0) fun h1 =>
  m_b (m_gr h1 x0 9 1) fun v3 =>
  m_b (F12_of x0 x1 0 h1) fun v6 =>
  m_b (F12_both 157 x3 v6 h1) fun v8 =>
  m_b (m_ai h1 0 v3 v8) fun v9 =>
  m_b (m_si h1 0 v3 v8 (v9 + x2)) fun h11 =>
  some (x6, h11)
noncomputable def F12_give_155 (x0 : Nat) (x1 : Int32) (x2 : Int32) (x3 : Int32) (x5 : Int32) (hp : m_H) : Option (Int32 × m_H) :=
  m_b (F12_deed x0 hp) fun h2 =>
  m_b (F12_moves x0 x1 3 5 x2 h2) fun h4 =>
  m_b (F12_of x0 x1 0 h4) fun v6 =>
  m_b (F12_begins x0 v6 x2 x3 3 h4) fun z8 =>
  m_b (m_gr z8.2 x0 9 1) fun v9 =>
  m_b (F12_lotAt z8.1 8 z8.2) fun v12 =>
  m_b (m_si z8.2 0 v9 v12 x1) fun h13 =>
  m_b (m_gr h13 x0 9 1) fun v15 =>
  m_b (F12_lotAt z8.1 9 h13) fun v18 =>
  m_if (x5 = 0) (
    F12_give_216 x0 x1 x2 x3 z8.1 1 v18 v15 h13
  ) (
    F12_give_216 x0 x1 x2 x3 z8.1 0 v18 v15 h13
  )
noncomputable def F12_give_141 (x0 : Nat) (x1 : Int32) (x2 : Int32) (x3 : Int32) (x4 : Int32) (s0 : Int32) (hp : m_H) : Option (Int32 × m_H) :=
  m_if (s0 = 0) (
    m_if (x4 = 0) (
      some ((-1), hp)
    ) (
      F12_give_155 x0 x1 x2 x3 s0 hp
    )
  ) (
    F12_give_155 x0 x1 x2 x3 s0 hp
  )
noncomputable def F12_give_26 (x0 : Nat) (x1 : Int32) (x2 : Int32) (x3 : Int32) (x4 : Int32) (s0 : Int32) (s1 : Nat) (hp : m_H) : Option (Int32 × m_H) :=
  m_b (F12_throwsIf s1 s0 1 hp) fun z2 =>
  m_if (z2.1 = 0) (
    m_b (F12_isOver x0 z2.2) fun v5 =>
    m_b (F12_throwsIf x0 v5 2 z2.2) fun z7 =>
    m_if (z7.1 = 0) (
      m_if (x2 < 1) (
        some ((-1), z7.2)
      ) (
        m_b (F12_isStock x0 x1 z7.2) fun v11 =>
        m_if (v11 = 0) (
          m_b (F12_of x0 x1 3 z7.2) fun v14 =>
          m_if (v14 = 1) (
            some ((-1), z7.2)
          ) (
            m_b (F12_of x0 x1 13 z7.2) fun v17 =>
            m_if (v17 < x2) (
              some ((-1), z7.2)
            ) (
              m_if (x3 = 0) (
                some ((-1), z7.2)
              ) (
                m_b (F12_of x0 x1 2 z7.2) fun v21 =>
                m_if (x3 = v21) (
                  some ((-1), z7.2)
                ) (
                  m_b (m_gr z7.2 x0 9 1) fun v23 =>
                  m_b (m_ai z7.2 0 v23 807) fun v25 =>
                  m_if (v25 = 100) (
                    some ((-1), z7.2)
                  ) (
                    m_b (F12_of x0 x1 2 z7.2) fun v29 =>
                    m_b (F12_of x0 x1 0 z7.2) fun v31 =>
                    m_b (F12_looks x0 v29 v31 x2 x3 z7.2) fun h33 =>
                    m_b (F12_firstOf x0 3 h33) fun z35 =>
                    m_if (z35.1 < 0) (
                      F12_give_141 x0 x1 x2 x3 x4 0 z35.2
                    ) (
                      F12_give_141 x0 x1 x2 x3 x4 1 z35.2
                    )
                  )
                )
              )
            )
          )
        ) (
          some ((-1), z7.2)
        )
      )
    ) (
      some (0, z7.2)
    )
  ) (
    some (0, z2.2)
  )
noncomputable def F12_give_21 (x0 : Nat) (x1 : Int32) (x2 : Int32) (x3 : Int32) (x4 : Int32) (s0 : Nat) (hp : m_H) : Option (Int32 × m_H) :=
  F12_give_26 x0 x1 x2 x3 x4 1 s0 hp
noncomputable def F12_give_0 (x0 : Nat) (x1 : Int32) (x2 : Int32) (x3 : Int32) (x4 : Int32) (hp : m_H) : Option (Int32 × m_H) :=
  m_b (m_pf m_ft hp x0 9 0 (.int 0)) fun h1 =>
  m_b (F12_noLot x0 x1 h1) fun v4 =>
  m_if (v4 = 0) (
    m_b (F12_noLand x3 h1) fun v7 =>
    m_if (v7 = 0) (
      F12_give_26 x0 x1 x2 x3 x4 0 x0 h1
    ) (
      F12_give_21 x0 x1 x2 x3 x4 x0 h1
    )
  ) (
    F12_give_21 x0 x1 x2 x3 x4 x0 h1
  )
noncomputable def F12_give (x0 : Nat) (x1 : Int32) (x2 : Int32) (x3 : Int32) (x4 : Int32) (hp : m_H) : Option (Int32 × m_H) :=
  m_gd (m_isO hp 9 x0) (F12_give_0 x0 x1 x2 x3 x4 hp)
noncomputable def F12_owedBy_5b (x0 : Nat) (x1 : Int32) (hp : m_H) (s : Int64 × Int32) : Option ((Int64 × Int32) ⊕ Int64) :=
  m_b (m_gr hp x0 9 1) fun v1 =>
  m_b (m_ai hp 0 v1 807) fun v3 =>
  m_if (v3 ≤ s.2) (
    some (.inr s.1)
  ) (
    m_b (F12_isFor x0 s.2 x1 hp) fun v7 =>
    m_if (v7 = 0) (
      some (.inl (s.1, (s.2 + 1)))
    ) (
      m_b (F12_of x0 s.2 1 hp) fun v10 =>
      m_b (F12_of x0 s.2 17 hp) fun v12 =>
      m_b (F12_of x0 s.2 18 hp) fun v14 =>
      m_b (F12_of x0 s.2 19 hp) fun v16 =>
      m_b (F12_of x0 s.2 20 hp) fun v18 =>
      m_b (m_dl (((m_i2l ((v10 - v12) - v14)) * (m_i2l v16)) * (m_i2l v18)) 100) fun v19 =>
      some (.inl ((s.1 + v19), (s.2 + 1)))
    )
  )
noncomputable def F12_owedBy_5 (x0 : Nat) (x1 : Int32) (x2 : Int64) (x4 : Int32) (hp : m_H) : Option Int64 :=
  m_wh (fun s => F12_owedBy_5b x0 x1 hp s) m_N (x2, x4)
noncomputable def F12_owedBy_0 (x0 : Nat) (x1 : Int32) (hp : m_H) : Option Int64 :=
  F12_owedBy_5 x0 x1 0 0 hp
noncomputable def F12_owedBy (x0 : Nat) (x1 : Int32) (hp : m_H) : Option Int64 :=
  m_gd (m_isO hp 9 x0) (F12_owedBy_0 x0 x1 hp)
noncomputable def F12_mustOf_0 (x0 : Nat) (x1 : Int32) (x2 : Int32) (x3 : Int32) (hp : m_H) : Option Int32 :=
  m_b (F12_week x0 hp) fun v2 =>
  m_if (x3 = v2) (
    m_b (F12_landedOf x0 x1 x2 hp) fun v9 =>
    some v9
  ) (
    m_b (m_gr hp x0 9 1) fun v4 =>
    m_b (m_ai hp 0 v4 (((4326 + (48 * x3)) + (8 * x1)) + x2)) fun v6 =>
    some v6
  )
noncomputable def F12_mustOf (x0 : Nat) (x1 : Int32) (x2 : Int32) (x3 : Int32) (hp : m_H) : Option Int32 :=
  m_gd (m_isO hp 9 x0) (F12_mustOf_0 x0 x1 x2 x3 hp)
noncomputable def F12_returnAt_0 (x0 : Int32) (hp : m_H) : Option Int32 :=
  some (3487 + (5 * x0))
noncomputable def F12_returnAt (x0 : Int32) (hp : m_H) : Option Int32 :=
  F12_returnAt_0 x0 hp
noncomputable def F12_latestOf_5b (x0 : Nat) (x1 : Int32) (x2 : Int32) (hp : m_H) (s : Int32 × Int32) : Option ((Int32 × Int32) ⊕ Int32) :=
  m_b (m_gr hp x0 9 1) fun v1 =>
  m_b (m_ai hp 0 v1 3486) fun v3 =>
  m_if (v3 ≤ s.2) (
    some (.inr s.1)
  ) (
    m_b (m_gr hp x0 9 1) fun v6 =>
    m_b (F12_returnAt s.2 hp) fun v9 =>
    m_b (m_ai hp 0 v6 v9) fun v10 =>
    m_if (v10 = x1) (
      m_b (m_gr hp x0 9 1) fun v13 =>
      m_b (F12_returnAt s.2 hp) fun v16 =>
      m_b (m_ai hp 0 v13 (v16 + 1)) fun v17 =>
      m_if (v17 = x2) (
        m_if (s.1 < 0) (
          some (.inl (s.2, (s.2 + 1)))
        ) (
          m_b (m_gr hp x0 9 1) fun v21 =>
          m_b (F12_returnAt s.2 hp) fun v24 =>
          m_b (m_ai hp 0 v21 (v24 + 2)) fun v25 =>
          m_b (m_gr hp x0 9 1) fun v27 =>
          m_b (F12_returnAt s.1 hp) fun v30 =>
          m_b (m_ai hp 0 v27 (v30 + 2)) fun v31 =>
          m_if (v25 < v31) (
            some (.inl (s.1, (s.2 + 1)))
          ) (
            some (.inl (s.2, (s.2 + 1)))
          )
        )
      ) (
        some (.inl (s.1, (s.2 + 1)))
      )
    ) (
      some (.inl (s.1, (s.2 + 1)))
    )
  )
noncomputable def F12_latestOf_5 (x0 : Nat) (x1 : Int32) (x2 : Int32) (x3 : Int32) (x4 : Int32) (hp : m_H) : Option Int32 :=
  m_wh (fun s => F12_latestOf_5b x0 x1 x2 hp s) m_N (x3, x4)
noncomputable def F12_latestOf_0 (x0 : Nat) (x1 : Int32) (x2 : Int32) (hp : m_H) : Option Int32 :=
  F12_latestOf_5 x0 x1 x2 (-1) 0 hp
noncomputable def F12_latestOf (x0 : Nat) (x1 : Int32) (x2 : Int32) (hp : m_H) : Option Int32 :=
  m_gd (m_isO hp 9 x0) (F12_latestOf_0 x0 x1 x2 hp)
noncomputable def F12_missing_5b (x0 : Nat) (x1 : Int32) (x2 : Int32) (hp : m_H) (s : Int64 × Int32) : Option ((Int64 × Int32) ⊕ Int64) :=
  m_if (8 ≤ s.2) (
    some (.inr s.1)
  ) (
    m_b (F12_latestOf x0 x1 s.2 hp) fun v3 =>
    m_if (v3 < 0) (
      m_if (x2 = 0) (
        some (.inl ((s.1 + 0), (s.2 + 1)))
      ) (
        m_b (F12_landedOf x0 x1 s.2 hp) fun v7 =>
        some (.inl ((s.1 + (m_i2l v7)), (s.2 + 1)))
      )
    ) (
      m_b (m_gr hp x0 9 1) fun v8 =>
      m_b (F12_returnAt v3 hp) fun v11 =>
      m_b (m_ai hp 0 v8 (v11 + 2)) fun v12 =>
      m_b (F12_mustOf x0 x1 s.2 v12 hp) fun v15 =>
      m_b (m_gr hp x0 9 1) fun v16 =>
      m_b (F12_returnAt v3 hp) fun v19 =>
      m_b (m_ai hp 0 v16 (v19 + 3)) fun v20 =>
      some (.inl ((s.1 + (m_maxl 0 ((m_i2l v15) - (m_i2l v20)))), (s.2 + 1)))
    )
  )
noncomputable def F12_missing_5 (x0 : Nat) (x1 : Int32) (x2 : Int32) (x3 : Int64) (x5 : Int32) (hp : m_H) : Option Int64 :=
  m_wh (fun s => F12_missing_5b x0 x1 x2 hp s) m_N (x3, x5)
noncomputable def F12_missing_0 (x0 : Nat) (x1 : Int32) (x2 : Int32) (hp : m_H) : Option Int64 :=
  F12_missing_5 x0 x1 x2 0 0 hp
noncomputable def F12_missing (x0 : Nat) (x1 : Int32) (x2 : Int32) (hp : m_H) : Option Int64 :=
  m_gd (m_isO hp 9 x0) (F12_missing_0 x0 x1 x2 hp)
noncomputable def F12_land_117b (x0 : Nat) (x1 : Int32) (hp : m_H) (s : Int64 × Int32) : Option ((Int64 × Int32) ⊕ (Int64 × m_H)) :=
  m_if (8 ≤ s.2) (
    some (.inr (s.1, hp))
  ) (
    m_b (F12_landedOf x0 x1 s.2 hp) fun v3 =>
    some (.inl ((s.1 + (m_i2l v3)), (s.2 + 1)))
  )
noncomputable def F12_land_117 (x0 : Nat) (x1 : Int32) (x3 : Int64) (x5 : Int32) (hp : m_H) : Option (Int64 × m_H) :=
  m_wh (fun s => F12_land_117b x0 x1 hp s) m_N (x3, x5)
noncomputable def F12_land_146b (x0 : Nat) (x1 : Int32) (hp : m_H) (s : Int64 × Int32) : Option ((Int64 × Int32) ⊕ (Int64 × m_H)) :=
  m_b (m_gr hp x0 9 1) fun v1 =>
  m_b (m_ai hp 0 v1 807) fun v3 =>
  m_if (v3 ≤ s.2) (
    some (.inr (s.1, hp))
  ) (
    m_b (F12_isFor x0 s.2 x1 hp) fun v7 =>
    m_if (v7 = 0) (
      some (.inl ((s.1 + 0), (s.2 + 1)))
    ) (
      m_b (F12_of x0 s.2 16 hp) fun v10 =>
      some (.inl ((s.1 + (m_i2l v10)), (s.2 + 1)))
    )
  )
noncomputable def F12_land_146 (x0 : Nat) (x1 : Int32) (x3 : Int64) (x5 : Int32) (hp : m_H) : Option (Int64 × m_H) :=
  m_wh (fun s => F12_land_146b x0 x1 hp s) m_N (x3, x5)
noncomputable def F12_land_27 (x0 : Nat) (x1 : Int32) (x2 : Int32) (s0 : Int32) (s1 : Nat) (hp : m_H) : Option (Int64 × m_H) :=
  m_b (F12_throwsIf s1 s0 2 hp) fun z2 =>
  m_if (z2.1 = 0) (
    m_swt (m_swi 0 7 x2) (
      m_b (m_pf m_ft z2.2 x0 9 0 (.int 3)) fun h6 =>
      some (0, h6)
    ) fun w4 =>
    m_if (w4 = 0) (
      m_b (m_gr z2.2 x0 9 1) fun v9 =>
      m_b (F12_landAt x1 0 z2.2) fun v12 =>
      m_b (m_ai z2.2 0 v9 v12) fun v13 =>
      some ((m_i2l v13), z2.2)
    ) (
     m_if (w4 = 1) (
       m_b (m_gr z2.2 x0 9 1) fun v16 =>
       m_b (F12_landAt x1 1 z2.2) fun v19 =>
       m_b (m_ai z2.2 0 v16 v19) fun v20 =>
       some ((m_i2l v20), z2.2)
     ) (
      m_if (w4 = 2) (
        m_b (F12_owedBy x0 x1 z2.2) fun v24 =>
        some (v24, z2.2)
      ) (
       m_if (w4 = 3) (
         F12_land_117 x0 x1 0 0 z2.2
       ) (
        m_if (w4 = 4) (
          F12_land_146 x0 x1 0 0 z2.2
        ) (
         m_if (w4 = 5) (
           m_b (F12_leased x0 x1 z2.2) fun v29 =>
           some ((m_i2l v29), z2.2)
         ) (
          m_if (w4 = 6) (
            m_b (F12_missing x0 x1 0 z2.2) fun v32 =>
            some (v32, z2.2)
          ) (
           m_if (w4 = 7) (
             m_b (F12_missing x0 x1 1 z2.2) fun v35 =>
             some (v35, z2.2)
           ) (
            none
           )
          )
         )
        )
       )
      )
     )
    )
  ) (
    some (0, z2.2)
  )
noncomputable def F12_land_0 (x0 : Nat) (x1 : Int32) (x2 : Int32) (hp : m_H) : Option (Int64 × m_H) :=
  m_b (m_pf m_ft hp x0 9 0 (.int 0)) fun h1 =>
  m_b (F12_noLand x1 h1) fun v4 =>
  m_b (F12_throwsIf x0 v4 1 h1) fun z6 =>
  m_if (z6.1 = 0) (
    m_if (x1 = 0) (
      F12_land_27 x0 x1 x2 1 x0 z6.2
    ) (
      F12_land_27 x0 x1 x2 0 x0 z6.2
    )
  ) (
    some (0, z6.2)
  )
noncomputable def F12_land (x0 : Nat) (x1 : Int32) (x2 : Int32) (hp : m_H) : Option (Int64 × m_H) :=
  m_gd (m_isO hp 9 x0) (F12_land_0 x0 x1 x2 hp)
noncomputable def F12_balance_201 (x0 : Nat) (x1 : Int32) (x2 : Int32) (x3 : Int32) (x6 : Int32) (s0 : Int32) (s1 : Int64) (s2 : Int64) (hp : m_H) : Option ((Int64 × Int32) ⊕ (Int64 × m_H)) :=
  some (.inl ((s2 + (s1 * (m_i2l s0))), (x6 + 1)))
noncomputable def F12_balance_90b (x0 : Nat) (x1 : Int32) (x2 : Int32) (x3 : Int32) (x4 : Int64) (x6 : Int32) (hp : m_H) (s : Int64 × Int32) : Option ((Int64 × Int32) ⊕ ((Int64 × Int32) ⊕ (Int64 × m_H))) :=
  m_b (m_gr hp x0 9 1) fun v1 =>
  m_b (m_ai hp 0 v1 807) fun v3 =>
  m_if (v3 ≤ s.2) (
    m_if (x2 = 0) (
      m_b (F12_priceOf x0 x6 x3 hp) fun v13 =>
      (F12_balance_201 x0 x1 x2 x3 x6 v13 s.1 x4 hp).map .inr
    ) (
      m_if (x2 = 1) (
        m_b (F12_sortOf x0 x6 2 hp) fun v11 =>
        (F12_balance_201 x0 x1 x2 x3 x6 v11 s.1 x4 hp).map .inr
      ) (
        m_b (F12_sortOf x0 x6 0 hp) fun v9 =>
        (F12_balance_201 x0 x1 x2 x3 x6 v9 s.1 x4 hp).map .inr
      )
    )
  ) (
    m_b (F12_of x0 s.2 2 hp) fun v15 =>
    m_if (v15 = x1) (
      m_b (F12_of x0 s.2 3 hp) fun v18 =>
      m_if (v18 = 1) (
        m_b (F12_of x0 s.2 0 hp) fun v21 =>
        m_if (v21 = x6) (
          m_b (F12_of x0 s.2 17 hp) fun v24 =>
          some (.inl ((s.1 - (m_i2l v24)), (s.2 + 1)))
        ) (
          some (.inl ((s.1 - 0), (s.2 + 1)))
        )
      ) (
        some (.inl ((s.1 - 0), (s.2 + 1)))
      )
    ) (
      some (.inl ((s.1 - 0), (s.2 + 1)))
    )
  )
noncomputable def F12_balance_90 (x0 : Nat) (x1 : Int32) (x2 : Int32) (x3 : Int32) (x4 : Int64) (x6 : Int32) (x7 : Int64) (x9 : Int32) (hp : m_H) : Option ((Int64 × Int32) ⊕ (Int64 × m_H)) :=
  m_wh (fun s => F12_balance_90b x0 x1 x2 x3 x4 x6 hp s) m_N (x7, x9)
noncomputable def F12_balance_64b (x0 : Nat) (x1 : Int32) (x2 : Int32) (x3 : Int32) (hp : m_H) (s : Int64 × Int32) : Option ((Int64 × Int32) ⊕ (Int64 × m_H)) :=
  m_if (8 ≤ s.2) (
    some (.inr (s.1, hp))
  ) (
    m_b (m_gr hp x0 9 1) fun v2 =>
    m_b (F12_both 109 x1 s.2 hp) fun v5 =>
    m_b (m_ai hp 0 v2 v5) fun v6 =>
    F12_balance_90 x0 x1 x2 x3 s.1 s.2 (m_i2l v6) 0 hp
  )
noncomputable def F12_balance_64 (x0 : Nat) (x1 : Int32) (x2 : Int32) (x3 : Int32) (x4 : Int64) (x6 : Int32) (hp : m_H) : Option (Int64 × m_H) :=
  m_wh (fun s => F12_balance_64b x0 x1 x2 x3 hp s) m_N (x4, x6)
noncomputable def F12_balance_49 (x0 : Nat) (x1 : Int32) (x2 : Int32) (x3 : Int32) (s0 : Int32) (s1 : Nat) (hp : m_H) : Option (Int64 × m_H) :=
  m_b (F12_throwsIf s1 s0 3 hp) fun z2 =>
  m_if (z2.1 = 0) (
    F12_balance_64 x0 x1 x2 x3 0 0 z2.2
  ) (
    some (0, z2.2)
  )
noncomputable def F12_balance_27 (x0 : Nat) (x1 : Int32) (x2 : Int32) (x3 : Int32) (s0 : Int32) (s1 : Nat) (hp : m_H) : Option (Int64 × m_H) :=
  m_b (F12_throwsIf s1 s0 2 hp) fun z2 =>
  m_if (z2.1 = 0) (
    m_b (F12_in x2 0 2 z2.2) fun v5 =>
    m_if (v5 = 0) (
      F12_balance_49 x0 x1 x2 x3 1 x0 z2.2
    ) (
      F12_balance_49 x0 x1 x2 x3 0 x0 z2.2
    )
  ) (
    some (0, z2.2)
  )
noncomputable def F12_balance_0 (x0 : Nat) (x1 : Int32) (x2 : Int32) (x3 : Int32) (hp : m_H) : Option (Int64 × m_H) :=
  m_b (m_pf m_ft hp x0 9 0 (.int 0)) fun h1 =>
  m_b (F12_noLand x1 h1) fun v4 =>
  m_b (F12_throwsIf x0 v4 1 h1) fun z6 =>
  m_if (z6.1 = 0) (
    m_if (x1 = 0) (
      F12_balance_27 x0 x1 x2 x3 1 x0 z6.2
    ) (
      F12_balance_27 x0 x1 x2 x3 0 x0 z6.2
    )
  ) (
    some (0, z6.2)
  )
noncomputable def F12_balance (x0 : Nat) (x1 : Int32) (x2 : Int32) (x3 : Int32) (hp : m_H) : Option (Int64 × m_H) :=
  m_gd (m_isO hp 9 x0) (F12_balance_0 x0 x1 x2 x3 hp)
noncomputable def F12_returned_66 (x0 : Nat) (x1 : Int32) (x2 : Int32) (x3 : Int32) (x4 : Int32) (s0 : Int32) (s1 : Nat) (hp : m_H) : Option (Int32 × m_H) :=
  m_b (F12_throwsIf s1 s0 2 hp) fun z2 =>
  m_if (z2.1 = 0) (
    m_b (m_gr z2.2 x0 9 1) fun v4 =>
    m_b (m_ai z2.2 0 v4 3486) fun v6 =>
    m_if (v6 = 100) (
      some ((-1), z2.2)
    ) (
      m_b (F12_returnAt v6 z2.2) fun v10 =>
      m_b (m_gr z2.2 x0 9 1) fun v11 =>
      m_b (m_si z2.2 0 v11 v10 x1) fun h13 =>
      m_b (m_gr h13 x0 9 1) fun v15 =>
      m_b (m_si h13 0 v15 (v10 + 1) x2) fun h17 =>
      m_b (m_gr h17 x0 9 1) fun v19 =>
      m_b (m_si h17 0 v19 (v10 + 2) x3) fun h21 =>
      m_b (m_gr h21 x0 9 1) fun v23 =>
      m_b (m_si h21 0 v23 (v10 + 3) x4) fun h25 =>
      m_b (m_gr h25 x0 9 1) fun v27 =>
      m_b (m_si h25 0 v27 (v10 + 4) x4) fun h29 =>
      m_b (m_gr h29 x0 9 1) fun v31 =>
      m_b (m_ai h29 0 v31 3486) fun v33 =>
      m_b (m_si h29 0 v31 3486 (v33 + 1)) fun h35 =>
      some ((v6 + 1), h35)
    )
  ) (
    some (0, z2.2)
  )
noncomputable def F12_returned_61 (x0 : Nat) (x1 : Int32) (x2 : Int32) (x3 : Int32) (x4 : Int32) (s0 : Nat) (hp : m_H) : Option (Int32 × m_H) :=
  F12_returned_66 x0 x1 x2 x3 x4 1 s0 hp
noncomputable def F12_returned_25 (x0 : Nat) (x1 : Int32) (x2 : Int32) (x3 : Int32) (x4 : Int32) (s0 : Int32) (s1 : Nat) (hp : m_H) : Option (Int32 × m_H) :=
  m_b (F12_throwsIf s1 s0 1 hp) fun z2 =>
  m_if (z2.1 = 0) (
    m_if (x1 = 0) (
      F12_returned_61 x0 x1 x2 x3 x4 x0 z2.2
    ) (
      m_b (F12_week x0 z2.2) fun v6 =>
      m_b (F12_in x3 0 v6 z2.2) fun v8 =>
      m_if (v8 = 0) (
        F12_returned_61 x0 x1 x2 x3 x4 x0 z2.2
      ) (
        m_b (F12_in x4 0 100000 z2.2) fun v11 =>
        m_if (v11 = 0) (
          F12_returned_61 x0 x1 x2 x3 x4 x0 z2.2
        ) (
          F12_returned_66 x0 x1 x2 x3 x4 0 x0 z2.2
        )
      )
    )
  ) (
    some (0, z2.2)
  )
noncomputable def F12_returned_20 (x0 : Nat) (x1 : Int32) (x2 : Int32) (x3 : Int32) (x4 : Int32) (s0 : Nat) (hp : m_H) : Option (Int32 × m_H) :=
  F12_returned_25 x0 x1 x2 x3 x4 1 s0 hp
noncomputable def F12_returned_0 (x0 : Nat) (x1 : Int32) (x2 : Int32) (x3 : Int32) (x4 : Int32) (hp : m_H) : Option (Int32 × m_H) :=
  m_b (m_pf m_ft hp x0 9 0 (.int 0)) fun h1 =>
  m_b (F12_noLand x1 h1) fun v4 =>
  m_if (v4 = 0) (
    m_b (F12_noSort x2 h1) fun v7 =>
    m_if (v7 = 0) (
      F12_returned_25 x0 x1 x2 x3 x4 0 x0 h1
    ) (
      F12_returned_20 x0 x1 x2 x3 x4 x0 h1
    )
  ) (
    F12_returned_20 x0 x1 x2 x3 x4 x0 h1
  )
noncomputable def F12_returned (x0 : Nat) (x1 : Int32) (x2 : Int32) (x3 : Int32) (x4 : Int32) (hp : m_H) : Option (Int32 × m_H) :=
  m_gd (m_isO hp 9 x0) (F12_returned_0 x0 x1 x2 x3 x4 hp)
noncomputable def F12_mustBe_54 (x0 : Nat) (x1 : Int32) (x2 : Int32) (x3 : Int32) (s0 : Int32) (s1 : Nat) (hp : m_H) : Option (Int32 × m_H) :=
  m_b (F12_throwsIf s1 s0 2 hp) fun z2 =>
  m_if (z2.1 = 0) (
    m_b (F12_mustOf x0 x1 x2 x3 z2.2) fun v5 =>
    some (v5, z2.2)
  ) (
    some (0, z2.2)
  )
noncomputable def F12_mustBe_49 (x0 : Nat) (x1 : Int32) (x2 : Int32) (x3 : Int32) (s0 : Nat) (hp : m_H) : Option (Int32 × m_H) :=
  F12_mustBe_54 x0 x1 x2 x3 1 s0 hp
noncomputable def F12_mustBe_25 (x0 : Nat) (x1 : Int32) (x2 : Int32) (x3 : Int32) (s0 : Int32) (s1 : Nat) (hp : m_H) : Option (Int32 × m_H) :=
  m_b (F12_throwsIf s1 s0 1 hp) fun z2 =>
  m_if (z2.1 = 0) (
    m_if (x1 = 0) (
      F12_mustBe_49 x0 x1 x2 x3 x0 z2.2
    ) (
      m_b (F12_week x0 z2.2) fun v6 =>
      m_b (F12_in x3 0 v6 z2.2) fun v8 =>
      m_if (v8 = 0) (
        F12_mustBe_49 x0 x1 x2 x3 x0 z2.2
      ) (
        F12_mustBe_54 x0 x1 x2 x3 0 x0 z2.2
      )
    )
  ) (
    some (0, z2.2)
  )
noncomputable def F12_mustBe_20 (x0 : Nat) (x1 : Int32) (x2 : Int32) (x3 : Int32) (s0 : Nat) (hp : m_H) : Option (Int32 × m_H) :=
  F12_mustBe_25 x0 x1 x2 x3 1 s0 hp
noncomputable def F12_mustBe_0 (x0 : Nat) (x1 : Int32) (x2 : Int32) (x3 : Int32) (hp : m_H) : Option (Int32 × m_H) :=
  m_b (m_pf m_ft hp x0 9 0 (.int 0)) fun h1 =>
  m_b (F12_noLand x1 h1) fun v4 =>
  m_if (v4 = 0) (
    m_b (F12_noSort x2 h1) fun v7 =>
    m_if (v7 = 0) (
      F12_mustBe_25 x0 x1 x2 x3 0 x0 h1
    ) (
      F12_mustBe_20 x0 x1 x2 x3 x0 h1
    )
  ) (
    F12_mustBe_20 x0 x1 x2 x3 x0 h1
  )
noncomputable def F12_mustBe (x0 : Nat) (x1 : Int32) (x2 : Int32) (x3 : Int32) (hp : m_H) : Option (Int32 × m_H) :=
  m_gd (m_isO hp 9 x0) (F12_mustBe_0 x0 x1 x2 x3 hp)
noncomputable def F12_seen_53 (x0 : Nat) (x1 : Int32) (x2 : Int32) (x3 : Int32) (s0 : Int32) (s1 : Nat) (hp : m_H) : Option (Int32 × m_H) :=
  m_b (F12_throwsIf s1 s0 2 hp) fun z2 =>
  m_if (z2.1 = 0) (
    m_b (m_gr z2.2 x0 9 1) fun v4 =>
    m_b (m_ai z2.2 0 v4 3987) fun v6 =>
    m_if (v6 = 60) (
      some ((-1), z2.2)
    ) (
      m_b (m_gr z2.2 x0 9 1) fun v9 =>
      m_b (m_si z2.2 0 v9 (3988 + (3 * v6)) x1) fun h11 =>
      m_b (m_gr h11 x0 9 1) fun v13 =>
      m_b (m_si h11 0 v13 ((3988 + (3 * v6)) + 1) x2) fun h15 =>
      m_b (m_gr h15 x0 9 1) fun v17 =>
      m_b (m_si h15 0 v17 ((3988 + (3 * v6)) + 2) x3) fun h19 =>
      m_b (m_gr h19 x0 9 1) fun v21 =>
      m_b (m_ai h19 0 v21 3987) fun v23 =>
      m_b (m_si h19 0 v21 3987 (v23 + 1)) fun h25 =>
      some ((v6 + 1), h25)
    )
  ) (
    some (0, z2.2)
  )
noncomputable def F12_seen_48 (x0 : Nat) (x1 : Int32) (x2 : Int32) (x3 : Int32) (s0 : Nat) (hp : m_H) : Option (Int32 × m_H) :=
  F12_seen_53 x0 x1 x2 x3 1 s0 hp
noncomputable def F12_seen_25 (x0 : Nat) (x1 : Int32) (x2 : Int32) (x3 : Int32) (s0 : Int32) (s1 : Nat) (hp : m_H) : Option (Int32 × m_H) :=
  m_b (F12_throwsIf s1 s0 1 hp) fun z2 =>
  m_if (z2.1 = 0) (
    m_if (x1 = 0) (
      F12_seen_48 x0 x1 x2 x3 x0 z2.2
    ) (
      m_b (F12_in x3 1 100000 z2.2) fun v6 =>
      m_if (v6 = 0) (
        F12_seen_48 x0 x1 x2 x3 x0 z2.2
      ) (
        F12_seen_53 x0 x1 x2 x3 0 x0 z2.2
      )
    )
  ) (
    some (0, z2.2)
  )
noncomputable def F12_seen_20 (x0 : Nat) (x1 : Int32) (x2 : Int32) (x3 : Int32) (s0 : Nat) (hp : m_H) : Option (Int32 × m_H) :=
  F12_seen_25 x0 x1 x2 x3 1 s0 hp
noncomputable def F12_seen_0 (x0 : Nat) (x1 : Int32) (x2 : Int32) (x3 : Int32) (hp : m_H) : Option (Int32 × m_H) :=
  m_b (m_pf m_ft hp x0 9 0 (.int 0)) fun h1 =>
  m_b (F12_noLand x1 h1) fun v4 =>
  m_if (v4 = 0) (
    m_b (F12_noSort x2 h1) fun v7 =>
    m_if (v7 = 0) (
      F12_seen_25 x0 x1 x2 x3 0 x0 h1
    ) (
      F12_seen_20 x0 x1 x2 x3 x0 h1
    )
  ) (
    F12_seen_20 x0 x1 x2 x3 x0 h1
  )
noncomputable def F12_seen (x0 : Nat) (x1 : Int32) (x2 : Int32) (x3 : Int32) (hp : m_H) : Option (Int32 × m_H) :=
  m_gd (m_isO hp 9 x0) (F12_seen_0 x0 x1 x2 x3 hp)
noncomputable def F12_cameTo_0 (x0 : Nat) (x1 : Int32) (x2 : Int32) (hp : m_H) : Option Int32 :=
  m_b (m_gr hp x0 9 1) fun v1 =>
  m_b (F12_both 109 x1 x2 hp) fun v4 =>
  m_b (m_ai hp 0 v1 v4) fun v5 =>
  m_b (m_gr hp x0 9 1) fun v7 =>
  m_b (F12_both 157 x1 x2 hp) fun v10 =>
  m_b (m_ai hp 0 v7 v10) fun v11 =>
  some (v5 + v11)
noncomputable def F12_cameTo (x0 : Nat) (x1 : Int32) (x2 : Int32) (hp : m_H) : Option Int32 :=
  m_gd (m_isO hp 9 x0) (F12_cameTo_0 x0 x1 x2 hp)
noncomputable def F12_whence_111b (x0 : Nat) (x1 : Int32) (x2 : Int32) (hp : m_H) (s : Int32 × Int32) : Option ((Int32 × Int32) ⊕ (Int32 × m_H)) :=
  m_b (m_gr hp x0 9 1) fun v1 =>
  m_b (m_ai hp 0 v1 3987) fun v3 =>
  m_if ((3988 + (3 * v3)) ≤ s.2) (
    m_b (F12_cameTo x0 x1 x2 hp) fun v7 =>
    some (.inr ((m_max 0 (s.1 - v7)), hp))
  ) (
    m_b (m_gr hp x0 9 1) fun v8 =>
    m_b (m_ai hp 0 v8 s.2) fun v10 =>
    m_if (v10 = x1) (
      m_b (m_gr hp x0 9 1) fun v13 =>
      m_b (m_ai hp 0 v13 (s.2 + 1)) fun v15 =>
      m_if (v15 = x2) (
        m_b (m_gr hp x0 9 1) fun v18 =>
        m_b (m_ai hp 0 v18 (s.2 + 2)) fun v20 =>
        some (.inl ((m_max s.1 v20), (s.2 + 3)))
      ) (
        some (.inl (s.1, (s.2 + 3)))
      )
    ) (
      some (.inl (s.1, (s.2 + 3)))
    )
  )
noncomputable def F12_whence_111 (x0 : Nat) (x1 : Int32) (x2 : Int32) (x4 : Int32) (x5 : Int32) (hp : m_H) : Option (Int32 × m_H) :=
  m_wh (fun s => F12_whence_111b x0 x1 x2 hp s) m_N (x4, x5)
noncomputable def F12_whence_61b (x0 : Nat) (x2 : Int32) (hp : m_H) (s : Int32 × Int32) : Option ((Int32 × Int32) ⊕ (Int32 × m_H)) :=
  m_if (6 ≤ s.2) (
    some (.inr (s.1, hp))
  ) (
    m_b (m_gr hp x0 9 1) fun v2 =>
    m_b (F12_both 109 s.2 x2 hp) fun v5 =>
    m_b (m_ai hp 0 v2 v5) fun v6 =>
    m_if (v6 ≤ 0) (
      some (.inl ((s.1 ||| 0), (s.2 + 1)))
    ) (
      some (.inl ((s.1 ||| (1 <<< (s.2 &&& 31))), (s.2 + 1)))
    )
  )
noncomputable def F12_whence_61 (x0 : Nat) (x2 : Int32) (x4 : Int32) (x5 : Int32) (hp : m_H) : Option (Int32 × m_H) :=
  m_wh (fun s => F12_whence_61b x0 x2 hp s) m_N (x4, x5)
noncomputable def F12_whence_42 (x0 : Nat) (x1 : Int32) (x2 : Int32) (x3 : Int32) (s0 : Int32) (s1 : Nat) (hp : m_H) : Option (Int32 × m_H) :=
  m_b (F12_throwsIf s1 s0 2 hp) fun z2 =>
  m_if (z2.1 = 0) (
    m_if (x3 = 0) (
      F12_whence_111 x0 x1 x2 0 3988 z2.2
    ) (
      F12_whence_61 x0 x2 0 1 z2.2
    )
  ) (
    some (0, z2.2)
  )
noncomputable def F12_whence_25 (x0 : Nat) (x1 : Int32) (x2 : Int32) (x3 : Int32) (s0 : Int32) (s1 : Nat) (hp : m_H) : Option (Int32 × m_H) :=
  m_b (F12_throwsIf s1 s0 1 hp) fun z2 =>
  m_if (z2.1 = 0) (
    m_if (x1 = 0) (
      F12_whence_42 x0 x1 x2 x3 1 x0 z2.2
    ) (
      F12_whence_42 x0 x1 x2 x3 0 x0 z2.2
    )
  ) (
    some (0, z2.2)
  )
noncomputable def F12_whence_20 (x0 : Nat) (x1 : Int32) (x2 : Int32) (x3 : Int32) (s0 : Nat) (hp : m_H) : Option (Int32 × m_H) :=
  F12_whence_25 x0 x1 x2 x3 1 s0 hp
noncomputable def F12_whence_0 (x0 : Nat) (x1 : Int32) (x2 : Int32) (x3 : Int32) (hp : m_H) : Option (Int32 × m_H) :=
  m_b (m_pf m_ft hp x0 9 0 (.int 0)) fun h1 =>
  m_b (F12_noLand x1 h1) fun v4 =>
  m_if (v4 = 0) (
    m_b (F12_noSort x2 h1) fun v7 =>
    m_if (v7 = 0) (
      F12_whence_25 x0 x1 x2 x3 0 x0 h1
    ) (
      F12_whence_20 x0 x1 x2 x3 x0 h1
    )
  ) (
    F12_whence_20 x0 x1 x2 x3 x0 h1
  )
noncomputable def F12_whence (x0 : Nat) (x1 : Int32) (x2 : Int32) (x3 : Int32) (hp : m_H) : Option (Int32 × m_H) :=
  m_gd (m_isO hp 9 x0) (F12_whence_0 x0 x1 x2 x3 hp)
noncomputable def F12_rock_87 (x0 : Nat) (x1 : Int32) (x2 : Int32) (x3 : Int32) (x4 : Int32) (s0 : Int32) (s1 : Nat) (hp : m_H) : Option (Int32 × m_H) :=
  m_b (F12_throwsIf s1 s0 3 hp) fun z2 =>
  m_if (z2.1 = 0) (
    m_b (m_gr z2.2 x0 9 1) fun v4 =>
    m_b (m_ai z2.2 0 v4 4168) fun v6 =>
    m_b (F12_baseAt v6 z2.2) fun v9 =>
    m_b (m_gr z2.2 x0 9 1) fun v10 =>
    m_b (m_si z2.2 0 v10 v9 x1) fun h12 =>
    m_b (m_gr h12 x0 9 1) fun v14 =>
    m_b (F12_week x0 h12) fun v17 =>
    m_b (m_si h12 0 v14 (v9 + 1) v17) fun h18 =>
    m_b (m_gr h18 x0 9 1) fun v20 =>
    m_b (m_si h18 0 v20 (v9 + 2) x2) fun h22 =>
    m_b (m_gr h22 x0 9 1) fun v24 =>
    m_b (m_si h22 0 v24 (v9 + 3) x3) fun h26 =>
    m_b (m_gr h26 x0 9 1) fun v28 =>
    m_b (m_si h26 0 v28 (v9 + 4) x4) fun h30 =>
    m_b (m_gr h30 x0 9 1) fun v32 =>
    m_b (m_si h30 0 v32 (v9 + 5) 0) fun h34 =>
    m_b (m_gr h34 x0 9 1) fun v36 =>
    m_b (m_ai h34 0 v36 4168) fun v38 =>
    m_b (m_si h34 0 v36 4168 (v38 + 1)) fun h40 =>
    some (v6, h40)
  ) (
    some (0, z2.2)
  )
noncomputable def F12_rock_61 (x0 : Nat) (x1 : Int32) (x2 : Int32) (x3 : Int32) (x4 : Int32) (s0 : Int32) (s1 : Nat) (hp : m_H) : Option (Int32 × m_H) :=
  m_b (F12_throwsIf s1 s0 2 hp) fun z2 =>
  m_if (z2.1 = 0) (
    m_b (m_gr z2.2 x0 9 1) fun v4 =>
    m_b (m_ai z2.2 0 v4 4168) fun v6 =>
    m_if (v6 = 10) (
      F12_rock_87 x0 x1 x2 x3 x4 1 x0 z2.2
    ) (
      F12_rock_87 x0 x1 x2 x3 x4 0 x0 z2.2
    )
  ) (
    some (0, z2.2)
  )
noncomputable def F12_rock_56 (x0 : Nat) (x1 : Int32) (x2 : Int32) (x3 : Int32) (x4 : Int32) (s0 : Nat) (hp : m_H) : Option (Int32 × m_H) :=
  F12_rock_61 x0 x1 x2 x3 x4 1 s0 hp
noncomputable def F12_rock_0 (x0 : Nat) (x1 : Int32) (x2 : Int32) (x3 : Int32) (x4 : Int32) (hp : m_H) : Option (Int32 × m_H) :=
  m_b (m_pf m_ft hp x0 9 0 (.int 0)) fun h1 =>
  m_b (F12_noLand x1 h1) fun v4 =>
  m_b (F12_throwsIf x0 v4 1 h1) fun z6 =>
  m_if (z6.1 = 0) (
    m_if (x1 = 0) (
      F12_rock_56 x0 x1 x2 x3 x4 x0 z6.2
    ) (
      m_b (F12_in x2 1 500 z6.2) fun v10 =>
      m_if (v10 = 0) (
        F12_rock_56 x0 x1 x2 x3 x4 x0 z6.2
      ) (
        m_b (F12_in x3 0 10000 z6.2) fun v13 =>
        m_if (v13 = 0) (
          F12_rock_56 x0 x1 x2 x3 x4 x0 z6.2
        ) (
          m_b (F12_in x4 0 1000 z6.2) fun v16 =>
          m_if (v16 = 0) (
            F12_rock_56 x0 x1 x2 x3 x4 x0 z6.2
          ) (
            F12_rock_61 x0 x1 x2 x3 x4 0 x0 z6.2
          )
        )
      )
    )
  ) (
    some (0, z6.2)
  )
noncomputable def F12_rock (x0 : Nat) (x1 : Int32) (x2 : Int32) (x3 : Int32) (x4 : Int32) (hp : m_H) : Option (Int32 × m_H) :=
  m_gd (m_isO hp 9 x0) (F12_rock_0 x0 x1 x2 x3 x4 hp)
noncomputable def F12_net_29 (x0 : Nat) (x1 : Int32) (s0 : Int32) (s1 : Nat) (hp : m_H) : Option (Int32 × m_H) :=
  m_b (F12_throwsIf s1 s0 1 hp) fun z2 =>
  m_if (z2.1 = 0) (
    m_b (m_gr z2.2 x0 9 1) fun v4 =>
    m_b (F12_baseAt x1 z2.2) fun v7 =>
    m_b (m_ai z2.2 0 v4 (v7 + 5)) fun v8 =>
    m_b (m_gr z2.2 x0 9 1) fun v10 =>
    m_b (F12_baseAt x1 z2.2) fun v13 =>
    m_b (m_ai z2.2 0 v10 (v13 + 3)) fun v14 =>
    some ((v8 - v14), z2.2)
  ) (
    some (0, z2.2)
  )
noncomputable def F12_net_0 (x0 : Nat) (x1 : Int32) (hp : m_H) : Option (Int32 × m_H) :=
  m_b (m_pf m_ft hp x0 9 0 (.int 0)) fun h1 =>
  m_b (m_gr h1 x0 9 1) fun v3 =>
  m_b (m_ai h1 0 v3 4168) fun v5 =>
  m_b (F12_in x1 0 (v5 - 1) h1) fun v8 =>
  m_if (v8 = 0) (
    F12_net_29 x0 x1 1 x0 h1
  ) (
    F12_net_29 x0 x1 0 x0 h1
  )
noncomputable def F12_net (x0 : Nat) (x1 : Int32) (hp : m_H) : Option (Int32 × m_H) :=
  m_gd (m_isO hp 9 x0) (F12_net_0 x0 x1 hp)
noncomputable def F12_over_25b (x0 : Nat) (s : Int32 × Int32 × m_H) : Option ((Int32 × Int32 × m_H) ⊕ (Int32 × m_H)) :=
  m_b (m_gr s.2.2 x0 9 1) fun v1 =>
  m_b (m_ai s.2.2 0 v1 807) fun v3 =>
  m_if (v3 ≤ s.2.1) (
    some (.inr (s.1, s.2.2))
  ) (
    m_b (F12_of x0 s.2.1 13 s.2.2) fun v7 =>
    m_b (F12_of x0 s.2.1 13 s.2.2) fun v9 =>
    m_b (F12_moves x0 s.2.1 3 8 v9 s.2.2) fun h11 =>
    some (.inl ((s.1 + v7), (s.2.1 + 1), h11))
  )
noncomputable def F12_over_25 (x0 : Nat) (x1 : Int32) (x2 : Int32) (hp : m_H) : Option (Int32 × m_H) :=
  m_wh (fun s => F12_over_25b x0 s) m_N (x1, x2, hp)
noncomputable def F12_over_0 (x0 : Nat) (hp : m_H) : Option (Int32 × m_H) :=
  m_b (m_pf m_ft hp x0 9 0 (.int 0)) fun h1 =>
  m_b (F12_isOver x0 h1) fun v4 =>
  m_if (v4 = 0) (
    m_b (m_gr h1 x0 9 1) fun v6 =>
    m_b (m_si h1 0 v6 3 1) fun h8 =>
    F12_over_25 x0 0 0 h8
  ) (
    some ((-1), h1)
  )
noncomputable def F12_over (x0 : Nat) (hp : m_H) : Option (Int32 × m_H) :=
  m_gd (m_isO hp 9 x0) (F12_over_0 x0 hp)
noncomputable def F12_tons_38 (x0 : Nat) (x1 : Int32) (x2 : Int32) (s0 : Int32) (s1 : Nat) (hp : m_H) : Option m_H :=
  m_b (F12_throwsIf s1 s0 2 hp) fun z2 =>
  m_if (z2.1 = 0) (
    m_b (m_gr z2.2 x0 9 1) fun v4 =>
    m_b (F12_landAt x1 3 z2.2) fun v7 =>
    m_b (m_si z2.2 0 v4 v7 x2) fun h8 =>
    some h8
  ) (
    some z2.2
  )
noncomputable def F12_tons_33 (x0 : Nat) (x1 : Int32) (x2 : Int32) (s0 : Nat) (hp : m_H) : Option m_H :=
  F12_tons_38 x0 x1 x2 1 s0 hp
noncomputable def F12_tons_0 (x0 : Nat) (x1 : Int32) (x2 : Int32) (hp : m_H) : Option m_H :=
  m_b (m_pf m_ft hp x0 9 0 (.int 0)) fun h1 =>
  m_b (F12_noLand x1 h1) fun v4 =>
  m_b (F12_throwsIf x0 v4 1 h1) fun z6 =>
  m_if (z6.1 = 0) (
    m_if (x1 = 0) (
      F12_tons_33 x0 x1 x2 x0 z6.2
    ) (
      m_b (F12_in x2 0 100000 z6.2) fun v10 =>
      m_if (v10 = 0) (
        F12_tons_33 x0 x1 x2 x0 z6.2
      ) (
        F12_tons_38 x0 x1 x2 0 x0 z6.2
      )
    )
  ) (
    some z6.2
  )
noncomputable def F12_tons (x0 : Nat) (x1 : Int32) (x2 : Int32) (hp : m_H) : Option m_H :=
  m_gd (m_isO hp 9 x0) (F12_tons_0 x0 x1 x2 hp)
noncomputable def F12_sends_189 (A : Nat → Int32 → Int32 → Int32 → m_H → Option m_H) (x0 : Nat) (x1 : Int32) (x2 : Int32) (x3 : Int32) (x4 : Int32) (x5 : Int32) (s0 : Int32) (s1 : Int32) (s2 : Int32) (s3 : Int32) (s4 : Nat) (hp : m_H) : Option ((Int32 × m_H) ⊕ m_H) :=
  m_b (A s4 s3 s2 (s1 + s0) hp) fun h2 =>
  m_b (m_gr h2 x0 9 22) fun v3 =>
  m_b (m_ai h2 0 v3 x5) fun v5 =>
  m_b (m_si h2 0 v3 x5 (v5 - x4)) fun h7 =>
  some (.inl ((x5 + 1), h7))
noncomputable def F12_sends_129b (A : Nat → Int32 → Int32 → Int32 → m_H → Option m_H) (x0 : Nat) (x1 : Int32) (x2 : Int32) (x3 : Int32) (x4 : Int32) (s : Int32 × m_H) : Option ((Int32 × m_H) ⊕ m_H) :=
  m_if (6 ≤ s.1) (
    some (.inr s.2)
  ) (
    m_b (m_gr s.2 x0 9 20) fun v2 =>
    m_b (m_si s.2 0 v2 x1 s.1) fun h4 =>
    m_b (m_gr h4 x0 9 22) fun v6 =>
    m_b (m_ai h4 0 v6 s.1) fun v8 =>
    m_b (m_si h4 0 v6 s.1 (v8 + x4)) fun h10 =>
    m_if (s.1 = 0) (
      F12_sends_189 A x0 x1 x2 x3 x4 s.1 0 x3 x2 (x1 + 1) x0 h10
    ) (
      m_b (F12_week x0 h10) fun v14 =>
      m_b (F12_toldOf x0 506 s.1 (v14 + 1) h10) fun v16 =>
      F12_sends_189 A x0 x1 x2 x3 x4 s.1 (x4 * v16) x3 x2 (x1 + 1) x0 h10
    )
  )
noncomputable def F12_sends_129 (A : Nat → Int32 → Int32 → Int32 → m_H → Option m_H) (x0 : Nat) (x1 : Int32) (x2 : Int32) (x3 : Int32) (x4 : Int32) (x5 : Int32) (hp : m_H) : Option m_H :=
  m_wh (fun s => F12_sends_129b A x0 x1 x2 x3 x4 s) m_N (x5, hp)
noncomputable def F12_sends_86b (A : Nat → Int32 → Int32 → Int32 → m_H → Option m_H) (x0 : Nat) (x2 : Int32) (s : Int32 × m_H) : Option ((Int32 × m_H) ⊕ m_H) :=
  m_if (x2 ≤ s.1) (
    some (.inr s.2)
  ) (
    m_b (m_gr s.2 x0 9 21) fun v2 =>
    m_b (m_gr s.2 x0 9 20) fun v4 =>
    m_b (m_ai s.2 0 v4 s.1) fun v6 =>
    m_b (m_si s.2 0 v2 s.1 v6) fun h8 =>
    some (.inl ((s.1 + 1), h8))
  )
noncomputable def F12_sends_86 (A : Nat → Int32 → Int32 → Int32 → m_H → Option m_H) (x0 : Nat) (x2 : Int32) (x5 : Int32) (hp : m_H) : Option m_H :=
  m_wh (fun s => F12_sends_86b A x0 x2 s) m_N (x5, hp)
noncomputable def F12_sends_78 (A : Nat → Int32 → Int32 → Int32 → m_H → Option m_H) (x0 : Nat) (x2 : Int32) (x3 : Int32) (hp : m_H) : Option m_H :=
  m_b (m_pf m_ft hp x0 9 23 (.int x3)) fun h1 =>
  F12_sends_86 A x0 x2 0 h1
noncomputable def F12_sends_11b (A : Nat → Int32 → Int32 → Int32 → m_H → Option m_H) (x0 : Nat) (x2 : Int32) (x3 : Int32) (hp : m_H) (s : Int32 × Int32) : Option ((Int32 × Int32) ⊕ m_H) :=
  m_if (6 ≤ s.2) (
    m_if (s.1 = 0) (
      some (.inr hp)
    ) (
      m_b (m_gi hp x0 9 23) fun v3 =>
      m_if (v3 < 0) (
        (F12_sends_78 A x0 x2 x3 hp).map .inr
      ) (
        m_b (m_gi hp x0 9 23) fun v6 =>
        m_if (x3 < v6) (
          (F12_sends_78 A x0 x2 x3 hp).map .inr
        ) (
          some (.inr hp)
        )
      )
    )
  ) (
    m_if (s.1 = 0) (
      some (.inl (0, (s.2 + 1)))
    ) (
      m_b (m_gr hp x0 9 22) fun v10 =>
      m_b (m_ai hp 0 v10 s.2) fun v12 =>
      m_b (m_gr hp x0 9 1) fun v14 =>
      m_b (F12_landAt s.2 3 hp) fun v17 =>
      m_b (m_ai hp 0 v14 v17) fun v18 =>
      m_if (v12 < v18) (
        some (.inl (0, (s.2 + 1)))
      ) (
        some (.inl (1, (s.2 + 1)))
      )
    )
  )
noncomputable def F12_sends_11 (A : Nat → Int32 → Int32 → Int32 → m_H → Option m_H) (x0 : Nat) (x2 : Int32) (x3 : Int32) (x4 : Int32) (x5 : Int32) (hp : m_H) : Option m_H :=
  m_wh (fun s => F12_sends_11b A x0 x2 x3 hp s) m_N (x4, x5)
noncomputable def F12_sends_0 (A : Nat → Int32 → Int32 → Int32 → m_H → Option m_H) (x0 : Nat) (x1 : Int32) (x2 : Int32) (x3 : Int32) (hp : m_H) : Option m_H :=
  m_if (x1 = x2) (
    F12_sends_11 A x0 x2 x3 1 1 hp
  ) (
    m_b (m_gr hp x0 9 19) fun v2 =>
    m_b (m_ai hp 0 v2 x1) fun v4 =>
    m_b (F12_its x0 v4 0 hp) fun v7 =>
    F12_sends_129 A x0 x1 x2 x3 v7 0 hp
  )
noncomputable def F12_sendss (A : Nat → Int32 → Int32 → Int32 → m_H → Option m_H) (x0 : Nat) (x1 : Int32) (x2 : Int32) (x3 : Int32) (hp : m_H) : Option m_H :=
  m_gd (m_isO hp 9 x0) (F12_sends_0 A x0 x1 x2 x3 hp)
noncomputable def F12_sends : Nat → Nat → Int32 → Int32 → Int32 → m_H → Option m_H
  | 0 => fun _ _ _ _ _ => none
  | n + 1 => F12_sendss (F12_sends n)
noncomputable def F12_hulls_107b (x0 : Nat) (x1 : Int32) (x2 : Int32) (hp : m_H) (s : Int32) : Option (Int32 ⊕ (Int32 × m_H)) :=
  m_if (x2 ≤ s) (
    some (.inr ((-1), hp))
  ) (
    m_b (m_gr hp x0 9 19) fun v2 =>
    m_b (m_ai hp 0 v2 s) fun v4 =>
    m_if (v4 = x1) (
      m_b (m_gr hp x0 9 21) fun v7 =>
      m_b (m_ai hp 0 v7 s) fun v9 =>
      some (.inr (v9, hp))
    ) (
      some (.inl (s + 1))
    )
  )
noncomputable def F12_hulls_107 (x0 : Nat) (x1 : Int32) (x2 : Int32) (x3 : Int32) (hp : m_H) : Option (Int32 × m_H) :=
  m_wh (fun s => F12_hulls_107b x0 x1 x2 hp s) m_N x3
noncomputable def F12_hulls_57b (x0 : Nat) (x1 : Int32) (x2 : Int32) (s : Int32 × m_H) : Option ((Int32 × m_H) ⊕ (Int32 × m_H)) :=
  m_if (6 ≤ s.1) (
    m_b (m_pf m_ft s.2 x0 9 23 (.int (-1))) fun h2 =>
    m_b (F12_sends m_FD x0 0 x2 0 h2) fun h5 =>
    m_if (x1 = (-1)) (
      m_b (m_gi h5 x0 9 23) fun v7 =>
      some (.inr (v7, h5))
    ) (
      m_b (m_gi h5 x0 9 23) fun v9 =>
      m_if (0 ≤ v9) (
        (F12_hulls_107 x0 x1 x2 0 h5).map .inr
      ) (
        m_b (m_gi h5 x0 9 23) fun v12 =>
        some (.inr (v12, h5))
      )
    )
  ) (
    m_b (m_gr s.2 x0 9 22) fun v14 =>
    m_b (m_si s.2 0 v14 s.1 0) fun h16 =>
    some (.inl ((s.1 + 1), h16))
  )
noncomputable def F12_hulls_57 (x0 : Nat) (x1 : Int32) (x2 : Int32) (x3 : Int32) (hp : m_H) : Option (Int32 × m_H) :=
  m_wh (fun s => F12_hulls_57b x0 x1 x2 s) m_N (x3, hp)
noncomputable def F12_hulls_55 (x0 : Nat) (x1 : Int32) (x2 : Int32) (hp : m_H) : Option (Int32 × m_H) :=
  F12_hulls_57 x0 x1 x2 0 hp
noncomputable def F12_hulls_9b (x0 : Nat) (x1 : Int32) (s : Int32 × Int32 × m_H) : Option ((Int32 × Int32 × m_H) ⊕ (Int32 × m_H)) :=
  m_b (m_gr s.2.2 x0 9 1) fun v1 =>
  m_b (m_ai s.2.2 0 v1 3209) fun v3 =>
  m_if (v3 ≤ s.2.1) (
    (F12_hulls_55 x0 x1 s.1 s.2.2).map .inr
  ) (
    m_if (6 ≤ s.1) (
      (F12_hulls_55 x0 x1 s.1 s.2.2).map .inr
    ) (
      m_b (F12_its x0 s.2.1 2 s.2.2) fun v8 =>
      m_if (v8 = 0) (
        m_b (m_gr s.2.2 x0 9 19) fun v10 =>
        m_b (m_si s.2.2 0 v10 s.1 s.2.1) fun h12 =>
        some (.inl ((s.1 + 1), (s.2.1 + 1), h12))
      ) (
        some (.inl (s.1, (s.2.1 + 1), s.2.2))
      )
    )
  )
noncomputable def F12_hulls_9 (x0 : Nat) (x1 : Int32) (x2 : Int32) (x3 : Int32) (hp : m_H) : Option (Int32 × m_H) :=
  m_wh (fun s => F12_hulls_9b x0 x1 s) m_N (x2, x3, hp)
noncomputable def F12_hulls_0 (x0 : Nat) (x1 : Int32) (hp : m_H) : Option (Int32 × m_H) :=
  m_b (m_pf m_ft hp x0 9 0 (.int 0)) fun h1 =>
  F12_hulls_9 x0 x1 0 0 h1
noncomputable def F12_hulls (x0 : Nat) (x1 : Int32) (hp : m_H) : Option (Int32 × m_H) :=
  m_gd (m_isO hp 9 x0) (F12_hulls_0 x0 x1 hp)
noncomputable def F12_bestOrders_250 (x0 : Nat) (x1 : Int32) (x5 : Int32) (x6 : Int32) (x8 : Int32) (hp : m_H) : Option ((Int32 × Int32 × Int32 × Int32) ⊕ (Int32 × m_H)) :=
  some (.inl (x5, x8, x6, (x5 + 1)))
noncomputable def F12_bestOrders_94b (x0 : Nat) (x1 : Int32) (x2 : Int32) (x3 : Int32) (x4 : Int32) (x5 : Int32) (hp : m_H) (s : Int32 × Int32 × Int32 × Int32) : Option ((Int32 × Int32 × Int32 × Int32) ⊕ ((Int32 × Int32 × Int32 × Int32) ⊕ (Int32 × m_H))) :=
  m_if (x1 ≤ s.2.2.2) (
    m_b (m_gr hp x0 9 1) fun v2 =>
    m_b (m_ai hp 0 v2 1) fun v4 =>
    m_if (v4 < s.1) (
      some (.inr (.inl (x2, x3, x4, (x5 + 1))))
    ) (
      m_b (m_gr hp x0 9 1) fun v7 =>
      m_b (m_ai hp 0 v7 2) fun v9 =>
      m_if (v9 < s.2.1) (
        some (.inr (.inl (x2, x3, x4, (x5 + 1))))
      ) (
        m_if (s.2.2.1 < x3) (
          some (.inr (.inl (x2, x3, x4, (x5 + 1))))
        ) (
          m_if (s.2.2.1 = x3) (
            m_if (s.1 < x4) (
              (F12_bestOrders_250 x0 x1 x5 s.1 s.2.2.1 hp).map .inr
            ) (
              some (.inr (.inl (x2, x3, x4, (x5 + 1))))
            )
          ) (
            (F12_bestOrders_250 x0 x1 x5 s.1 s.2.2.1 hp).map .inr
          )
        )
      )
    )
  ) (
    m_if (((x5 >>> (s.2.2.2 &&& 31)) &&& 1) = 0) (
      some (.inl (s.1, s.2.1, s.2.2.1, (s.2.2.2 + 1)))
    ) (
      m_b (m_gr hp x0 9 24) fun v16 =>
      m_b (m_ai hp 0 v16 s.2.2.2) fun v18 =>
      m_b (F12_of x0 v18 1 hp) fun v21 =>
      m_b (F12_of x0 v18 0 hp) fun v23 =>
      m_b (F12_sortOf x0 v23 1 hp) fun v25 =>
      m_b (F12_of x0 v18 1 hp) fun v27 =>
      m_b (F12_of x0 v18 0 hp) fun v29 =>
      m_b (F12_sortOf x0 v29 2 hp) fun v31 =>
      m_b (F12_of x0 v18 1 hp) fun v33 =>
      m_b (F12_of x0 v18 0 hp) fun v35 =>
      m_b (F12_week x0 hp) fun v37 =>
      m_b (F12_priceOf x0 v35 v37 hp) fun v39 =>
      some (.inl ((s.1 + (v21 * v25)), (s.2.1 + (v27 * v31)), (s.2.2.1 + (v33 * v39)), (s.2.2.2 + 1)))
    )
  )
noncomputable def F12_bestOrders_94 (x0 : Nat) (x1 : Int32) (x2 : Int32) (x3 : Int32) (x4 : Int32) (x5 : Int32) (x6 : Int32) (x7 : Int32) (x8 : Int32) (x9 : Int32) (hp : m_H) : Option ((Int32 × Int32 × Int32 × Int32) ⊕ (Int32 × m_H)) :=
  m_wh (fun s => F12_bestOrders_94b x0 x1 x2 x3 x4 x5 hp s) m_N (x6, x7, x8, x9)
noncomputable def F12_bestOrders_74b (x0 : Nat) (x1 : Int32) (hp : m_H) (s : Int32 × Int32 × Int32 × Int32) : Option ((Int32 × Int32 × Int32 × Int32) ⊕ (Int32 × m_H)) :=
  m_if ((1 <<< (x1 &&& 31)) ≤ s.2.2.2) (
    some (.inr (s.1, hp))
  ) (
    F12_bestOrders_94 x0 x1 s.1 s.2.1 s.2.2.1 s.2.2.2 0 0 0 0 hp
  )
noncomputable def F12_bestOrders_74 (x0 : Nat) (x1 : Int32) (x2 : Int32) (x3 : Int32) (x4 : Int32) (x5 : Int32) (hp : m_H) : Option (Int32 × m_H) :=
  m_wh (fun s => F12_bestOrders_74b x0 x1 hp s) m_N (x2, x3, x4, x5)
noncomputable def F12_bestOrders_64 (x0 : Nat) (x1 : Int32) (hp : m_H) : Option (Int32 × m_H) :=
  F12_bestOrders_74 x0 x1 0 0 0 1 hp
noncomputable def F12_bestOrders_9b (x0 : Nat) (s : Int32 × Int32 × m_H) : Option ((Int32 × Int32 × m_H) ⊕ (Int32 × m_H)) :=
  m_b (m_gr s.2.2 x0 9 1) fun v1 =>
  m_b (m_ai s.2.2 0 v1 807) fun v3 =>
  m_if (v3 ≤ s.2.1) (
    (F12_bestOrders_64 x0 s.1 s.2.2).map .inr
  ) (
    m_if (8 ≤ s.1) (
      (F12_bestOrders_64 x0 s.1 s.2.2).map .inr
    ) (
      m_b (F12_isOrder x0 s.2.1 s.2.2) fun v8 =>
      m_if (v8 = 0) (
        some (.inl (s.1, (s.2.1 + 1), s.2.2))
      ) (
        m_b (F12_of x0 s.2.1 5 s.2.2) fun v11 =>
        m_if (v11 = 1) (
          some (.inl (s.1, (s.2.1 + 1), s.2.2))
        ) (
          m_b (m_gr s.2.2 x0 9 24) fun v13 =>
          m_b (m_si s.2.2 0 v13 s.1 s.2.1) fun h15 =>
          some (.inl ((s.1 + 1), (s.2.1 + 1), h15))
        )
      )
    )
  )
noncomputable def F12_bestOrders_9 (x0 : Nat) (x1 : Int32) (x2 : Int32) (hp : m_H) : Option (Int32 × m_H) :=
  m_wh (fun s => F12_bestOrders_9b x0 s) m_N (x1, x2, hp)
noncomputable def F12_bestOrders_0 (x0 : Nat) (hp : m_H) : Option (Int32 × m_H) :=
  m_b (m_pf m_ft hp x0 9 0 (.int 0)) fun h1 =>
  F12_bestOrders_9 x0 0 0 h1
noncomputable def F12_bestOrders (x0 : Nat) (hp : m_H) : Option (Int32 × m_H) :=
  m_gd (m_isO hp 9 x0) (F12_bestOrders_0 x0 hp)
noncomputable def F12_page_37 (x0 : Nat) (x1 : Int32) (x2 : Int32) (s0 : Int32) (s1 : Nat) (hp : m_H) : Option (Int32 × m_H) :=
  m_b (F12_throwsIf s1 s0 1 hp) fun z2 =>
  m_if (z2.1 = 0) (
    m_b (m_gr z2.2 x0 9 1) fun v4 =>
    m_b (m_ai z2.2 0 v4 4229) fun v6 =>
    m_if (v6 = 9) (
      some ((-1), z2.2)
    ) (
      m_b (m_gr z2.2 x0 9 1) fun v9 =>
      m_b (m_si z2.2 0 v9 (4230 + (2 * v6)) x1) fun h11 =>
      m_b (m_gr h11 x0 9 1) fun v13 =>
      m_b (m_si h11 0 v13 ((4230 + (2 * v6)) + 1) x2) fun h15 =>
      m_b (m_gr h15 x0 9 1) fun v17 =>
      m_b (m_ai h15 0 v17 4229) fun v19 =>
      m_b (m_si h15 0 v17 4229 (v19 + 1)) fun h21 =>
      some (v6, h21)
    )
  ) (
    some (0, z2.2)
  )
noncomputable def F12_page_32 (x0 : Nat) (x1 : Int32) (x2 : Int32) (s0 : Nat) (hp : m_H) : Option (Int32 × m_H) :=
  F12_page_37 x0 x1 x2 1 s0 hp
noncomputable def F12_page_0 (x0 : Nat) (x1 : Int32) (x2 : Int32) (hp : m_H) : Option (Int32 × m_H) :=
  m_b (m_pf m_ft hp x0 9 0 (.int 0)) fun h1 =>
  m_b (F12_in x1 (-10000) 10000 h1) fun v4 =>
  m_if (v4 = 0) (
    F12_page_32 x0 x1 x2 x0 h1
  ) (
    m_b (F12_in x2 (-10000) 10000 h1) fun v7 =>
    m_if (v7 = 0) (
      F12_page_32 x0 x1 x2 x0 h1
    ) (
      F12_page_37 x0 x1 x2 0 x0 h1
    )
  )
noncomputable def F12_page (x0 : Nat) (x1 : Int32) (x2 : Int32) (hp : m_H) : Option (Int32 × m_H) :=
  m_gd (m_isO hp 9 x0) (F12_page_0 x0 x1 x2 hp)
noncomputable def F12_signed_167 (x0 : Nat) (x1 : Int32) (x2 : Int32) (x6 : Int32) (x7 : Int32) (x8 : Int32) (hp : m_H) : Option ((Int32 × Int32 × Int32 × Int32) ⊕ (Int32 × m_H)) :=
  some (.inl (x6, x7, x8, (x6 + 1)))
noncomputable def F12_signed_83 (x0 : Nat) (x1 : Int32) (x2 : Int32) (x3 : Int32) (x4 : Int32) (x5 : Int32) (x6 : Int32) (x8 : Int32) (x9 : Int32) (s0 : Int32) (s1 : Int32) (hp : m_H) : Option ((Int32 × Int32 × Int32) ⊕ ((Int32 × Int32 × Int32 × Int32) ⊕ (Int32 × m_H))) :=
  m_if (((x6 >>> (x9 &&& 31)) &&& 1) = 1) (
    m_b (m_gr hp x0 9 1) fun v2 =>
    m_b (m_ai hp 0 v2 ((4230 + (2 * x9)) + 1)) fun v4 =>
    some (.inl ((s1 + s0), (x8 + v4), (x9 + 1)))
  ) (
    some (.inl ((s1 + s0), (x8 + 0), (x9 + 1)))
  )
noncomputable def F12_signed_40b (x0 : Nat) (x1 : Int32) (x2 : Int32) (x3 : Int32) (x4 : Int32) (x5 : Int32) (x6 : Int32) (hp : m_H) (s : Int32 × Int32 × Int32) : Option ((Int32 × Int32 × Int32) ⊕ ((Int32 × Int32 × Int32 × Int32) ⊕ (Int32 × m_H))) :=
  m_b (m_gr hp x0 9 1) fun v1 =>
  m_b (m_ai hp 0 v1 4229) fun v3 =>
  m_if (v3 ≤ s.2.2) (
    m_if (s.1 < x1) (
      some (.inr (.inl (x3, x4, x5, (x6 + 1))))
    ) (
      m_if (s.2.1 < x2) (
        some (.inr (.inl (x3, x4, x5, (x6 + 1))))
      ) (
        m_if (x3 < 0) (
          (F12_signed_167 x0 x1 x2 x6 s.1 s.2.1 hp).map .inr
        ) (
          m_if (s.1 < x4) (
            some (.inr (.inl (x3, x4, x5, (x6 + 1))))
          ) (
            m_if (s.1 = x4) (
              m_if (x5 < s.2.1) (
                (F12_signed_167 x0 x1 x2 x6 s.1 s.2.1 hp).map .inr
              ) (
                some (.inr (.inl (x3, x4, x5, (x6 + 1))))
              )
            ) (
              (F12_signed_167 x0 x1 x2 x6 s.1 s.2.1 hp).map .inr
            )
          )
        )
      )
    )
  ) (
    m_if (((x6 >>> (s.2.2 &&& 31)) &&& 1) = 1) (
      m_b (m_gr hp x0 9 1) fun v13 =>
      m_b (m_ai hp 0 v13 (4230 + (2 * s.2.2))) fun v15 =>
      F12_signed_83 x0 x1 x2 x3 x4 x5 x6 s.2.1 s.2.2 v15 s.1 hp
    ) (
      F12_signed_83 x0 x1 x2 x3 x4 x5 x6 s.2.1 s.2.2 0 s.1 hp
    )
  )
noncomputable def F12_signed_40 (x0 : Nat) (x1 : Int32) (x2 : Int32) (x3 : Int32) (x4 : Int32) (x5 : Int32) (x6 : Int32) (x7 : Int32) (x8 : Int32) (x9 : Int32) (hp : m_H) : Option ((Int32 × Int32 × Int32 × Int32) ⊕ (Int32 × m_H)) :=
  m_wh (fun s => F12_signed_40b x0 x1 x2 x3 x4 x5 x6 hp s) m_N (x7, x8, x9)
noncomputable def F12_signed_16b (x0 : Nat) (x1 : Int32) (x2 : Int32) (hp : m_H) (s : Int32 × Int32 × Int32 × Int32) : Option ((Int32 × Int32 × Int32 × Int32) ⊕ (Int32 × m_H)) :=
  m_b (m_gr hp x0 9 1) fun v1 =>
  m_b (m_ai hp 0 v1 4229) fun v3 =>
  m_if ((1 <<< (v3 &&& 31)) ≤ s.2.2.2) (
    some (.inr (s.1, hp))
  ) (
    F12_signed_40 x0 x1 x2 s.1 s.2.1 s.2.2.1 s.2.2.2 0 0 0 hp
  )
noncomputable def F12_signed_16 (x0 : Nat) (x1 : Int32) (x2 : Int32) (x3 : Int32) (x4 : Int32) (x5 : Int32) (x6 : Int32) (hp : m_H) : Option (Int32 × m_H) :=
  m_wh (fun s => F12_signed_16b x0 x1 x2 hp s) m_N (x3, x4, x5, x6)
noncomputable def F12_signed_0 (x0 : Nat) (x1 : Int32) (x2 : Int32) (hp : m_H) : Option (Int32 × m_H) :=
  m_b (m_pf m_ft hp x0 9 0 (.int 0)) fun h1 =>
  F12_signed_16 x0 x1 x2 (-1) 0 0 0 h1
noncomputable def F12_signed (x0 : Nat) (x1 : Int32) (x2 : Int32) (hp : m_H) : Option (Int32 × m_H) :=
  m_gd (m_isO hp 9 x0) (F12_signed_0 x0 x1 x2 hp)
noncomputable def F12_choice_54 (x0 : Nat) (x1 : Int32) (x2 : Int32) (x3 : Int32) (x4 : Int32) (s0 : Int32) (s1 : Nat) (hp : m_H) : Option (Int32 × m_H) :=
  m_b (F12_throwsIf s1 s0 1 hp) fun z2 =>
  m_if (z2.1 = 0) (
    m_b (m_gr z2.2 x0 9 1) fun v4 =>
    m_b (m_ai z2.2 0 v4 4248) fun v6 =>
    m_if (v6 = 8) (
      some ((-1), z2.2)
    ) (
      m_b (m_gr z2.2 x0 9 1) fun v9 =>
      m_b (m_si z2.2 0 v9 (4249 + (4 * v6)) x1) fun h11 =>
      m_b (m_gr h11 x0 9 1) fun v13 =>
      m_b (m_si h11 0 v13 ((4249 + (4 * v6)) + 1) x2) fun h15 =>
      m_b (m_gr h15 x0 9 1) fun v17 =>
      m_b (m_si h15 0 v17 ((4249 + (4 * v6)) + 2) x3) fun h19 =>
      m_b (m_gr h19 x0 9 1) fun v21 =>
      m_b (m_si h19 0 v21 ((4249 + (4 * v6)) + 3) x4) fun h23 =>
      m_b (m_gr h23 x0 9 1) fun v25 =>
      m_b (m_ai h23 0 v25 4248) fun v27 =>
      m_b (m_si h23 0 v25 4248 (v27 + 1)) fun h29 =>
      some ((v6 + 1), h29)
    )
  ) (
    some (0, z2.2)
  )
noncomputable def F12_choice_49 (x0 : Nat) (x1 : Int32) (x2 : Int32) (x3 : Int32) (x4 : Int32) (s0 : Nat) (hp : m_H) : Option (Int32 × m_H) :=
  F12_choice_54 x0 x1 x2 x3 x4 1 s0 hp
noncomputable def F12_choice_0 (x0 : Nat) (x1 : Int32) (x2 : Int32) (x3 : Int32) (x4 : Int32) (hp : m_H) : Option (Int32 × m_H) :=
  m_b (m_pf m_ft hp x0 9 0 (.int 0)) fun h1 =>
  m_b (F12_in x1 0 10000 h1) fun v4 =>
  m_if (v4 = 0) (
    F12_choice_49 x0 x1 x2 x3 x4 x0 h1
  ) (
    m_b (F12_in x2 0 4 h1) fun v7 =>
    m_if (v7 = 0) (
      F12_choice_49 x0 x1 x2 x3 x4 x0 h1
    ) (
      m_b (F12_in x3 0 10000 h1) fun v10 =>
      m_if (v10 = 0) (
        F12_choice_49 x0 x1 x2 x3 x4 x0 h1
      ) (
        m_b (F12_in x4 0 10000 h1) fun v13 =>
        m_if (v13 = 0) (
          F12_choice_49 x0 x1 x2 x3 x4 x0 h1
        ) (
          F12_choice_54 x0 x1 x2 x3 x4 0 x0 h1
        )
      )
    )
  )
noncomputable def F12_choice (x0 : Nat) (x1 : Int32) (x2 : Int32) (x3 : Int32) (x4 : Int32) (hp : m_H) : Option (Int32 × m_H) :=
  m_gd (m_isO hp 9 x0) (F12_choice_0 x0 x1 x2 x3 x4 hp)
noncomputable def F12_row_64 (x0 : Nat) (x1 : Int32) (x2 : Int32) (x3 : Int32) (x4 : Int32) (x5 : Int32) (s0 : Int32) (s1 : Nat) (hp : m_H) : Option m_H :=
  m_b (F12_throwsIf s1 s0 1 hp) fun z2 =>
  m_if (z2.1 = 0) (
    m_b (m_gr z2.2 x0 9 1) fun v4 =>
    m_b (m_si z2.2 0 v4 ((4281 + (15 * x1)) + (3 * x2)) x3) fun h6 =>
    m_b (m_gr h6 x0 9 1) fun v8 =>
    m_b (m_si h6 0 v8 (((4281 + (15 * x1)) + (3 * x2)) + 1) x4) fun h10 =>
    m_b (m_gr h10 x0 9 1) fun v12 =>
    m_b (m_si h10 0 v12 (((4281 + (15 * x1)) + (3 * x2)) + 2) x5) fun h14 =>
    some h14
  ) (
    some z2.2
  )
noncomputable def F12_row_59 (x0 : Nat) (x1 : Int32) (x2 : Int32) (x3 : Int32) (x4 : Int32) (x5 : Int32) (s0 : Nat) (hp : m_H) : Option m_H :=
  F12_row_64 x0 x1 x2 x3 x4 x5 1 s0 hp
noncomputable def F12_row_0 (x0 : Nat) (x1 : Int32) (x2 : Int32) (x3 : Int32) (x4 : Int32) (x5 : Int32) (hp : m_H) : Option m_H :=
  m_b (m_pf m_ft hp x0 9 0 (.int 0)) fun h1 =>
  m_b (F12_in x1 0 2 h1) fun v4 =>
  m_if (v4 = 0) (
    F12_row_59 x0 x1 x2 x3 x4 x5 x0 h1
  ) (
    m_b (F12_in x2 0 4 h1) fun v7 =>
    m_if (v7 = 0) (
      F12_row_59 x0 x1 x2 x3 x4 x5 x0 h1
    ) (
      m_b (F12_in x3 0 100000 h1) fun v10 =>
      m_if (v10 = 0) (
        F12_row_59 x0 x1 x2 x3 x4 x5 x0 h1
      ) (
        m_b (F12_in x4 0 100000 h1) fun v13 =>
        m_if (v13 = 0) (
          F12_row_59 x0 x1 x2 x3 x4 x5 x0 h1
        ) (
          m_b (F12_in x5 0 100000 h1) fun v16 =>
          m_if (v16 = 0) (
            F12_row_59 x0 x1 x2 x3 x4 x5 x0 h1
          ) (
            F12_row_64 x0 x1 x2 x3 x4 x5 0 x0 h1
          )
        )
      )
    )
  )
noncomputable def F12_row (x0 : Nat) (x1 : Int32) (x2 : Int32) (x3 : Int32) (x4 : Int32) (x5 : Int32) (hp : m_H) : Option m_H :=
  m_gd (m_isO hp 9 x0) (F12_row_0 x0 x1 x2 x3 x4 x5 hp)
noncomputable def F12_setHas_6b (x0 : Nat) (x1 : Int32) (x2 : Int32) (x3 : Int32) (hp : m_H) (s : Int32 × Int32) : Option ((Int32 × Int32) ⊕ Int32) :=
  m_b (m_gr hp x0 9 1) fun v1 =>
  m_b (m_ai hp 0 v1 4248) fun v3 =>
  m_if (v3 ≤ s.2) (
    some (.inr s.1)
  ) (
    m_if (((x1 >>> (s.2 &&& 31)) &&& 1) = 1) (
      m_b (m_gr hp x0 9 1) fun v7 =>
      m_b (m_ai hp 0 v7 ((4249 + (4 * s.2)) + 1)) fun v9 =>
      m_if (x2 < v9) (
        some (.inl ((s.1 + 0), (s.2 + 1)))
      ) (
        m_b (m_gr hp x0 9 1) fun v12 =>
        m_b (m_ai hp 0 v12 ((4249 + (4 * s.2)) + x3)) fun v14 =>
        some (.inl ((s.1 + v14), (s.2 + 1)))
      )
    ) (
      some (.inl ((s.1 + 0), (s.2 + 1)))
    )
  )
noncomputable def F12_setHas_6 (x0 : Nat) (x1 : Int32) (x2 : Int32) (x3 : Int32) (x4 : Int32) (x5 : Int32) (hp : m_H) : Option Int32 :=
  m_wh (fun s => F12_setHas_6b x0 x1 x2 x3 hp s) m_N (x4, x5)
noncomputable def F12_setHas_0 (x0 : Nat) (x1 : Int32) (x2 : Int32) (x3 : Int32) (hp : m_H) : Option Int32 :=
  F12_setHas_6 x0 x1 x2 x3 0 0 hp
noncomputable def F12_setHas (x0 : Nat) (x1 : Int32) (x2 : Int32) (x3 : Int32) (hp : m_H) : Option Int32 :=
  m_gd (m_isO hp 9 x0) (F12_setHas_0 x0 x1 x2 x3 hp)
noncomputable def F12_lasting_12b (x0 : Nat) (x1 : Int32) (x3 : Int32) (hp : m_H) (s : Int32 × Int32) : Option ((Int32 × Int32) ⊕ ((Int32 × Int32) ⊕ Int32)) :=
  m_if (3 ≤ s.2) (
    some (.inr (.inl (s.1, (x3 + 1))))
  ) (
    m_if (s.1 = 0) (
      some (.inl (0, (s.2 + 1)))
    ) (
      m_b (F12_setHas x0 x1 x3 0 hp) fun v4 =>
      m_b (m_gr hp x0 9 1) fun v5 =>
      m_b (m_ai hp 0 v5 ((4281 + (15 * s.2)) + (3 * x3))) fun v7 =>
      m_if (v7 < v4) (
        some (.inl (0, (s.2 + 1)))
      ) (
        m_b (F12_setHas x0 x1 x3 2 hp) fun v11 =>
        m_b (m_gr hp x0 9 1) fun v12 =>
        m_b (m_ai hp 0 v12 (((4281 + (15 * s.2)) + (3 * x3)) + 1)) fun v14 =>
        m_if (v11 < v14) (
          some (.inl (0, (s.2 + 1)))
        ) (
          m_b (F12_setHas x0 x1 x3 3 hp) fun v18 =>
          m_b (m_gr hp x0 9 1) fun v19 =>
          m_b (m_ai hp 0 v19 (((4281 + (15 * s.2)) + (3 * x3)) + 2)) fun v21 =>
          m_if (v18 < v21) (
            some (.inl (0, (s.2 + 1)))
          ) (
            some (.inl (1, (s.2 + 1)))
          )
        )
      )
    )
  )
noncomputable def F12_lasting_12 (x0 : Nat) (x1 : Int32) (x2 : Int32) (x3 : Int32) (x4 : Int32) (hp : m_H) : Option ((Int32 × Int32) ⊕ Int32) :=
  m_wh (fun s => F12_lasting_12b x0 x1 x3 hp s) m_N (x2, x4)
noncomputable def F12_lasting_4b (x0 : Nat) (x1 : Int32) (hp : m_H) (s : Int32 × Int32) : Option ((Int32 × Int32) ⊕ Int32) :=
  m_if (5 ≤ s.2) (
    m_gd (m_rok .boolean s.1) (
      some (.inr s.1)
    )
  ) (
    F12_lasting_12 x0 x1 s.1 s.2 0 hp
  )
noncomputable def F12_lasting_4 (x0 : Nat) (x1 : Int32) (x2 : Int32) (x3 : Int32) (hp : m_H) : Option Int32 :=
  m_wh (fun s => F12_lasting_4b x0 x1 hp s) m_N (x2, x3)
noncomputable def F12_lasting_0 (x0 : Nat) (x1 : Int32) (hp : m_H) : Option Int32 :=
  F12_lasting_4 x0 x1 1 0 hp
noncomputable def F12_lasting (x0 : Nat) (x1 : Int32) (hp : m_H) : Option Int32 :=
  m_gd (m_isO hp 9 x0) (F12_lasting_0 x0 x1 hp)
noncomputable def F12_costOf_4b (x0 : Nat) (x1 : Int32) (hp : m_H) (s : Int32 × Int32) : Option ((Int32 × Int32) ⊕ Int32) :=
  m_if (5 ≤ s.2) (
    some (.inr s.1)
  ) (
    m_b (F12_setHas x0 x1 s.2 0 hp) fun v3 =>
    some (.inl ((s.1 + v3), (s.2 + 1)))
  )
noncomputable def F12_costOf_4 (x0 : Nat) (x1 : Int32) (x2 : Int32) (x3 : Int32) (hp : m_H) : Option Int32 :=
  m_wh (fun s => F12_costOf_4b x0 x1 hp s) m_N (x2, x3)
noncomputable def F12_costOf_0 (x0 : Nat) (x1 : Int32) (hp : m_H) : Option Int32 :=
  F12_costOf_4 x0 x1 0 0 hp
noncomputable def F12_costOf (x0 : Nat) (x1 : Int32) (hp : m_H) : Option Int32 :=
  m_gd (m_isO hp 9 x0) (F12_costOf_0 x0 x1 hp)
noncomputable def F12_lasts_9b (x0 : Nat) (hp : m_H) (s : Int32 × Int32) : Option ((Int32 × Int32) ⊕ (Int32 × m_H)) :=
  m_b (m_gr hp x0 9 1) fun v1 =>
  m_b (m_ai hp 0 v1 4248) fun v3 =>
  m_if ((1 <<< (v3 &&& 31)) ≤ s.2) (
    some (.inr (s.1, hp))
  ) (
    m_b (F12_lasting x0 s.2 hp) fun v7 =>
    m_if (v7 = 0) (
      some (.inl (s.1, (s.2 + 1)))
    ) (
      m_b (F12_costOf x0 s.2 hp) fun v10 =>
      m_if (s.1 < 0) (
        some (.inl (s.2, (s.2 + 1)))
      ) (
        m_b (F12_costOf x0 s.1 hp) fun v13 =>
        m_if (v13 < v10) (
          some (.inl (s.1, (s.2 + 1)))
        ) (
          m_b (F12_costOf x0 s.1 hp) fun v16 =>
          m_if (v10 = v16) (
            m_b (F14_bitCount s.2 hp) fun v19 =>
            m_b (F14_bitCount s.1 hp) fun v21 =>
            m_if (v19 < v21) (
              some (.inl (s.2, (s.2 + 1)))
            ) (
              some (.inl (s.1, (s.2 + 1)))
            )
          ) (
            some (.inl (s.2, (s.2 + 1)))
          )
        )
      )
    )
  )
noncomputable def F12_lasts_9 (x0 : Nat) (x1 : Int32) (x2 : Int32) (hp : m_H) : Option (Int32 × m_H) :=
  m_wh (fun s => F12_lasts_9b x0 hp s) m_N (x1, x2)
noncomputable def F12_lasts_0 (x0 : Nat) (hp : m_H) : Option (Int32 × m_H) :=
  m_b (m_pf m_ft hp x0 9 0 (.int 0)) fun h1 =>
  F12_lasts_9 x0 (-1) 0 h1
noncomputable def F12_lasts (x0 : Nat) (hp : m_H) : Option (Int32 × m_H) :=
  m_gd (m_isO hp 9 x0) (F12_lasts_0 x0 hp)
noncomputable def F12_cash_87b (x0 : Nat) (s : Int32 × m_H) : Option ((Int32 × m_H) ⊕ (Int32 × m_H)) :=
  m_b (m_gr s.2 x0 9 1) fun v1 =>
  m_b (m_ai s.2 0 v1 807) fun v3 =>
  m_if (v3 ≤ s.1) (
    some (.inr ((-1), s.2))
  ) (
    m_b (F12_of x0 s.1 6 s.2) fun v7 =>
    m_if (0 ≤ v7) (
      m_b (F12_of x0 s.1 1 s.2) fun v10 =>
      m_b (F12_of x0 s.1 19 s.2) fun v12 =>
      m_b (m_gr s.2 x0 9 25) fun v13 =>
      m_b (F12_of x0 s.1 2 s.2) fun v16 =>
      m_b (m_al s.2 v13 v16) fun v17 =>
      m_if ((lg_cmp ((m_i2l v10) * (m_i2l v12)) v17) ≤ 0) (
        m_b (m_gr s.2 x0 9 25) fun v20 =>
        m_b (F12_of x0 s.1 2 s.2) fun v23 =>
        m_b (m_al s.2 v20 v23) fun v24 =>
        m_b (m_sl s.2 v20 v23 (v24 - ((m_i2l v10) * (m_i2l v12)))) fun h26 =>
        some (.inl ((s.1 + 1), h26))
      ) (
        some (.inr (s.1, s.2))
      )
    ) (
      some (.inl ((s.1 + 1), s.2))
    )
  )
noncomputable def F12_cash_87 (x0 : Nat) (x6 : Int32) (hp : m_H) : Option (Int32 × m_H) :=
  m_wh (fun s => F12_cash_87b x0 s) m_N (x6, hp)
noncomputable def F12_cash_33 (x0 : Nat) (x1 : Int32) (x2 : Int32) (x3 : Int32) (x4 : Int32) (x5 : Int32) (s0 : Int32) (s1 : Nat) (hp : m_H) : Option (Int32 × m_H) :=
  m_b (F12_throwsIf s1 s0 1 hp) fun z2 =>
  m_if (z2.1 = 0) (
    m_b (m_gr z2.2 x0 9 25) fun v4 =>
    m_b (m_sl z2.2 v4 1 (m_i2l x1)) fun h6 =>
    m_b (m_gr h6 x0 9 25) fun v8 =>
    m_b (m_sl h6 v8 2 (m_i2l x2)) fun h10 =>
    m_b (m_gr h10 x0 9 25) fun v12 =>
    m_b (m_sl h10 v12 3 (m_i2l x3)) fun h14 =>
    m_b (m_gr h14 x0 9 25) fun v16 =>
    m_b (m_sl h14 v16 4 (m_i2l x4)) fun h18 =>
    m_b (m_gr h18 x0 9 25) fun v20 =>
    m_b (m_sl h18 v20 5 (m_i2l x5)) fun h22 =>
    F12_cash_87 x0 0 h22
  ) (
    some (0, z2.2)
  )
noncomputable def F12_cash_28 (x0 : Nat) (x1 : Int32) (x2 : Int32) (x3 : Int32) (x4 : Int32) (x5 : Int32) (s0 : Nat) (hp : m_H) : Option (Int32 × m_H) :=
  F12_cash_33 x0 x1 x2 x3 x4 x5 1 s0 hp
noncomputable def F12_cash_0 (x0 : Nat) (x1 : Int32) (x2 : Int32) (x3 : Int32) (x4 : Int32) (x5 : Int32) (hp : m_H) : Option (Int32 × m_H) :=
  m_b (m_pf m_ft hp x0 9 0 (.int 0)) fun h1 =>
  m_if (x1 < 0) (
    F12_cash_28 x0 x1 x2 x3 x4 x5 x0 h1
  ) (
    m_if (x2 < 0) (
      F12_cash_28 x0 x1 x2 x3 x4 x5 x0 h1
    ) (
      m_if (x3 < 0) (
        F12_cash_28 x0 x1 x2 x3 x4 x5 x0 h1
      ) (
        m_if (x4 < 0) (
          F12_cash_28 x0 x1 x2 x3 x4 x5 x0 h1
        ) (
          m_if (0 ≤ x5) (
            F12_cash_33 x0 x1 x2 x3 x4 x5 0 x0 h1
          ) (
            F12_cash_28 x0 x1 x2 x3 x4 x5 x0 h1
          )
        )
      )
    )
  )
noncomputable def F12_cash (x0 : Nat) (x1 : Int32) (x2 : Int32) (x3 : Int32) (x4 : Int32) (x5 : Int32) (hp : m_H) : Option (Int32 × m_H) :=
  m_gd (m_isO hp 9 x0) (F12_cash_0 x0 x1 x2 x3 x4 x5 hp)
noncomputable def F12_rowAt_0 (x0 : Nat) (x1 : Int32) (hp : m_H) : Option Int32 :=
  m_b (m_gr hp x0 9 1) fun v1 =>
  m_b (m_ai hp 0 v1 3486) fun v3 =>
  m_b (F12_in x1 0 ((m_min 6 v3) - 1) hp) fun v6 =>
  m_if (v6 = 0) (
    some (-1)
  ) (
    m_b (m_gr hp x0 9 1) fun v8 =>
    m_b (m_ai hp 0 v8 3486) fun v10 =>
    m_b (F12_returnAt ((v10 - (m_min 6 v3)) + x1) hp) fun v13 =>
    some v13
  )
noncomputable def F12_rowAt (x0 : Nat) (x1 : Int32) (hp : m_H) : Option Int32 :=
  m_gd (m_isO hp 9 x0) (F12_rowAt_0 x0 x1 hp)
noncomputable def F12_tear_19 (x0 : Nat) (x1 : Int32) (x2 : Int32) (s0 : Int32) (s1 : Nat) (hp : m_H) : Option (Int32 × m_H) :=
  m_b (F12_throwsIf s1 s0 1 hp) fun z2 =>
  m_if (z2.1 = 0) (
    m_b (m_gr z2.2 x0 9 1) fun v4 =>
    m_b (F12_rowAt x0 x1 z2.2) fun v7 =>
    m_b (m_ai z2.2 0 v4 (v7 + 3)) fun v8 =>
    m_b (m_si z2.2 0 v4 (v7 + 3) (v8 ^^^ x2)) fun h10 =>
    m_b (m_gr h10 x0 9 1) fun v12 =>
    m_b (F12_rowAt x0 x1 h10) fun v15 =>
    m_b (m_ai h10 0 v12 (v15 + 3)) fun v16 =>
    some (v16, h10)
  ) (
    some (0, z2.2)
  )
noncomputable def F12_tear_0 (x0 : Nat) (x1 : Int32) (x2 : Int32) (hp : m_H) : Option (Int32 × m_H) :=
  m_b (m_pf m_ft hp x0 9 0 (.int 0)) fun h1 =>
  m_b (F12_rowAt x0 x1 h1) fun v4 =>
  m_if (0 ≤ v4) (
    F12_tear_19 x0 x1 x2 0 x0 h1
  ) (
    F12_tear_19 x0 x1 x2 1 x0 h1
  )
noncomputable def F12_tear (x0 : Nat) (x1 : Int32) (x2 : Int32) (hp : m_H) : Option (Int32 × m_H) :=
  m_gd (m_isO hp 9 x0) (F12_tear_0 x0 x1 x2 hp)
noncomputable def F12_check_7b (x0 : Nat) (hp : m_H) (s : Int32) : Option (Int32 ⊕ (Int32 × m_H)) :=
  m_b (m_gr hp x0 9 1) fun v1 =>
  m_b (m_ai hp 0 v1 3486) fun v3 =>
  m_if ((m_min 6 v3) ≤ s) (
    some (.inr ((-1), hp))
  ) (
    m_b (m_gr hp x0 9 1) fun v6 =>
    m_b (F12_rowAt x0 s hp) fun v9 =>
    m_b (m_ai hp 0 v6 (v9 + 3)) fun v10 =>
    m_b (m_gr hp x0 9 1) fun v12 =>
    m_b (F12_rowAt x0 s hp) fun v15 =>
    m_b (m_ai hp 0 v12 (v15 + 4)) fun v16 =>
    m_if (v10 = v16) (
      some (.inl (s + 1))
    ) (
      some (.inr (s, hp))
    )
  )
noncomputable def F12_check_7 (x0 : Nat) (x1 : Int32) (hp : m_H) : Option (Int32 × m_H) :=
  m_wh (fun s => F12_check_7b x0 hp s) m_N x1
noncomputable def F12_check_0 (x0 : Nat) (hp : m_H) : Option (Int32 × m_H) :=
  m_b (m_pf m_ft hp x0 9 0 (.int 0)) fun h1 =>
  F12_check_7 x0 0 h1
noncomputable def F12_check (x0 : Nat) (hp : m_H) : Option (Int32 × m_H) :=
  m_gd (m_isO hp 9 x0) (F12_check_0 x0 hp)
noncomputable def F12_count_161b (x0 : Nat) (hp : m_H) (s : Int32 × Int32) : Option ((Int32 × Int32) ⊕ (Int32 × m_H)) :=
  m_b (m_gr hp x0 9 1) fun v1 =>
  m_b (m_ai hp 0 v1 2908) fun v3 =>
  m_if (v3 ≤ s.2) (
    some (.inr (s.1, hp))
  ) (
    m_b (F12_lacks x0 s.2 hp) fun v7 =>
    m_if (v7 ≤ 0) (
      some (.inl ((s.1 + 0), (s.2 + 1)))
    ) (
      some (.inl ((s.1 + 1), (s.2 + 1)))
    )
  )
noncomputable def F12_count_161 (x0 : Nat) (x2 : Int32) (x3 : Int32) (hp : m_H) : Option (Int32 × m_H) :=
  m_wh (fun s => F12_count_161b x0 hp s) m_N (x2, x3)
noncomputable def F12_count_208b (x0 : Nat) (hp : m_H) (s : Int32 × Int32) : Option ((Int32 × Int32) ⊕ (Int32 × m_H)) :=
  m_b (m_gr hp x0 9 1) fun v1 =>
  m_b (m_ai hp 0 v1 3209) fun v3 =>
  m_if (v3 ≤ s.2) (
    some (.inr (s.1, hp))
  ) (
    m_b (F12_its x0 s.2 2 hp) fun v7 =>
    m_if (v7 = 4) (
      some (.inl ((s.1 + 1), (s.2 + 1)))
    ) (
      some (.inl ((s.1 + 0), (s.2 + 1)))
    )
  )
noncomputable def F12_count_208 (x0 : Nat) (x2 : Int32) (x3 : Int32) (hp : m_H) : Option (Int32 × m_H) :=
  m_wh (fun s => F12_count_208b x0 hp s) m_N (x2, x3)
noncomputable def F12_count_248b (x0 : Nat) (hp : m_H) (s : Int32 × Int32) : Option ((Int32 × Int32) ⊕ (Int32 × m_H)) :=
  m_b (m_gr hp x0 9 1) fun v1 =>
  m_b (m_ai hp 0 v1 807) fun v3 =>
  m_if (v3 ≤ s.2) (
    some (.inr (s.1, hp))
  ) (
    m_b (F12_of x0 s.2 9 hp) fun v7 =>
    some (.inl ((s.1 + v7), (s.2 + 1)))
  )
noncomputable def F12_count_248 (x0 : Nat) (x2 : Int32) (x3 : Int32) (hp : m_H) : Option (Int32 × m_H) :=
  m_wh (fun s => F12_count_248b x0 hp s) m_N (x2, x3)
noncomputable def F12_count_20b (x0 : Nat) (x1 : Int32) (hp : m_H) (s : Int32 × Int32) : Option ((Int32 × Int32) ⊕ (Int32 × m_H)) :=
  m_b (m_gr hp x0 9 1) fun v1 =>
  m_b (m_ai hp 0 v1 807) fun v3 =>
  m_if (v3 ≤ s.2) (
    some (.inr (s.1, hp))
  ) (
    m_b (F12_of x0 s.2 ((10 + x1) - 12) hp) fun v7 =>
    some (.inl ((s.1 + v7), (s.2 + 1)))
  )
noncomputable def F12_count_20 (x0 : Nat) (x1 : Int32) (x2 : Int32) (x3 : Int32) (hp : m_H) : Option (Int32 × m_H) :=
  m_wh (fun s => F12_count_20b x0 x1 hp s) m_N (x2, x3)
noncomputable def F12_count_0 (x0 : Nat) (x1 : Int32) (hp : m_H) : Option (Int32 × m_H) :=
  m_b (m_pf m_ft hp x0 9 0 (.int 0)) fun h1 =>
  m_b (F12_in x1 12 20 h1) fun v4 =>
  m_if (v4 = 0) (
    m_swt (m_swi 0 11 x1) (
      some ((-1), h1)
    ) fun w6 =>
    m_if (w6 = 0) (
      m_b (F12_week x0 h1) fun v10 =>
      some (v10, h1)
    ) (
     m_if (w6 = 1) (
       m_b (m_gr h1 x0 9 1) fun v12 =>
       m_b (m_ai h1 0 v12 807) fun v14 =>
       some (v14, h1)
     ) (
      m_if (w6 = 2) (
        m_b (m_gr h1 x0 9 1) fun v17 =>
        m_b (m_ai h1 0 v17 1) fun v19 =>
        some (v19, h1)
      ) (
       m_if (w6 = 3) (
         m_b (m_gr h1 x0 9 1) fun v22 =>
         m_b (m_ai h1 0 v22 28326) fun v24 =>
         some (v24, h1)
       ) (
        m_if (w6 = 4) (
          m_b (F12_text x0 h1) fun v28 =>
          m_b (F12_linesOf x0 v28 h1) fun v30 =>
          some (v30, h1)
        ) (
         m_if (w6 = 5) (
           F12_count_161 x0 0 0 h1
         ) (
          m_if (w6 = 6) (
            m_b (m_gr h1 x0 9 1) fun v33 =>
            m_b (m_ai h1 0 v33 3209) fun v35 =>
            some (v35, h1)
          ) (
           m_if (w6 = 7) (
             F12_count_208 x0 0 0 h1
           ) (
            m_if (w6 = 8) (
              F12_count_248 x0 0 0 h1
            ) (
             m_if (w6 = 9) (
               m_b (m_gr h1 x0 9 1) fun v40 =>
               m_b (m_ai h1 0 v40 4168) fun v42 =>
               some (v42, h1)
             ) (
              m_if (w6 = 10) (
                m_b (m_gr h1 x0 9 1) fun v45 =>
                m_b (m_ai h1 0 v45 4) fun v47 =>
                some (v47, h1)
              ) (
               m_if (w6 = 11) (
                 m_b (m_gr h1 x0 9 1) fun v50 =>
                 m_b (m_ai h1 0 v50 3) fun v52 =>
                 some (v52, h1)
               ) (
                none
               )
              )
             )
            )
           )
          )
         )
        )
       )
      )
     )
    )
  ) (
    F12_count_20 x0 x1 0 0 h1
  )
noncomputable def F12_count (x0 : Nat) (x1 : Int32) (hp : m_H) : Option (Int32 × m_H) :=
  m_gd (m_isO hp 9 x0) (F12_count_0 x0 x1 hp)
noncomputable def F13_sort_0 (x0 : Nat) (x1 : Int32) (x2 : Int32) (x3 : Int32) (x4 : Int32) (x5 : Int32) (hp : m_H) : Option (Int32 × m_H) :=
  m_b (F11_sort x0 x1 x2 x3 x4 x5 hp) fun z2 =>
  m_sx z2.1 (fun _ =>
    some (0, z2.2)
  ) fun E4 =>
  m_if (E4 = 0) (
    some (1, z2.2)
  ) (
   m_if (E4 = 1) (
     some (2, z2.2)
   ) (
    none
   )
  )
noncomputable def F13_sort (x0 : Nat) (x1 : Int32) (x2 : Int32) (x3 : Int32) (x4 : Int32) (x5 : Int32) (hp : m_H) : Option (Int32 × m_H) :=
  F13_sort_0 x0 x1 x2 x3 x4 x5 hp
noncomputable def F13_price_0 (x0 : Nat) (x1 : Int32) (x2 : Int32) (x3 : Int32) (x4 : Nat) (hp : m_H) : Option (Int32 × m_H) :=
  m_b (F11_price x0 x1 x2 x3 hp) fun z2 =>
  m_sx z2.1 (fun v3 =>
    m_b (m_sl z2.2 x4 0 (m_i2l v3)) fun h7 =>
    some (0, h7)
  ) fun E5 =>
  m_if (E5 = 0) (
    some (1, z2.2)
  ) (
   m_if (E5 = 1) (
     some (2, z2.2)
   ) (
    none
   )
  )
noncomputable def F13_price (x0 : Nat) (x1 : Int32) (x2 : Int32) (x3 : Int32) (x4 : Nat) (hp : m_H) : Option (Int32 × m_H) :=
  F13_price_0 x0 x1 x2 x3 x4 hp
noncomputable def F13_cost_0 (x0 : Nat) (x1 : Int32) (x2 : Int32) (x3 : Nat) (hp : m_H) : Option (Int32 × m_H) :=
  m_b (F11_cost x0 x1 x2 hp) fun z2 =>
  m_sx z2.1 (fun v3 =>
    m_b (m_sl z2.2 x3 0 (m_i2l v3)) fun h7 =>
    some (0, h7)
  ) fun E5 =>
  m_if (E5 = 0) (
    some (1, z2.2)
  ) (
   none
  )
noncomputable def F13_cost (x0 : Nat) (x1 : Int32) (x2 : Int32) (x3 : Nat) (hp : m_H) : Option (Int32 × m_H) :=
  F13_cost_0 x0 x1 x2 x3 hp
noncomputable def F13_works_0 (x0 : Nat) (x1 : Int32) (x2 : Int32) (x3 : Nat) (hp : m_H) : Option (Int32 × m_H) :=
  m_b (F11_works x0 x1 x2 hp) fun z2 =>
  m_sx z2.1 (fun v3 =>
    m_b (m_sl z2.2 x3 0 (m_i2l v3)) fun h7 =>
    some (0, h7)
  ) fun E5 =>
  m_if (E5 = 1) (
    some (1, z2.2)
  ) (
   none
  )
noncomputable def F13_works (x0 : Nat) (x1 : Int32) (x2 : Int32) (x3 : Nat) (hp : m_H) : Option (Int32 × m_H) :=
  F13_works_0 x0 x1 x2 x3 hp
noncomputable def F13_order_0 (x0 : Nat) (x1 : Int32) (x2 : Int32) (x3 : Nat) (hp : m_H) : Option (Int32 × m_H) :=
  m_b (F11_order x0 x1 x2 hp) fun z2 =>
  m_sx z2.1 (fun v3 =>
    m_b (m_sl z2.2 x3 0 (m_i2l v3)) fun h7 =>
    some (0, h7)
  ) fun E5 =>
  m_if (E5 = 0) (
    some (1, z2.2)
  ) (
   m_if (E5 = 1) (
     some (2, z2.2)
   ) (
    m_if (E5 = 2) (
      some (3, z2.2)
    ) (
     m_if (E5 = 3) (
       some (4, z2.2)
     ) (
      none
     )
    )
   )
  )
noncomputable def F13_order (x0 : Nat) (x1 : Int32) (x2 : Int32) (x3 : Nat) (hp : m_H) : Option (Int32 × m_H) :=
  F13_order_0 x0 x1 x2 x3 hp
noncomputable def F13_lot_0 (x0 : Nat) (x1 : Int32) (x2 : Int32) (x3 : Nat) (hp : m_H) : Option (Int32 × m_H) :=
  m_b (F11_lot x0 x1 x2 hp) fun z2 =>
  m_sx z2.1 (fun v3 =>
    m_b (m_sl z2.2 x3 0 (m_i2l v3)) fun h7 =>
    some (0, h7)
  ) fun E5 =>
  m_if (E5 = 0) (
    some (1, z2.2)
  ) (
   m_if (E5 = 4) (
     some (2, z2.2)
   ) (
    none
   )
  )
noncomputable def F13_lot (x0 : Nat) (x1 : Int32) (x2 : Int32) (x3 : Nat) (hp : m_H) : Option (Int32 × m_H) :=
  F13_lot_0 x0 x1 x2 x3 hp
noncomputable def F13_act_0 (x0 : Nat) (x1 : Int32) (x2 : Nat) (hp : m_H) : Option (Int32 × m_H) :=
  m_b (F11_act x0 x1 hp) fun z2 =>
  m_sx z2.1 (fun v3 =>
    m_b (m_sl z2.2 x2 0 (m_i2l v3)) fun h7 =>
    some (0, h7)
  ) fun E5 =>
  m_if (E5 = 1) (
    some (1, z2.2)
  ) (
   m_if (E5 = 2) (
     some (2, z2.2)
   ) (
    none
   )
  )
noncomputable def F13_act (x0 : Nat) (x1 : Int32) (x2 : Nat) (hp : m_H) : Option (Int32 × m_H) :=
  F13_act_0 x0 x1 x2 hp
noncomputable def F13_ask_0 (x0 : Nat) (x1 : Int32) (x2 : Int32) (x3 : Int32) (x4 : Int32) (x5 : Nat) (hp : m_H) : Option (Int32 × m_H) :=
  m_b (F11_ask x0 x1 x2 x3 x4 hp) fun z2 =>
  m_sx z2.1 (fun v3 =>
    m_b (m_sl z2.2 x5 0 (m_i2l v3)) fun h7 =>
    some (0, h7)
  ) fun E5 =>
  m_if (E5 = 0) (
    some (1, z2.2)
  ) (
   m_if (E5 = 1) (
     some (2, z2.2)
   ) (
    m_if (E5 = 2) (
      some (3, z2.2)
    ) (
     none
    )
   )
  )
noncomputable def F13_ask (x0 : Nat) (x1 : Int32) (x2 : Int32) (x3 : Int32) (x4 : Int32) (x5 : Nat) (hp : m_H) : Option (Int32 × m_H) :=
  F13_ask_0 x0 x1 x2 x3 x4 x5 hp
noncomputable def F13_weigh_0 (x0 : Nat) (x1 : Int32) (x2 : Int32) (x3 : Nat) (hp : m_H) : Option (Int32 × m_H) :=
  m_b (F11_weigh x0 x1 x2 hp) fun z2 =>
  m_sx z2.1 (fun v3 =>
    m_b (m_sl z2.2 x3 0 (m_i2l v3)) fun h7 =>
    some (0, h7)
  ) fun E5 =>
  m_if (E5 = 0) (
    some (1, z2.2)
  ) (
   m_if (E5 = 4) (
     some (2, z2.2)
   ) (
    none
   )
  )
noncomputable def F13_weigh (x0 : Nat) (x1 : Int32) (x2 : Int32) (x3 : Nat) (hp : m_H) : Option (Int32 × m_H) :=
  F13_weigh_0 x0 x1 x2 x3 hp
noncomputable def F13_allot_0 (x0 : Nat) (x1 : Int32) (x2 : Nat) (hp : m_H) : Option (Int32 × m_H) :=
  m_b (F11_allot x0 x1 hp) fun z2 =>
  m_sx z2.1 (fun v3 =>
    m_b (m_sl z2.2 x2 0 (m_i2l v3)) fun h7 =>
    some (0, h7)
  ) fun E5 =>
  m_if (E5 = 0) (
    some (1, z2.2)
  ) (
   m_if (E5 = 3) (
     some (2, z2.2)
   ) (
    none
   )
  )
noncomputable def F13_allot (x0 : Nat) (x1 : Int32) (x2 : Nat) (hp : m_H) : Option (Int32 × m_H) :=
  F13_allot_0 x0 x1 x2 hp
noncomputable def F13_label_0 (x0 : Nat) (x1 : Int32) (x2 : Int32) (x3 : Nat) (hp : m_H) : Option (Int32 × m_H) :=
  m_b (F11_label x0 x1 x2 hp) fun z2 =>
  m_sx z2.1 (fun v3 =>
    m_if (v3 = 0) (
      m_b (m_sl z2.2 x3 0 0) fun h8 =>
      some (0, h8)
    ) (
      m_b (m_sl z2.2 x3 0 1) fun h10 =>
      some (0, h10)
    )
  ) fun E5 =>
  m_if (E5 = 0) (
    some (1, z2.2)
  ) (
   m_if (E5 = 1) (
     some (2, z2.2)
   ) (
    none
   )
  )
noncomputable def F13_label (x0 : Nat) (x1 : Int32) (x2 : Int32) (x3 : Nat) (hp : m_H) : Option (Int32 × m_H) :=
  F13_label_0 x0 x1 x2 x3 hp
noncomputable def F13_ship_0 (x0 : Nat) (x1 : Int32) (x2 : Int32) (x3 : Nat) (hp : m_H) : Option (Int32 × m_H) :=
  m_b (F11_ship x0 x1 x2 hp) fun z2 =>
  m_sx z2.1 (fun v3 =>
    m_b (m_sl z2.2 x3 0 (m_i2l v3)) fun h7 =>
    some (0, h7)
  ) fun E5 =>
  m_if (E5 = 1) (
    some (1, z2.2)
  ) (
   m_if (E5 = 2) (
     some (2, z2.2)
   ) (
    none
   )
  )
noncomputable def F13_ship (x0 : Nat) (x1 : Int32) (x2 : Int32) (x3 : Nat) (hp : m_H) : Option (Int32 × m_H) :=
  F13_ship_0 x0 x1 x2 x3 hp
noncomputable def F13_way_0 (x0 : Nat) (x1 : Int32) (x2 : Int32) (hp : m_H) : Option (Int32 × m_H) :=
  m_b (F11_way x0 x1 x2 hp) fun z2 =>
  m_sx z2.1 (fun _ =>
    some (0, z2.2)
  ) fun E4 =>
  m_if (E4 = 0) (
    some (1, z2.2)
  ) (
   m_if (E4 = 1) (
     some (2, z2.2)
   ) (
    none
   )
  )
noncomputable def F13_way (x0 : Nat) (x1 : Int32) (x2 : Int32) (hp : m_H) : Option (Int32 × m_H) :=
  F13_way_0 x0 x1 x2 hp
noncomputable def F13_risk_0 (x0 : Nat) (x1 : Int32) (x2 : Int32) (x3 : Int32) (x4 : Nat) (hp : m_H) : Option (Int32 × m_H) :=
  m_b (F11_risk x0 x1 x2 x3 hp) fun z2 =>
  m_sx z2.1 (fun v3 =>
    m_b (m_sl z2.2 x4 0 (m_i2l v3)) fun h7 =>
    some (0, h7)
  ) fun E5 =>
  m_if (E5 = 0) (
    some (1, z2.2)
  ) (
   m_if (E5 = 1) (
     some (2, z2.2)
   ) (
    none
   )
  )
noncomputable def F13_risk (x0 : Nat) (x1 : Int32) (x2 : Int32) (x3 : Int32) (x4 : Nat) (hp : m_H) : Option (Int32 × m_H) :=
  F13_risk_0 x0 x1 x2 x3 x4 hp
noncomputable def F13_load_0 (x0 : Nat) (x1 : Int32) (x2 : Int32) (x3 : Int32) (x4 : Nat) (hp : m_H) : Option (Int32 × m_H) :=
  m_b (F11_load x0 x1 x2 x3 hp) fun z2 =>
  m_sx z2.1 (fun v3 =>
    m_if (v3 = 0) (
      m_b (m_sl z2.2 x4 0 0) fun h8 =>
      some (0, h8)
    ) (
      m_b (m_sl z2.2 x4 0 1) fun h10 =>
      some (0, h10)
    )
  ) fun E5 =>
  m_if (E5 = 0) (
    some (1, z2.2)
  ) (
   m_if (E5 = 3) (
     some (2, z2.2)
   ) (
    none
   )
  )
noncomputable def F13_load (x0 : Nat) (x1 : Int32) (x2 : Int32) (x3 : Int32) (x4 : Nat) (hp : m_H) : Option (Int32 × m_H) :=
  F13_load_0 x0 x1 x2 x3 x4 hp
noncomputable def F13_sail_0 (x0 : Nat) (x1 : Int32) (x2 : Int32) (x3 : Nat) (hp : m_H) : Option (Int32 × m_H) :=
  m_b (F11_sail x0 x1 x2 hp) fun z2 =>
  m_sx z2.1 (fun v3 =>
    m_if (v3 = 0) (
      m_b (m_sl z2.2 x3 0 0) fun h8 =>
      some (0, h8)
    ) (
      m_b (m_sl z2.2 x3 0 1) fun h10 =>
      some (0, h10)
    )
  ) fun E5 =>
  m_if (E5 = 0) (
    some (1, z2.2)
  ) (
   m_if (E5 = 3) (
     some (2, z2.2)
   ) (
    none
   )
  )
noncomputable def F13_sail (x0 : Nat) (x1 : Int32) (x2 : Int32) (x3 : Nat) (hp : m_H) : Option (Int32 × m_H) :=
  F13_sail_0 x0 x1 x2 x3 hp
noncomputable def F13_led_0 (x0 : Nat) (x1 : Int32) (x2 : Int32) (x3 : Nat) (hp : m_H) : Option (Int32 × m_H) :=
  m_b (F11_led x0 x1 x2 hp) fun z2 =>
  m_sx z2.1 (fun v3 =>
    m_b (m_sl z2.2 x3 0 (m_i2l v3)) fun h7 =>
    some (0, h7)
  ) fun E5 =>
  m_if (E5 = 0) (
    some (1, z2.2)
  ) (
   m_if (E5 = 4) (
     some (2, z2.2)
   ) (
    none
   )
  )
noncomputable def F13_led (x0 : Nat) (x1 : Int32) (x2 : Int32) (x3 : Nat) (hp : m_H) : Option (Int32 × m_H) :=
  F13_led_0 x0 x1 x2 x3 hp
noncomputable def F13_need_0 (x0 : Nat) (x1 : Int32) (x2 : Int32) (x3 : Int32) (hp : m_H) : Option (Int32 × m_H) :=
  m_b (F11_need x0 x1 x2 x3 hp) fun z2 =>
  m_sx z2.1 (fun _ =>
    some (0, z2.2)
  ) fun E4 =>
  m_if (E4 = 0) (
    some (1, z2.2)
  ) (
   m_if (E4 = 1) (
     some (2, z2.2)
   ) (
    none
   )
  )
noncomputable def F13_need (x0 : Nat) (x1 : Int32) (x2 : Int32) (x3 : Int32) (hp : m_H) : Option (Int32 × m_H) :=
  F13_need_0 x0 x1 x2 x3 hp
noncomputable def F13_weeks_0 (x0 : Nat) (x1 : Int32) (x2 : Nat) (hp : m_H) : Option (Int32 × m_H) :=
  m_b (F11_weeks x0 x1 hp) fun z2 =>
  m_sx z2.1 (fun v3 =>
    m_b (m_sl z2.2 x2 0 (m_i2l v3)) fun h7 =>
    some (0, h7)
  ) fun E5 =>
  m_if (E5 = 1) (
    some (1, z2.2)
  ) (
   none
  )
noncomputable def F13_weeks (x0 : Nat) (x1 : Int32) (x2 : Nat) (hp : m_H) : Option (Int32 × m_H) :=
  F13_weeks_0 x0 x1 x2 hp
noncomputable def F13_give_0 (x0 : Nat) (x1 : Int32) (x2 : Int32) (x3 : Int32) (x4 : Int32) (x5 : Nat) (hp : m_H) : Option (Int32 × m_H) :=
  m_b (F11_give x0 x1 x2 x3 x4 hp) fun z2 =>
  m_sx z2.1 (fun v3 =>
    m_b (m_sl z2.2 x5 0 (m_i2l v3)) fun h7 =>
    some (0, h7)
  ) fun E5 =>
  m_if (E5 = 0) (
    some (1, z2.2)
  ) (
   m_if (E5 = 3) (
     some (2, z2.2)
   ) (
    none
   )
  )
noncomputable def F13_give (x0 : Nat) (x1 : Int32) (x2 : Int32) (x3 : Int32) (x4 : Int32) (x5 : Nat) (hp : m_H) : Option (Int32 × m_H) :=
  F13_give_0 x0 x1 x2 x3 x4 x5 hp
noncomputable def F13_back_0 (x0 : Nat) (x1 : Int32) (x2 : Int32) (x3 : Int32) (x4 : Nat) (hp : m_H) : Option (Int32 × m_H) :=
  m_b (F11_back x0 x1 x2 x3 hp) fun z2 =>
  m_sx z2.1 (fun v3 =>
    m_b (m_sl z2.2 x4 0 (m_i2l v3)) fun h7 =>
    some (0, h7)
  ) fun E5 =>
  m_if (E5 = 0) (
    some (1, z2.2)
  ) (
   m_if (E5 = 1) (
     some (2, z2.2)
   ) (
    m_if (E5 = 2) (
      some (3, z2.2)
    ) (
     m_if (E5 = 3) (
       some (4, z2.2)
     ) (
      none
     )
    )
   )
  )
noncomputable def F13_back (x0 : Nat) (x1 : Int32) (x2 : Int32) (x3 : Int32) (x4 : Nat) (hp : m_H) : Option (Int32 × m_H) :=
  F13_back_0 x0 x1 x2 x3 x4 hp
noncomputable def F13_land_0 (x0 : Nat) (x1 : Int32) (x2 : Int32) (x3 : Nat) (hp : m_H) : Option (Int32 × m_H) :=
  m_b (F11_land x0 x1 x2 hp) fun z2 =>
  m_sx z2.1 (fun v3 =>
    m_b (m_sl z2.2 x3 0 v3) fun h7 =>
    some (0, h7)
  ) fun E5 =>
  m_if (E5 = 0) (
    some (1, z2.2)
  ) (
   m_if (E5 = 1) (
     some (2, z2.2)
   ) (
    m_if (E5 = 4) (
      some (3, z2.2)
    ) (
     none
    )
   )
  )
noncomputable def F13_land (x0 : Nat) (x1 : Int32) (x2 : Int32) (x3 : Nat) (hp : m_H) : Option (Int32 × m_H) :=
  F13_land_0 x0 x1 x2 x3 hp
noncomputable def F13_balance_0 (x0 : Nat) (x1 : Int32) (x2 : Int32) (x3 : Int32) (x4 : Nat) (hp : m_H) : Option (Int32 × m_H) :=
  m_b (F11_balance x0 x1 x2 x3 hp) fun z2 =>
  m_sx z2.1 (fun v3 =>
    m_b (m_sl z2.2 x4 0 v3) fun h7 =>
    some (0, h7)
  ) fun E5 =>
  m_if (E5 = 0) (
    some (1, z2.2)
  ) (
   m_if (E5 = 1) (
     some (2, z2.2)
   ) (
    m_if (E5 = 4) (
      some (3, z2.2)
    ) (
     none
    )
   )
  )
noncomputable def F13_balance (x0 : Nat) (x1 : Int32) (x2 : Int32) (x3 : Int32) (x4 : Nat) (hp : m_H) : Option (Int32 × m_H) :=
  F13_balance_0 x0 x1 x2 x3 x4 hp
noncomputable def F13_returned_0 (x0 : Nat) (x1 : Int32) (x2 : Int32) (x3 : Int32) (x4 : Int32) (x5 : Nat) (hp : m_H) : Option (Int32 × m_H) :=
  m_b (F11_returned x0 x1 x2 x3 x4 hp) fun z2 =>
  m_sx z2.1 (fun v3 =>
    m_b (m_sl z2.2 x5 0 (m_i2l v3)) fun h7 =>
    some (0, h7)
  ) fun E5 =>
  m_if (E5 = 0) (
    some (1, z2.2)
  ) (
   m_if (E5 = 1) (
     some (2, z2.2)
   ) (
    none
   )
  )
noncomputable def F13_returned (x0 : Nat) (x1 : Int32) (x2 : Int32) (x3 : Int32) (x4 : Int32) (x5 : Nat) (hp : m_H) : Option (Int32 × m_H) :=
  F13_returned_0 x0 x1 x2 x3 x4 x5 hp
noncomputable def F13_mustBe_0 (x0 : Nat) (x1 : Int32) (x2 : Int32) (x3 : Int32) (x4 : Nat) (hp : m_H) : Option (Int32 × m_H) :=
  m_b (F11_mustBe x0 x1 x2 x3 hp) fun z2 =>
  m_sx z2.1 (fun v3 =>
    m_b (m_sl z2.2 x4 0 (m_i2l v3)) fun h7 =>
    some (0, h7)
  ) fun E5 =>
  m_if (E5 = 0) (
    some (1, z2.2)
  ) (
   m_if (E5 = 1) (
     some (2, z2.2)
   ) (
    none
   )
  )
noncomputable def F13_mustBe (x0 : Nat) (x1 : Int32) (x2 : Int32) (x3 : Int32) (x4 : Nat) (hp : m_H) : Option (Int32 × m_H) :=
  F13_mustBe_0 x0 x1 x2 x3 x4 hp
noncomputable def F13_seen_0 (x0 : Nat) (x1 : Int32) (x2 : Int32) (x3 : Int32) (x4 : Nat) (hp : m_H) : Option (Int32 × m_H) :=
  m_b (F11_seen x0 x1 x2 x3 hp) fun z2 =>
  m_sx z2.1 (fun v3 =>
    m_b (m_sl z2.2 x4 0 (m_i2l v3)) fun h7 =>
    some (0, h7)
  ) fun E5 =>
  m_if (E5 = 0) (
    some (1, z2.2)
  ) (
   m_if (E5 = 1) (
     some (2, z2.2)
   ) (
    none
   )
  )
noncomputable def F13_seen (x0 : Nat) (x1 : Int32) (x2 : Int32) (x3 : Int32) (x4 : Nat) (hp : m_H) : Option (Int32 × m_H) :=
  F13_seen_0 x0 x1 x2 x3 x4 hp
noncomputable def F13_whence_0 (x0 : Nat) (x1 : Int32) (x2 : Int32) (x3 : Int32) (x4 : Nat) (hp : m_H) : Option (Int32 × m_H) :=
  m_b (F11_whence x0 x1 x2 x3 hp) fun z2 =>
  m_sx z2.1 (fun v3 =>
    m_b (m_sl z2.2 x4 0 (m_i2l v3)) fun h7 =>
    some (0, h7)
  ) fun E5 =>
  m_if (E5 = 0) (
    some (1, z2.2)
  ) (
   m_if (E5 = 1) (
     some (2, z2.2)
   ) (
    none
   )
  )
noncomputable def F13_whence (x0 : Nat) (x1 : Int32) (x2 : Int32) (x3 : Int32) (x4 : Nat) (hp : m_H) : Option (Int32 × m_H) :=
  F13_whence_0 x0 x1 x2 x3 x4 hp
noncomputable def F13_rock_0 (x0 : Nat) (x1 : Int32) (x2 : Int32) (x3 : Int32) (x4 : Int32) (x5 : Nat) (hp : m_H) : Option (Int32 × m_H) :=
  m_b (F11_rock x0 x1 x2 x3 x4 hp) fun z2 =>
  m_sx z2.1 (fun v3 =>
    m_b (m_sl z2.2 x5 0 (m_i2l v3)) fun h7 =>
    some (0, h7)
  ) fun E5 =>
  m_if (E5 = 0) (
    some (1, z2.2)
  ) (
   m_if (E5 = 1) (
     some (2, z2.2)
   ) (
    m_if (E5 = 2) (
      some (3, z2.2)
    ) (
     none
    )
   )
  )
noncomputable def F13_rock (x0 : Nat) (x1 : Int32) (x2 : Int32) (x3 : Int32) (x4 : Int32) (x5 : Nat) (hp : m_H) : Option (Int32 × m_H) :=
  F13_rock_0 x0 x1 x2 x3 x4 x5 hp
noncomputable def F13_net_0 (x0 : Nat) (x1 : Int32) (x2 : Nat) (hp : m_H) : Option (Int32 × m_H) :=
  m_b (F11_net x0 x1 hp) fun z2 =>
  m_sx z2.1 (fun v3 =>
    m_b (m_sl z2.2 x2 0 (m_i2l v3)) fun h7 =>
    some (0, h7)
  ) fun E5 =>
  m_if (E5 = 0) (
    some (1, z2.2)
  ) (
   none
  )
noncomputable def F13_net (x0 : Nat) (x1 : Int32) (x2 : Nat) (hp : m_H) : Option (Int32 × m_H) :=
  F13_net_0 x0 x1 x2 hp
noncomputable def F13_tons_0 (x0 : Nat) (x1 : Int32) (x2 : Int32) (hp : m_H) : Option (Int32 × m_H) :=
  m_b (F11_tons x0 x1 x2 hp) fun z2 =>
  m_sx z2.1 (fun _ =>
    some (0, z2.2)
  ) fun E4 =>
  m_if (E4 = 0) (
    some (1, z2.2)
  ) (
   m_if (E4 = 1) (
     some (2, z2.2)
   ) (
    none
   )
  )
noncomputable def F13_tons (x0 : Nat) (x1 : Int32) (x2 : Int32) (hp : m_H) : Option (Int32 × m_H) :=
  F13_tons_0 x0 x1 x2 hp
noncomputable def F13_page_0 (x0 : Nat) (x1 : Int32) (x2 : Int32) (x3 : Nat) (hp : m_H) : Option (Int32 × m_H) :=
  m_b (F11_page x0 x1 x2 hp) fun z2 =>
  m_sx z2.1 (fun v3 =>
    m_b (m_sl z2.2 x3 0 (m_i2l v3)) fun h7 =>
    some (0, h7)
  ) fun E5 =>
  m_if (E5 = 1) (
    some (1, z2.2)
  ) (
   none
  )
noncomputable def F13_page (x0 : Nat) (x1 : Int32) (x2 : Int32) (x3 : Nat) (hp : m_H) : Option (Int32 × m_H) :=
  F13_page_0 x0 x1 x2 x3 hp
noncomputable def F13_choice_0 (x0 : Nat) (x1 : Int32) (x2 : Int32) (x3 : Int32) (x4 : Int32) (x5 : Nat) (hp : m_H) : Option (Int32 × m_H) :=
  m_b (F11_choice x0 x1 x2 x3 x4 hp) fun z2 =>
  m_sx z2.1 (fun v3 =>
    m_b (m_sl z2.2 x5 0 (m_i2l v3)) fun h7 =>
    some (0, h7)
  ) fun E5 =>
  m_if (E5 = 1) (
    some (1, z2.2)
  ) (
   none
  )
noncomputable def F13_choice (x0 : Nat) (x1 : Int32) (x2 : Int32) (x3 : Int32) (x4 : Int32) (x5 : Nat) (hp : m_H) : Option (Int32 × m_H) :=
  F13_choice_0 x0 x1 x2 x3 x4 x5 hp
noncomputable def F13_row_0 (x0 : Nat) (x1 : Int32) (x2 : Int32) (x3 : Int32) (x4 : Int32) (x5 : Int32) (hp : m_H) : Option (Int32 × m_H) :=
  m_b (F11_row x0 x1 x2 x3 x4 x5 hp) fun z2 =>
  m_sx z2.1 (fun _ =>
    some (0, z2.2)
  ) fun E4 =>
  m_if (E4 = 1) (
    some (1, z2.2)
  ) (
   none
  )
noncomputable def F13_row (x0 : Nat) (x1 : Int32) (x2 : Int32) (x3 : Int32) (x4 : Int32) (x5 : Int32) (hp : m_H) : Option (Int32 × m_H) :=
  F13_row_0 x0 x1 x2 x3 x4 x5 hp
noncomputable def F13_cash_0 (x0 : Nat) (x1 : Int32) (x2 : Int32) (x3 : Int32) (x4 : Int32) (x5 : Int32) (x6 : Nat) (hp : m_H) : Option (Int32 × m_H) :=
  m_b (F11_cash x0 x1 x2 x3 x4 x5 hp) fun z2 =>
  m_sx z2.1 (fun v3 =>
    m_b (m_sl z2.2 x6 0 (m_i2l v3)) fun h7 =>
    some (0, h7)
  ) fun E5 =>
  m_if (E5 = 1) (
    some (1, z2.2)
  ) (
   none
  )
noncomputable def F13_cash (x0 : Nat) (x1 : Int32) (x2 : Int32) (x3 : Int32) (x4 : Int32) (x5 : Int32) (x6 : Nat) (hp : m_H) : Option (Int32 × m_H) :=
  F13_cash_0 x0 x1 x2 x3 x4 x5 x6 hp
noncomputable def F13_tear_0 (x0 : Nat) (x1 : Int32) (x2 : Int32) (x3 : Nat) (hp : m_H) : Option (Int32 × m_H) :=
  m_b (F11_tear x0 x1 x2 hp) fun z2 =>
  m_sx z2.1 (fun v3 =>
    m_b (m_sl z2.2 x3 0 (m_i2l v3)) fun h7 =>
    some (0, h7)
  ) fun E5 =>
  m_if (E5 = 4) (
    some (1, z2.2)
  ) (
   none
  )
noncomputable def F13_tear (x0 : Nat) (x1 : Int32) (x2 : Int32) (x3 : Nat) (hp : m_H) : Option (Int32 × m_H) :=
  F13_tear_0 x0 x1 x2 x3 hp
noncomputable def F13_law_1133 (xs : Nat → Int32) (L : Nat) (x1 : Nat) (x2 : Nat) (x3 : Nat) (x4 : Int32) (s0 : Int64) (s1 : Int64) (hp : m_H) : Option ((Int32 × m_H) ⊕ (Int32 × m_H)) :=
  m_if ((lg_cmp s1 s0) = 0) (
    some (.inl ((x4 + 6), hp))
  ) (
    some (.inr (0, hp))
  )
noncomputable def F13_law_1416 (xs : Nat → Int32) (L : Nat) (x1 : Nat) (x2 : Nat) (x3 : Nat) (x4 : Int32) (s0 : Int64) (s1 : Int64) (hp : m_H) : Option ((Int32 × m_H) ⊕ (Int32 × m_H)) :=
  m_if ((lg_cmp s1 s0) = 0) (
    some (.inl ((x4 + 6), hp))
  ) (
    some (.inr (0, hp))
  )
noncomputable def F13_law_1491 (xs : Nat → Int32) (L : Nat) (x1 : Nat) (x2 : Nat) (x3 : Nat) (x4 : Int32) (s0 : Int64) (s1 : Int64) (hp : m_H) : Option ((Int32 × m_H) ⊕ (Int32 × m_H)) :=
  m_if ((lg_cmp s1 s0) = 0) (
    some (.inl ((x4 + 6), hp))
  ) (
    some (.inr (0, hp))
  )
noncomputable def F13_law_1756 (xs : Nat → Int32) (L : Nat) (x1 : Nat) (x2 : Nat) (x3 : Nat) (x4 : Int32) (x5 : Int32) (s0 : Int32) (s1 : Int32) (s2 : Int32) (s3 : Int32) (s4 : Nat) (hp : m_H) : Option ((Int32 × m_H) ⊕ (Int32 × m_H)) :=
  m_b (F12_give s4 s3 s2 s1 s0 hp) fun z2 =>
  m_b (F12_thrown x2 z2.2) fun v4 =>
  m_if (v4 = x5) (
    m_if (x5 = 0) (
      m_b (m_al z2.2 x3 0) fun v7 =>
      m_if ((lg_cmp v7 (m_i2l z2.1)) = 0) (
        some (.inl ((x4 + 6), z2.2))
      ) (
        some (.inr (0, z2.2))
      )
    ) (
      some (.inl ((x4 + 6), z2.2))
    )
  ) (
    some (.inr (0, z2.2))
  )
noncomputable def F13_law_1717 (xs : Nat → Int32) (L : Nat) (x1 : Nat) (x2 : Nat) (x3 : Nat) (x4 : Int32) (s0 : Int32) (s1 : Int32) (s2 : Int32) (s3 : Int32) (s4 : Nat) (hp : m_H) : Option ((Int32 × m_H) ⊕ (Int32 × m_H)) :=
  m_b (F13_give s4 s3 s2 s1 s0 x3 hp) fun z2 =>
  m_b (m_sc xs L (x4 + 1)) fun v3 =>
  m_b (m_sc xs L (x4 + 2)) fun v5 =>
  m_b (m_sc xs L (x4 + 3)) fun v7 =>
  m_b (m_sc xs L (x4 + 4)) fun v9 =>
  m_if (v9 = 0) (
    F13_law_1756 xs L x1 x2 x3 x4 z2.1 0 v7 v5 v3 x2 z2.2
  ) (
    F13_law_1756 xs L x1 x2 x3 x4 z2.1 1 v7 v5 v3 x2 z2.2
  )
noncomputable def F13_law_2330 (xs : Nat → Int32) (L : Nat) (x1 : Nat) (x2 : Nat) (x3 : Nat) (x4 : Int32) (x5 : Int32) (s0 : Int32) (s1 : Int32) (s2 : Int32) (s3 : Nat) (hp : m_H) : Option ((Int32 × m_H) ⊕ (Int32 × m_H)) :=
  m_b (F12_whence s3 s2 s1 s0 hp) fun z2 =>
  m_b (F12_thrown x2 z2.2) fun v4 =>
  m_if (v4 = x5) (
    m_if (x5 = 0) (
      m_b (m_al z2.2 x3 0) fun v7 =>
      m_if ((lg_cmp v7 (m_i2l z2.1)) = 0) (
        some (.inl ((x4 + 6), z2.2))
      ) (
        some (.inr (0, z2.2))
      )
    ) (
      some (.inl ((x4 + 6), z2.2))
    )
  ) (
    some (.inr (0, z2.2))
  )
noncomputable def F13_law_2297 (xs : Nat → Int32) (L : Nat) (x1 : Nat) (x2 : Nat) (x3 : Nat) (x4 : Int32) (s0 : Int32) (s1 : Int32) (s2 : Int32) (s3 : Nat) (hp : m_H) : Option ((Int32 × m_H) ⊕ (Int32 × m_H)) :=
  m_b (F13_whence s3 s2 s1 s0 x3 hp) fun z2 =>
  m_b (m_sc xs L (x4 + 1)) fun v3 =>
  m_b (m_sc xs L (x4 + 2)) fun v5 =>
  m_b (m_sc xs L (x4 + 3)) fun v7 =>
  m_if (v7 = 0) (
    F13_law_2330 xs L x1 x2 x3 x4 z2.1 0 v5 v3 x2 z2.2
  ) (
    F13_law_2330 xs L x1 x2 x3 x4 z2.1 1 v5 v3 x2 z2.2
  )
noncomputable def F13_law_23b (xs : Nat → Int32) (L : Nat) (x1 : Nat) (x2 : Nat) (x3 : Nat) (s : Int32 × m_H) : Option ((Int32 × m_H) ⊕ (Int32 × m_H)) :=
  m_if (((Int32.ofNat L) - 6) < s.1) (
    some (.inr (1, s.2))
  ) (
    m_b (m_sc xs L s.1) fun v2 =>
    m_swt (m_swi 0 47 (v2 &&& 63)) (
      some (.inl ((s.1 + 6), s.2))
    ) fun w4 =>
    m_if (w4 = 0) (
      m_b (m_sc xs L (s.1 + 1)) fun v7 =>
      m_b (m_sc xs L (s.1 + 2)) fun v9 =>
      m_b (m_sc xs L (s.1 + 3)) fun v11 =>
      m_b (m_sc xs L (s.1 + 4)) fun v13 =>
      m_b (m_sc xs L (s.1 + 5)) fun v15 =>
      m_b (F11_feed x1 v7 v9 v11 v13 v15 s.2) fun z18 =>
      m_b (m_sc xs L (s.1 + 1)) fun v19 =>
      m_b (m_sc xs L (s.1 + 2)) fun v21 =>
      m_b (m_sc xs L (s.1 + 3)) fun v23 =>
      m_b (m_sc xs L (s.1 + 4)) fun v25 =>
      m_b (m_sc xs L (s.1 + 5)) fun v27 =>
      m_b (F12_feed x2 v19 v21 v23 v25 v27 z18.2) fun z30 =>
      m_if (z18.1 = z30.1) (
        some (.inl ((s.1 + 6), z30.2))
      ) (
        some (.inr (0, z30.2))
      )
    ) (
     m_if (w4 = 1) (
       m_b (m_sc xs L (s.1 + 1)) fun v33 =>
       m_b (F11_end x1 v33 s.2) fun z36 =>
       m_b (m_sc xs L (s.1 + 1)) fun v37 =>
       m_b (F12_end x2 v37 z36.2) fun z40 =>
       m_if (z36.1 = z40.1) (
         some (.inl ((s.1 + 6), z40.2))
       ) (
         some (.inr (0, z40.2))
       )
     ) (
      m_if (w4 = 2) (
        m_b (m_sc xs L (s.1 + 1)) fun v43 =>
        m_b (m_sc xs L (s.1 + 2)) fun v45 =>
        m_b (m_sc xs L (s.1 + 3)) fun v47 =>
        m_b (m_sc xs L (s.1 + 4)) fun v49 =>
        m_b (m_sc xs L (s.1 + 5)) fun v51 =>
        m_b (F13_sort x1 v43 v45 v47 v49 v51 s.2) fun z54 =>
        m_b (m_sc xs L (s.1 + 1)) fun v55 =>
        m_b (m_sc xs L (s.1 + 2)) fun v57 =>
        m_b (m_sc xs L (s.1 + 3)) fun v59 =>
        m_b (m_sc xs L (s.1 + 4)) fun v61 =>
        m_b (m_sc xs L (s.1 + 5)) fun v63 =>
        m_b (F12_sort x2 v55 v57 v59 v61 v63 z54.2) fun h66 =>
        m_b (F12_thrown x2 h66) fun v68 =>
        m_if (v68 = z54.1) (
          some (.inl ((s.1 + 6), h66))
        ) (
          some (.inr (0, h66))
        )
      ) (
       m_if (w4 = 3) (
         m_b (m_sc xs L (s.1 + 1)) fun v71 =>
         m_b (m_sc xs L (s.1 + 2)) fun v73 =>
         m_b (m_sc xs L (s.1 + 3)) fun v75 =>
         m_b (F13_price x1 v71 v73 v75 x3 s.2) fun z78 =>
         m_b (m_sc xs L (s.1 + 1)) fun v79 =>
         m_b (m_sc xs L (s.1 + 2)) fun v81 =>
         m_b (m_sc xs L (s.1 + 3)) fun v83 =>
         m_b (F12_price x2 v79 v81 v83 z78.2) fun z86 =>
         m_b (F12_thrown x2 z86.2) fun v88 =>
         m_if (v88 = z78.1) (
           m_if (z78.1 = 0) (
             m_b (m_al z86.2 x3 0) fun v91 =>
             m_if ((lg_cmp v91 (m_i2l z86.1)) = 0) (
               some (.inl ((s.1 + 6), z86.2))
             ) (
               some (.inr (0, z86.2))
             )
           ) (
             some (.inl ((s.1 + 6), z86.2))
           )
         ) (
           some (.inr (0, z86.2))
         )
       ) (
        m_if (w4 = 4) (
          m_b (m_sc xs L (s.1 + 1)) fun v95 =>
          m_b (m_sc xs L (s.1 + 2)) fun v97 =>
          m_b (F13_cost x1 v95 v97 x3 s.2) fun z100 =>
          m_b (m_sc xs L (s.1 + 1)) fun v101 =>
          m_b (m_sc xs L (s.1 + 2)) fun v103 =>
          m_b (F12_cost x2 v101 v103 z100.2) fun z106 =>
          m_b (F12_thrown x2 z106.2) fun v108 =>
          m_if (v108 = z100.1) (
            m_if (z100.1 = 0) (
              m_b (m_al z106.2 x3 0) fun v111 =>
              m_if ((lg_cmp v111 (m_i2l z106.1)) = 0) (
                some (.inl ((s.1 + 6), z106.2))
              ) (
                some (.inr (0, z106.2))
              )
            ) (
              some (.inl ((s.1 + 6), z106.2))
            )
          ) (
            some (.inr (0, z106.2))
          )
        ) (
         m_if (w4 = 5) (
           m_b (m_sc xs L (s.1 + 1)) fun v115 =>
           m_b (m_sc xs L (s.1 + 2)) fun v117 =>
           m_b (F13_works x1 v115 v117 x3 s.2) fun z120 =>
           m_b (m_sc xs L (s.1 + 1)) fun v121 =>
           m_b (m_sc xs L (s.1 + 2)) fun v123 =>
           m_b (F12_works x2 v121 v123 z120.2) fun z126 =>
           m_b (F12_thrown x2 z126.2) fun v128 =>
           m_if (v128 = z120.1) (
             m_if (z120.1 = 0) (
               m_b (m_al z126.2 x3 0) fun v131 =>
               m_if ((lg_cmp v131 (m_i2l z126.1)) = 0) (
                 some (.inl ((s.1 + 6), z126.2))
               ) (
                 some (.inr (0, z126.2))
               )
             ) (
               some (.inl ((s.1 + 6), z126.2))
             )
           ) (
             some (.inr (0, z126.2))
           )
         ) (
          m_if (w4 = 6) (
            m_b (m_sc xs L (s.1 + 1)) fun v135 =>
            m_b (m_sc xs L (s.1 + 2)) fun v137 =>
            m_b (F13_order x1 v135 v137 x3 s.2) fun z140 =>
            m_b (m_sc xs L (s.1 + 1)) fun v141 =>
            m_b (m_sc xs L (s.1 + 2)) fun v143 =>
            m_b (F12_order x2 v141 v143 z140.2) fun z146 =>
            m_b (F12_thrown x2 z146.2) fun v148 =>
            m_if (v148 = z140.1) (
              m_if (z140.1 = 0) (
                m_b (m_al z146.2 x3 0) fun v151 =>
                m_if ((lg_cmp v151 (m_i2l z146.1)) = 0) (
                  some (.inl ((s.1 + 6), z146.2))
                ) (
                  some (.inr (0, z146.2))
                )
              ) (
                some (.inl ((s.1 + 6), z146.2))
              )
            ) (
              some (.inr (0, z146.2))
            )
          ) (
           m_if (w4 = 7) (
             m_b (m_sc xs L (s.1 + 1)) fun v155 =>
             m_b (m_sc xs L (s.1 + 2)) fun v157 =>
             m_b (F13_lot x1 v155 v157 x3 s.2) fun z160 =>
             m_b (m_sc xs L (s.1 + 1)) fun v161 =>
             m_b (m_sc xs L (s.1 + 2)) fun v163 =>
             m_b (F12_lot x2 v161 v163 z160.2) fun z166 =>
             m_b (F12_thrown x2 z166.2) fun v168 =>
             m_if (v168 = z160.1) (
               m_if (z160.1 = 0) (
                 m_b (m_al z166.2 x3 0) fun v171 =>
                 m_if ((lg_cmp v171 (m_i2l z166.1)) = 0) (
                   some (.inl ((s.1 + 6), z166.2))
                 ) (
                   some (.inr (0, z166.2))
                 )
               ) (
                 some (.inl ((s.1 + 6), z166.2))
               )
             ) (
               some (.inr (0, z166.2))
             )
           ) (
            m_if (w4 = 8) (
              m_b (m_sc xs L (s.1 + 1)) fun v175 =>
              m_b (F13_act x1 v175 x3 s.2) fun z178 =>
              m_b (m_sc xs L (s.1 + 1)) fun v179 =>
              m_b (F12_act x2 v179 z178.2) fun z182 =>
              m_b (F12_thrown x2 z182.2) fun v184 =>
              m_if (v184 = z178.1) (
                m_if (z178.1 = 0) (
                  m_b (m_al z182.2 x3 0) fun v187 =>
                  m_if ((lg_cmp v187 (m_i2l z182.1)) = 0) (
                    some (.inl ((s.1 + 6), z182.2))
                  ) (
                    some (.inr (0, z182.2))
                  )
                ) (
                  some (.inl ((s.1 + 6), z182.2))
                )
              ) (
                some (.inr (0, z182.2))
              )
            ) (
             m_if (w4 = 9) (
               m_b (F11_fault x1 s.2) fun v192 =>
               m_b (F12_fault x2 s.2) fun z194 =>
               m_if (v192 = z194.1) (
                 some (.inl ((s.1 + 6), z194.2))
               ) (
                 some (.inr (0, z194.2))
               )
             ) (
              m_if (w4 = 10) (
                m_b (m_sc xs L (s.1 + 1)) fun v197 =>
                m_b (m_sc xs L (s.1 + 2)) fun v199 =>
                m_b (m_sc xs L (s.1 + 3)) fun v201 =>
                m_b (m_sc xs L (s.1 + 4)) fun v203 =>
                m_b (F13_ask x1 v197 v199 v201 v203 x3 s.2) fun z206 =>
                m_b (m_sc xs L (s.1 + 1)) fun v207 =>
                m_b (m_sc xs L (s.1 + 2)) fun v209 =>
                m_b (m_sc xs L (s.1 + 3)) fun v211 =>
                m_b (m_sc xs L (s.1 + 4)) fun v213 =>
                m_b (F12_ask x2 v207 v209 v211 v213 z206.2) fun z216 =>
                m_b (F12_thrown x2 z216.2) fun v218 =>
                m_if (v218 = z206.1) (
                  m_if (z206.1 = 0) (
                    m_b (m_al z216.2 x3 0) fun v221 =>
                    m_if ((lg_cmp v221 (m_i2l z216.1)) = 0) (
                      some (.inl ((s.1 + 6), z216.2))
                    ) (
                      some (.inr (0, z216.2))
                    )
                  ) (
                    some (.inl ((s.1 + 6), z216.2))
                  )
                ) (
                  some (.inr (0, z216.2))
                )
              ) (
               m_if (w4 = 11) (
                 m_b (m_sc xs L (s.1 + 1)) fun v225 =>
                 m_b (m_sc xs L (s.1 + 2)) fun v227 =>
                 m_b (F13_weigh x1 v225 v227 x3 s.2) fun z230 =>
                 m_b (m_sc xs L (s.1 + 1)) fun v231 =>
                 m_b (m_sc xs L (s.1 + 2)) fun v233 =>
                 m_b (F12_weigh x2 v231 v233 z230.2) fun z236 =>
                 m_b (F12_thrown x2 z236.2) fun v238 =>
                 m_if (v238 = z230.1) (
                   m_if (z230.1 = 0) (
                     m_b (m_al z236.2 x3 0) fun v241 =>
                     m_if ((lg_cmp v241 (m_i2l z236.1)) = 0) (
                       some (.inl ((s.1 + 6), z236.2))
                     ) (
                       some (.inr (0, z236.2))
                     )
                   ) (
                     some (.inl ((s.1 + 6), z236.2))
                   )
                 ) (
                   some (.inr (0, z236.2))
                 )
               ) (
                m_if (w4 = 12) (
                  m_b (m_sc xs L (s.1 + 1)) fun v245 =>
                  m_b (F13_allot x1 v245 x3 s.2) fun z248 =>
                  m_b (m_sc xs L (s.1 + 1)) fun v249 =>
                  m_b (F12_allot x2 v249 z248.2) fun z252 =>
                  m_b (F12_thrown x2 z252.2) fun v254 =>
                  m_if (v254 = z248.1) (
                    m_if (z248.1 = 0) (
                      m_b (m_al z252.2 x3 0) fun v257 =>
                      m_if ((lg_cmp v257 (m_i2l z252.1)) = 0) (
                        some (.inl ((s.1 + 6), z252.2))
                      ) (
                        some (.inr (0, z252.2))
                      )
                    ) (
                      some (.inl ((s.1 + 6), z252.2))
                    )
                  ) (
                    some (.inr (0, z252.2))
                  )
                ) (
                 m_if (w4 = 13) (
                   m_b (m_sc xs L (s.1 + 1)) fun v261 =>
                   m_b (m_sc xs L (s.1 + 2)) fun v263 =>
                   m_b (F13_label x1 v261 v263 x3 s.2) fun z266 =>
                   m_b (m_sc xs L (s.1 + 1)) fun v267 =>
                   m_b (m_sc xs L (s.1 + 2)) fun v269 =>
                   m_b (F12_label x2 v267 v269 z266.2) fun z272 =>
                   m_b (F12_thrown x2 z272.2) fun v274 =>
                   m_if (v274 = z266.1) (
                     m_if (z266.1 = 0) (
                       m_b (m_al z272.2 x3 0) fun v277 =>
                       m_if (z272.1 = 0) (
                         F13_law_1133 xs L x1 x2 x3 s.1 0 v277 z272.2
                       ) (
                         F13_law_1133 xs L x1 x2 x3 s.1 1 v277 z272.2
                       )
                     ) (
                       some (.inl ((s.1 + 6), z272.2))
                     )
                   ) (
                     some (.inr (0, z272.2))
                   )
                 ) (
                  m_if (w4 = 14) (
                    m_b (m_sc xs L (s.1 + 1)) fun v281 =>
                    m_b (m_sc xs L (s.1 + 2)) fun v283 =>
                    m_b (F13_ship x1 v281 v283 x3 s.2) fun z286 =>
                    m_b (m_sc xs L (s.1 + 1)) fun v287 =>
                    m_b (m_sc xs L (s.1 + 2)) fun v289 =>
                    m_b (F12_ship x2 v287 v289 z286.2) fun z292 =>
                    m_b (F12_thrown x2 z292.2) fun v294 =>
                    m_if (v294 = z286.1) (
                      m_if (z286.1 = 0) (
                        m_b (m_al z292.2 x3 0) fun v297 =>
                        m_if ((lg_cmp v297 (m_i2l z292.1)) = 0) (
                          some (.inl ((s.1 + 6), z292.2))
                        ) (
                          some (.inr (0, z292.2))
                        )
                      ) (
                        some (.inl ((s.1 + 6), z292.2))
                      )
                    ) (
                      some (.inr (0, z292.2))
                    )
                  ) (
                   m_if (w4 = 15) (
                     m_b (m_sc xs L (s.1 + 1)) fun v301 =>
                     m_b (m_sc xs L (s.1 + 2)) fun v303 =>
                     m_b (F13_way x1 v301 v303 s.2) fun z306 =>
                     m_b (m_sc xs L (s.1 + 1)) fun v307 =>
                     m_b (m_sc xs L (s.1 + 2)) fun v309 =>
                     m_b (F12_way x2 v307 v309 z306.2) fun h312 =>
                     m_b (F12_thrown x2 h312) fun v314 =>
                     m_if (v314 = z306.1) (
                       some (.inl ((s.1 + 6), h312))
                     ) (
                       some (.inr (0, h312))
                     )
                   ) (
                    m_if (w4 = 16) (
                      m_b (m_sc xs L (s.1 + 1)) fun v317 =>
                      m_b (m_sc xs L (s.1 + 2)) fun v319 =>
                      m_b (m_sc xs L (s.1 + 3)) fun v321 =>
                      m_b (F13_risk x1 v317 v319 v321 x3 s.2) fun z324 =>
                      m_b (m_sc xs L (s.1 + 1)) fun v325 =>
                      m_b (m_sc xs L (s.1 + 2)) fun v327 =>
                      m_b (m_sc xs L (s.1 + 3)) fun v329 =>
                      m_b (F12_risk x2 v325 v327 v329 z324.2) fun z332 =>
                      m_b (F12_thrown x2 z332.2) fun v334 =>
                      m_if (v334 = z324.1) (
                        m_if (z324.1 = 0) (
                          m_b (m_al z332.2 x3 0) fun v337 =>
                          m_if ((lg_cmp v337 (m_i2l z332.1)) = 0) (
                            some (.inl ((s.1 + 6), z332.2))
                          ) (
                            some (.inr (0, z332.2))
                          )
                        ) (
                          some (.inl ((s.1 + 6), z332.2))
                        )
                      ) (
                        some (.inr (0, z332.2))
                      )
                    ) (
                     m_if (w4 = 17) (
                       m_b (m_sc xs L (s.1 + 1)) fun v341 =>
                       m_b (m_sc xs L (s.1 + 2)) fun v343 =>
                       m_b (m_sc xs L (s.1 + 3)) fun v345 =>
                       m_b (F13_load x1 v341 v343 v345 x3 s.2) fun z348 =>
                       m_b (m_sc xs L (s.1 + 1)) fun v349 =>
                       m_b (m_sc xs L (s.1 + 2)) fun v351 =>
                       m_b (m_sc xs L (s.1 + 3)) fun v353 =>
                       m_b (F12_load x2 v349 v351 v353 z348.2) fun z356 =>
                       m_b (F12_thrown x2 z356.2) fun v358 =>
                       m_if (v358 = z348.1) (
                         m_if (z348.1 = 0) (
                           m_b (m_al z356.2 x3 0) fun v361 =>
                           m_if (z356.1 = 0) (
                             F13_law_1416 xs L x1 x2 x3 s.1 0 v361 z356.2
                           ) (
                             F13_law_1416 xs L x1 x2 x3 s.1 1 v361 z356.2
                           )
                         ) (
                           some (.inl ((s.1 + 6), z356.2))
                         )
                       ) (
                         some (.inr (0, z356.2))
                       )
                     ) (
                      m_if (w4 = 18) (
                        m_b (m_sc xs L (s.1 + 1)) fun v365 =>
                        m_b (m_sc xs L (s.1 + 2)) fun v367 =>
                        m_b (F13_sail x1 v365 v367 x3 s.2) fun z370 =>
                        m_b (m_sc xs L (s.1 + 1)) fun v371 =>
                        m_b (m_sc xs L (s.1 + 2)) fun v373 =>
                        m_b (F12_sail x2 v371 v373 z370.2) fun z376 =>
                        m_b (F12_thrown x2 z376.2) fun v378 =>
                        m_if (v378 = z370.1) (
                          m_if (z370.1 = 0) (
                            m_b (m_al z376.2 x3 0) fun v381 =>
                            m_if (z376.1 = 0) (
                              F13_law_1491 xs L x1 x2 x3 s.1 0 v381 z376.2
                            ) (
                              F13_law_1491 xs L x1 x2 x3 s.1 1 v381 z376.2
                            )
                          ) (
                            some (.inl ((s.1 + 6), z376.2))
                          )
                        ) (
                          some (.inr (0, z376.2))
                        )
                      ) (
                       m_if (w4 = 19) (
                         m_b (m_sc xs L (s.1 + 1)) fun v385 =>
                         m_b (m_sc xs L (s.1 + 2)) fun v387 =>
                         m_b (F13_led x1 v385 v387 x3 s.2) fun z390 =>
                         m_b (m_sc xs L (s.1 + 1)) fun v391 =>
                         m_b (m_sc xs L (s.1 + 2)) fun v393 =>
                         m_b (F12_led x2 v391 v393 z390.2) fun z396 =>
                         m_b (F12_thrown x2 z396.2) fun v398 =>
                         m_if (v398 = z390.1) (
                           m_if (z390.1 = 0) (
                             m_b (m_al z396.2 x3 0) fun v401 =>
                             m_if ((lg_cmp v401 (m_i2l z396.1)) = 0) (
                               some (.inl ((s.1 + 6), z396.2))
                             ) (
                               some (.inr (0, z396.2))
                             )
                           ) (
                             some (.inl ((s.1 + 6), z396.2))
                           )
                         ) (
                           some (.inr (0, z396.2))
                         )
                       ) (
                        m_if (w4 = 20) (
                          m_b (m_sc xs L (s.1 + 1)) fun v405 =>
                          m_b (m_sc xs L (s.1 + 2)) fun v407 =>
                          m_b (m_sc xs L (s.1 + 3)) fun v409 =>
                          m_b (F13_need x1 v405 v407 v409 s.2) fun z412 =>
                          m_b (m_sc xs L (s.1 + 1)) fun v413 =>
                          m_b (m_sc xs L (s.1 + 2)) fun v415 =>
                          m_b (m_sc xs L (s.1 + 3)) fun v417 =>
                          m_b (F12_need x2 v413 v415 v417 z412.2) fun h420 =>
                          m_b (F12_thrown x2 h420) fun v422 =>
                          m_if (v422 = z412.1) (
                            some (.inl ((s.1 + 6), h420))
                          ) (
                            some (.inr (0, h420))
                          )
                        ) (
                         m_if (w4 = 21) (
                           m_b (m_sc xs L (s.1 + 1)) fun v425 =>
                           m_b (F13_weeks x1 v425 x3 s.2) fun z428 =>
                           m_b (m_sc xs L (s.1 + 1)) fun v429 =>
                           m_b (F12_weeks x2 v429 z428.2) fun z432 =>
                           m_b (F12_thrown x2 z432.2) fun v434 =>
                           m_if (v434 = z428.1) (
                             m_if (z428.1 = 0) (
                               m_b (m_al z432.2 x3 0) fun v437 =>
                               m_if ((lg_cmp v437 (m_i2l z432.1)) = 0) (
                                 some (.inl ((s.1 + 6), z432.2))
                               ) (
                                 some (.inr (0, z432.2))
                               )
                             ) (
                               some (.inl ((s.1 + 6), z432.2))
                             )
                           ) (
                             some (.inr (0, z432.2))
                           )
                         ) (
                          m_if (w4 = 22) (
                            m_b (m_sc xs L (s.1 + 1)) fun v441 =>
                            m_b (m_sc xs L (s.1 + 2)) fun v443 =>
                            m_b (m_sc xs L (s.1 + 3)) fun v445 =>
                            m_b (m_sc xs L (s.1 + 4)) fun v447 =>
                            m_if (v447 = 0) (
                              F13_law_1717 xs L x1 x2 x3 s.1 0 v445 v443 v441 x1 s.2
                            ) (
                              F13_law_1717 xs L x1 x2 x3 s.1 1 v445 v443 v441 x1 s.2
                            )
                          ) (
                           m_if (w4 = 23) (
                             m_b (m_sc xs L (s.1 + 1)) fun v451 =>
                             m_b (m_sc xs L (s.1 + 2)) fun v453 =>
                             m_b (m_sc xs L (s.1 + 3)) fun v455 =>
                             m_b (F13_back x1 v451 v453 v455 x3 s.2) fun z458 =>
                             m_b (m_sc xs L (s.1 + 1)) fun v459 =>
                             m_b (m_sc xs L (s.1 + 2)) fun v461 =>
                             m_b (m_sc xs L (s.1 + 3)) fun v463 =>
                             m_b (F12_back x2 v459 v461 v463 z458.2) fun z466 =>
                             m_b (F12_thrown x2 z466.2) fun v468 =>
                             m_if (v468 = z458.1) (
                               m_if (z458.1 = 0) (
                                 m_b (m_al z466.2 x3 0) fun v471 =>
                                 m_if ((lg_cmp v471 (m_i2l z466.1)) = 0) (
                                   some (.inl ((s.1 + 6), z466.2))
                                 ) (
                                   some (.inr (0, z466.2))
                                 )
                               ) (
                                 some (.inl ((s.1 + 6), z466.2))
                               )
                             ) (
                               some (.inr (0, z466.2))
                             )
                           ) (
                            m_if (w4 = 24) (
                              m_b (m_sc xs L (s.1 + 1)) fun v475 =>
                              m_b (m_sc xs L (s.1 + 2)) fun v477 =>
                              m_b (F13_land x1 v475 v477 x3 s.2) fun z480 =>
                              m_b (m_sc xs L (s.1 + 1)) fun v481 =>
                              m_b (m_sc xs L (s.1 + 2)) fun v483 =>
                              m_b (F12_land x2 v481 v483 z480.2) fun z486 =>
                              m_b (F12_thrown x2 z486.2) fun v488 =>
                              m_if (v488 = z480.1) (
                                m_if (z480.1 = 0) (
                                  m_b (m_al z486.2 x3 0) fun v491 =>
                                  m_if ((lg_cmp v491 z486.1) = 0) (
                                    some (.inl ((s.1 + 6), z486.2))
                                  ) (
                                    some (.inr (0, z486.2))
                                  )
                                ) (
                                  some (.inl ((s.1 + 6), z486.2))
                                )
                              ) (
                                some (.inr (0, z486.2))
                              )
                            ) (
                             m_if (w4 = 25) (
                               m_b (m_sc xs L (s.1 + 1)) fun v495 =>
                               m_b (m_sc xs L (s.1 + 2)) fun v497 =>
                               m_b (m_sc xs L (s.1 + 3)) fun v499 =>
                               m_b (F13_balance x1 v495 v497 v499 x3 s.2) fun z502 =>
                               m_b (m_sc xs L (s.1 + 1)) fun v503 =>
                               m_b (m_sc xs L (s.1 + 2)) fun v505 =>
                               m_b (m_sc xs L (s.1 + 3)) fun v507 =>
                               m_b (F12_balance x2 v503 v505 v507 z502.2) fun z510 =>
                               m_b (F12_thrown x2 z510.2) fun v512 =>
                               m_if (v512 = z502.1) (
                                 m_if (z502.1 = 0) (
                                   m_b (m_al z510.2 x3 0) fun v515 =>
                                   m_if ((lg_cmp v515 z510.1) = 0) (
                                     some (.inl ((s.1 + 6), z510.2))
                                   ) (
                                     some (.inr (0, z510.2))
                                   )
                                 ) (
                                   some (.inl ((s.1 + 6), z510.2))
                                 )
                               ) (
                                 some (.inr (0, z510.2))
                               )
                             ) (
                              m_if (w4 = 26) (
                                m_b (m_sc xs L (s.1 + 1)) fun v519 =>
                                m_b (m_sc xs L (s.1 + 2)) fun v521 =>
                                m_b (m_sc xs L (s.1 + 3)) fun v523 =>
                                m_b (m_sc xs L (s.1 + 4)) fun v525 =>
                                m_b (F13_returned x1 v519 v521 v523 v525 x3 s.2) fun z528 =>
                                m_b (m_sc xs L (s.1 + 1)) fun v529 =>
                                m_b (m_sc xs L (s.1 + 2)) fun v531 =>
                                m_b (m_sc xs L (s.1 + 3)) fun v533 =>
                                m_b (m_sc xs L (s.1 + 4)) fun v535 =>
                                m_b (F12_returned x2 v529 v531 v533 v535 z528.2) fun z538 =>
                                m_b (F12_thrown x2 z538.2) fun v540 =>
                                m_if (v540 = z528.1) (
                                  m_if (z528.1 = 0) (
                                    m_b (m_al z538.2 x3 0) fun v543 =>
                                    m_if ((lg_cmp v543 (m_i2l z538.1)) = 0) (
                                      some (.inl ((s.1 + 6), z538.2))
                                    ) (
                                      some (.inr (0, z538.2))
                                    )
                                  ) (
                                    some (.inl ((s.1 + 6), z538.2))
                                  )
                                ) (
                                  some (.inr (0, z538.2))
                                )
                              ) (
                               m_if (w4 = 27) (
                                 m_b (m_sc xs L (s.1 + 1)) fun v547 =>
                                 m_b (m_sc xs L (s.1 + 2)) fun v549 =>
                                 m_b (m_sc xs L (s.1 + 3)) fun v551 =>
                                 m_b (F13_mustBe x1 v547 v549 v551 x3 s.2) fun z554 =>
                                 m_b (m_sc xs L (s.1 + 1)) fun v555 =>
                                 m_b (m_sc xs L (s.1 + 2)) fun v557 =>
                                 m_b (m_sc xs L (s.1 + 3)) fun v559 =>
                                 m_b (F12_mustBe x2 v555 v557 v559 z554.2) fun z562 =>
                                 m_b (F12_thrown x2 z562.2) fun v564 =>
                                 m_if (v564 = z554.1) (
                                   m_if (z554.1 = 0) (
                                     m_b (m_al z562.2 x3 0) fun v567 =>
                                     m_if ((lg_cmp v567 (m_i2l z562.1)) = 0) (
                                       some (.inl ((s.1 + 6), z562.2))
                                     ) (
                                       some (.inr (0, z562.2))
                                     )
                                   ) (
                                     some (.inl ((s.1 + 6), z562.2))
                                   )
                                 ) (
                                   some (.inr (0, z562.2))
                                 )
                               ) (
                                m_if (w4 = 28) (
                                  m_b (m_sc xs L (s.1 + 1)) fun v571 =>
                                  m_b (m_sc xs L (s.1 + 2)) fun v573 =>
                                  m_b (m_sc xs L (s.1 + 3)) fun v575 =>
                                  m_b (F13_seen x1 v571 v573 v575 x3 s.2) fun z578 =>
                                  m_b (m_sc xs L (s.1 + 1)) fun v579 =>
                                  m_b (m_sc xs L (s.1 + 2)) fun v581 =>
                                  m_b (m_sc xs L (s.1 + 3)) fun v583 =>
                                  m_b (F12_seen x2 v579 v581 v583 z578.2) fun z586 =>
                                  m_b (F12_thrown x2 z586.2) fun v588 =>
                                  m_if (v588 = z578.1) (
                                    m_if (z578.1 = 0) (
                                      m_b (m_al z586.2 x3 0) fun v591 =>
                                      m_if ((lg_cmp v591 (m_i2l z586.1)) = 0) (
                                        some (.inl ((s.1 + 6), z586.2))
                                      ) (
                                        some (.inr (0, z586.2))
                                      )
                                    ) (
                                      some (.inl ((s.1 + 6), z586.2))
                                    )
                                  ) (
                                    some (.inr (0, z586.2))
                                  )
                                ) (
                                 m_if (w4 = 29) (
                                   m_b (m_sc xs L (s.1 + 1)) fun v595 =>
                                   m_b (m_sc xs L (s.1 + 2)) fun v597 =>
                                   m_b (m_sc xs L (s.1 + 3)) fun v599 =>
                                   m_if (v599 = 0) (
                                     F13_law_2297 xs L x1 x2 x3 s.1 0 v597 v595 x1 s.2
                                   ) (
                                     F13_law_2297 xs L x1 x2 x3 s.1 1 v597 v595 x1 s.2
                                   )
                                 ) (
                                  m_if (w4 = 30) (
                                    m_b (m_sc xs L (s.1 + 1)) fun v603 =>
                                    m_b (m_sc xs L (s.1 + 2)) fun v605 =>
                                    m_b (m_sc xs L (s.1 + 3)) fun v607 =>
                                    m_b (m_sc xs L (s.1 + 4)) fun v609 =>
                                    m_b (F13_rock x1 v603 v605 v607 v609 x3 s.2) fun z612 =>
                                    m_b (m_sc xs L (s.1 + 1)) fun v613 =>
                                    m_b (m_sc xs L (s.1 + 2)) fun v615 =>
                                    m_b (m_sc xs L (s.1 + 3)) fun v617 =>
                                    m_b (m_sc xs L (s.1 + 4)) fun v619 =>
                                    m_b (F12_rock x2 v613 v615 v617 v619 z612.2) fun z622 =>
                                    m_b (F12_thrown x2 z622.2) fun v624 =>
                                    m_if (v624 = z612.1) (
                                      m_if (z612.1 = 0) (
                                        m_b (m_al z622.2 x3 0) fun v627 =>
                                        m_if ((lg_cmp v627 (m_i2l z622.1)) = 0) (
                                          some (.inl ((s.1 + 6), z622.2))
                                        ) (
                                          some (.inr (0, z622.2))
                                        )
                                      ) (
                                        some (.inl ((s.1 + 6), z622.2))
                                      )
                                    ) (
                                      some (.inr (0, z622.2))
                                    )
                                  ) (
                                   m_if (w4 = 31) (
                                     m_b (m_sc xs L (s.1 + 1)) fun v631 =>
                                     m_b (F13_net x1 v631 x3 s.2) fun z634 =>
                                     m_b (m_sc xs L (s.1 + 1)) fun v635 =>
                                     m_b (F12_net x2 v635 z634.2) fun z638 =>
                                     m_b (F12_thrown x2 z638.2) fun v640 =>
                                     m_if (v640 = z634.1) (
                                       m_if (z634.1 = 0) (
                                         m_b (m_al z638.2 x3 0) fun v643 =>
                                         m_if ((lg_cmp v643 (m_i2l z638.1)) = 0) (
                                           some (.inl ((s.1 + 6), z638.2))
                                         ) (
                                           some (.inr (0, z638.2))
                                         )
                                       ) (
                                         some (.inl ((s.1 + 6), z638.2))
                                       )
                                     ) (
                                       some (.inr (0, z638.2))
                                     )
                                   ) (
                                    m_if (w4 = 32) (
                                      m_b (F11_over x1 s.2) fun z648 =>
                                      m_b (F12_over x2 z648.2) fun z650 =>
                                      m_if (z648.1 = z650.1) (
                                        some (.inl ((s.1 + 6), z650.2))
                                      ) (
                                        some (.inr (0, z650.2))
                                      )
                                    ) (
                                     m_if (w4 = 33) (
                                       m_b (m_sc xs L (s.1 + 1)) fun v653 =>
                                       m_b (m_sc xs L (s.1 + 2)) fun v655 =>
                                       m_b (F13_tons x1 v653 v655 s.2) fun z658 =>
                                       m_b (m_sc xs L (s.1 + 1)) fun v659 =>
                                       m_b (m_sc xs L (s.1 + 2)) fun v661 =>
                                       m_b (F12_tons x2 v659 v661 z658.2) fun h664 =>
                                       m_b (F12_thrown x2 h664) fun v666 =>
                                       m_if (v666 = z658.1) (
                                         some (.inl ((s.1 + 6), h664))
                                       ) (
                                         some (.inr (0, h664))
                                       )
                                     ) (
                                      m_if (w4 = 34) (
                                        m_b (m_sc xs L (s.1 + 1)) fun v669 =>
                                        m_b (F11_hulls x1 v669 s.2) fun z672 =>
                                        m_b (m_sc xs L (s.1 + 1)) fun v673 =>
                                        m_b (F12_hulls x2 v673 z672.2) fun z676 =>
                                        m_if (z672.1 = z676.1) (
                                          some (.inl ((s.1 + 6), z676.2))
                                        ) (
                                          some (.inr (0, z676.2))
                                        )
                                      ) (
                                       m_if (w4 = 35) (
                                         m_b (F11_bestOrders x1 s.2) fun z680 =>
                                         m_b (F12_bestOrders x2 z680.2) fun z682 =>
                                         m_if (z680.1 = z682.1) (
                                           some (.inl ((s.1 + 6), z682.2))
                                         ) (
                                           some (.inr (0, z682.2))
                                         )
                                       ) (
                                        m_if (w4 = 36) (
                                          m_b (m_sc xs L (s.1 + 1)) fun v685 =>
                                          m_b (m_sc xs L (s.1 + 2)) fun v687 =>
                                          m_b (F13_page x1 v685 v687 x3 s.2) fun z690 =>
                                          m_b (m_sc xs L (s.1 + 1)) fun v691 =>
                                          m_b (m_sc xs L (s.1 + 2)) fun v693 =>
                                          m_b (F12_page x2 v691 v693 z690.2) fun z696 =>
                                          m_b (F12_thrown x2 z696.2) fun v698 =>
                                          m_if (v698 = z690.1) (
                                            m_if (z690.1 = 0) (
                                              m_b (m_al z696.2 x3 0) fun v701 =>
                                              m_if ((lg_cmp v701 (m_i2l z696.1)) = 0) (
                                                some (.inl ((s.1 + 6), z696.2))
                                              ) (
                                                some (.inr (0, z696.2))
                                              )
                                            ) (
                                              some (.inl ((s.1 + 6), z696.2))
                                            )
                                          ) (
                                            some (.inr (0, z696.2))
                                          )
                                        ) (
                                         m_if (w4 = 37) (
                                           m_b (m_sc xs L (s.1 + 1)) fun v705 =>
                                           m_b (m_sc xs L (s.1 + 2)) fun v707 =>
                                           m_b (F11_signed x1 v705 v707 s.2) fun v710 =>
                                           m_b (m_sc xs L (s.1 + 1)) fun v711 =>
                                           m_b (m_sc xs L (s.1 + 2)) fun v713 =>
                                           m_b (F12_signed x2 v711 v713 s.2) fun z716 =>
                                           m_if (v710 = z716.1) (
                                             some (.inl ((s.1 + 6), z716.2))
                                           ) (
                                             some (.inr (0, z716.2))
                                           )
                                         ) (
                                          m_if (w4 = 38) (
                                            m_b (m_sc xs L (s.1 + 1)) fun v719 =>
                                            m_b (m_sc xs L (s.1 + 2)) fun v721 =>
                                            m_b (m_sc xs L (s.1 + 3)) fun v723 =>
                                            m_b (m_sc xs L (s.1 + 4)) fun v725 =>
                                            m_b (F13_choice x1 v719 v721 v723 v725 x3 s.2) fun z728 =>
                                            m_b (m_sc xs L (s.1 + 1)) fun v729 =>
                                            m_b (m_sc xs L (s.1 + 2)) fun v731 =>
                                            m_b (m_sc xs L (s.1 + 3)) fun v733 =>
                                            m_b (m_sc xs L (s.1 + 4)) fun v735 =>
                                            m_b (F12_choice x2 v729 v731 v733 v735 z728.2) fun z738 =>
                                            m_b (F12_thrown x2 z738.2) fun v740 =>
                                            m_if (v740 = z728.1) (
                                              m_if (z728.1 = 0) (
                                                m_b (m_al z738.2 x3 0) fun v743 =>
                                                m_if ((lg_cmp v743 (m_i2l z738.1)) = 0) (
                                                  some (.inl ((s.1 + 6), z738.2))
                                                ) (
                                                  some (.inr (0, z738.2))
                                                )
                                              ) (
                                                some (.inl ((s.1 + 6), z738.2))
                                              )
                                            ) (
                                              some (.inr (0, z738.2))
                                            )
                                          ) (
                                           m_if (w4 = 39) (
                                             m_b (m_sc xs L (s.1 + 1)) fun v747 =>
                                             m_b (m_sc xs L (s.1 + 2)) fun v749 =>
                                             m_b (m_sc xs L (s.1 + 3)) fun v751 =>
                                             m_b (m_sc xs L (s.1 + 4)) fun v753 =>
                                             m_b (m_sc xs L (s.1 + 5)) fun v755 =>
                                             m_b (F13_row x1 v747 v749 v751 v753 v755 s.2) fun z758 =>
                                             m_b (m_sc xs L (s.1 + 1)) fun v759 =>
                                             m_b (m_sc xs L (s.1 + 2)) fun v761 =>
                                             m_b (m_sc xs L (s.1 + 3)) fun v763 =>
                                             m_b (m_sc xs L (s.1 + 4)) fun v765 =>
                                             m_b (m_sc xs L (s.1 + 5)) fun v767 =>
                                             m_b (F12_row x2 v759 v761 v763 v765 v767 z758.2) fun h770 =>
                                             m_b (F12_thrown x2 h770) fun v772 =>
                                             m_if (v772 = z758.1) (
                                               some (.inl ((s.1 + 6), h770))
                                             ) (
                                               some (.inr (0, h770))
                                             )
                                           ) (
                                            m_if (w4 = 40) (
                                              m_b (F11_lasts x1 s.2) fun v776 =>
                                              m_b (F12_lasts x2 s.2) fun z778 =>
                                              m_if (v776 = z778.1) (
                                                some (.inl ((s.1 + 6), z778.2))
                                              ) (
                                                some (.inr (0, z778.2))
                                              )
                                            ) (
                                             m_if (w4 = 41) (
                                               m_b (m_sc xs L (s.1 + 1)) fun v781 =>
                                               m_b (m_sc xs L (s.1 + 2)) fun v783 =>
                                               m_b (m_sc xs L (s.1 + 3)) fun v785 =>
                                               m_b (m_sc xs L (s.1 + 4)) fun v787 =>
                                               m_b (m_sc xs L (s.1 + 5)) fun v789 =>
                                               m_b (F13_cash x1 v781 v783 v785 v787 v789 x3 s.2) fun z792 =>
                                               m_b (m_sc xs L (s.1 + 1)) fun v793 =>
                                               m_b (m_sc xs L (s.1 + 2)) fun v795 =>
                                               m_b (m_sc xs L (s.1 + 3)) fun v797 =>
                                               m_b (m_sc xs L (s.1 + 4)) fun v799 =>
                                               m_b (m_sc xs L (s.1 + 5)) fun v801 =>
                                               m_b (F12_cash x2 v793 v795 v797 v799 v801 z792.2) fun z804 =>
                                               m_b (F12_thrown x2 z804.2) fun v806 =>
                                               m_if (v806 = z792.1) (
                                                 m_if (z792.1 = 0) (
                                                   m_b (m_al z804.2 x3 0) fun v809 =>
                                                   m_if ((lg_cmp v809 (m_i2l z804.1)) = 0) (
                                                     some (.inl ((s.1 + 6), z804.2))
                                                   ) (
                                                     some (.inr (0, z804.2))
                                                   )
                                                 ) (
                                                   some (.inl ((s.1 + 6), z804.2))
                                                 )
                                               ) (
                                                 some (.inr (0, z804.2))
                                               )
                                             ) (
                                              m_if (w4 = 42) (
                                                m_b (m_sc xs L (s.1 + 1)) fun v813 =>
                                                m_b (m_sc xs L (s.1 + 2)) fun v815 =>
                                                m_b (F13_tear x1 v813 v815 x3 s.2) fun z818 =>
                                                m_b (m_sc xs L (s.1 + 1)) fun v819 =>
                                                m_b (m_sc xs L (s.1 + 2)) fun v821 =>
                                                m_b (F12_tear x2 v819 v821 z818.2) fun z824 =>
                                                m_b (F12_thrown x2 z824.2) fun v826 =>
                                                m_if (v826 = z818.1) (
                                                  m_if (z818.1 = 0) (
                                                    m_b (m_al z824.2 x3 0) fun v829 =>
                                                    m_if ((lg_cmp v829 (m_i2l z824.1)) = 0) (
                                                      some (.inl ((s.1 + 6), z824.2))
                                                    ) (
                                                      some (.inr (0, z824.2))
                                                    )
                                                  ) (
                                                    some (.inl ((s.1 + 6), z824.2))
                                                  )
                                                ) (
                                                  some (.inr (0, z824.2))
                                                )
                                              ) (
                                               m_if (w4 = 43) (
                                                 m_b (F11_check x1 s.2) fun v834 =>
                                                 m_b (F12_check x2 s.2) fun z836 =>
                                                 m_if (v834 = z836.1) (
                                                   some (.inl ((s.1 + 6), z836.2))
                                                 ) (
                                                   some (.inr (0, z836.2))
                                                 )
                                               ) (
                                                m_if (w4 = 44) (
                                                  m_b (F11_undo x1 s.2) fun z840 =>
                                                  m_b (F12_undo x2 z840.2) fun z842 =>
                                                  m_if (z840.1 = z842.1) (
                                                    some (.inl ((s.1 + 6), z842.2))
                                                  ) (
                                                    some (.inr (0, z842.2))
                                                  )
                                                ) (
                                                 m_if (w4 = 45) (
                                                   m_b (F11_keep x1 s.2) fun h846 =>
                                                   m_b (F12_keep x2 h846) fun h848 =>
                                                   some (.inl ((s.1 + 6), h848))
                                                 ) (
                                                  m_if (w4 = 46) (
                                                    m_b (F11_again x1 s.2) fun z851 =>
                                                    m_b (F12_again x2 z851.2) fun z853 =>
                                                    m_if (z851.1 = z853.1) (
                                                      some (.inl ((s.1 + 6), z853.2))
                                                    ) (
                                                      some (.inr (0, z853.2))
                                                    )
                                                  ) (
                                                   m_if (w4 = 47) (
                                                     m_b (m_sc xs L (s.1 + 1)) fun v856 =>
                                                     m_b (F11_count x1 v856 s.2) fun v859 =>
                                                     m_b (m_sc xs L (s.1 + 1)) fun v860 =>
                                                     m_b (F12_count x2 v860 s.2) fun z863 =>
                                                     m_if (v859 = z863.1) (
                                                       some (.inl ((s.1 + 6), z863.2))
                                                     ) (
                                                       some (.inr (0, z863.2))
                                                     )
                                                   ) (
                                                    none
                                                   )
                                                  )
                                                 )
                                                )
                                               )
                                              )
                                             )
                                            )
                                           )
                                          )
                                         )
                                        )
                                       )
                                      )
                                     )
                                    )
                                   )
                                  )
                                 )
                                )
                               )
                              )
                             )
                            )
                           )
                          )
                         )
                        )
                       )
                      )
                     )
                    )
                   )
                  )
                 )
                )
               )
              )
             )
            )
           )
          )
         )
        )
       )
      )
     )
    )
  )
noncomputable def F13_law_23 (xs : Nat → Int32) (L : Nat) (x1 : Nat) (x2 : Nat) (x3 : Nat) (x4 : Int32) (hp : m_H) : Option (Int32 × m_H) :=
  m_wh (fun s => F13_law_23b xs L x1 x2 x3 s) m_N (x4, hp)
noncomputable def F13_law_0 (xs : Nat → Int32) (L : Nat) (hp : m_H) : Option (Int32 × m_H) :=
  m_b (m_nwo 8 hp) fun h1 =>
  m_b (F11_init (m_id hp) h1) fun h4 =>
  m_b (m_nwo 9 h4) fun h5 =>
  m_b (F12_init (m_id h4) h5) fun h8 =>
  m_b (m_nw 1 1 h8) fun h9 =>
  F13_law_23 xs L (m_id hp) (m_id h4) (m_id h8) 0 h9
noncomputable def F13_law (xs : Nat → Int32) (L : Nat) (hp : m_H) : Option (Int32 × m_H) :=
  F13_law_0 xs L hp
