/-! ===== a text: the reference passes a word, a sign, a number; it writes code ===== -/
def rq (s0 : tz_S) (W : m_W) (T : Nat → Nat) (n : Nat) (Y : gY) (q d : Nat) (c : gC) (h : m_H) : Prop := ∃ p b, p ≤ n ∧ lx_k0 T n p = q ∧ rg s0 W T n Y p b d c h
def rf (s0 : tz_S) (W : m_W) (e : Nat) (h : m_H) : Prop := ∃ s, h = tz_H s ∧ tz_WR s 318 W ∧ tz_fq s0 s ∧ s.1 317 0 = 0 ∧ s.1 317 10 = nI e
section
variable {s0 : tz_S} {W : m_W} {T : Nat → Nat} {n p b d q : Nat} {Y : gY} {c : gC} {h : m_H}
theorem rg.f (P : rg s0 W T n Y p b d c h) : rf s0 W b h := by
  obtain ⟨s, e, H, F, t, e8, e10, -⟩ := P
  exact ⟨s, e, H, F, t.1, e10⟩
theorem rq.io (P : rq s0 W T n Y q d c h) : m_isO h 9 317 = true := by
  obtain ⟨p, b, -, -, P⟩ := P
  exact P.io
theorem rq.le (P : rq s0 W T n Y q d c h) : q ≤ n := by
  obtain ⟨p, b, hp, rfl, -⟩ := P
  exact (lx_s lx_b T n p).2.2.2 hp
theorem rq.kk (P : rq s0 W T n Y q d c h) : lx_k0 T n q = q := by
  obtain ⟨p, b, hp, rfl, -⟩ := P
  exact lx_kk (lx_p_k hp).2
theorem rg.qq (P : rg s0 W T n Y q b d c h) (hq : q ≤ n) (hk : lx_k0 T n q = q) : rq s0 W T n Y q d c h := ⟨q, b, hq, hk, P⟩
theorem rg.x (P : rg s0 W T n Y (lx_x T n q) b d c h) (hq : q < n) : rq s0 W T n Y (lx_n T n q) d c h := ⟨_, b, (lx_x_lt hq).2, rfl, P⟩
theorem rg_passes (P : rq s0 W T n Y q d c h) (hn : n ≤ 400) (hT : ∀ j, j < n → T j < 256) {k : Nat} (hk : k < 18) : k_ok (F12_passes 317 (ra k) h) (fun z => (lx_t T n q = nI (256 + k) ∧ z.1 = 1 ∧ rg s0 W T n Y (lx_x T n q) q d c z.2) ∨ (¬ lx_t T n q = nI (256 + k) ∧ z.1 = 0 ∧ rg s0 W T n Y q q d c z.2)) := by
  have io := P.io
  have ql := P.le
  obtain ⟨p, b, hp, eq, P⟩ := P
  unfold F12_passes F12_passes_0
  refine k_g io (k_b (rg_word P hn hT hp eq) (fun h1 P1 => ?_))
  have s := lx_s lx_l T n q
  refine k_e (rg_isWord P1 hn (s.2.2.2 ql) s.1 (fun j a b => (s.2.1 j a b).2) hk) ?_
  by_cases w : lx_w T (11 + k) q (lx_e lx_l T n q)
  · rw [if_pos w]
    refine k_f (by decide) (k_s (Or.inl ⟨(lx_t_w hT hk).mpr w, rfl, ?_⟩))
    rw [lx_x_w hk w]
    exact P1
  · rw [if_neg w]
    refine k_t rfl (k_e P1.be (k_b P1.put8 (fun h2 P2 => k_s (Or.inr ⟨fun z => w ((lx_t_w hT hk).mp z), rfl, P2⟩))))
theorem rg_sign (P : rq s0 W T n Y q d c h) (hn : n ≤ 400) (hT : ∀ j, j < n → T j < 256) {x : Nat} (hx : lx_sg x) : k_ok (F12_sign 317 (nI x) h) (fun z => (lx_t T n q = nI x ∧ z.1 = 1 ∧ rg s0 W T n Y (lx_x T n q) q d c z.2) ∨ (¬ lx_t T n q = nI x ∧ z.1 = 0 ∧ rg s0 W T n Y q q d c z.2)) := by
  have x1 : x < 127 := by unfold lx_sg at hx; omega
  have io := P.io
  have ql := P.le
  obtain ⟨p, b, hp, eq, P⟩ := P
  have B := rg_blanks P hn hT hp
  rw [eq] at B
  unfold F12_sign F12_sign_0
  refine k_g io (k_b B (fun h1 P1 => k_e (rg_isAt P1 hn hT ql (by omega) x1) ?_))
  by_cases w : q < n ∧ x ≤ T q ∧ T q ≤ x
  · have tx : T q = x := by omega
    rw [if_pos w]
    refine k_f (by decide) (k_e P1.pt ?_)
    rw [nI_1]
    refine k_b P1.put8 (fun h2 P2 => k_s (Or.inl ⟨(lx_t_s hT hx).mpr ⟨w.1, tx⟩, rfl, ?_⟩))
    rw [lx_x_s hx w.1 tx]
    exact P2
  · rw [if_neg w]
    exact k_t rfl (k_s (Or.inr ⟨fun z => w (by have := (lx_t_s hT hx).mp z; omega), rfl, P1⟩))
theorem rg_num {a x : Int32} : 10 * a + x - 48 = a * 10 + (x - 48) := by
  rw [Int32.mul_comm 10 a, Int32.sub_eq_add_neg, Int32.sub_eq_add_neg, Int32.add_assoc]
theorem rg_number (P : rq s0 W T n Y q d c h) (hn : n ≤ 400) (hT : ∀ j, j < n → T j < 256) {lim : Int32} : k_ok (F12_number 317 lim h) (fun z => (lx_t T n q = 1 ∧ lx_v T n q ≤ lim ∧ z.1 = lx_v T n q ∧ rg s0 W T n Y (lx_x T n q) q d c z.2) ∨ (¬ (lx_t T n q = 1 ∧ lx_v T n q ≤ lim) ∧ z.1 = -1 ∧ rf s0 W q z.2)) := by
  have io := P.io
  have ql := P.le
  obtain ⟨p, b, hp, eq, P⟩ := P
  have B := rg_blanks P hn hT hp
  rw [eq] at B
  unfold F12_number F12_number_0 F12_number_6
  refine k_g io (k_b B (fun h1 P1 => ?_))
  have t1 : lx_t T n q = 1 ↔ q < n ∧ lx_d (T q) = true ∧ lx_e lx_d T n q - q ≤ 5 := by
    constructor
    · intro h
      unfold lx_t at h
      split at h
      · exact absurd h (by decide)
      · next c =>
        split at h
        · next c2 =>
          split at h
          · next c3 => exact ⟨by omega, c2, c3⟩
          · exact absurd h (by decide)
        · split at h
          · rcases lx_wn_m (T := T) (q := q) (r := lx_e lx_l T n q) 18 0 with ⟨e, f⟩ | ⟨i, hi, f, e⟩
            · have h : lx_wn T q (lx_e lx_l T n q) 18 0 = 1 := h
              rw [e] at h
              exact absurd h (by decide)
            · have h : lx_wn T q (lx_e lx_l T n q) 18 0 = nI 1 := h
              rw [e] at h
              exact absurd (nI_e (by omega) (by omega) h) (by omega)
          · split at h
            · next c4 => 
              have := nI_e (m := 1) (by have := hT q (by omega); omega) (by omega) h
              unfold lx_sg at c4
              omega
            · exact absurd h (by decide)
    · rintro ⟨h1, h2, h3⟩
      unfold lx_t
      rw [if_neg (by omega), if_pos h2, if_pos h3]
  have fin : ∀ i h1, rg s0 W T n Y (q + i) q d c h1 → i ≤ n → lx_e lx_d T n q = q + i → (∀ j, q ≤ j → j < q + i → j < n ∧ lx_d (T j) = true) → k_ok (m_b (m_gi h1 317 9 8) fun v4 => m_b (m_gi h1 317 9 10) fun v6 => m_if (v4 = v6) (some (.inr ((-1), h1))) (m_b (m_gi h1 317 9 8) fun v9 => m_b (m_gi h1 317 9 10) fun v11 => m_if (5 < (v9 - v11)) (some (.inr ((-1), h1))) (m_if (lx_va T q i ≤ lim) (some (.inr (lx_va T q i, h1))) (some (.inr ((-1), h1) : (Int32 × m_H) ⊕ (Int32 × m_H)))))) (fun y => ∃ z, y = .inr z ∧ ((lx_t T n q = 1 ∧ lx_v T n q ≤ lim ∧ z.1 = lx_v T n q ∧ rg s0 W T n Y (lx_x T n q) q d c z.2) ∨ (¬ (lx_t T n q = 1 ∧ lx_v T n q ≤ lim) ∧ z.1 = -1 ∧ rf s0 W q z.2))) := by
    intro i h1 P1 hi e q2
    refine k_e P1.pt (k_e P1.be (k_if (fun a => ?_) (fun a => k_e P1.pt (k_e P1.be ?_))))
    · have i0 : q + i = q := nI_e (by omega) (by omega) a
      refine k_s ⟨_, rfl, Or.inr ⟨fun z => ?_, rfl, P1.f⟩⟩
      have z1 := t1.mp z.1
      have := lx_e_lt (T := T) z1.1 z1.2.1
      omega
    · rw [nI_sub (by omega), Nat.add_sub_cancel_left]
      have i0 : ¬ i = 0 := fun z => a (by rw [z]; rfl)
      obtain ⟨qn, qd⟩ := q2 q (Nat.le_refl _) (by omega)
      refine k_if (fun g => ?_) (fun g => ?_)
      · refine k_s ⟨_, rfl, Or.inr ⟨fun z => ?_, rfl, P1.f⟩⟩
        have z1 := t1.mp z.1
        exact absurd g (nI_nlt (a := 5) (b := i) (by omega) (by decide))
      · have i5 : i ≤ 5 := by
          rcases Nat.lt_or_ge 5 i with a | a
          · exact absurd (nI_lt (a := 5) a (by omega)) g
          · exact a
        have ev : lx_v T n q = lx_va T q i := by
          unfold lx_v
          rw [if_neg (by omega), if_pos qd, e, Nat.add_sub_cancel_left]
        have ex : lx_x T n q = q + i := by
          unfold lx_x
          rw [if_neg (by omega), if_pos qd, e]
        have et : lx_t T n q = 1 := t1.mpr ⟨qn, qd, by omega⟩
        refine k_if (fun l => k_s ⟨_, rfl, Or.inl ⟨et, by rw [ev]; exact l, ev.symm, by rw [ex]; exact P1⟩⟩) (fun l => k_s ⟨_, rfl, Or.inr ⟨fun z => l (by rw [← ev]; exact z.2), rfl, P1.f⟩⟩)
  refine wh_i (n := n) (fun (i : Nat) (z : Int32 × m_H) => z.1 = lx_va T q i ∧ rg s0 W T n Y (q + i) q d c z.2 ∧ q + i ≤ n ∧ ∀ j, q ≤ j → j < q + i → j < n ∧ lx_d (T j) = true) _ ?_ ?_ m_N 0 _ (N_lt (by omega)) (Nat.zero_le _) ⟨rfl, P1, ql, fun j a b => absurd b (by omega)⟩
  · rintro i ⟨v, h1⟩ hi ⟨q0, P1, hpi, q2⟩
    dsimp only at q0 P1
    subst q0
    unfold F12_number_6b
    dsimp only
    refine k_e (rg_isAt P1 hn hT hpi (lo := 48) (hi := 57) (by decide) (by decide)) ?_
    by_cases e : q + i < n ∧ 48 ≤ T (q + i) ∧ T (q + i) ≤ 57
    · rw [if_pos e]
      have q3 : ∀ j, q ≤ j → j < q + (i + 1) → j < n ∧ lx_d (T j) = true := fun j a b => by
        by_cases w : j = q + i
        · subst w; exact ⟨e.1, lx_dg.mpr e.2⟩
        · exact q2 j a (by omega)
      have es : lx_va T q (i + 1) = if i < 5 then lx_va T q i * 10 + (nI (T (q + i)) - 48) else lx_va T q i := rfl
      refine k_f (by decide) (k_e P1.pt (k_e P1.be ?_))
      rw [nI_sub (by omega), Nat.add_sub_cancel_left]
      unfold F12_number_51
      refine k_if (fun g => ?_) (fun g => ?_)
      · have i5 : ¬ i < 5 := fun z => absurd g (nI_ge (b := 5) z (by decide))
        refine k_e P1.pt ?_
        rw [nI_1]
        exact k_b P1.put8 (fun h2 P2 => k_s ⟨by rw [es, if_neg i5], P2, by omega, q3⟩)
      · have i5 : i < 5 := by
          rcases Nat.lt_or_ge i 5 with a | a
          · exact a
          · exact absurd (nI_le (a := 5) a (by omega)) g
        refine k_e P1.g6 (k_e P1.pt (k_e (P1.by hn e.1) (k_e P1.pt ?_)))
        rw [nI_1]
        refine k_b P1.put8 (fun h2 P2 => k_s ⟨?_, P2, by omega, q3⟩)
        rw [es, if_pos i5]
        show 10 * lx_va T q i + sgb (T (q + i)) - 48 = _
        rw [show sgb (T (q + i)) = nI (T (q + i)) from if_pos (by omega), rg_num]
    · rw [if_neg e]
      refine k_t rfl (k_m (fin i h1 P1 (by omega) (lx_u (by omega) q2 (by
        rcases Nat.lt_or_ge (q + i) n with a | a
        · right
          cases hb : lx_d (T (q + i)) with
          | false => rfl
          | true => exact absurd ⟨a, lx_dg.mp hb⟩ e
        · left; exact a)) q2) ?_)
      rintro _ ⟨z, rfl, hz⟩
      exact hz
  · rintro ⟨v, h1⟩ ⟨q0, P1, hpi, q2⟩
    dsimp only at q0 P1
    subst q0
    unfold F12_number_6b
    dsimp only
    refine k_e (rg_isAt P1 hn hT hpi (lo := 48) (hi := 57) (by decide) (by decide)) ?_
    rw [if_neg (fun z => by omega)]
    refine k_t rfl (k_m (fin n h1 P1 (Nat.le_refl _) (lx_u (by omega) q2 (Or.inl (by omega))) q2) ?_)
    rintro _ ⟨z, rfl, hz⟩
    exact hz
end
