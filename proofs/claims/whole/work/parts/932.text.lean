/-! ===== a text: the class reads the whole ===== -/
section
variable {s0 : tz_S} {W : m_W} {T : Nat → Nat} {n m : Nat} {Y : gY} {i : Nat} {c : gC} {w : Int32} {h : m_H}
theorem cz_read29 (K : gK T n m) (P : pr s0 W T n m Y i c h) (hi : i ≤ m) (hl : c.length ≤ lx_q T n i) (hy : Y.1 = 0) : k_ok (F7_read_29 206 0 h) (gLR s0 W T n m (gRead T n 12 (lx_q T n i) c Y)) := by
  have hn := K.2.1
  have hm := K.mm
  obtain ⟨r0, er⟩ : ∃ r, gRead T n 12 (lx_q T n i) c Y = r := ⟨_, rfl⟩
  rw [er]
  unfold F7_read_29
  refine wh_i (n := 12) (fun (k : Nat) (z : Int32 × m_H) => k < 12 ∧ z.1 = nI k ∧ ∃ i c Y, i ≤ m ∧ c.length ≤ lx_q T n i ∧ Y.1 = k ∧ pr s0 W T n m Y i c z.2 ∧ gRead T n (12 - k) (lx_q T n i) c Y = r0) _ ?_ ?_ m_N 0 _ (N_lt (by decide)) (Nat.zero_le _) ⟨by decide, rfl, i, c, Y, hi, hl, hy, P, er⟩
  · rintro k ⟨x, h1⟩ hk ⟨-, q1, i, c, Y, hi, hl, hy, P, e0⟩
    dsimp only at q1 P
    subst q1
    unfold F7_read_29b
    dsimp only
    refine k_f (show ¬ (12 : Int32) ≤ nI k from nI_ge (b := 12) hk (by decide)) (k_e P.th ?_)
    obtain ⟨f, hf⟩ : ∃ f, 12 - k = f + 1 := ⟨11 - k, by omega⟩
    rw [hf] at e0
    unfold gRead at e0
    refine k_if (fun t0 => ?_) (fun t0 => ?_)
    · rw [if_pos t0] at e0
      refine k_s ?_
      rw [← e0]
      exact ⟨i, hi, rfl, P⟩
    rw [if_neg t0] at e0
    have E := cz_readLine K P hi hl (by omega)
    have ft := gLine_fit (T := T) (n := n) (c := c) (Y := Y) (lx_q_le (T := T) (n := n) i) hl
    cases eL : gLine T n (lx_q T n i) c Y with
    | inr e =>
      rw [eL] at E e0
      dsimp only at e0
      refine k_b E (fun h2 R => k_e R.2.wr (k_f (nI_m1 (by have := R.1; omega)) (k_s ?_)))
      rw [← e0]
      exact R
    | inl z =>
      obtain ⟨q', c', Y'⟩ := z
      rw [eL] at E e0 ft
      dsimp only at e0 ft
      refine k_b E (fun h2 R => ?_)
      obtain ⟨i', hi', eq, P2⟩ := R
      dsimp only at eq P2
      subst eq
      have ql' := lx_q_le (T := T) (n := n) i'
      refine k_e P2.wr (k_t rfl (k_e P2.th (k_if (fun t1 => ?_) (fun t1 => ?_))))
      · rw [if_pos t1] at e0
        refine k_s ?_
        rw [← e0]
        exact ⟨i', hi', rfl, P2⟩
      rw [if_neg t1] at e0
      refine k_e P2.th (k_if (fun t2 => ?_) (fun t2 => ?_))
      · rw [if_pos t2] at e0
        obtain ⟨pa, i1, eq1, qn, qlt, qle⟩ := pr_pass K P2 hi' t1
        rw [← eq1] at qlt qle e0
        refine k_bb pa (fun _ h3 P3 => k_e P3.th (k_if (fun t3 => ?_) (fun t3 => ?_)))
        · rw [if_pos t3] at e0
          refine k_b (pr_refuse P3 K.1 hn (by omega) (by omega)) (fun h4 P4 => k_s ?_)
          rw [← e0]
          exact ⟨qle, P4⟩
        rw [if_neg t3] at e0
        refine k_if (fun t4 => ?_) (fun t4 => ?_)
        · have k11 : k = 11 := nI_e (by omega) (by decide) (show nI k = nI 11 from t4)
          rw [if_pos (by omega)] at e0
          refine k_b (pr_refuse P3 K.1 hn (by omega) (by omega)) (fun h4 P4 => k_s ?_)
          rw [← e0]
          exact ⟨qle, P4⟩
        · have k11 : ¬ k = 11 := fun z => t4 (by rw [z]; rfl)
          rw [if_neg (by omega)] at e0
          refine k_s ⟨by omega, by rw [nI_succ], i' + 1, c', Y', i1, by omega, by rw [ft.2, hy], P3, ?_⟩
          rw [show 12 - (k + 1) = f by omega]
          exact e0
      · rw [if_neg t2] at e0
        refine k_b (pr_refuse P2 K.1 hn (by omega) (by omega)) (fun h4 P4 => k_s ?_)
        rw [← e0]
        exact ⟨ql', P4⟩
  · rintro ⟨x, h1⟩ ⟨q1, -⟩
    exact absurd q1 (by decide)
/-- a text as it lies in the class before it is read -/
noncomputable def gText (T : Nat → Nat) (n : Nat) : gL := gRead T n 12 (lx_q T n 0) [] (0, fun _ => (0, 0, 0))
theorem cz_read {p' : Nat} (P : tp s0 W T n p' 0 h) (hn : n ≤ 400) (hT : ∀ j, j < n → T j < 256) : k_ok (F7_read 206 h) (fun h' => ∃ m, gK T n m ∧ gLR s0 W T n m (gText T n) h') := by
  have N := P.N
  obtain ⟨s, rfl, H, b, d1, d2, d3, d4, d5⟩ := P
  unfold F7_read F7_read_0
  refine k_g io_206 (k_e pf_206_7 (k_e pf_206_9 (k_e pf_206_3 (k_e gr_206_0 ?_))))
  have b1 : tz_fr s0 (tz_uf (tz_uf (tz_uf s 206 7 0) 206 9 0) 206 3 (-1)) := pr_fr (pr_fr (pr_fr b.1))
  have u1 : ∀ (s : tz_S) k v j, (tz_uf s 206 k v).1 201 j = s.1 201 j := fun s k v j => uf_201
  have P1 : tp (tz_uf (tz_uf (tz_uf s 206 7 0) 206 9 0) 206 3 (-1)) W T n p' 0 (tz_H (tz_uf (tz_uf (tz_uf s 206 7 0) 206 9 0) 206 3 (-1))) := ⟨_, rfl, pr_HR (pr_HR (pr_HR H)), ⟨tz_fr.refl, fun _ => rfl⟩, by rw [u1, u1, u1]; exact d1, d2, by rw [u1, u1, u1]; exact d3, by rw [u1, u1, u1]; exact d4, fun i hi => absurd hi (Nat.not_lt_zero i)⟩
  refine k_b (tp_split P1 hn hT) ?_
  rintro h2 ⟨m, p2, C, s2, rfl, H2, b2, f1, f2, f3, f4, f5⟩
  have K : gK T n m := ⟨C, hn, hT⟩
  have t2 : pr_t s2 T n m := ⟨f1, f4, f5⟩
  obtain ⟨v, ev, hv⟩ := pr_look H2 (b1.trans b2.1) t2 C hn (x := 0)
  refine k_e ev ?_
  have hv0 := hv 0 rfl (by decide)
  have e3 : s2.1 206 3 = -1 := (b2.2 3).trans tz_uf_s
  have e9 : s2.1 206 9 = 0 := (b2.2 9).trans ((tz_uf_n (by decide)).trans tz_uf_s)
  have e7 : s2.1 206 7 = 0 := (b2.2 7).trans ((tz_uf_n (by decide)).trans ((tz_uf_n (by decide)).trans tz_uf_s))
  refine k_m (cz_read29 K (Y := (0, fun _ => (0, 0, 0))) (i := 0) (c := []) ⟨_, rfl, pr_HR (pr_HR H2), pr_fr (pr_fr (b1.trans b2.1)), t2.uf.uf, (tz_uf_n (by decide)).trans tz_uf_s, tz_uf_s.trans hv0, (tz_uf_n (by decide)).trans ((tz_uf_n (by decide)).trans e3), ⟨(tz_uf_n (by decide)).trans ((tz_uf_n (by decide)).trans e9), fun j hj => absurd hj (Nat.not_lt_zero j)⟩, ⟨(tz_uf_n (by decide)).trans ((tz_uf_n (by decide)).trans e7), fun j hj => absurd hj (Nat.not_lt_zero j)⟩⟩ (Nat.zero_le _) (Nat.zero_le _) rfl) (fun h3 R => ⟨m, K, R⟩)
end
