/-! ===== a text: the reference reads the whole ===== -/
theorem nI_all (v : Int32) : ∃ k, v = nI k := ⟨v.toUInt32.toNat, by
  show v = Int32.ofNat v.toUInt32.toNat
  exact congrArg Int32.ofUInt32 (UInt32.ofNat_toNat (x := v.toUInt32)).symm⟩
def rTR (s0 : tz_S) (W : m_W) (T : Nat → Nat) (n : Nat) (r : gL) (z : Int32 × m_H) : Prop := match r with
  | .inl y => z.1 = nI y.2.2.1 ∧ y.2.2.1 ≤ 12 ∧ ∃ d, rq s0 W T n y.2.2 y.1 d y.2.1 z.2
  | .inr e => z.1 = -1 ∧ rf s0 W e z.2
section
variable {s0 s : tz_S} {W : m_W} {T : Nat → Nat} {n p b d q : Nat} {Y : gY} {c : gC} {h : m_H}
theorem gLine_eq {z : Nat × gC × gY} (e : gLine T n q c Y = .inl z) : gEq z.2.2 z.2.1 := by
  unfold gLine at e
  split at e
  · next y =>
    unfold gEnd at e
    split at e
    · cases e
      unfold gEq gY_add
      dsimp only
      rw [if_neg (by omega), if_pos (by omega)]
    · cases e
  · cases e
theorem lx_t_pos (hT : ∀ j, j < n → T j < 256) (qn : q < n) : ¬ lx_t T n q = 0 := by
  intro z
  unfold lx_t at z
  rw [if_neg (by omega)] at z
  split at z
  · split at z
    · exact absurd z (by decide)
    · exact absurd z (by decide)
  · split at z
    · rcases lx_wn_c (T := T) (q := q) (r := lx_e lx_l T n q) 18 0 with w | ⟨i, hi, w⟩
      · have z : lx_wn T q (lx_e lx_l T n q) 18 0 = 0 := z
        rw [w] at z
        exact absurd z (by decide)
      · have z : lx_wn T q (lx_e lx_l T n q) 18 0 = 0 := z
        rw [w] at z
        exact absurd (nI_e (m := 0) (by omega) (by decide) z) (by omega)
    · split at z
      · next sg =>
        have := nI_e (m := 0) (by have := hT q qn; omega) (by decide) z
        unfold lx_sg at sg
        omega
      · exact absurd z (by decide)
theorem rz_line12 (hn : n ≤ 400) (hT : ∀ j, j < n → T j < 256) (P : rq s0 W T n Y q d c h) : k_ok (F12_readLine 317 (nI 12) h) (fun z => z.1 = 0 ∧ rf s0 W q z.2) := by
  have io := P.io
  obtain ⟨p, b, hp, eq, P⟩ := P
  unfold F12_readLine F12_readLine_0
  exact k_g io (k_b (rg_word P hn hT hp eq) (fun h1 P1 => k_t (by decide) (k_s ⟨rfl, P1.f⟩)))
theorem rz_read24 (hn : n ≤ 400) (hT : ∀ j, j < n → T j < 256) (hl : c.length ≤ q) (hy : Y.1 = 0) (hE : gEq Y c) (ht : ¬ lx_t T n q = 0) (P : rq s0 W T n Y q d c h) : k_ok (F12_readAll_24 317 0 h) (rTR s0 W T n (gRead T n 12 q c Y)) := by
  obtain ⟨r0, er⟩ : ∃ r, gRead T n 12 q c Y = r := ⟨_, rfl⟩
  rw [er]
  unfold F12_readAll_24
  refine wh_i (n := 12) (fun (k : Nat) (z : Int32 × m_H) => z.1 = nI k ∧ ∃ q c Y d, c.length ≤ q ∧ Y.1 = k ∧ gEq Y c ∧ rq s0 W T n Y q d c z.2 ∧ r0 = (if lx_t T n q = 0 ∨ k = 12 then .inr q else gRead T n (12 - k) q c Y)) _ ?_ ?_ m_N 0 _ (N_lt (by decide)) (Nat.zero_le _) ⟨rfl, q, c, Y, d, hl, hy, hE, P, by rw [if_neg (fun z => z.elim ht (by decide))]; exact er.symm⟩
  · rintro k ⟨x, h1⟩ hk ⟨q1, q, c, Y, d, hl, hy, hE, P, e0⟩
    dsimp only at q1 P
    subst q1
    have ql := P.le
    unfold F12_readAll_24b
    dsimp only
    have E := rz_line hn hT hl (by omega) hE P
    rw [hy] at E
    by_cases t0 : lx_t T n q = 0
    · rw [if_pos (Or.inl t0)] at e0
      have eg : gLine T n q c Y = .inr q := by
        unfold gLine gHead
        rw [t0, if_pos (by decide)]
      rw [eg] at E
      refine k_b E ?_
      rintro ⟨v, h2⟩ ⟨ev, R⟩
      dsimp only at ev R ⊢
      subst ev
      refine k_t rfl ?_
      refine k_s ?_
      show rTR s0 W T n r0 (-1, h2)
      rw [e0]
      exact ⟨rfl, R⟩
    rw [if_neg (fun z => z.elim t0 (by omega))] at e0
    obtain ⟨f, hf⟩ : ∃ f, 12 - k = f + 1 := ⟨11 - k, by omega⟩
    have hf' : 12 - (k + 1) = f := by omega
    rw [hf] at e0
    unfold gRead at e0
    rw [if_neg t0] at e0
    have ft := gLine_fit (T := T) (n := n) (c := c) (Y := Y) ql hl
    cases eL : gLine T n q c Y with
    | inr e =>
      rw [eL] at E e0
      dsimp only at e0
      refine k_b E ?_
      rintro ⟨v, h2⟩ ⟨ev, R⟩
      dsimp only at ev R ⊢
      subst ev
      refine k_t rfl ?_
      refine k_s ?_
      show rTR s0 W T n r0 (-1, h2)
      rw [e0]
      exact ⟨rfl, R⟩
    | inl z =>
      have hE' := gLine_eq eL
      obtain ⟨q', c', Y'⟩ := z
      rw [eL] at E e0 ft
      dsimp only at e0 ft hE'
      refine k_b E ?_
      rintro ⟨v, h2⟩ ⟨ev, d', R⟩
      dsimp only at ev R ⊢
      subst ev
      have ql' := R.le
      have kk' := R.kk
      obtain ⟨p', b', hp', ek, R⟩ := R
      have B := rg_blanks R hn hT hp'
      rw [ek] at B
      refine k_f (by decide) (k_b B (fun h3 P3 => k_e P3.pt (k_e P3.en (k_if (fun g => ?_) (fun g => ?_)))))
      · have qn : q' = n := nI_e (by omega) (by omega) g
        have t1 : lx_t T n q' = 0 := lx_t_0 (by omega)
        rw [if_pos t1] at e0
        refine k_s ?_
        rw [e0]
        refine ⟨by rw [ft.2, hy]; exact nI_11 k, by show Y'.1 ≤ 12; omega, d', P3.qq ql' kk'⟩
      · have qn : q' < n := by
          rcases Nat.lt_or_ge q' n with a | a
          · exact a
          · exact absurd (congrArg nI (show q' = n by omega)) g
        have t1 : ¬ lx_t T n q' = 0 := lx_t_pos hT qn
        rw [if_neg t1] at e0
        have t59 := lx_t_s (n := n) (q := q') hT (x := 59) (by unfold lx_sg; omega)
        refine k_e (rg_isAt P3 hn hT ql' (lo := 59) (hi := 59) (by decide) (by decide)) ?_
        by_cases w : q' < n ∧ 59 ≤ T q' ∧ T q' ≤ 59
        · have t2 : lx_t T n q' = 59 := t59.mpr ⟨w.1, by omega⟩
          rw [if_pos w]
          rw [if_pos t2] at e0
          refine k_f (by decide) (k_e P3.pt ?_)
          rw [nI_11, nI_11]
          refine k_b P3.put8 (fun h4 P4 => k_s ⟨rfl, lx_n T n q', c', Y', d', ?_, ?_, hE', ?_, ?_⟩)
          · have := lx_n_lt (T := T) qn
            have := ft.1
            omega
          · have := ft.2
            omega
          · rw [← lx_x_s (n := n) (x := 59) (by unfold lx_sg; omega) w.1 (show T q' = 59 by omega)] at P4
            exact P4.x qn
          · rw [e0, hf']
            by_cases t3 : lx_t T n (lx_n T n q') = 0
            · rw [if_pos t3, if_pos (Or.inl t3)]
            · rw [if_neg t3]
              by_cases f0 : f = 0
              · rw [if_pos f0, if_pos (Or.inr (by omega))]
              · rw [if_neg f0, if_neg (fun z => z.elim t3 (by omega))]
        · have t2 : ¬ lx_t T n q' = 59 := fun z => w (by have := t59.mp z; omega)
          rw [if_neg w]
          rw [if_neg t2] at e0
          refine k_t rfl ?_
          refine k_s ?_
          show rTR s0 W T n r0 (-1, h3)
          rw [e0]
          exact ⟨rfl, P3.f⟩
  · rintro ⟨x, h1⟩ ⟨q1, q, c, Y, d, hl, hy, hE, P, e0⟩
    dsimp only at q1 P
    subst q1
    unfold F12_readAll_24b
    dsimp only
    rw [if_pos (Or.inr rfl)] at e0
    refine k_b (rz_line12 hn hT P) ?_
    rintro ⟨v, h2⟩ ⟨ev, R⟩
    dsimp only at ev R ⊢
    subst ev
    refine k_t rfl (k_s ?_)
    rw [e0]
    exact ⟨rfl, R⟩
theorem rz_read (H : tz_WR s 318 W) (F : tz_fq s0 s) (t : rgt s T n) (e8 : s.1 317 8 = nI 0) (hn : n ≤ 400) (hT : ∀ j, j < n → T j < 256) : k_ok (F12_readAll 317 (tz_H s)) (rTR s0 W T n (gText T n)) := by
  obtain ⟨b, e10⟩ := nI_all (s.1 317 10)
  obtain ⟨d, e11⟩ := nI_all (s.1 317 11)
  unfold F12_readAll F12_readAll_0 gText
  refine k_g io_317 (k_e pf_317_14 ?_)
  have P : rg s0 W T n (0, fun _ => (0, 0, 0)) 0 b d [] (tz_H (tz_uf s 317 14 0)) := ⟨_, rfl, H, F.trans (tz_fq.uf (by decide)), t.uf (by decide) (by decide), (rg_uf (by decide)).trans e8, (rg_uf (by decide)).trans e10, (rg_uf (by decide)).trans e11, ⟨tz_uf_s, fun j hj => absurd hj (Nat.not_lt_zero j)⟩, Nat.zero_le _, fun j hj => absurd hj (Nat.not_lt_zero j)⟩
  have ql : lx_k0 T n 0 ≤ n := (lx_s lx_b T n 0).2.2.2 (Nat.zero_le _)
  have kk : lx_k0 T n (lx_k0 T n 0) = lx_k0 T n 0 := lx_kk (lx_p_k (Nat.zero_le _)).2
  refine k_b (rg_blanks P hn hT (Nat.zero_le _)) (fun h1 P1 => k_e P1.pt (k_e P1.en ?_))
  show k_ok _ (rTR s0 W T n (gRead T n 12 (lx_k0 T n 0) [] (0, fun _ => (0, 0, 0))))
  by_cases q : lx_k0 T n 0 = n
  · rw [q] at P1 ⊢
    refine k_t rfl (k_s ?_)
    unfold gRead
    rw [if_pos (lx_t_0 (Nat.le_refl _))]
    exact ⟨rfl, Nat.zero_le _, d, P1.qq (Nat.le_refl _) (by rw [q] at kk; exact kk)⟩
  · refine k_f (fun z => q (nI_e (by omega) (by omega) z)) ?_
    exact rz_read24 hn hT (Nat.zero_le _) rfl rfl (lx_t_pos hT (by omega)) (P1.qq ql kk)
end
