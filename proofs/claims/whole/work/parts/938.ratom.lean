/-! ===== a text: the reference reads atoms ===== -/
section
variable {s0 s : tz_S} {W : m_W} {T : Nat → Nat} {n p b d q f : Nat} {Y : gY} {c : gC} {h : m_H} {A : Nat → m_H → Option (Int32 × m_H)}
theorem rq.de (P : rq s0 W T n Y q d c h) : m_gi h 317 9 11 = some (nI d) := by
  obtain ⟨p, b, hp, ek, P⟩ := P
  exact P.de
theorem rq.put11 (P : rq s0 W T n Y q d c h) {d' : Nat} : k_ok (m_pf m_ft h 317 9 11 (.int (nI d'))) (rq s0 W T n Y q d' c) := by
  obtain ⟨p, b, hp, ek, P⟩ := P
  exact k_m P.put11 (fun h1 P1 => ⟨p, b, hp, ek, P1⟩)
theorem rq.emits (P : rq s0 W T n Y q d c h) (hc : c.length < 400) {st nm : Int32} : k_ok (F12_emits 317 st nm h) (rq s0 W T n Y q d (c ++ [(st, nm)])) := by
  obtain ⟨p, b, hp, ek, P⟩ := P
  exact k_m (rg_emits P hc) (fun h1 P1 => ⟨p, b, hp, ek, P1⟩)
theorem rz_143 (hn : n ≤ 400) (hT : ∀ j, j < n → T j < 256) (hl : c.length < q) (P : rq s0 W T n Y q d c h) {x op : Int32} (hx : x = 1 ∧ op = 102 ∨ x = 0 ∧ op = 103) : k_ok (F12_readAtom_143 A 317 x h) (rR s0 W T n Y d (gB (gSum T n q c) (fun q2 c2 => .inl (q2, c2 ++ [(op, 0)])))) := by
  have ql := P.le
  unfold F12_readAtom_143
  refine rR_b ((rz_rsum hn hT).good (by omega) P) (gP_sum ql) (fun q' c' h' P' h1 h2 => k_f (show ¬ (1 : Int32) = 0 by decide) ?_) (fun e h' R => k_t rfl (rz_no R))
  have ql' := P'.le
  rcases hx with ⟨rfl, rfl⟩ | ⟨rfl, rfl⟩
  · exact k_f (by decide) (k_b (P'.emits (by omega)) (fun h3 P3 => k_s ⟨rfl, P3⟩))
  · exact k_t rfl (k_b (P'.emits (by omega)) (fun h3 P3 => k_s ⟨rfl, P3⟩))
theorem rz_cmp (hn : n ≤ 400) (hT : ∀ j, j < n → T j < 256) (hl : c.length ≤ q) (P : rq s0 W T n Y q d c h) : k_ok (m_b (F12_readSum 317 h) fun z8 => m_if (z8.1 = 0) (some (0, z8.2)) (m_b (F12_sign 317 60 z8.2) fun z11 => m_if (z11.1 = 0) (m_b (F12_sign 317 62 z11.2) fun z14 => m_if (z14.1 = 0) (some (0, z14.2)) (F12_readAtom_143 A 317 z11.1 z14.2)) (F12_readAtom_143 A 317 z11.1 z11.2))) (rR s0 W T n Y d (gCmp T n q c)) := by
  have ql := P.le
  unfold gCmp
  refine rR_b ((rz_rsum hn hT).good hl P) (gP_sum ql) (fun q' c' h' P' h1 h2 => k_f (show ¬ (1 : Int32) = 0 by decide) ?_) (fun e h' R => k_t rfl (rz_no R))
  have ql' := P'.le
  have kk' := P'.kk
  refine k_b (rg_sign P' hn hT (x := 60) (by unfold lx_sg; omega)) ?_
  rintro ⟨v, h2⟩ (⟨t, ev, P2⟩ | ⟨t, ev, P2⟩)
  · dsimp only at ev P2 ⊢
    subst ev
    have t : lx_t T n q' = 60 := t
    have qn := lx_t_n (T := T) (n := n) (q := q') (by rw [t]; decide)
    have l := lx_n_lt (T := T) qn
    rw [if_pos t]
    exact k_f (by decide) (rz_143 hn hT (by omega) (P2.x qn) (Or.inl ⟨rfl, rfl⟩))
  · dsimp only at ev P2 ⊢
    subst ev
    have t : ¬ lx_t T n q' = 60 := t
    rw [if_neg t]
    refine k_t rfl (k_b (rg_sign (P2.qq ql' kk') hn hT (x := 62) (by unfold lx_sg; omega)) ?_)
    rintro ⟨v, h3⟩ (⟨t2, ev, P3⟩ | ⟨t2, ev, P3⟩)
    · dsimp only at ev P3 ⊢
      subst ev
      have t2 : lx_t T n q' = 62 := t2
      have qn := lx_t_n (T := T) (n := n) (q := q') (by rw [t2]; decide)
      have l := lx_n_lt (T := T) qn
      rw [if_pos t2]
      exact k_f (by decide) (rz_143 hn hT (by omega) (P3.x qn) (Or.inr ⟨rfl, rfl⟩))
    · dsimp only at ev P3 ⊢
      subst ev
      have t2 : ¬ lx_t T n q' = 62 := t2
      rw [if_neg t2]
      exact k_t rfl (rz_no P3.f)
theorem rz_atomS (hn : n ≤ 400) (hT : ∀ j, j < n → T j < 256) (hd : d ≤ 6) (G : d < 6 → rA s0 W T n Y (d + 1) (A 317) (gAtom T n f (d + 1))) : rA s0 W T n Y d (F12_readAtoms A 317) (gAtom T n (f + 1) d) := by
  refine ⟨fun {q c h} hl P => ?_, fun q c hq => gP_atom (f + 1) d q c hq⟩
  have ql := P.le
  have kk := P.kk
  have six : ¬ d = 6 → ¬ nI d = 6 := fun z e => z (nI_e (m := 6) (by omega) (by decide) e)
  unfold F12_readAtoms F12_readAtom_0 gAtom
  refine k_g P.io (k_b (rg_sign P hn hT (x := 40) (by unfold lx_sg; omega)) ?_)
  rintro ⟨v, h2⟩ (⟨t, ev, P2⟩ | ⟨t, ev, P2⟩)
  · dsimp only at ev P2 ⊢
    subst ev
    have t : lx_t T n q = 40 := t
    have qn := lx_t_n (T := T) (n := n) (q := q) (by rw [t]; decide)
    have l := lx_n_lt (T := T) qn
    rw [if_pos t]
    refine k_f (by decide) (k_e P2.de ?_)
    by_cases d6 : d = 6
    · rw [if_pos d6, d6]
      exact k_t rfl (rz_no P2.f)
    rw [if_neg d6]
    refine k_f (six d6) (k_e P2.de ?_)
    rw [nI_1]
    refine k_b P2.put11 (fun h3 P3 => ?_)
    have G2 := rz_rcond hn hT (G (by omega))
    refine rR_b (G2.good (show c.length ≤ lx_n T n q by omega) (P3.x qn)) (G2.fit _ c l.2) (fun q' c' h' P' h1 h2 => k_f (show ¬ (1 : Int32) = 0 by decide) ?_) (fun e h' R => k_t rfl (rz_no R))
    refine k_e P'.de ?_
    rw [show nI (d + 1) - 1 = nI d from (nI_sub (b := 1) (by omega)).trans (congrArg nI (by omega))]
    refine k_b P'.put11 (fun h4 P4 => k_b (rg_sign P4 hn hT (x := 41) (by unfold lx_sg; omega)) ?_)
    rintro ⟨v, h5⟩ (⟨t2, ev, P5⟩ | ⟨t2, ev, P5⟩)
    · dsimp only at ev P5 ⊢
      subst ev
      have t2 : lx_t T n q' = 41 := t2
      have qn' := lx_t_n (T := T) (n := n) (q := q') (by rw [t2]; decide)
      rw [if_pos t2]
      exact k_g rfl (k_s ⟨rfl, P5.x qn'⟩)
    · dsimp only at ev P5 ⊢
      subst ev
      have t2 : ¬ lx_t T n q' = 41 := t2
      rw [if_neg t2]
      exact k_g rfl (rz_no P5.f)
  · dsimp only at ev P2 ⊢
    subst ev
    have t : ¬ lx_t T n q = 40 := t
    rw [if_neg t]
    refine k_t rfl (k_b (rg_passes (P2.qq ql kk) hn hT (k := 7) (by decide)) ?_)
    rintro ⟨v, h3⟩ (⟨t2, ev, P3⟩ | ⟨t2, ev, P3⟩)
    · dsimp only at ev P3 ⊢
      subst ev
      have t2 : lx_t T n q = 263 := t2
      have qn := lx_t_n (T := T) (n := n) (q := q) (by rw [t2]; decide)
      have l := lx_n_lt (T := T) qn
      rw [if_pos t2]
      refine k_f (by decide) (k_e P3.de ?_)
      by_cases d6 : d = 6
      · rw [if_pos d6, d6]
        exact k_t rfl (rz_no P3.f)
      rw [if_neg d6]
      refine k_f (six d6) (k_e P3.de ?_)
      rw [nI_1]
      refine k_b P3.put11 (fun h4 P4 => ?_)
      have G2 := G (by omega)
      refine rR_b (G2.good (show c.length ≤ lx_n T n q by omega) (P4.x qn)) (G2.fit _ c l.2) (fun q' c' h' P' h1 h2 => k_f (show ¬ (1 : Int32) = 0 by decide) ?_) (fun e h' R => k_t rfl (rz_no R))
      have ql' := P'.le
      refine k_e P'.de ?_
      rw [show nI (d + 1) - 1 = nI d from (nI_sub (b := 1) (by omega)).trans (congrArg nI (by omega))]
      exact k_b P'.put11 (fun h5 P5 => k_b (P5.emits (by omega)) (fun h6 P6 => k_s ⟨rfl, P6⟩))
    · dsimp only at ev P3 ⊢
      subst ev
      have t2 : ¬ lx_t T n q = 263 := t2
      rw [if_neg t2]
      exact k_t rfl (rz_cmp hn hT hl (P3.qq ql kk))
theorem rz_atom (hn : n ≤ 400) (hT : ∀ j, j < n → T j < 256) : ∀ f d, d ≤ 6 → 7 ≤ f + d → rA s0 W T n Y d (F12_readAtom f 317) (gAtom T n f d)
  | 0, d, hd, hf => by omega
  | f + 1, d, hd, hf => rz_atomS hn hT hd (fun d6 => rz_atom hn hT f (d + 1) d6 (by omega))
end
