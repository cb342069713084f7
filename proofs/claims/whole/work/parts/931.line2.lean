/-! ===== a text: the class reads a line, and all lines ===== -/
noncomputable def gRead (T : Nat → Nat) (n : Nat) : Nat → Nat → gC → gY → gL
  | 0, _, _, _ => .inr 0
  | f + 1, q, c, Y => if lx_t T n q = 0 then .inl (q, c, Y) else match gLine T n q c Y with
    | .inr e => .inr e
    | .inl z => if lx_t T n z.1 = 0 then .inl z else if lx_t T n z.1 = 59 then (if lx_t T n (lx_n T n z.1) = 0 then .inr (lx_n T n z.1) else if f = 0 then .inr (lx_n T n z.1) else gRead T n f (lx_n T n z.1) z.2.1 z.2.2) else .inr z.1
section
variable {s0 : tz_S} {W : m_W} {T : Nat → Nat} {n m : Nat} {Y : gY} {i : Nat} {c : gC} {w : Int32} {h : m_H}
theorem gTail_fit {q : Nat} (hq : q ≤ n) (hl : c.length ≤ q) : match gTail T n q c with
    | .inl z => z.2.length ≤ z.1
    | .inr _ => True := by
  unfold gTail
  by_cases t : lx_t T n q = 260
  · rw [if_pos t]
    have l := lx_n_lt (T := T) (lx_t_n (T := T) (n := n) (q := q) (by rw [t]; decide))
    have ft := gP_cond (T := T) (n := n) (A := gAtom T n m_FD 0) (gP_atom m_FD 0) (q := lx_n T n q) (c := c) l.2
    cases e : gCond T n (gAtom T n m_FD 0) (lx_n T n q) c with
    | inl z =>
      rw [e] at ft
      have := ft.2.2.2
      show z.2.length ≤ z.1
      omega
    | inr e => trivial
  · rw [if_neg t]
    exact hl
theorem gL_no (K : gK T n m) (P : pr s0 W T n m Y i c h) (hi : i ≤ m) (hl : c.length ≤ 400) : k_ok (m_b (F7_refuse 206 h) fun h' => some h') (gLR s0 W T n m (.inr (lx_q T n i))) := by
  have hm := K.mm
  exact k_b (pr_refuse P K.1 K.2.1 (by omega) hl) (fun h' P' => k_s ⟨lx_q_le (T := T) (n := n) i, P'⟩)
theorem cz_116 (K : gK T n m) (P : pr s0 W T n m Y i c h) (hi : i ≤ m) (hy : Y.1 < 12) {a b : Int32} : k_ok (F7_readLine_116 206 a b h) (gLR s0 W T n m (.inl (lx_q T n i, c, gY_add Y a b (nI c.length)))) := by
  unfold F7_readLine_116
  exact k_b (cz_addLine K P hy) (fun h' P' => k_s ⟨i, hi, rfl, P'⟩)
theorem cz_91 (K : gK T n m) (P : pr s0 W T n m Y i c h) (hi : i ≤ m) (hl : c.length ≤ lx_q T n i) (hy : Y.1 < 12) {a b : Int32} : k_ok (F7_readLine_91 206 a b h) (gLR s0 W T n m (gEnd a b Y (gTail T n (lx_q T n i) c))) := by
  unfold F7_readLine_91 gTail
  refine k_e P.th (k_if (fun t => ?_) (fun t => ?_))
  · rw [if_pos t]
    obtain ⟨pa, i1, eq1, qn, qlt, qle⟩ := pr_pass K P hi (by rw [t]; decide)
    rw [← eq1] at qlt qle ⊢
    refine k_bb pa (fun _ h2 P2 => ?_)
    have E := (cz_any K (cz_atom (s0 := s0) (W := W) (Y := Y) K m_FD 0 (by decide) (by decide))).good i1 (by omega) P2
    cases e : gCond T n (gAtom T n m_FD 0) (lx_q T n (i + 1)) c with
    | inl z =>
      rw [e] at E
      refine k_b E (fun h3 R => ?_)
      obtain ⟨i', hi', eq, P3⟩ := R
      obtain ⟨q', c'⟩ := z
      dsimp only at eq P3
      subst eq
      exact cz_116 K P3 hi' hy
    | inr e =>
      rw [e] at E
      refine k_b E (fun h3 R => ?_)
      unfold F7_readLine_116
      exact k_b (pb_addLine R.2 (nI_m1 (by have := K.2.1; have := R.1; omega))) (fun h' P' => k_s ⟨R.1, P'⟩)
  · rw [if_neg t]
    exact cz_116 K P hi hy
theorem cz_81 (K : gK T n m) (P : pr s0 W T n m Y i c h) (hi : i ≤ m) (hl : c.length ≤ lx_q T n i) (hy : Y.1 < 12) (ht : ¬ lx_t T n (lx_q T n i) = 0) {a b : Int32} : k_ok (F7_readLine_81 206 a b h) (gLR s0 W T n m (gEnd a b Y (gTail T n (lx_n T n (lx_q T n i)) c))) := by
  unfold F7_readLine_81
  obtain ⟨pa, i1, eq1, qn, qlt, qle⟩ := pr_pass K P hi ht
  rw [← eq1] at qlt qle ⊢
  exact k_bb pa (fun _ h2 P2 => cz_91 K P2 i1 (by omega) hy)
theorem cz_readLine (K : gK T n m) (P : pr s0 W T n m Y i c h) (hi : i ≤ m) (hl : c.length ≤ lx_q T n i) (hy : Y.1 < 12) : k_ok (F7_readLine 206 h) (gLR s0 W T n m (gLine T n (lx_q T n i) c Y)) := by
  have hn := K.2.1
  have ql := lx_q_le (T := T) (n := n) i
  unfold F7_readLine F7_readLine_0 gLine gHead
  refine k_g (nz_io206 P.N) (k_e P.th (k_if (fun t0 => ?_) (fun t0 => ?_)))
  · rw [if_pos t0]
    exact gL_no K P hi (by omega)
  · rw [if_neg t0]
    refine k_if (fun t3 => ?_) (fun t3 => ?_)
    case refine_2 =>
      rw [if_neg t3]
      exact gL_no K P hi (by omega)
    rw [if_pos t3]
    have ht : ¬ lx_t T n (lx_q T n i) = 0 := fun e => t0 (by rw [e]; decide)
    obtain ⟨pa, i1, eq1, qn, qlt, qle⟩ := pr_pass K P hi ht
    rw [← eq1] at qlt qle ⊢
    refine k_bb pa (fun _ h2 P2 => ?_)
    have two : ∀ a, a = lx_t T n (lx_q T n i) - 256 → k_ok (F7_readLine_45 206 a h2) (gLR s0 W T n m (match (if lx_t T n (lx_q T n (i + 1)) = 1 then (if a = 2 ∧ ¬ lx_v T n (lx_q T n (i + 1)) ≤ 100 then .inr (lx_q T n (i + 1)) else .inl (a, lx_v T n (lx_q T n (i + 1)), lx_n T n (lx_q T n (i + 1)))) else .inr (lx_q T n (i + 1)) : (Int32 × Int32 × Nat) ⊕ Nat) with
        | .inl z => gEnd z.1 z.2.1 Y (gTail T n z.2.2 c)
        | .inr e => .inr e)) := by
      intro a ha
      unfold F7_readLine_45
      refine k_e (nz_gr206_0 P2.N) (k_e P2.at (k_e (pr_numAt' P2 K.1 hn i1) (k_e P2.th (k_if (fun t1 => ?_) (fun t1 => ?_)))))
      · rw [if_pos t1]
        have ht1 : ¬ lx_t T n (lx_q T n (i + 1)) = 0 := by rw [t1]; decide
        refine k_if (fun a2 => k_if (fun v1 => ?_) (fun v1 => ?_)) (fun a2 => ?_)
        · rw [if_neg (fun z => z.2 v1)]
          exact cz_81 K P2 i1 (by omega) hy ht1
        · rw [if_pos ⟨a2, v1⟩]
          exact gL_no K P2 i1 (by omega)
        · rw [if_neg (fun z => a2 z.1)]
          exact cz_81 K P2 i1 (by omega) hy ht1
      · rw [if_neg t1]
        exact gL_no K P2 i1 (by omega)
    refine k_if (fun t1 => ?_) (fun t1 => k_if (fun t2 => ?_) (fun t2 => ?_))
    · rw [if_pos (Or.inl t1)]
      exact two _ rfl
    · rw [if_pos (Or.inr t2)]
      exact two _ rfl
    · rw [if_neg (fun z => z.elim t1 t2)]
      exact cz_91 K P2 i1 (by omega) hy
theorem gLine_fit {q : Nat} (hq : q ≤ n) (hl : c.length ≤ q) : match gLine T n q c Y with
    | .inl z => z.2.1.length ≤ z.1 ∧ z.2.2.1 = Y.1 + 1
    | .inr _ => True := by
  have key : ∀ a b q', q' ≤ n → q ≤ q' → match gEnd a b Y (gTail T n q' c) with
      | .inl z => z.2.1.length ≤ z.1 ∧ z.2.2.1 = Y.1 + 1
      | .inr _ => True := by
    intro a b q' h1 h2
    have ft := gTail_fit (T := T) (n := n) (c := c) h1 (show c.length ≤ q' by omega)
    cases e : gTail T n q' c with
    | inl z => rw [e] at ft; exact ⟨ft, rfl⟩
    | inr e => trivial
  unfold gLine
  cases e : gHead T n q with
  | inr e => trivial
  | inl z =>
    unfold gHead at e
    by_cases t0 : lx_t T n q - 256 < 0
    · rw [if_pos t0] at e; cases e
    rw [if_neg t0] at e
    have l := lx_n_lt (T := T) (lx_t_n (T := T) (n := n) (q := q) (fun e => t0 (by rw [e]; decide)))
    by_cases t3 : lx_t T n q - 256 ≤ 3
    case neg => rw [if_neg t3] at e; cases e
    rw [if_pos t3] at e
    by_cases t4 : lx_t T n q - 256 = 1 ∨ lx_t T n q - 256 = 2
    · rw [if_pos t4] at e
      by_cases t1 : lx_t T n (lx_n T n q) = 1
      · rw [if_pos t1] at e
        have l2 := lx_n_lt (T := T) (lx_t_n (T := T) (n := n) (q := lx_n T n q) (by rw [t1]; decide))
        split at e
        · cases e
        · cases e
          exact key _ _ _ l2.2 (by show q ≤ lx_n T n (lx_n T n q); omega)
      · rw [if_neg t1] at e; cases e
    · rw [if_neg t4] at e
      cases e
      exact key _ _ _ l.2 (by show q ≤ lx_n T n q; omega)
end
