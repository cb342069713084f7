/-! ===== a text: the reference reads a line, whole ===== -/
theorem hd_b : ∀ b ∈ List.range 256, nI b - 256 < 0 := by decide +kernel
theorem hd_k : ∀ k ∈ List.range 18, ¬ (nI (256 + k) - 256 < 0) ∧ nI (256 + k) - 256 = nI k ∧ (nI (256 + k) - 256 ≤ 3 ↔ k ≤ 3) := by decide +kernel
section
variable {s0 s : tz_S} {W : m_W} {T : Nat → Nat} {n p b d q : Nat} {Y : gY} {c : gC} {h : m_H} {kd a : Int32}
theorem gHead_k {k : Nat} (hk : k < 4) (t : lx_t T n q = nI (256 + k)) : gHead T n q = if k = 1 ∨ k = 2 then (if lx_t T n (lx_n T n q) = 1 then (if k = 2 ∧ ¬ lx_v T n (lx_n T n q) ≤ 100 then .inr (lx_n T n q) else .inl (nI k, lx_v T n (lx_n T n q), lx_n T n (lx_n T n q))) else .inr (lx_n T n q)) else .inl (nI k, 0, lx_n T n q) := by
  obtain ⟨h1, h2, h3⟩ := hd_k k (List.mem_range.mpr (by omega))
  have e1 : nI k = 1 ↔ k = 1 := nI_eq (b := 1) (by omega) (by decide)
  have e2 : nI k = 2 ↔ k = 2 := nI_eq (b := 2) (by omega) (by decide)
  unfold gHead
  rw [t, if_neg h1, if_pos (h3.mpr (by omega)), h2]
  by_cases k1 : k = 1
  · rw [if_pos (Or.inl (e1.mpr k1)), if_pos (Or.inl k1)]
    by_cases t1 : lx_t T n (lx_n T n q) = 1
    · rw [if_pos t1, if_pos t1, if_neg (fun z => by have := e2.mp z.1; omega), if_neg (fun z => by omega)]
    · rw [if_neg t1, if_neg t1]
  · by_cases k2 : k = 2
    · rw [if_pos (Or.inr (e2.mpr k2)), if_pos (Or.inr k2)]
      by_cases t1 : lx_t T n (lx_n T n q) = 1
      · rw [if_pos t1, if_pos t1]
        by_cases v : lx_v T n (lx_n T n q) ≤ 100
        · rw [if_neg (fun z => z.2 v), if_neg (fun z => z.2 v)]
        · rw [if_pos ⟨e2.mpr k2, v⟩, if_pos ⟨k2, v⟩]
      · rw [if_neg t1, if_neg t1]
    · rw [if_neg (fun z => z.elim (fun z => k1 (e1.mp z)) (fun z => k2 (e2.mp z))), if_neg (fun z => z.elim k1 k2)]
theorem gHead_no (hT : ∀ j, j < n → T j < 256) (h : ∀ k, k < 4 → ¬ lx_t T n q = nI (256 + k)) : gHead T n q = .inr q := by
  unfold gHead
  rcases lx_t_c (q := q) hT with ⟨b, hb, e⟩ | ⟨k, hk, e⟩
  · rw [e, if_pos (hd_b b (List.mem_range.mpr hb))]
  · obtain ⟨h1, h2, h3⟩ := hd_k k (List.mem_range.mpr hk)
    have k4 : ¬ k ≤ 3 := fun z => h k (by omega) e
    rw [e, if_neg h1, if_neg (fun z => k4 (h3.mp z))]
theorem rz_166 (hn : n ≤ 400) (hT : ∀ j, j < n → T j < 256) (hl : c.length ≤ q) (P : rq s0 W T n (gY_add Y kd a (nI c.length)) q d c h) : k_ok (F12_readLine_166 317 (nI (36829 + 4 * Y.1)) h) (rLR s0 W T n (gEnd kd a Y (gTail T n q c))) := by
  have ql := P.le
  have kk := P.kk
  unfold F12_readLine_166 gTail
  refine k_b (rg_passes P hn hT (k := 4) (by decide)) ?_
  rintro ⟨v, h2⟩ (⟨t, ev, P2⟩ | ⟨t, ev, P2⟩)
  · dsimp only at ev P2 ⊢
    subst ev
    have t : lx_t T n q = 260 := t
    have qn := lx_t_n (T := T) (n := n) (q := q) (by rw [t]; decide)
    have l := lx_n_lt (T := T) qn
    rw [if_pos t]
    refine k_f (by decide) (k_b (P2.put11 (d' := 0)) (fun h3 P3 => ?_))
    have A := rz_rcond hn hT (rz_atom (s0 := s0) (W := W) (Y := gY_add Y kd a (nI c.length)) hn hT m_FD 0 (by decide) (by decide))
    have E := A.good (show c.length ≤ lx_n T n q by omega) (P3.x qn)
    cases e : gCond T n (gAtom T n m_FD 0) (lx_n T n q) c with
    | inl z =>
      obtain ⟨q', c'⟩ := z
      rw [e] at E
      refine k_b E ?_
      rintro ⟨v, h4⟩ ⟨ev, R⟩
      dsimp only at ev R ⊢
      subst ev
      obtain ⟨p', b', hp', ek, P4⟩ := R
      refine k_f (by decide) (k_e P4.g1 (k_e P4.st ?_))
      rw [nI_p3, show 36829 + 4 * Y.1 + 3 = 36832 + 4 * Y.1 by omega]
      refine k_b (rg_amt P4 (a' := 0)).2 (fun h5 P5 => k_s ⟨rfl, 0, p', b', hp', ek, ?_⟩)
      exact P5
    | inr e =>
      rw [e] at E
      refine k_b E ?_
      rintro ⟨v, h4⟩ ⟨ev, R⟩
      dsimp only at ev R ⊢
      subst ev
      exact k_t rfl (k_s ⟨rfl, R⟩)
  · dsimp only at ev P2 ⊢
    subst ev
    have t : ¬ lx_t T n q = 260 := t
    rw [if_neg t]
    exact k_t rfl (k_s ⟨rfl, d, P2.qq ql kk⟩)
theorem rz_149 (hn : n ≤ 400) (hT : ∀ j, j < n → T j < 256) (hl : c.length ≤ q) (hy : Y.1 < 12) (P : rq s0 W T n (gY_add Y kd 0 (nI c.length)) q d c h) {lim : Int32} : k_ok (F12_readLine_149 317 (nI (36829 + 4 * Y.1)) lim 317 (nI (36829 + 4 * Y.1) + 1) 318 h) (rLR s0 W T n (if lx_t T n q = 1 ∧ lx_v T n q ≤ lim then gEnd kd (lx_v T n q) Y (gTail T n (lx_n T n q) c) else .inr q)) := by
  unfold F12_readLine_149
  rw [nI_11, show 36829 + 4 * Y.1 + 1 = 36830 + 4 * Y.1 by omega]
  refine k_b (rg_number P hn hT) ?_
  rintro ⟨v, h2⟩ (⟨t1, vl, ev, P2⟩ | ⟨tn, ev, P2⟩)
  · dsimp only at ev P2 ⊢
    obtain ⟨v', hv', ev'⟩ := lx_v_b t1
    have qn := lx_t_n (T := T) (n := n) (q := q) (by rw [t1]; decide)
    have l := lx_n_lt (T := T) qn
    rw [if_pos ⟨t1, vl⟩, ev]
    refine k_b (rg_amt P2 (e' := 0)).1 ?_
    rintro h3 ⟨P3, e3⟩
    refine k_e P3.g1 (k_e e3 (k_t (by rw [ev']; exact Int32.not_lt.mp (nI_pos (by omega))) ?_))
    exact rz_166 hn hT (by omega) (P3.x qn)
  · dsimp only at ev P2 ⊢
    rw [if_neg tn, ev]
    refine k_b (rf_si P2 (show 36827 ≤ 36830 + 4 * Y.1 by omega) (show 36830 + 4 * Y.1 < 37677 by omega)) ?_
    rintro h3 ⟨P3, e1, e3⟩
    exact k_e e1 (k_e e3 (k_f (by decide) (k_s ⟨rfl, P3⟩)))
theorem lineAt_e {k : Nat} : F12_lineAt 10 (nI k) h = some (nI (36829 + 4 * k)) := by
  unfold F12_lineAt F12_lineAt_0
  rw [rt_at, bz_s]
  show some (nI 36827 + nI 2 + nI 4 * nI k) = _
  rw [nI_add, nI_mul, nI_add]
theorem rz_line (hn : n ≤ 400) (hT : ∀ j, j < n → T j < 256) (hl : c.length ≤ q) (hy : Y.1 < 12) (hE : gEq Y c) (P : rq s0 W T n Y q d c h) : k_ok (F12_readLine 317 (nI Y.1) h) (rLR s0 W T n (gLine T n q c Y)) := by
  have io := P.io
  have ql := P.le
  obtain ⟨p, b, hp, eq, P⟩ := P
  have s := lx_s lx_l T n q
  unfold F12_readLine F12_readLine_0
  refine k_g io (k_b (rg_word P hn hT hp eq) (fun h1 P1 => k_f (fun z => absurd (nI_e (m := 12) (by omega) (by decide) z) (by omega)) (k_e lineAt_e ?_)))
  have isw : ∀ k, k < 4 → F12_isWord 317 (ra k) h1 = some (if lx_t T n q = nI (256 + k) then 1 else 0) := by
    intro k hk
    rw [rg_isWord P1 hn (s.2.2.2 ql) s.1 (fun j a b => (s.2.1 j a b).2) (by omega)]
    by_cases w : lx_w T (11 + k) q (lx_e lx_l T n q)
    · rw [if_pos w, if_pos ((lx_t_w hT (by omega)).mpr w)]
    · rw [if_neg w, if_neg (fun z => w ((lx_t_w hT (by omega)).mp z))]
  -- a line of kind k
  have go : ∀ k, k < 4 → lx_t T n q = nI (256 + k) → k_ok (F12_readLine_72 317 (nI (36829 + 4 * Y.1)) (nI k) h1) (rLR s0 W T n (gLine T n q c Y)) := by
    intro k hk t
    have w := (lx_t_w hT (by omega)).mp t
    have qn := lx_t_n (T := T) (n := n) (q := q) (by rw [t]; exact fun z => absurd (nI_e (m := 0) (by omega) (by decide) z) (by omega))
    have l := lx_n_lt (T := T) qn
    have ex := lx_x_w (show k < 18 by omega) w
    rw [← ex] at P1
    unfold F12_readLine_72 gLine
    rw [gHead_k hk t]
    refine rg_72 P1 hy hE (fun h2 P2 => k_t (Int32.not_lt.mp (nI_pos (by omega))) ?_)
    have P3 := P2.x qn
    by_cases k1 : k = 1
    · subst k1
      rw [if_pos (Or.inl rfl)]
      refine k_t rfl ?_
      unfold F12_readLine_129
      refine k_e P2.g1 (k_f (by decide) (k_m (rz_149 hn hT (by omega) hy P3 (lim := 99999)) (fun z R => ?_)))
      by_cases t1 : lx_t T n (lx_n T n q) = 1
      · obtain ⟨v', hv', ev'⟩ := lx_v_b t1
        rw [if_pos ⟨t1, by rw [ev']; exact nI_le (b := 99999) hv' (by decide)⟩] at R
        rw [if_pos t1, if_neg (fun z => by omega)]
        exact R
      · rw [if_neg (fun z => t1 z.1)] at R
        rw [if_neg t1]
        exact R
    · have n1 : ¬ nI k = 1 := fun z => k1 (nI_e (m := 1) (by omega) (by decide) z)
      refine k_f n1 ?_
      by_cases k2 : k = 2
      · subst k2
        rw [if_pos (Or.inr rfl)]
        refine k_t rfl ?_
        unfold F12_readLine_129
        refine k_e P2.g1 (k_t rfl (k_m (rz_149 hn hT (by omega) hy P3 (lim := 100)) (fun z R => ?_)))
        by_cases t1 : lx_t T n (lx_n T n q) = 1
        · rw [if_pos t1]
          by_cases v : lx_v T n (lx_n T n q) ≤ 100
          · rw [if_pos ⟨t1, v⟩] at R
            rw [if_neg (fun z => z.2 v)]
            exact R
          · rw [if_neg (fun z => v z.2)] at R
            rw [if_pos ⟨rfl, v⟩]
            exact R
        · rw [if_neg (fun z => t1 z.1)] at R
          rw [if_neg t1]
          exact R
      · rw [if_neg (fun z => z.elim k1 k2)]
        have n2 : ¬ nI k = 2 := fun z => k2 (nI_e (m := 2) (by omega) (by decide) z)
        exact k_f n2 (rz_166 (q := lx_n T n q) hn hT (by omega) P3)
  have i0 := isw 0 (by decide)
  have i1 := isw 1 (by decide)
  have i2 := isw 2 (by decide)
  have i3 := isw 3 (by decide)
  refine k_e i0 ?_
  by_cases t0 : lx_t T n q = nI (256 + 0)
  · rw [if_pos t0]
    exact k_f (by decide) (go 0 (by decide) t0)
  rw [if_neg t0]
  refine k_t rfl (k_e i1 ?_)
  by_cases t1 : lx_t T n q = nI (256 + 1)
  · rw [if_pos t1]
    exact k_f (by decide) (go 1 (by decide) t1)
  rw [if_neg t1]
  refine k_t rfl (k_e i2 ?_)
  by_cases t2 : lx_t T n q = nI (256 + 2)
  · rw [if_pos t2]
    exact k_f (by decide) (go 2 (by decide) t2)
  rw [if_neg t2]
  refine k_t rfl (k_e i3 ?_)
  by_cases t3 : lx_t T n q = nI (256 + 3)
  · rw [if_pos t3]
    exact k_f (by decide) (go 3 (by decide) t3)
  rw [if_neg t3]
  refine k_t rfl ?_
  unfold F12_readLine_72 gLine
  rw [gHead_no hT (fun k hk => by
    match k, hk with
    | 0, _ => exact t0
    | 1, _ => exact t1
    | 2, _ => exact t2
    | 3, _ => exact t3
    | k + 4, hk => omega)]
  exact rg_72 P1 hy hE (fun h2 P2 => k_f (by decide) (k_s ⟨rfl, P2.f⟩))
end
