/-! ===== a text: the reference writes code, reads parts ===== -/
theorem k_mp {α β : Type} {o : Option α} {f : α → β} {P : β → Prop} (h : k_ok o (fun a => P (f a))) : k_ok (o.map f) P := by
  obtain ⟨a, rfl, ha⟩ := h
  exact ⟨_, rfl, ha⟩
theorem rt_at {h : m_H} : F12_textAt 10 h = some (nI 36827) := by
  unfold F12_textAt F12_textAt_0
  exact congrArg some (by decide)
theorem em_ix (k : Nat) : (nI 36827 + 50) + 2 * nI k = nI (36877 + 2 * k) := by
  show nI 36827 + nI 50 + nI 2 * nI k = _
  rw [nI_add, nI_mul, nI_add]
theorem F12_fa {h : m_H} : ∀ s, s < 10 → F12_fact (nI s) h = some (65 + s)
  | 0, _ => rfl
  | 1, _ => rfl
  | 2, _ => rfl
  | 3, _ => rfl
  | 4, _ => rfl
  | 5, _ => rfl
  | 6, _ => rfl
  | 7, _ => rfl
  | 8, _ => rfl
  | 9, _ => rfl
  | s + 10, h => absurd h (by omega)
section
variable {s0 s : tz_S} {W : m_W} {T : Nat → Nat} {n p b d q : Nat} {Y : gY} {c : gC} {h : m_H}
theorem rg_W {x : Nat} {v : Int32} (hx : 36827 ≤ x) (H : tz_WR s 318 W) : tz_WR (tz_ui s 318 (upd (s.2.1 318) x v)) 318 W := fun k r c hv => by
  rw [tz_ui_a, pk_un (by have := wz_ix_lt hv; omega)]
  exact H k r c hv
theorem rg_T {f : Nat → Int32} (t : rgt s T n) : rgt (tz_ui s 318 f) T n := ⟨t.1, t.2.1, fun j hj => by rw [tz_ui_n (by decide)]; exact t.2.2 j hj⟩
theorem rg_Y {x : Nat} {v : Int32} (hx : 36877 ≤ x) (t : rgy s Y) : rgy (tz_ui s 318 (upd (s.2.1 318) x v)) Y := ⟨t.1, fun j hj => by
  have := t.1
  rw [tz_ui_a, pk_un (by omega), pk_un (by omega), pk_un (by omega), pk_un (by omega)]
  exact t.2 j hj⟩
theorem rg_emits (P : rg s0 W T n Y p b d c h) (hc : c.length < 400) {st nm : Int32} : k_ok (F12_emits 317 st nm h) (rg s0 W T n Y p b d (c ++ [(st, nm)])) := by
  have es := P.st
  obtain ⟨s, rfl, H, F, t, e8, e10, e11, ec, ey⟩ := P
  unfold F12_emits F12_emits_0
  refine k_g io_317 (k_e rt_at (k_e es (k_e gr_317_1 ?_)))
  rw [em_ix]
  refine k_e (tz_si sh_318 ⟨rfl, rfl⟩ (nI_in1 (show 36877 + 2 * c.length < 37677 by omega) (by decide))) ?_
  rw [nI_clamp (by omega)]
  refine k_e gr_317_1 ?_
  rw [nI_1]
  refine k_e (tz_si sh_318 ⟨rfl, rfl⟩ (nI_in1 (show 36877 + 2 * c.length + 1 < 37677 by omega) (by decide))) ?_
  rw [nI_clamp (by omega)]
  refine k_e (gi_317_14.trans (congrArg some ec.1)) ?_
  rw [nI_1]
  refine k_e pf_317_14 (k_s ⟨_, rfl, rg_W (by omega) (rg_W (by omega) H), ((F.trans (tz_fq.ui (Or.inl rfl))).trans (tz_fq.ui (Or.inl rfl))).trans (tz_fq.uf (by decide)), (rg_T (rg_T t)).uf (by decide) (by decide), (rg_uf (by decide)).trans e8, (rg_uf (by decide)).trans e10, (rg_uf (by decide)).trans e11, ⟨tz_uf_s.trans (by rw [List.length_append]; rfl), fun j hj => ?_⟩, rg_Y (by omega) (rg_Y (by omega) ey)⟩)
  rw [List.length_append] at hj
  have hj : j < c.length + 1 := hj
  show (tz_ui (tz_ui s 318 (upd (s.2.1 318) (36877 + 2 * c.length) st)) 318 (upd ((tz_ui s 318 (upd (s.2.1 318) (36877 + 2 * c.length) st)).2.1 318) (36877 + 2 * c.length + 1) nm)).2.1 318 (36877 + 2 * j) = _ ∧ (tz_ui (tz_ui s 318 (upd (s.2.1 318) (36877 + 2 * c.length) st)) 318 (upd ((tz_ui s 318 (upd (s.2.1 318) (36877 + 2 * c.length) st)).2.1 318) (36877 + 2 * c.length + 1) nm)).2.1 318 (36878 + 2 * j) = _
  rw [tz_ui_a, tz_ui_a]
  by_cases w : j = c.length
  · subst w
    rw [pk_un (by omega), pk_us, show 36878 + 2 * c.length = 36877 + 2 * c.length + 1 by omega, pk_us, List.getD_eq_getElem?_getD, List.getElem?_append_right (Nat.le_refl _), Nat.sub_self]
    exact ⟨rfl, rfl⟩
  · rw [pk_un (by omega), pk_un (by omega), pk_un (by omega), pk_un (by omega), List.getD_eq_getElem?_getD, List.getElem?_append_left (by omega), ← List.getD_eq_getElem?_getD]
    exact ec.2 j (by omega)
def rR (s0 : tz_S) (W : m_W) (T : Nat → Nat) (n : Nat) (Y : gY) (d : Nat) (r : gG) (z : Int32 × m_H) : Prop := match r with
  | .inl y => z.1 = 1 ∧ rq s0 W T n Y y.1 d y.2 z.2
  | .inr e => z.1 = 0 ∧ rf s0 W e z.2
theorem lx_t_nw (hT : ∀ j, j < n → T j < 256) (hr : lx_e lx_l T n q ≤ q) : lx_t T n q < 264 := by
  by_cases t : lx_t T n q < 264
  · exact t
  · obtain ⟨k, hk, e⟩ := lx_t_f hT t
    have w := (lx_t_w hT (q := q) (k := 8 + k) (by omega)).mp (by rw [e]; congr 1; omega)
    obtain ⟨l0, l6⟩ := sls_ok (8 + k) (List.mem_range.mpr (by omega))
    have := w.1
    omega
theorem rz_part (P : rq s0 W T n Y q d c h) (hn : n ≤ 400) (hT : ∀ j, j < n → T j < 256) (hc : c.length ≤ q) : k_ok (F12_readPart 317 h) (rR s0 W T n Y d (gPart T n q c)) := by
  have io := P.io
  have ql := P.le
  have kk := P.kk
  obtain ⟨p, b, hp, eq, P⟩ := P
  unfold F12_readPart F12_readPart_0 gPart
  refine k_g io (k_b (rg_word P hn hT hp eq) (fun h1 P1 => k_e P1.pt (k_e P1.be ?_)))
  have s := lx_s lx_l T n q
  have rl := s.2.2.2 ql
  by_cases r : lx_e lx_l T n q ≤ q
  · have er : lx_e lx_l T n q = q := by omega
    rw [er] at P1 ⊢
    refine k_t (Int32.le_refl _) (k_b (rg_number (P1.qq ql kk) hn hT) ?_)
    rintro ⟨v, h2⟩ (⟨t1, vl, ev, P2⟩ | ⟨tn, ev, P2⟩)
    · dsimp only at ev P2 ⊢
      obtain ⟨v', hv', ev'⟩ := lx_v_b t1
      have qn := lx_t_n (T := T) (n := n) (q := q) (by rw [t1]; decide)
      rw [if_pos t1]
      refine k_t (by rw [ev, ev']; exact Int32.not_lt.mp (nI_pos (by omega))) (k_b (rg_emits P2 (by omega)) (fun h3 P3 => k_s ⟨rfl, ?_⟩))
      rw [ev] at P3
      exact P3.x qn
    · dsimp only at ev P2 ⊢
      subst ev
      have t1 : ¬ lx_t T n q = 1 := fun z => tn ⟨z, by
        obtain ⟨v', hv', ev'⟩ := lx_v_b z
        rw [ev']
        exact nI_le (b := 99999) hv' (by decide)⟩
      rw [if_neg t1, if_pos (lx_t_nw hT r)]
      exact k_f (by decide) (k_s ⟨rfl, P2⟩)
  · obtain ⟨qn, qd⟩ := s.2.1 q (Nat.le_refl _) (by omega)
    have nd : ¬ lx_d (T q) = true := fun z => by
      have := lx_dg.mp z
      have := lx_lt.mp qd
      omega
    have et : lx_t T n q = lx_wd T q (lx_e lx_l T n q) := by
      unfold lx_t
      rw [if_neg (by omega), if_neg nd, if_pos qd]
    have ex : lx_x T n q = lx_e lx_l T n q := by
      unfold lx_x
      rw [if_neg (by omega), if_neg nd, if_pos qd]
    have t1 : ¬ lx_t T n q = 1 := by
      rw [et]
      show ¬ lx_wn T q (lx_e lx_l T n q) 18 0 = 1
      rcases lx_wn_c (T := T) (q := q) (r := lx_e lx_l T n q) 18 0 with e | ⟨i, hi, e⟩
      · rw [e]; decide
      · rw [e]
        exact fun z => absurd (nI_e (m := 1) (by omega) (by decide) z) (by omega)
    rw [if_neg t1]
    refine k_f (nI_ge (by omega) (by omega)) ?_
    unfold F12_readPart_17
    refine wh_i (n := 10) (fun (i : Nat) (z : Int32) => z = nI i ∧ ∀ j, j < i → ¬ lx_t T n q = nI (264 + j)) _ ?_ ?_ m_N 0 _ (N_lt (by decide)) (Nat.zero_le _) ⟨rfl, fun j hj => absurd hj (Nat.not_lt_zero j)⟩
    · rintro i _ hi ⟨rfl, ih⟩
      unfold F12_readPart_17b
      refine k_f (show ¬ (10 : Int32) ≤ nI i from nI_ge (b := 10) hi (by decide)) (k_e (F12_fa i hi) ?_)
      have era : 65 + i = ra (8 + i) := by
        unfold ra
        rw [if_neg (by omega), if_neg (by omega), if_neg (by omega), if_neg (by omega)]
        omega
      rw [era]
      refine k_e (rg_isWord P1 hn rl s.1 (fun j a b => (s.2.1 j a b).2) (by omega)) ?_
      by_cases w : lx_w T (11 + (8 + i)) q (lx_e lx_l T n q)
      · rw [if_pos w]
        have e := (lx_t_w hT (q := q) (k := 8 + i) (by omega)).mpr w
        have e : lx_t T n q = nI (264 + i) := by rw [e]; congr 1; omega
        have tg : ¬ lx_t T n q < 264 := by rw [e]; exact nI_nlt (b := 264) (by omega) (by omega)
        rw [if_neg tg]
        refine k_f (by decide) (k_mp ?_)
        unfold F12_readPart_40
        refine k_f (fun z => absurd (nI_e (m := 10) (by omega) (by decide) z) (by omega)) (k_b (rg_emits P1 (by omega)) (fun h3 P3 => k_s ⟨rfl, ?_⟩))
        rw [show lx_t T n q - 264 = nI i by rw [e]; exact (nI_sub (b := 264) (by omega)).trans (congrArg nI (by omega))]
        rw [← ex] at P3
        exact P3.x qn
      · rw [if_neg w]
        refine k_t rfl (k_s ⟨by rw [nI_1], fun j hj => ?_⟩)
        by_cases e : j = i
        · subst e
          exact fun z => w ((lx_t_w hT (q := q) (k := 8 + j) (by omega)).mp (by rw [z]; congr 1; omega))
        · exact ih j (by omega)
    · rintro _ ⟨rfl, ih⟩
      unfold F12_readPart_17b
      have tg : lx_t T n q < 264 := by
        by_cases t : lx_t T n q < 264
        · exact t
        · obtain ⟨k, hk, e⟩ := lx_t_f hT t
          exact absurd e (ih k hk)
      rw [if_pos tg]
      refine k_t (by decide) (k_mp ?_)
      unfold F12_readPart_40
      exact k_t rfl (k_s ⟨rfl, P1.f⟩)
end
