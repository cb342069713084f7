/-! ===== a text: the class splits it, all of it ===== -/
section
variable {s0 : tz_S} {W : m_W} {T : Nat → Nat} {n p c : Nat} {h : m_H}
theorem tp_add (P : tp s0 W T n p c h) (hc : c ≤ 400) {a b v : Int32} (ha : a = lx_t T n (lx_q T n c)) (hb : b = nI (lx_q T n c)) (hv : v = lx_v T n (lx_q T n c)) : k_ok (F9_addThing 201 a b v h) (tp s0 W T n p (c + 1)) := by
  subst ha hb hv
  have l1 : ¬ (401 : Int32) ≤ nI c := nI_ge (b := 401) (by omega) (by decide)
  unfold F9_addThing F9_addThing_0
  refine k_g (nz_io201 P.N) (k_e P.cn (k_f (nI_pos (by omega)) (k_e P.cn (k_e (nz_gr201_4 P.N) (k_e (nz_le203 P.N) (k_f l1 (k_e P.cn (k_e (nz_gr201_5 P.N) (k_e (nz_le204 P.N) (k_f l1 (k_e P.cn (k_e (nz_gr201_6 P.N) (k_e (nz_le205 P.N) (k_f l1 ?_))))))))))))))
  obtain ⟨s, rfl, H, fr, d1, d2, d3, d4, d5⟩ := P
  have in1 : m_in (nI c) 401 = true := nI_in1 (by omega) (by decide)
  have cl : (nI c).toNatClampNeg = c := nI_clamp (by omega)
  refine k_e gr_201_4 (k_e (gi_201_7.trans (congrArg some d4)) (k_e (tz_si sh_203 ⟨rfl, rfl⟩ in1) ?_))
  rw [cl]
  refine k_e gr_201_5 (k_e (gi_201_7.trans (congrArg some d4)) (k_e (tz_si sh_204 ⟨rfl, rfl⟩ in1) ?_))
  rw [cl]
  refine k_e gr_201_6 (k_e (gi_201_7.trans (congrArg some d4)) (k_e (tz_si sh_205 ⟨rfl, rfl⟩ in1) ?_))
  rw [cl]
  refine k_e (gi_201_7.trans (congrArg some d4)) ?_
  rw [nI_1]
  refine k_e pf_201_7 (k_s ⟨_, rfl, ?_, (((fr.ui (by decide) (by decide) (by decide)).ui (by decide) (by decide) (by decide)).ui (by decide) (by decide) (by decide)).uf (by decide), ?_, fun j hj => ?_, ?_, tz_uf_s, fun i hi => ?_⟩)
  · refine (hz_HRi (hz_HRi (hz_HRi H (by decide)) (by decide)) (by decide)).cong (fun y j h1 _ => if_neg (by omega)) (fun _ _ _ => rfl) rfl rfl
  · exact (tz_uf_n (by decide)).trans d1
  · exact (congrFun ((tz_ui_n (by decide)).trans ((tz_ui_n (by decide)).trans (tz_ui_n (by decide)))) j).trans (d2 j hj)
  · exact (tz_uf_n (by decide)).trans d3
  · have x3 : ∀ (s : tz_S) (f3 f4 f5 : Nat → Int32), (tz_ui (tz_ui (tz_ui s 203 f3) 204 f4) 205 f5).2.1 203 = f3 ∧ (tz_ui (tz_ui (tz_ui s 203 f3) 204 f4) 205 f5).2.1 204 = f4 ∧ (tz_ui (tz_ui (tz_ui s 203 f3) 204 f4) 205 f5).2.1 205 = f5 := fun s f3 f4 f5 => ⟨(tz_ui_n (by decide)).trans ((tz_ui_n (by decide)).trans tz_ui_a), (tz_ui_n (by decide)).trans tz_ui_a, tz_ui_a⟩
    have r3 : ∀ (k : Nat) (v : Int32) (s : tz_S), (tz_uf s 201 k v).2.1 = s.2.1 := fun _ _ _ => rfl
    rw [r3]
    obtain ⟨y1, y2, y3⟩ := x3 s (upd (s.2.1 203) c (vp_nar (m_ty 0) (lx_t T n (lx_q T n c)))) (upd ((tz_ui s 203 (upd (s.2.1 203) c (vp_nar (m_ty 0) (lx_t T n (lx_q T n c))))).2.1 204) c (vp_nar (m_ty 0) (nI (lx_q T n c)))) (upd ((tz_ui (tz_ui s 203 (upd (s.2.1 203) c (vp_nar (m_ty 0) (lx_t T n (lx_q T n c))))) 204 (upd ((tz_ui s 203 (upd (s.2.1 203) c (vp_nar (m_ty 0) (lx_t T n (lx_q T n c))))).2.1 204) c (vp_nar (m_ty 0) (nI (lx_q T n c))))).2.1 205) c (vp_nar (m_ty 0) (lx_v T n (lx_q T n c))))
    rw [y1, y2, y3]
    by_cases e : i = c
    · subst e
      rw [pk_us, pk_us, pk_us]
      exact ⟨rfl, rfl, rfl⟩
    · have hi' : i < c := by omega
      rw [pk_un e, pk_un e, pk_un e, tz_ui_n (by decide), tz_ui_n (by decide), tz_ui_n (by decide)]
      exact d5 i hi'
/-- a thing is split off -/
theorem tp_off (P : tp s0 W T n p c h) (hn : n ≤ 400) (hT : ∀ j, j < n → T j < 256) (hc : c ≤ 400) (hp : p < n) (hq : lx_q T n c = p) : k_ok (F9_splitOff 201 (nI (T p)) h) (tp s0 W T n (lx_x T n p) (c + 1)) := by
  have bT := hT p hp
  have et : lx_t T n p = if lx_d (T p) = true then (if lx_e lx_d T n p - p ≤ 5 then 1 else 2) else if lx_l (T p) = true then lx_wd T p (lx_e lx_l T n p) else if lx_sg (T p) then nI (T p) else 2 := if_neg (by omega)
  have ex : lx_x T n p = if lx_d (T p) = true then lx_e lx_d T n p else if lx_l (T p) = true then lx_e lx_l T n p else p + 1 := if_neg (by omega)
  have ev : lx_v T n p = if lx_d (T p) = true then lx_va T p (lx_e lx_d T n p - p) else 0 := if_neg (by omega)
  unfold F9_splitOff F9_splitOff_0
  refine k_g (nz_io201 P.N) (k_e P.nx (k_e (F9_dig bT) ?_))
  by_cases d : lx_d (T p) = true
  · rw [if_pos d] at et ex ev ⊢
    have sp := lx_s lx_d T n p
    refine k_f (by decide) (k_b (tp_num P hn hT (by omega)) ?_)
    rintro ⟨v, h1⟩ ⟨e1, P1⟩
    dsimp only at e1 P1
    subst e1
    refine k_e P1.nx ?_
    rw [nI_sub sp.1, ex]
    refine k_if (fun z => ?_) (fun z => ?_)
    · have z' : lx_e lx_d T n p - p ≤ 5 := by
        rcases Nat.lt_or_ge 5 (lx_e lx_d T n p - p) with a | a
        · exact absurd z (nI_ge (a := 5) a (by have := sp.2.2.2 (by omega); omega))
        · exact a
      refine k_b (tp_add P1 hc (by rw [hq, et, if_pos z']) (by rw [hq]) (by rw [hq, ev])) ?_
      intro h2 P2
      exact k_s P2
    · have z' : ¬ lx_e lx_d T n p - p ≤ 5 := fun a => z (nI_le (b := 5) a (by decide))
      refine k_b (tp_add P1 hc (by rw [hq, et, if_neg z']) (by rw [hq]) (by rw [hq, ev])) ?_
      intro h2 P2
      exact k_s P2
  rw [if_neg d] at et ex ev ⊢
  refine k_t rfl (k_e (F9_let bT) ?_)
  by_cases l : lx_l (T p) = true
  · rw [if_pos l] at et ex ⊢
    have sp := lx_s lx_l T n p
    refine k_f (by decide) (k_b (tp_word P hn hT (by omega)) ?_)
    intro h1 P1
    refine k_e (tp_wordFrom P1 hn hT (sp.2.2.2 (by omega)) sp.1) ?_
    rw [ex]
    refine k_b (tp_add P1 hc (by rw [hq, et]) (by rw [hq]) (by rw [hq, ev])) ?_
    intro h2 P2
    exact k_s P2
  rw [if_neg l] at et ex ⊢
  refine k_t rfl (k_e P.nx ?_)
  rw [nI_1, ex]
  refine k_b P.put ?_
  intro h1 P1
  have yes : lx_sg (T p) → k_ok (F9_splitOff_112 201 (nI (T p)) (nI p) h1) (tp s0 W T n (p + 1) (c + 1)) := by
    intro z
    unfold F9_splitOff_112 F9_splitOff_117
    refine k_f (by decide) (k_b (tp_add P1 hc (by rw [hq, et, if_pos z]) (by rw [hq]) (by rw [hq, ev])) ?_)
    intro h2 P2
    exact k_s P2
  have no : ¬ lx_sg (T p) → k_ok (F9_splitOff_117 201 (nI (T p)) (nI p) 0 h1) (tp s0 W T n (p + 1) (c + 1)) := by
    intro z
    unfold F9_splitOff_117
    refine k_t rfl (k_b (tp_add P1 hc (by rw [hq, et, if_neg z]) (by rw [hq]) (by rw [hq, ev])) ?_)
    intro h2 P2
    exact k_s P2
  have eqb : ∀ m, m < 256 → (nI (T p) = nI m ↔ T p = m) := fun m hm => nI_eq (by omega) (by omega)
  refine k_if (fun z => yes (Or.inl ((eqb 59 (by decide)).mp z))) (fun z1 => ?_)
  refine k_if (fun z => yes (Or.inr (Or.inl ((eqb 60 (by decide)).mp z)))) (fun z2 => ?_)
  refine k_if (fun z => yes (Or.inr (Or.inr (Or.inl ((eqb 62 (by decide)).mp z))))) (fun z3 => ?_)
  refine k_if (fun z => yes (Or.inr (Or.inr (Or.inr (Or.inl ((eqb 43 (by decide)).mp z)))))) (fun z4 => ?_)
  refine k_if (fun z => yes (Or.inr (Or.inr (Or.inr (Or.inr (Or.inl ((eqb 40 (by decide)).mp z))))))) (fun z5 => ?_)
  refine k_if (fun z => yes (Or.inr (Or.inr (Or.inr (Or.inr (Or.inr ((eqb 41 (by decide)).mp z))))))) (fun z6 => ?_)
  refine no (fun z => ?_)
  rcases z with z | z | z | z | z | z
  · exact z1 ((eqb 59 (by decide)).mpr z)
  · exact z2 ((eqb 60 (by decide)).mpr z)
  · exact z3 ((eqb 62 (by decide)).mpr z)
  · exact z4 ((eqb 43 (by decide)).mpr z)
  · exact z5 ((eqb 40 (by decide)).mpr z)
  · exact z6 ((eqb 41 (by decide)).mpr z)
def lx_pp (T : Nat → Nat) (n : Nat) : Nat → Nat
  | 0 => 0
  | i + 1 => lx_x T n (lx_q T n i)
theorem lx_pp_e : ∀ i, lx_q T n i = lx_k0 T n (lx_pp T n i)
  | 0 => rfl
  | _ + 1 => rfl
theorem lx_pp_le : ∀ i, lx_pp T n i ≤ n
  | 0 => Nat.zero_le _
  | i + 1 => by
    have := lx_q_le (T := T) (n := n) i
    show lx_x T n (lx_q T n i) ≤ n
    rcases Nat.eq_or_lt_of_le this with e | e
    · unfold lx_x
      rw [if_pos (by omega)]
      exact this
    · exact (lx_x_lt e).2
/-- how many things there are ahead of the end -/
def lx_c (T : Nat → Nat) (n m : Nat) : Prop := (∀ i, i < m → lx_q T n i < n) ∧ lx_q T n m = n
theorem tp_split (P : tp s0 W T n p c h) (hn : n ≤ 400) (hT : ∀ j, j < n → T j < 256) : k_ok (F9_split 201 h) (fun h1 => ∃ m p', lx_c T n m ∧ tp s0 W T n p' (m + 1) h1) := by
  unfold F9_split F9_split_0
  refine k_g (nz_io201 P.N) (k_b (P.put (p' := 0)) ?_)
  intro h1 P1
  have P2 : k_ok (m_pf m_ft h1 201 7 7 (.int 0)) (tp s0 W T n 0 0) := by
    obtain ⟨s, rfl, a, b, d, e, f, g, k⟩ := P1
    exact ⟨_, pf_201_7, _, rfl, a.cong (fun y j h1 _ => if_neg (by omega)) (fun _ _ _ => rfl) rfl rfl, b.uf (by decide), (tz_uf_n (by decide)).trans d, e, (tz_uf_n (by decide)).trans f, tz_uf_s, fun i hi => absurd hi (Nat.not_lt_zero i)⟩
  refine k_b P2 ?_
  intro h2 P3
  unfold F9_split_12
  have fin : ∀ i h3, (∀ j, j < i → lx_q T n j < n) → i ≤ 400 → ¬ lx_q T n i < n → tp s0 W T n (lx_q T n i) i h3 → k_ok (m_b (m_gi h3 201 7 2) fun v17 => m_b (F9_addThing 201 0 v17 0 h3) fun h20 => some (.inr h20 : (Int32 × m_H) ⊕ m_H)) (fun z => ∃ h20, z = .inr h20 ∧ ∃ m p', lx_c T n m ∧ tp s0 W T n p' (m + 1) h20) := by
    intro i h3 hq hi4 hqn P4
    have ei : lx_q T n i = n := by have := lx_q_le (T := T) (n := n) i; omega
    have et : lx_t T n (lx_q T n i) = 0 := if_pos (by omega)
    have ev : lx_v T n (lx_q T n i) = 0 := if_pos (by omega)
    refine k_e P4.le (k_b (tp_add P4 hi4 et.symm (by rw [ei]) ev.symm) ?_)
    intro h5 P5
    exact k_s ⟨h5, rfl, i, _, ⟨hq, ei⟩, P5⟩
  refine wh_i (n := n) (fun (i : Nat) (z : Int32 × m_H) => z.1 = nI i ∧ (∀ j, j < i → lx_q T n j < n) ∧ tp s0 W T n (lx_pp T n i) i z.2) _ ?_ ?_ m_N 0 _ (N_lt (by omega)) (Nat.zero_le _) ⟨rfl, fun j hj => absurd hj (Nat.not_lt_zero j), P3⟩
  · rintro i ⟨y, h3⟩ hi ⟨q1, q2, P4⟩
    dsimp only at q1 P4
    subst q1
    unfold F9_split_12b
    dsimp only
    refine k_e P4.le (k_f (nI_nlt (by omega) (by omega)) (k_b (tp_skip P4 hn hT (lx_pp_le i)) ?_))
    intro h4 P5
    rw [← lx_pp_e] at P5
    have qle := lx_q_le (T := T) (n := n) i
    refine k_e P5.nx (k_e P5.le ?_)
    by_cases c1 : lx_q T n i < n
    · refine k_t (nI_lt c1 (by omega)) (k_e P5.nx (k_e (P5.byte hn hT (by omega)) ?_))
      rw [if_pos c1]
      refine k_b (tp_off P5 hn hT (by omega) c1 rfl) ?_
      intro h5 P6
      refine k_s ⟨(nI_succ i).symm, fun j hj => ?_, P6⟩
      by_cases e : j = i
      · subst e; exact c1
      · exact q2 j (by omega)
    · refine k_f (nI_nlt (by omega) (by omega)) (k_m (fin i h4 q2 (by omega) c1 P5) ?_)
      rintro _ ⟨h20, rfl, hz⟩
      exact hz
  · rintro ⟨y, h3⟩ ⟨q1, q2, P4⟩
    dsimp only at q1 P4
    subst q1
    unfold F9_split_12b
    dsimp only
    refine k_e P4.le (k_f (nI_nlt (by omega) (by omega)) (k_b (tp_skip P4 hn hT (lx_pp_le n)) ?_))
    intro h4 P5
    rw [← lx_pp_e] at P5
    have c1 : ¬ lx_q T n n < n := fun z => by have := lx_q_i z; omega
    have qle := lx_q_le (T := T) (n := n) n
    refine k_e P5.nx (k_e P5.le (k_f (nI_nlt (by omega) (by omega)) (k_m (fin n h4 q2 (by omega) c1 P5) ?_)))
    rintro _ ⟨h20, rfl, hz⟩
    exact hz
end
