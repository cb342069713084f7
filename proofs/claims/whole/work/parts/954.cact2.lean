/-! ===== act: the class, whole ===== -/
/-- what act leaves as it was -/
def tz_fa (s s' : tz_S) : Prop := (∀ a k, a < 201 ∨ 253 ≤ a → ¬ (a = 200 ∧ k = 11) → s'.1 a k = s.1 a k) ∧ (∀ a, a < 201 ∨ 253 ≤ a ∨ a = 202 ∨ a = 212 ∨ a = 213 → s'.2.1 a = s.2.1 a) ∧ (∀ a, a < 201 ∨ 253 ≤ a → s'.2.2.1 a = s.2.2.1 a ∧ s'.2.2.2.1 a = s.2.2.2.1 a) ∧ s'.2.2.2.2.1 = s.2.2.2.2.1 ∧ ∃ l, s'.2.2.2.2.2.1 = s.2.2.2.2.2.1 ++ l ∧ (l.map m_sz).sum ≤ 442 ∧ l.length ≤ 5 ∧ s'.2.2.2.2.2.2 = s.2.2.2.2.2.2
def cz_A (s : tz_S) (W : m_W) (T : Nat → Nat) (n : Nat) (x : Int32) (z : (Int32 ⊕ Nat) × m_H) : Prop := ∃ s', tz_fa s s' ∧ s'.1 201 1 = 0 ∧
  ((¬ (W 14 0 0 ≤ x ∧ x ≤ 500) ∧ z = (.inr 1, m_junk (tz_H s')) ∧ s'.1 200 11 = s.1 200 11 ∧ tz_HR s' 223 W) ∨
   ((W 14 0 0 ≤ x ∧ x ≤ 500) ∧ ∃ e, gText T n = .inr e ∧ z = (.inr 1, m_junk (tz_H s')) ∧ s'.1 200 11 = nI e ∧ tz_HR s' 223 W) ∨
   ((W 14 0 0 ≤ x ∧ x ≤ 500) ∧ ∃ q c Y, gText T n = .inl (q, c, Y) ∧ wz_n W 17 = 10 ∧ z = (.inr 2, m_junk (tz_H s')) ∧ s'.1 200 11 = -1 ∧ tz_HR s' 223 W) ∨
   ((W 14 0 0 ≤ x ∧ x ≤ 500) ∧ ∃ q c Y, gText T n = .inl (q, c, Y) ∧ wz_n W 17 < 10 ∧ z = (.inl (nI Y.1), tz_H s') ∧ s'.1 200 11 = -1 ∧ ∀ D, tx_R (fun j => if j = 0 then x else if j = 1 then nI Y.1 else D j) c Y → tz_HR s' 223 (sp_act W (wz_n W 17) x (nI Y.1) D)))
section
variable {s : tz_S} {W : m_W} {T : Nat → Nat} {n t : Nat} {x x2 : Int32} {D : Nat → Int32}
theorem ext_gi {v : Int32} {a k : Nat} {fs : List Value} (h : s.2.2.2.2.2.1[a]? = some (.inr (0, fs))) (hk : fs[k]? = some (.int v)) : m_gi (tz_H s) (334 + a) 0 k = some v := by
  have e : m_gf (tz_H s) (334 + a) 0 k = some (.int v) := by
    unfold m_gf
    rw [tz_x (by omega), Nat.add_sub_cancel_left, h]
    show (if 0 = 0 then fs[k]? else none) = _
    rw [if_pos rfl]
    exact hk
  unfold m_gi
  rw [e]
theorem sp_act_n {k r c : Nat} (h1 : ¬ k = 17) (h2 : ¬ k = 37) : sp_act W t x x2 D k r c = W k r c := by
  unfold sp_act sp_txr
  rw [if_neg (fun z => h1 z.1)]
  unfold wz_up
  exact if_neg (fun z => h2 z.1)
theorem sp_act_37 : sp_act W t x x2 D 37 0 0 = nI (t + 1) := by
  unfold sp_act sp_txr
  rw [if_neg (fun z => absurd z.1 (by decide))]
  unfold wz_up
  exact if_pos ⟨rfl, rfl, rfl⟩
theorem sp_act_o {i : Nat} (hi : ¬ i = t) : sp_act W t x x2 D 17 i = W 17 i := by
  funext c
  unfold sp_act sp_txr
  rw [if_neg (fun z => hi z.2)]
  unfold wz_up
  exact if_neg (fun z => absurd z.1 (by decide))
theorem sp_act_t : sp_act W t x x2 D 17 t = fun c => if c = 0 then x else if c = 1 then x2 else D c := by
  funext c
  unfold sp_act sp_txr
  exact if_pos ⟨rfl, rfl⟩
theorem ac_Act {c : gC} {Y : gY} {q : Nat} (hT : ∀ j, j < n → T j < 256) (eT : gText T n = .inl (q, c, Y)) (hm : c.length ≤ 400) (hp : Y.1 ≤ 12) (C : pr_c s c) (Yp : pr_y s Y) (R : tx_R (fun j => if j = 0 then x else if j = 1 then nI Y.1 else D j) c Y) : tz_Act (tz_ac s (ac_fs x Y.1 s.2.2.2.2.2.1.length) (ac_ls s Y.1 c.length)).2.2.2.2.2.1 (334 + s.2.2.2.2.2.1.length) (fun j => if j = 0 then x else if j = 1 then nI Y.1 else D j) := by
  obtain ⟨e, e0, en, ok⟩ := gText_ok hT eT
  have g : ∀ j, (tz_ac s (ac_fs x Y.1 s.2.2.2.2.2.1.length) (ac_ls s Y.1 c.length)).2.2.2.2.2.1[s.2.2.2.2.2.1.length + j]? = (Sum.inr (0, ac_fs x Y.1 s.2.2.2.2.2.1.length) :: ac_ls s Y.1 c.length)[j]? := by
    intro j
    show (s.2.2.2.2.2.1 ++ _)[_]? = _
    rw [List.getElem?_append_right (by omega), Nat.add_sub_cancel_left]
  refine ⟨335 + s.2.2.2.2.2.1.length, 336 + s.2.2.2.2.2.1.length, 337 + s.2.2.2.2.2.1.length, 338 + s.2.2.2.2.2.1.length, Y.1, c.length, fun j => if j < 12 then s.2.1 208 j else 0, fun j => if j < 12 then s.2.1 209 j else 0, fun j => if j < 12 then s.2.1 210 j else 0, fun j => if j < 400 then s.2.1 207 j else 0, by omega, ?_, ⟨by omega, ?_⟩, ⟨by omega, ?_⟩, ⟨by omega, ?_⟩, ⟨by omega, ?_⟩, rfl, hp, hm, fun i hi => ?_, fun i hi => ?_⟩
  · rw [show 334 + s.2.2.2.2.2.1.length - 334 = s.2.2.2.2.2.1.length + 0 by omega]
    exact g 0
  · rw [show 335 + s.2.2.2.2.2.1.length - 334 = s.2.2.2.2.2.1.length + 1 by omega]
    exact g 1
  · rw [show 336 + s.2.2.2.2.2.1.length - 334 = s.2.2.2.2.2.1.length + 2 by omega]
    exact g 2
  · rw [show 337 + s.2.2.2.2.2.1.length - 334 = s.2.2.2.2.2.1.length + 3 by omega]
    exact g 3
  · rw [show 338 + s.2.2.2.2.2.1.length - 334 = s.2.2.2.2.2.1.length + 4 by omega]
    exact g 4
  · obtain ⟨r1, r2, r3, r4⟩ := R.2.1 i hi
    obtain ⟨y1, y2, y3⟩ := Yp.2 i hi
    obtain ⟨-, -, e3, l1, l2, -⟩ := ok i hi
    dsimp only at e3 en l2
    refine ⟨(if_pos (show i < 12 by omega)).trans (y1.trans r1.symm), (if_pos (show i < 12 by omega)).trans (y2.trans r2.symm), (if_pos (show i < 12 by omega)).trans (y3.trans r4.symm), ?_⟩
    rw [r4, e3, nI_clamp (by omega)]
    exact l2
  · obtain ⟨r1, r2⟩ := R.2.2 i hi
    refine (if_pos (show i < 400 by omega)).trans ((C.2 i hi).trans ?_)
    rw [r1, r2]
theorem ac_HR {fs : List Value} {l : List m_E} (H : tz_HR s 223 W) (ht : wz_n W 17 < 10) (A : tz_Act (tz_ac s fs l).2.2.2.2.2.1 (334 + s.2.2.2.2.2.1.length) (fun c => if c = 0 then x else if c = 1 then x2 else D c)) : tz_HR (tz_uf (tz_ua (tz_ac s fs l) 224 (va_up (s.2.2.2.1 224) (wz_n W 17) (some (334 + s.2.2.2.2.2.1.length)))) 223 5 (nI (wz_n W 17 + 1))) 223 (sp_act W (wz_n W 17) x x2 D) := by
  obtain ⟨⟨f1, f2, f3, f4⟩, ⟨g1, g2, g3, g4, g5⟩, h⟩ := H
  have xs : tz_xs s.2.2.2.2.2.1 (tz_ac s fs l).2.2.2.2.2.1 := by
    intro i e _ hi
    show (s.2.2.2.2.2.1 ++ _)[i]? = _
    rw [List.getElem?_append_left (List.getElem?_eq_some_iff.mp hi).1]
    exact hi
  have n17 : wz_n (sp_act W (wz_n W 17) x x2 D) 17 = wz_n W 17 + 1 := by
    show Int32.toNatClampNeg (sp_act W (wz_n W 17) x x2 D 37 0 0) = _
    rw [sp_act_37]
    exact nI_clamp (by omega)
  have av : ∀ i, (tz_uf (tz_ua (tz_ac s fs l) 224 (va_up (s.2.2.2.1 224) (wz_n W 17) (some (334 + s.2.2.2.2.2.1.length)))) 223 5 (nI (wz_n W 17 + 1))).2.2.2.1 (223 + 1) i = if i = wz_n W 17 then some (334 + s.2.2.2.2.2.1.length) else s.2.2.2.1 224 i := by
    intro i
    show (if 223 + 1 = 224 then va_up (s.2.2.2.1 224) (wz_n W 17) (some (334 + s.2.2.2.2.2.1.length)) else s.2.2.2.1 (223 + 1)) i = _
    rw [if_pos rfl]
    rfl
  refine ⟨⟨?_, ?_, ?_, ?_⟩, ⟨?_, ?_, ?_, ?_, ?_⟩, fun k hk => ?_⟩
  · rw [sp_act_n (by decide) (by decide), tz_uf_n (by decide)]; exact f1
  · rw [sp_act_n (by decide) (by decide), tz_uf_n (by decide)]; exact f2
  · rw [sp_act_n (by decide) (by decide), tz_uf_n (by decide)]; exact f3
  · rw [sp_act_n (by decide) (by decide), tz_uf_n (by decide)]; exact f4
  · rw [sp_act_37, tz_uf_s]
  · rw [n17, sp_act_37]
  · rw [n17]; omega
  · intro i hi
    rw [n17] at hi
    by_cases q : i = wz_n W 17
    · refine ⟨334 + s.2.2.2.2.2.1.length, (av i).trans (if_pos q), ?_⟩
      rw [q, sp_act_t]
      exact A
    · obtain ⟨a, ea, Aa⟩ := g4 i (by omega)
      refine ⟨a, ((av i).trans (if_neg q)).trans ea, ?_⟩
      rw [sp_act_o q]
      exact xs.Act Aa
  · intro i a hi ea
    rw [av i] at ea
    by_cases q : i = wz_n W 17
    · rw [if_pos q] at ea
      cases ea
      refine ⟨by omega, fs, ?_⟩
      show (s.2.2.2.2.2.1 ++ _)[334 + s.2.2.2.2.2.1.length - 334]? = _
      rw [Nat.add_sub_cancel_left, List.getElem?_append_right (Nat.le_refl _), Nat.sub_self]
      rfl
    · rw [if_neg q] at ea
      exact xs.Ao (g5 i a hi ea)
  · obtain ⟨⟨a1, a2⟩, a3, a4⟩ := h k hk
    have nk : wz_n (sp_act W (wz_n W 17) x x2 D) k = wz_n W k := by
      unfold wz_n
      rw [sp_act_n (by omega) (by omega)]
    rw [nk]
    refine ⟨⟨?_, fun r c hr hc => ?_⟩, ?_, a4⟩
    · refine Eq.trans ?_ a1
      show (if 223 + 2 + 2 * k = 223 ∧ 2 = 5 then _ else s.1 (223 + 2 + 2 * k) 2) = _
      exact if_neg (fun z => by omega)
    · dsimp only
      rw [sp_act_n (by omega) (by omega)]
      exact a2 r c hr hc
    · rw [sp_act_n (by omega) (by omega)]
      exact a3
theorem cz_acts (t : tpe s T n) (H : tz_HR s 223 W) (hn : n ≤ 400) (hT : ∀ j, j < n → T j < 256) : k_ok (F11_act 200 x (tz_H s)) (cz_A s W T n x) := by
  obtain ⟨s1, e1, f1, f2, f3, f4⟩ := cz_useUp t
  have H1 : tz_HR s1 223 W := H.cong (fun a k h1 _ => f1 a k (by omega)) (fun a _ _ => by rw [f2]) (by rw [f2]) (by rw [f2])
  have fa1 : tz_fa s s1 := ⟨fun a k q _ => f1 a k (by omega), fun a _ => by rw [f2], fun a _ => by rw [f2]; exact ⟨rfl, rfl⟩, by rw [f2], [], by rw [f2, List.append_nil], Nat.zero_le _, Nat.zero_le _, by rw [f2]⟩
  have c11 : s1.1 200 11 = s.1 200 11 := f1 200 11 (by omega)
  have w0 : m_gi (tz_H s1) 223 3 0 = some (W 14 0 0) := gi_223_0.trans (congrArg some H1.1.1)
  unfold F11_act F11_act_0
  refine k_g io_200 (k_e gr_200_0 (k_e e1 (k_e gr_200_4 (k_e w0 ?_))))
  have bad : ∀ (hx : ¬ (W 14 0 0 ≤ x ∧ x ≤ 500)), k_ok (some ((Sum.inr 1 : Int32 ⊕ Nat), m_junk (tz_H s1))) (cz_A s W T n x) := fun hx => k_s ⟨s1, fa1, f3, Or.inl ⟨hx, rfl, c11, H1⟩⟩
  unfold F11_outside F11_outside_0
  by_cases q1 : x < W 14 0 0
  · rw [iz_t q1, bz_s, iz_f (show ¬ (1 : Int32) = 0 by decide)]
    exact bad (fun z => absurd q1 (Int32.not_lt.mpr z.1))
  rw [iz_f q1]
  by_cases q2 : ¬ x ≤ 500
  · rw [iz_f q2, bz_s, iz_f (show ¬ (1 : Int32) = 0 by decide)]
    exact bad (fun z => q2 z.2)
  have q2 : x ≤ 500 := Decidable.byContradiction q2
  rw [iz_t q2, bz_s, iz_t rfl]
  have hin : W 14 0 0 ≤ x ∧ x ≤ 500 := ⟨Int32.not_lt.mp q1, q2⟩
  refine k_e gr_200_1 (k_b (cz_read2 H1 tz_fr.refl f4 (fun j hj => by rw [f2]; exact t.2 j hj) hn hT) ?_)
  rintro h2 ⟨m, K, R⟩
  have fr2 : ∀ s2, tz_fr s1 s2 → tz_fa s (tz_uf s2 200 11 (s2.1 206 3)) ∧ (tz_uf s2 200 11 (s2.1 206 3)).1 201 1 = 0 ∧ (tz_uf s2 200 11 (s2.1 206 3)).2.2.2.2 = s.2.2.2.2 := by
    intro s2 b
    have e5 : s2.2.2.2.2 = s.2.2.2.2 := b.2.2.2.2.trans (by rw [f2])
    refine ⟨⟨fun a k q1 q2 => (if_neg q2).trans ((b.1 a k q1).trans (f1 a k (by omega))), fun a q => (b.2.2.1 a q).trans (by rw [f2]), fun a q => ⟨(b.2.2.2.1 a q).1.trans (by rw [f2]), (b.2.2.2.1 a q).2.trans (by rw [f2])⟩, congrArg Prod.fst e5, [], ?_, Nat.zero_le _, Nat.zero_le _, congrArg (fun z => z.2.2) e5⟩, ?_, e5⟩
    · rw [List.append_nil]
      exact congrArg (fun z => z.2.1) e5
    · exact b.2.1.trans f3
  have HR2 : ∀ s2 v, tz_HR s2 223 W → tz_HR (tz_uf s2 200 11 v) 223 W := fun s2 v H => H.cong (fun a k h1 _ => if_neg (by omega)) (fun _ _ _ => rfl) rfl rfl
  cases eT : gText T n with
  | inr e =>
    rw [eT] at R
    obtain ⟨he, s2, rfl, H2, b, t2, c3, -⟩ := R
    have F := fr2 s2 b
    refine k_e gr_200_1 (k_e gi_206_3 (k_e pf_200_11 (k_e gi_200_11 ?_)))
    have e11 : (tz_uf s2 200 11 (s2.1 206 3)).1 200 11 = nI e := tz_uf_s.trans c3
    rw [e11]
    exact k_f (nI_m1 (by omega)) (k_s ⟨_, F.1, F.2.1, Or.inr (Or.inl ⟨hin, e, eT, rfl, e11, HR2 _ _ H2⟩)⟩)
  | inl z =>
    obtain ⟨q, c, Y⟩ := z
    rw [eT] at R
    obtain ⟨i, hi, eq, s2, rfl, H2, b, t2, c1, c2, c3, C, Yp⟩ := R
    dsimp only at eq C Yp
    have F := fr2 s2 b
    refine k_e gr_200_1 (k_e gi_206_3 (k_e pf_200_11 (k_e gi_200_11 ?_)))
    have e11 : (tz_uf s2 200 11 (s2.1 206 3)).1 200 11 = -1 := tz_uf_s.trans c3
    have H3 := HR2 _ (s2.1 206 3) H2
    have C3 : pr_c (tz_uf s2 200 11 (s2.1 206 3)) c := ⟨C.1, C.2⟩
    have Y3 : pr_y (tz_uf s2 200 11 (s2.1 206 3)) Y := ⟨Yp.1, Yp.2⟩
    rw [e11]
    refine k_t rfl ?_
    generalize tz_uf s2 200 11 (s2.1 206 3) = s3 at F e11 H3 C3 Y3 ⊢
    have e5 : s3.1 223 5 = nI (wz_n W 17) := H3.2.1.1.trans H3.2.1.2.1
    have t10 : wz_n W 17 ≤ 10 := H3.2.1.2.2.1
    refine k_e gr_200_4 (k_e (gi_223_5.trans (congrArg some e5)) ?_)
    by_cases tt : wz_n W 17 = 10
    · rw [tt]
      exact k_f (by decide) (k_s ⟨_, F.1, F.2.1, Or.inr (Or.inr (Or.inl ⟨hin, q, c, Y, eT, tt, rfl, e11, H3⟩))⟩)
    · have t9 : wz_n W 17 < 10 := by omega
      have fit := gRead_fit (T := T) (n := n) 12 (lx_q T n 0) [] (0, fun _ => (0, 0, 0)) (lx_q_le (T := T) (n := n) 0) (Nat.zero_le _) (Nat.le_refl 12) _ eT
      dsimp only at fit
      have ql : q ≤ n := by rw [← eq]; exact lx_q_le (T := T) (n := n) i
      refine k_t (nI_lt (b := 10) t9 (by decide)) ?_
      have id3 : m_id (tz_H s3) = 334 + s3.2.2.2.2.2.1.length := tz_id
      rw [id3]
      refine k_e ac_new (k_e gr_200_1 (k_e (cz_init Y3.1 fit.2 C3.1 (by omega)) (k_e gr_200_4 (k_e (cz_addAct (s := tz_ac s3 _ _) e5 t9 ac_io) ?_))))
      have g0 : (tz_uf (tz_ua (tz_ac s3 (ac_fs x Y.1 s3.2.2.2.2.2.1.length) (ac_ls s3 Y.1 c.length)) 224 (va_up (s3.2.2.2.1 224) (wz_n W 17) (some (334 + s3.2.2.2.2.2.1.length)))) 223 5 (nI (wz_n W 17 + 1))).2.2.2.2.2.1[s3.2.2.2.2.2.1.length]? = some (.inr (0, ac_fs x Y.1 s3.2.2.2.2.2.1.length)) := by
        show (s3.2.2.2.2.2.1 ++ _)[_]? = _
        rw [List.getElem?_append_right (Nat.le_refl _), Nat.sub_self]
        rfl
      refine k_e (ext_gi (v := nI Y.1) g0 rfl) (k_s ⟨tz_uf (tz_ua (tz_ac s3 (ac_fs x Y.1 s3.2.2.2.2.2.1.length) (ac_ls s3 Y.1 c.length)) 224 (va_up (s3.2.2.2.1 224) (wz_n W 17) (some (334 + s3.2.2.2.2.2.1.length)))) 223 5 (nI (wz_n W 17 + 1)), ⟨fun a k q1 q2 => ?_, fun a q => F.1.2.1 a q, fun a q => ⟨(F.1.2.2.1 a q).1, ?_⟩, F.1.2.2.2.1, .inr (0, ac_fs x Y.1 s3.2.2.2.2.2.1.length) :: ac_ls s3 Y.1 c.length, ?_, ?_, Nat.le_refl 5, congrArg (fun z => z.2.2) F.2.2⟩, ?_, Or.inr (Or.inr (Or.inr ⟨hin, q, c, Y, eT, t9, rfl, ?_, fun D R => ac_HR H3 t9 (ac_Act hT eT (by omega) fit.2 C3 Y3 R)⟩))⟩)
      · exact (if_neg (fun z => by omega)).trans (F.1.1 a k q1 q2)
      · refine Eq.trans ?_ (F.1.2.2.1 a q).2
        show (if a = 224 then _ else s3.2.2.2.1 a) = _
        exact if_neg (by omega)
      · show s3.2.2.2.2.2.1 ++ _ = _
        rw [congrArg (fun z => z.2.1) F.2.2]
      · show 6 + (Y.1 + (Y.1 + (Y.1 + (c.length + 0)))) ≤ 442
        omega
      · exact F.2.1
      · exact e11
end
