/-! ===== give ===== -/
def sp_on (W : m_W) (t : Nat) (c l g : Int32) : m_W :=
  wz_up (wz_up (wz_up (sp_lot0 (sp_mv W t 3 5 c) (W 2 t 0) c l 3) 2 (wz_n W 2) 8 (nI t)) 2 (wz_n W 2) 9 g) 6 (8 * l.toNatClampNeg + (W 2 t 0).toNatClampNeg) 2 (W 6 (8 * l.toNatClampNeg + (W 2 t 0).toNatClampNeg) 2 + c)
noncomputable def sp_given (W : m_W) (t : Nat) (c l : Int32) : Int32 := sp_why W (sp_fx W (W 2 t 2).toNatClampNeg (W 2 t 0).toNatClampNeg c l) 3
abbrev sp_giv (W : m_W) (t : Nat) (c l : Int32) : Prop := (¬ W 2 t 2 = 0 ∧ W 2 t 3 = 0) ∧ (1 ≤ c ∧ c ≤ W 2 t 13) ∧ ¬ l = 0 ∧ ¬ l = W 2 t 2 ∧ wz_n W 2 < 100
noncomputable def sp_give (W : m_W) (a c l g : Int32) : (Int32 × Option m_W) ⊕ Nat :=
  if 0 ≤ a ∧ a < nI (wz_n W 2) then if 0 ≤ l ∧ l ≤ 5 then if W 14 0 3 = 0 then
    if sp_giv W a.toNatClampNeg c l then (if sp_given W a.toNatClampNeg c l = -1 then (if g = 0 then .inl (-1, none) else .inl (nI (wz_n W 2), some (sp_on W a.toNatClampNeg c l 1)))
      else .inl (nI (wz_n W 2), some (sp_on W a.toNatClampNeg c l 0))) else .inl (-1, none)
  else .inr 3 else .inr 0 else .inr 0
section
variable {s0 : tz_S} {th : Int32} {W : m_W} {h : m_H}
theorem cz_addLotz (R : cz_N s0 W h) (z : ∀ c, c < 21 → W 2 (wz_n W 2) c = 0) {a b l p : Int32} {q : Nat} (hp : p = nI q) (hq : q < 9) (hn : wz_n W 2 < 100) : k_ok (F3_addLot 223 a b l p h) (fun z => ∃ h1, z = (nI (wz_n W 2), h1) ∧ cz_N s0 (sp_lot0 W a b l q) h1) := by
  unfold F3_addLot F3_addLot_0
  refine k_g (nz_io223 R) (k_e (nz_gr223_8 R) ?_)
  refine k_b (cz_add R (k := 2) (by decide) rfl hn (fun c hc => z c hc)) ?_
  rintro _ ⟨h1, rfl, R1⟩
  have hl : wz_n W 2 < wz_n (wz_up W (20 + 2) 0 0 (nI (wz_n W 2 + 1))) 2 := by
    show _ < (nI (wz_n W 2 + 1)).toNatClampNeg
    rw [nI_clamp (by omega)]
    omega
  refine k_e (nz_gr223_8 R1) ?_
  refine k_b (cz_s2_0 R1 rfl hl) ?_
  intro h2 R2
  refine k_e (nz_gr223_8 R2) ?_
  refine k_b (cz_s2_1 R2 rfl hl) ?_
  intro h3 R3
  refine k_e (nz_gr223_8 R3) ?_
  refine k_b (cz_s2_2 R3 rfl hl) ?_
  intro h4 R4
  refine k_e (nz_gr223_8 R4) ?_
  refine k_b (cz_s2_6 R4 rfl hl) ?_
  intro h5 R5
  refine k_e (nz_gr223_8 R5) ?_
  refine k_b (cz_s2_8 R5 rfl hl) ?_
  intro h6 R6
  refine k_e (nz_gr223_8 R6) ?_
  have e1 : (10 : Int32) + p = nI (10 + q) := by rw [hp]; exact nI_add 10 q
  refine k_b (cz_set R6 (k := 2) (c := 10 + q) (by decide) rfl rfl hl e1 (show 10 + q < 21 by omega)) ?_
  intro h7 R7
  rw [wz_pi2 q (List.mem_range.mpr hq)] at R7
  exact k_s ⟨h7, rfl, R7⟩
/-! the reference, with what is looked at kept -/
theorem rz_gset {G : Nat → Int64} (K : rz_G s0 th W G h) {k r c : Nat} {j u : Int32} (hj : j = nI (wz_ix k r c)) (hv : wz_v k r c) : k_ok (m_si h 0 318 j u) (rz_G s0 th (wz_up W k r c u) G) := by
  obtain ⟨s, rfl, H, ht, F, e⟩ := K
  have hlt := wz_ix_lt hv
  refine ⟨_, tz_si sh_318 ⟨rfl, rfl⟩ (by rw [hj]; exact nI_in1 (by omega) (by decide)), _, rfl, ?_, ht, F.trans (tz_fq.ui (Or.inl rfl)), e⟩
  rw [hj, nI_clamp (by omega)]
  exact WR_ui H hv
theorem rz_beginsG {G : Nat → Int64} (R : rz_G s0 th W G h) (hc : W 22 0 0 = nI (wz_n W 2)) (zz : ∀ c, c < 21 → W 2 (wz_n W 2) c = 0) {a b l p : Int32} {q : Nat} (hp : p = nI q) (hq : q < 9) (hn : wz_n W 2 < 100) : k_ok (F12_begins 317 a b l p h) (fun z => ∃ h1, z = (nI (wz_n W 2), h1) ∧ rz_G s0 th (sp_lot0 W a b l q) G h1) := by
  unfold F12_begins F12_begins_0
  refine k_g (rz_io R.N) (k_e (rz_gr1 R.N) (k_e (rz_c2 R.N) (k_e (rz_gr1 R.N) (k_e (rz_c2 R.N) ?_))))
  rw [hc, ← nI_succ]
  refine k_b (rz_gset R (k := 22) (r := 0) (c := 0) rfl ⟨by decide, by decide, by decide⟩) ?_
  intro h1 R1
  unfold F12_begins_25
  refine wh_i (n := 21) (fun i s => s.1 = nI i ∧ rz_G s0 th (wz_up W 22 0 0 (nI (wz_n W 2 + 1))) G s.2) _ ?_ ?_ m_N 0 _ (N_lt (by decide)) (Nat.zero_le _) ⟨rfl, R1⟩
  · rintro i ⟨x, h2⟩ hi ⟨rfl, R2⟩
    dsimp only at R2
    unfold F12_begins_25b
    dsimp only
    refine k_f (nI_ge hi (by decide)) ?_
    have lt := rz_lotAt (h := h2) (x := nI (wz_n W 2)) rfl hn (y := nI i) rfl hi
    refine k_e (rz_gr1 R2.N) (k_e lt.1 ?_)
    refine k_b (rz_gset R2 (u := 0) rfl lt.2) ?_
    intro h3 R3
    rw [wz_up_same (show wz_up W 22 0 0 (nI (wz_n W 2 + 1)) 2 (wz_n W 2) i = 0 from (zz i hi))] at R3
    exact k_s ⟨(nI_succ i).symm, R3⟩
  · rintro ⟨x, h2⟩ ⟨rfl, R2⟩
    dsimp only at R2
    unfold F12_begins_25b
    dsimp only
    have lt := fun h c (hc : c < 21) => rz_lotAt (h := h) (x := nI (wz_n W 2)) rfl hn (y := nI c) rfl hc
    refine k_t (by decide) (k_e (rz_gr1 R2.N) (k_e (lt h2 0 (by decide)).1 ?_))
    refine k_b (rz_gset R2 rfl (lt h2 0 (by decide)).2) ?_
    intro h3 R3
    refine k_e (rz_gr1 R3.N) (k_e (lt h3 1 (by decide)).1 ?_)
    refine k_b (rz_gset R3 rfl (lt h3 1 (by decide)).2) ?_
    intro h4 R4
    refine k_e (rz_gr1 R4.N) (k_e (lt h4 2 (by decide)).1 ?_)
    refine k_b (rz_gset R4 rfl (lt h4 2 (by decide)).2) ?_
    intro h5 R5
    refine k_e (rz_gr1 R5.N) (k_e (lt h5 6 (by decide)).1 ?_)
    refine k_b (rz_gset R5 rfl (lt h5 6 (by decide)).2) ?_
    intro h6 R6
    refine k_e (rz_gr1 R6.N) (k_e (lt h6 8 (by decide)).1 ?_)
    refine k_b (rz_gset R6 rfl (lt h6 8 (by decide)).2) ?_
    intro h7 R7
    have e1 : (10 : Int32) + p = nI (10 + q) := by rw [hp]; exact nI_add 10 q
    have l2 := rz_lotAt (h := h7) (x := nI (wz_n W 2)) rfl hn e1 (show 10 + q < 21 by omega)
    refine k_e (rz_gr1 R7.N) (k_e l2.1 ?_)
    refine k_b (rz_gset R7 rfl l2.2) ?_
    intro h8 R8
    exact k_s ⟨h8, rfl, R8⟩
/-! give -/
theorem sp_on_1 {t n : Nat} {c l : Int32} {b : Int32} (h : ¬ t = n) (hn : wz_n W 2 = n) : sp_lot0 (sp_mv W t 3 5 c) b c l 3 2 t 0 = W 2 t 0 := by
  have e : wz_n (sp_mv W t 3 5 c) 2 = n := hn
  unfold sp_lot0
  rw [e, wz_up_r h, wz_up_r h, wz_up_r h, wz_up_r h, wz_up_r h, wz_up_r h, wz_up_k (by decide)]
  unfold sp_mv
  rw [wz_up_c (by decide), wz_up_c (by decide)]
theorem cz_giveOn (R : cz_N s0 W h) (V : vz W) {t l : Nat} {c g g' : Int32} (ht : t < wz_n W 2) (hl : l < 6) (hn : wz_n W 2 < 100) (hg : g = if g' = 0 then 0 else 1) : k_ok (F3_giveOn 223 (nI t) c (nI l) g' h) (fun z => ∃ h1, z = (nI (wz_n W 2), h1) ∧ cz_N s0 (sp_on W t c (nI l) g) h1) := by
  have h0 := (V.row (k := 2) (by omega) ht).1
  obtain ⟨i, hi, ei⟩ := i_row (x := W 2 t 0) (n := 7) rfl h0
  have h6 := V.n6
  unfold F3_giveOn F3_giveOn_0 sp_on
  refine k_g (nz_io223 R) (k_e (nz_gr223_8 R) (k_e (cz_g2_0 R rfl ht) (k_b (cz_move R rfl ht (a := 3) (b := 5) rfl (by decide) rfl (by decide)) ?_)))
  intro h1 R1
  have hn1 : wz_n (sp_mv W t 3 5 c) 2 = wz_n W 2 := rfl
  refine k_b (cz_addLotz R1 (fun c' hc' => ?_) (q := 3) rfl (by decide) hn) ?_
  · rw [sp_mv_r (show ¬ wz_n (sp_mv W t 3 5 c) 2 = t by omega)]
    exact V.z (k := 2) (by decide) (Nat.le_refl _) hn hc'
  rintro _ ⟨h2, rfl, R2⟩
  rw [hn1]
  have hl2 : wz_n W 2 < wz_n (sp_lot0 (sp_mv W t 3 5 c) (W 2 t 0) c (nI l) 3) 2 := by
    show _ < (nI (wz_n W 2 + 1)).toNatClampNeg
    rw [nI_clamp (by omega)]
    omega
  refine k_e (nz_gr223_8 R2) (k_b (cz_s2_8 R2 rfl hl2) ?_)
  intro h3 R3
  have fin : ∀ {u : Int32}, u = g → k_ok (F3_giveOn_60 223 c (nI l) (W 2 t 0) (nI (wz_n W 2)) u 9 (nI (wz_n W 2)) 229 h3) (fun z => ∃ h1, z = (nI (wz_n W 2), h1) ∧ cz_N s0 (wz_up (wz_up (wz_up (sp_lot0 (sp_mv W t 3 5 c) (W 2 t 0) c (nI l) 3) 2 (wz_n W 2) 8 (nI t)) 2 (wz_n W 2) 9 g) 6 (8 * (nI l).toNatClampNeg + (W 2 t 0).toNatClampNeg) 2 (W 6 (8 * (nI l).toNatClampNeg + (W 2 t 0).toNatClampNeg) 2 + c)) h1) := by
    rintro u rfl
    unfold F3_giveOn_60
    refine k_b (cz_s2_9 R3 rfl hl2) ?_
    intro h4 R4
    rw [ei, nI_clamp (n := l) (by omega), nI_clamp (n := i) (by omega)]
    rw [ei] at R4
    refine k_e (nz_gr223_12 R4) (k_e cz_tradeRow (k_b (cz_raise R4 (k := 6) (c := 2) (by decide) rfl rfl (show 8 * l + i < wz_n W 6 by omega) rfl (by decide)) ?_))
    intro h5 R5
    exact k_s ⟨h5, rfl, R5⟩
  refine k_e (nz_gr223_8 R3) (k_if (fun q => fin ?_) (fun q => fin ?_))
  · rw [hg, if_pos q]
  · rw [hg, if_neg q]
theorem cz_give (R : cz_N s0 W h) (V : vz W) {a c l g : Int32} : k_ok (F11_give 200 a c l g h) (fz_D s0 W (sp_give W a c l g)) := by
  have hn2 : wz_n W 2 ≤ 100 := V.c (k := 2) (by omega)
  unfold F11_give F11_give_0 sp_give
  refine k_g (nz_io200 R) ?_
  refine k_tt R (fun c1 => ?_) (fun c1 => k_s (by rw [if_neg c1]; exact ⟨_, rfl, R⟩))
  refine k_tl (fun c2 => ?_) (fun c2 => k_s (by rw [if_pos c1, if_neg c2]; exact ⟨_, rfl, R⟩))
  refine k_te R (fun c3 => ?_) (fun c3 => k_s (by rw [if_pos c1, if_pos c2, if_neg c3]; exact ⟨_, rfl, R⟩))
  rw [if_pos c1, if_pos c2, if_pos c3]
  obtain ⟨t, ht, rfl⟩ := i_rowlt (by omega) c1
  obtain ⟨l, hl, rfl⟩ := i_row (n := 5) rfl c2
  rw [nI_clamp (n := t) (by omega)]
  have hr := V.row (k := 2) (by omega) ht
  obtain ⟨i, hi, ei⟩ := i_row (x := W 2 t 0) (n := 7) rfl hr.1
  obtain ⟨d, hd, ed⟩ := i_row (x := W 2 t 2) (n := 5) rfl hr.2.2.1
  refine k_e (nz_gr200_4 R) (k_e (nz_gr223_8 R) (k_e (cz_g2_2 R rfl ht) (k_e (nz_gr200_4 R) (k_e (cz_isLent R rfl ht) ?_))))
  by_cases q1 : ¬ W 2 t 2 = 0 ∧ W 2 t 3 = 0
  case neg =>
    rw [if_neg q1, if_neg (fun x => q1 x.1)]
    exact k_t rfl (k_s ⟨h, rfl, R.C⟩)
  rw [if_pos q1]
  refine k_f (by decide) (k_e (nz_gr200_4 R) (k_e (cz_crates R (q := 3) rfl ht rfl (by decide)) (k_o (fun q2 => ?_) (fun q2 => ?_))))
  case refine_2 =>
    rw [if_neg (fun x => q2 x.2.1)]
    exact k_s ⟨h, rfl, R.C⟩
  refine k_if (fun q3 => ?_) (fun q3 => ?_)
  · rw [if_neg (fun x => x.2.2.1 q3)]
    exact k_s ⟨h, rfl, R.C⟩
  refine k_if (fun q4 => ?_) (fun q4 => ?_)
  · rw [if_neg (fun x => x.2.2.2.1 q4)]
    exact k_s ⟨h, rfl, R.C⟩
  refine k_e (nz_gr200_4 R) (k_e (nz_gr223_8 R) (k_e (cz_full R (k := 2) (by decide) rfl) ?_))
  by_cases q5 : wz_n W 2 < 100
  case neg =>
    rw [if_neg (show ¬ wz_n W 2 < wz_cap 2 from q5), if_neg (fun x => q5 x.2.2.2.2)]
    exact k_f (by decide) (k_s ⟨h, rfl, R.C⟩)
  rw [if_pos (show wz_n W 2 < wz_cap 2 from q5), if_pos ⟨q1, q2, q3, q4, q5⟩]
  unfold sp_given
  refine k_t rfl (k_e (nz_gr200_2 R) (k_e (nz_gr200_4 R) (k_e (nz_gr200_4 R) (k_e (nz_gr223_8 R) (k_e (cz_g2_0 R rfl ht) (k_b (cz_gather R V ed hd ei hi) ?_))))))
  rintro h1 ⟨w, K, L⟩
  rw [show (W 2 t 2).toNatClampNeg = d from by rw [ed, nI_clamp (by omega)], show (W 2 t 0).toNatClampNeg = i from by rw [ei, nI_clamp (by omega)]]
  refine k_e (nz_gr200_2 K.N) (k_b (cz_why K L V) ?_)
  rintro _ ⟨h2, rfl, K2⟩
  have on : ∀ {x g1 : Int32}, g1 = (if x = 0 then 1 else 0) → k_ok (F11_give_138 200 (nI t) c (nI l) x h2) (fz_D s0 W (.inl (nI (wz_n W 2), some (sp_on W t c (nI l) g1)))) := by
    intro x g1 hg
    unfold F11_give_138
    refine k_b (cz_rem K2.N V) ?_
    rintro h3 ⟨s1, B, R3⟩
    refine k_e (nz_gr200_4 R3) (k_if (fun q => ?_) (fun q => ?_))
    · rw [if_pos q] at hg
      refine k_b (cz_giveOn R3 V ht (by omega) q5 (g := g1) (by rw [hg]; rfl)) ?_
      rintro _ ⟨h4, rfl, R4⟩
      exact k_s ⟨h4, rfl, B.E R4⟩
    · rw [if_neg q] at hg
      refine k_b (cz_giveOn R3 V ht (by omega) q5 (g := g1) (by rw [hg]; rfl)) ?_
      rintro _ ⟨h4, rfl, R4⟩
      exact k_s ⟨h4, rfl, B.E R4⟩
  unfold F11_give_124
  refine k_if (fun q => ?_) (fun q => ?_)
  · rw [if_pos q]
    refine k_t rfl (k_if (fun q6 => ?_) (fun q6 => ?_))
    · rw [if_pos q6]
      exact k_s ⟨h2, rfl, K2.N.C⟩
    · rw [if_neg q6]
      exact on rfl
  · rw [if_neg q]
    exact k_f (by decide) (on rfl)
theorem wz_lot_s {W : m_W} {a b l : Int32} {q : Nat} (hq : q < 9) : (sp_lot0 W a b l q) 22 0 0 = nI (wz_n W 2 + 1) := by
  unfold sp_lot0
  rw [wz_up_k (by decide), wz_up_k (by decide), wz_up_k (by decide), wz_up_k (by decide), wz_up_k (by decide), wz_up_k (by decide), wz_up_s]
theorem sp_fst_r {p : Nat → Bool} {n : Nat} : ∀ k, sp_fst p n k = -1 ∨ ∃ i, i ≤ n ∧ sp_fst p n k = nI i
  | 0 => Or.inl rfl
  | k + 1 => by
    unfold sp_fst
    split
    · exact Or.inr ⟨_, Nat.sub_le _ _, rfl⟩
    · exact sp_fst_r k
theorem sp_why_r {F : Nat → Int32} {k : Int32} (V : vt W) (ht : ∀ i, sp_text W = some i → i < wz_n W 17) : sp_why W F k = -1 ∨ ∃ i, i ≤ 12 ∧ sp_why W F k = nI i := by
  unfold sp_why
  cases hq : sp_text W with
  | none => exact Or.inl rfl
  | some t =>
    obtain ⟨n, hn, hT, -⟩ := vz_text_line (V.2 t (ht t hq))
    dsimp only
    rw [hT, nI_clamp (by omega)]
    rcases @sp_fst_r (sp_hb F (W 17 t) k) n n with q | ⟨i, hi, q⟩
    · exact Or.inl q
    · exact Or.inr ⟨i, by omega, q⟩
theorem sp_why_n {F : Nat → Int32} {k : Int32} (V : vt W) (ht : ∀ i, sp_text W = some i → i < wz_n W 17) : sp_why W F k < 0 ↔ sp_why W F k = -1 := by
  rcases sp_why_r (F := F) (k := k) V ht with q | ⟨i, hi, q⟩
  · rw [q]; decide
  · rw [q]
    exact ⟨fun x => absurd x (nI_pos (by omega)), fun x => absurd (show nI i < 0 by rw [x]; decide) (nI_pos (by omega))⟩
theorem rz_giveOn (R : rz_N s0 th W h) (V : vz W) {t l : Nat} {c g g' : Int32} (ht : t < wz_n W 2) (hl : l < 6) (hn : wz_n W 2 < 100) (hg : g = if g' = 0 then 1 else 0) : k_ok (F12_give_155 317 (nI t) c (nI l) g' h) (fun z => z.1 = nI (wz_n W 2) ∧ rz_E s0 th W (sp_on W t c (nI l) g) z.2) := by
  unfold F12_give_155
  refine k_b (rz_deed R) ?_
  rintro h0 ⟨s1, B, R⟩
  refine k_m (P := fun z => z.1 = nI (wz_n W 2) ∧ rz_N s1 th (sp_on W t c (nI l) g) z.2) ?_ (fun z hz => ⟨hz.1, B.E hz.2⟩)
  have h0 := (V.row (k := 2) (by omega) ht).1
  obtain ⟨i, hi, ei⟩ := i_row (x := W 2 t 0) (n := 7) rfl h0
  unfold sp_on
  refine k_b (rz_moves R rfl (by omega) (a := 3) (b := 5) rfl (by decide) rfl (by decide)) ?_
  intro h1 R1
  have hn1 : wz_n (sp_mv W t 3 5 c) 2 = wz_n W 2 := rfl
  have e0 : sp_mv W t 3 5 c 2 t 0 = W 2 t 0 := by
    unfold sp_mv
    rw [wz_up_c (by decide), wz_up_c (by decide)]
  refine k_e (rz_o0 R1 rfl (by omega)) ?_
  rw [e0]
  obtain ⟨G, K1⟩ := rz_G0 R1
  refine k_b (rz_beginsG K1 (V.cap (k := 2) (by omega)).1 (fun c' hc' => ?_) (q := 3) rfl (by decide) hn) ?_
  · rw [sp_mv_r (show ¬ wz_n (sp_mv W t 3 5 c) 2 = t by omega)]
    exact V.z (k := 2) (by decide) (Nat.le_refl _) hn hc'
  rintro _ ⟨h2, rfl, K2⟩
  have R2 := K2.N
  rw [hn1]
  have l8 := fun h => rz_lotAt (h := h) (x := nI (wz_n W 2)) rfl hn (y := 8) (c := 8) rfl (by decide)
  have l9 := fun h => rz_lotAt (h := h) (x := nI (wz_n W 2)) rfl hn (y := 9) (c := 9) rfl (by decide)
  refine k_e (rz_gr1 R2) (k_e (l8 h2).1 (k_b (rz_set R2 rfl (l8 h2).2) ?_))
  intro h3 R3
  have fin : ∀ {u : Int32}, u = g → k_ok (F12_give_216 317 (nI t) c (nI l) (nI (wz_n W 2)) u (nI (wz_ix 2 (wz_n W 2) 9)) 318 h3) (fun z => z.1 = nI (wz_n W 2) ∧ rz_N s1 th (wz_up (wz_up (wz_up (sp_lot0 (sp_mv W t 3 5 c) (W 2 t 0) c (nI l) 3) 2 (wz_n W 2) 8 (nI t)) 2 (wz_n W 2) 9 g) 6 (8 * (nI l).toNatClampNeg + (W 2 t 0).toNatClampNeg) 2 (W 6 (8 * (nI l).toNatClampNeg + (W 2 t 0).toNatClampNeg) 2 + c)) z.2) := by
    rintro u rfl
    unfold F12_give_216
    refine k_b (rz_set R3 rfl (l9 h3).2) ?_
    intro h4 R4
    rw [ei, nI_clamp (n := l) (by omega), nI_clamp (n := i) (by omega)]
    refine k_e (rz_gr1 R4) (k_e (rz_o0 R4 rfl (by omega)) ?_)
    rw [wz_up_r (show ¬ t = wz_n W 2 by omega), wz_up_r (show ¬ t = wz_n W 2 by omega), sp_on_1 (show ¬ t = wz_n W 2 by omega) rfl, ei]
    rw [ei] at R4
    have hb := fun h => rz_both (h := h) (l := l) (t := i) (c := 2) hl (by omega) (by decide)
    refine k_e (hb h4).1 (k_e (rz_get R4 rfl (hb h4).2) (k_b (rz_set R4 rfl (hb h4).2) ?_))
    intro h5 R5
    exact k_s ⟨rfl, R5⟩
  refine k_e (rz_gr1 R3) (k_e (l9 h3).1 (k_if (fun q => fin ?_) (fun q => fin ?_)))
  · rw [hg, if_pos q]
  · rw [hg, if_neg q]
theorem rz_give (R : rz_N s0 th W h) (V : vz W) {a c l g : Int32} : k_ok (F12_give 317 a c l g h) (hz_D s0 e03 W (sp_give W a c l g)) := by
  have hn2 : wz_n W 2 ≤ 100 := V.c (k := 2) (by omega)
  unfold F12_give F12_give_0 sp_give
  refine k_g (rz_io R) ?_
  refine k_b (rz_th R) ?_
  intro h1 R1
  refine k_e (rz_noLot R1 V) ?_
  by_cases c1 : 0 ≤ a ∧ a < nI (wz_n W 2)
  case neg =>
    rw [if_neg c1, if_neg c1]
    refine k_f (by decide) ?_
    unfold F12_give_21 F12_give_26
    exact k_thr R1 (fun h2 R2 => k_s R2)
  rw [if_pos c1, if_pos c1]
  refine k_t rfl (k_e k_nl ?_)
  by_cases c2 : 0 ≤ l ∧ l ≤ 5
  case neg =>
    rw [if_neg c2, if_neg c2]
    refine k_f (by decide) ?_
    unfold F12_give_21 F12_give_26
    exact k_thr R1 (fun h2 R2 => k_s R2)
  rw [if_pos c2, if_pos c2]
  refine k_t rfl ?_
  unfold F12_give_26
  refine k_thr0 R1 (k_ovr R1 V (fun c3 => ?_) (fun c3 h2 R2 => k_s (by rw [if_neg c3]; exact R2)))
  rw [if_pos c3]
  obtain ⟨t, ht, rfl⟩ := i_rowlt (by omega) c1
  obtain ⟨l, hl, rfl⟩ := i_row (n := 5) rfl c2
  rw [nI_clamp (n := t) (by omega)]
  have hr := V.row (k := 2) (by omega) ht
  obtain ⟨i, hi, ei⟩ := i_row (x := W 2 t 0) (n := 7) rfl hr.1
  obtain ⟨d, hd, ed⟩ := i_row (x := W 2 t 2) (n := 5) rfl hr.2.2.1
  have no : ¬ sp_giv W t c (nI l) → hz_D s0 e03 W (if sp_giv W t c (nI l) then (if sp_given W t c (nI l) = -1 then (if g = 0 then .inl (-1, none) else .inl (nI (wz_n W 2), some (sp_on W t c (nI l) 1)))
      else .inl (nI (wz_n W 2), some (sp_on W t c (nI l) 0))) else .inl (-1, none)) (-1, h1) := by
    intro q
    rw [if_neg q]
    exact ⟨rfl, R1.C⟩
  refine k_if (fun q => k_s (no (fun x => Int32.not_le.mpr q x.2.1.1))) (fun q0 => ?_)
  refine k_e (rz_isStock R1 rfl (by omega)) ?_
  by_cases q1 : W 2 t 2 = 0
  · rw [if_pos q1]
    exact k_f (by decide) (k_s (no (fun x => x.1.1 q1)))
  rw [if_neg q1]
  refine k_t rfl (k_e (rz_o3 R1 rfl (by omega)) (k_if (fun q => k_s (no (fun x => by rw [x.1.2] at q; exact absurd q (by decide)))) (fun q2 => ?_)))
  have q2 : W 2 t 3 = 0 := hr.2.2.2.1.elim id (fun x => absurd x q2)
  refine k_e (rz_o13 R1 rfl (by omega)) (k_if (fun q => k_s (no (fun x => Int32.not_le.mpr q x.2.1.2))) (fun q3 => ?_))
  refine k_if (fun q => k_s (no (fun x => x.2.2.1 q))) (fun q4 => ?_)
  refine k_e (rz_o2 R1 rfl (by omega)) (k_if (fun q => k_s (no (fun x => x.2.2.2.1 q))) (fun q5 => ?_))
  refine k_e (rz_gr1 R1) (k_e (rz_c2 R1) ?_)
  rw [show W 22 0 0 = nI (wz_n W 2) from (V.cap (k := 2) (by omega)).1]
  refine k_if (fun q => k_s (no (fun x => ?_))) (fun q6 => ?_)
  · have := nI_e (by omega) (by decide) (show nI (wz_n W 2) = nI 100 from q)
    have := x.2.2.2.2
    omega
  have q6 : wz_n W 2 < 100 := by
    have : ¬ wz_n W 2 = 100 := fun x => q6 (by rw [x]; rfl)
    omega
  rw [if_pos ⟨⟨q1, q2⟩, ⟨Int32.not_lt.mp q0, Int32.not_lt.mp q3⟩, q4, q5, q6⟩]
  unfold sp_given
  refine k_e (rz_o2 R1 rfl (by omega)) (k_e (rz_o0 R1 rfl (by omega)) (k_b (rz_looks R1 V ed hd ei hi) ?_))
  intro h2 K
  rw [show (W 2 t 2).toNatClampNeg = d from by rw [ed, nI_clamp (by omega)], show (W 2 t 0).toNatClampNeg = i from by rw [ei, nI_clamp (by omega)]]
  refine k_b (rz_first K V.vt) ?_
  rintro _ ⟨h3, rfl, K3⟩
  have hti := (rz_text K.N V.vt).2
  have wn := sp_why_n (F := sp_fx W d i c (nI l)) (k := 3) V.vt hti
  unfold F12_give_141
  refine k_if (fun q => ?_) (fun q => ?_)
  · rw [if_pos (wn.mp q)]
    refine k_t rfl (k_if (fun q8 => ?_) (fun q8 => ?_))
    · rw [if_pos q8]
      exact k_s ⟨rfl, K3.N.C⟩
    · rw [if_neg q8]
      exact rz_giveOn K3.N V ht (by omega) q6 rfl
  · rw [if_neg (fun x => q (wn.mpr x))]
    exact k_f (by decide) (rz_giveOn K3.N V ht (by omega) q6 rfl)
end
