/-! ===== what is looked at, gathered; weigh ===== -/
theorem tz_H_ext {s s' : tz_S} (h : tz_H s = tz_H s') : s.2.2.2.2.2.1 = s'.2.2.2.2.2.1 := by
  unfold tz_H at h
  generalize tz_T = T at h
  exact (List.append_inj (Prod.mk.inj h).1 (by rw [List.length_mapIdx, List.length_mapIdx])).2
theorem hz_Act.ext {s : tz_S} {a : Nat} {T : Nat → Int32} (A : hz_Act (tz_H s) a T) : tz_Act s.2.2.2.2.2.1 a T := by
  obtain ⟨s', e, h⟩ := A
  rw [tz_H_ext e]
  exact h
def rz_G (s0 : tz_S) (th : Int32) (W : m_W) (G : Nat → Int64) (h : m_H) : Prop := ∃ s, h = tz_H s ∧ tz_WR s 318 W ∧ s.1 317 0 = th ∧ tz_fq s0 s ∧ ∀ i, i < 10 → s.2.2.1 323 i = G i
section
variable {s0 : tz_S} {th : Int32} {W : m_W} {h : m_H} {F : Nat → Int32} {w : Option Nat}
theorem cz_act2 (R : cz_N s0 W h) : ∃ r, F3_actInForce 223 h = some r ∧ cz_L s0 W r := by
  obtain ⟨r, e, hr⟩ := cz_act R
  refine ⟨r, e, ?_⟩
  obtain ⟨s, rfl, -, fr⟩ := R
  revert hr
  unfold cz_L
  cases sp_text W with
  | none => exact fun x => x
  | some t =>
    rintro ⟨ht, a, hr, A⟩
    have := A.ext
    rw [show s.2.2.2.2.2.1 = s0.2.2.2.2.2.1 from congrArg (fun x => x.2.1) fr.2.2.2.2] at this
    exact ⟨ht, a, hr, this⟩
theorem cz_K.cong {F' : Nat → Int32} (K : cz_K s0 W F w h) (hF : ∀ i, i < 10 → F i = F' i) : cz_K s0 W F' w h := by
  obtain ⟨s, a, b, c, d, e⟩ := K
  exact ⟨s, a, b, c, fun i hi => (d i hi).trans (hF i hi), e⟩
theorem cz_setlaw (R : cz_N s0 W h) (r : Option Nat) : k_ok (m_pf m_ft h 211 2 5 (va_rf r)) (fun h1 => ∃ F, cz_K s0 W F r h1) := by
  obtain ⟨s, rfl, H, fr⟩ := R
  refine ⟨_, tz_pfw, s.2.1 214, _, rfl, H.cong (fun _ _ _ _ => rfl) (fun _ _ _ => rfl) (if_neg (t := fun _ => r) (e := s.2.2.2.1 (223 + 1)) (show ¬ 223 + 1 = 211 by decide)) rfl, fr.trans (tz_fr.ua (by decide) (by decide)), fun _ _ => rfl, ?_⟩
  exact congrFun (if_pos (t := fun _ => r) (e := s.2.2.2.1 211) (rfl : 211 = 211)) 0
theorem cz_state (K : cz_K s0 W F w h) {i : Nat} {x v : Int32} (hx : x = nI i) (hi : i < 10) : k_ok (F2_state 211 x v h) (cz_K s0 W (fun j => if j = i then v else F j) w) := by
  subst hx
  obtain ⟨s, rfl, H, fr, hF, e⟩ := K
  unfold F2_state F2_state_0
  refine k_g io_211 (k_f (nI_pos (by omega)) (k_e gr_211_2 (k_e le_214 (k_f (show ¬ (nI 10 ≤ nI i) from nI_ge hi (by decide)) (k_e gr_211_2 (k_e (tz_si sh_214 ⟨rfl, rfl⟩ (nI_in1 hi (by decide))) (k_s ?_)))))))
  refine ⟨_, rfl, H.cong (fun _ _ _ _ => rfl) (fun a h1 h2 => tz_ui_n (by omega)) rfl rfl, fr.trans (tz_fr.ui (by decide) (by decide) (by decide)), fun j hj => ?_, e⟩
  rw [tz_ui_a, nI_clamp (by omega)]
  dsimp only
  by_cases q : j = i
  · subst q
    rw [pk_us, if_pos rfl]
    rfl
  · rw [pk_un q, if_neg q, hF j hj]
theorem cz_gather (R : cz_N s0 W h) (V : vz W) {l t : Nat} {c to x y : Int32} (hx : x = nI l) (hl : l ≤ 5) (hy : y = nI t) (ht : t ≤ 7) : k_ok (F2_gather 211 223 x y c to h) (fun h1 => ∃ w, cz_K s0 W (sp_fx W l t c to) w h1 ∧ cz_L s0 W w) := by
  subst hx hy
  have h0 := V.n0
  have h5 := V.n5
  have h6 := V.n6
  obtain ⟨r, er, L⟩ := cz_act2 R
  unfold F2_gather F2_gather_0
  refine k_g (nz_io211 R) (k_e er (k_b (cz_setlaw R r) ?_))
  rintro h1 ⟨F, K⟩
  refine k_b (cz_state K (i := 0) rfl (by decide)) ?_
  intro h2 K
  refine k_b (cz_state K (i := 1) rfl (by decide)) ?_
  intro h3 K
  refine k_e (cz_i0 K.N) (k_b (cz_state K (i := 2) rfl (by decide)) ?_)
  intro h4 K
  refine k_b (cz_state K (i := 3) rfl (by decide)) ?_
  intro h5 K
  refine k_e (nz_gr223_6 K.N) (k_e (cz_g0_0 K.N rfl (by omega)) (k_b (cz_state K (i := 4) rfl (by decide)) ?_))
  intro h6 K
  refine k_e (cz_i0 K.N) (k_e (cz_priceIn K.N) (k_b (cz_state K (i := 5) rfl (by decide)) ?_))
  intro h7 K
  refine k_e (nz_gr223_12 K.N) (k_e cz_tradeRow (k_e (cz_g6_1 K.N rfl (by omega)) (k_b (cz_state K (i := 6) rfl (by decide)) ?_)))
  intro h8 K
  refine k_e (nz_gr223_11 K.N) (k_e (cz_g5_0 K.N rfl (by omega)) (k_b (cz_state K (i := 7) rfl (by decide)) ?_))
  intro h9 K
  refine k_e (cz_leased K.N V) (k_b (cz_state K (i := 8) rfl (by decide)) ?_)
  intro h10 K
  refine k_b (cz_state K (i := 9) rfl (by decide)) ?_
  intro h11 K
  refine k_s ⟨r, K.cong ?_, L⟩
  intro i hi
  match i, hi with
  | 0, _ => rfl
  | 1, _ => rfl
  | 2, _ => rfl
  | 3, _ => rfl
  | 4, _ => rfl
  | 5, _ => rfl
  | 6, _ => rfl
  | 7, _ => rfl
  | 8, _ => rfl
  | 9, _ => rfl
  | n + 10, hi => exact absurd hi (by omega)
theorem vz.ask (V : vz W) {r : Nat} (hr : r < wz_n W 3) : ∃ l t, W 3 r 0 = nI l ∧ 1 ≤ l ∧ l ≤ 5 ∧ W 3 r 1 = nI t ∧ t ≤ 7 := by
  have h := V.row (k := 3) (by omega) hr
  obtain ⟨l, hl, el⟩ := i_row (x := W 3 r 0) (n := 5) rfl ⟨Int32.le_trans (by decide) h.1.1, h.1.2⟩
  obtain ⟨t, ht, et⟩ := i_row (n := 7) rfl h.2.1
  refine ⟨l, t, el, ?_, hl, et, ht⟩
  rcases Nat.eq_zero_or_pos l with q | q
  · have h0 : (1 : Int32) ≤ W 3 r 0 := h.1.1
    rw [el, q] at h0
    exact absurd h0 (by decide)
  · exact q
theorem cz_hear (R : cz_N s0 W h) (V : vz W) {r l t : Nat} {c x : Int32} (hx : x = nI r) (hr : r < wz_n W 3) (el : W 3 r 0 = nI l) (hl : l ≤ 5) (et : W 3 r 1 = nI t) (ht : t ≤ 7) : k_ok (F2_hear 211 223 x c h) (fun h1 => ∃ w, cz_K s0 W (sp_fx W l t c 0) w h1 ∧ cz_L s0 W w) := by
  unfold F2_hear F2_hear_0
  refine k_g (nz_io211 R) (k_e (nz_gr223_9 R) (k_e (cz_g3_0 R hx hr) (k_e (nz_gr223_9 R) (k_e (cz_g3_1 R hx hr) (k_b (cz_gather R V el hl et ht) ?_)))))
  intro h1 K
  exact k_s K
theorem rz_G0 (R : rz_N s0 th W h) : ∃ G, rz_G s0 th W G h := by
  obtain ⟨s, rfl, a, b, c⟩ := R
  exact ⟨s.2.2.1 323, s, rfl, a, b, c, fun _ _ => rfl⟩
theorem rz_G.N {G : Nat → Int64} (K : rz_G s0 th W G h) : rz_N s0 th W h := by
  obtain ⟨s, a, b, c, d, e⟩ := K
  exact ⟨s, a, b, c, d⟩
theorem rz_gs {G : Nat → Int64} (K : rz_G s0 th W G h) {i : Nat} {x : Int32} {v : Int64} (hx : x = nI i) (hi : i < 10) : k_ok (m_sl h 323 x v) (rz_G s0 th W (fun j => if j = i then v else G j)) := by
  subst hx
  obtain ⟨s, rfl, b, c, d, e⟩ := K
  refine ⟨_, tz_sl sh_323 (nI_in1 hi (by decide)), _, rfl, b, c, d.trans (tz_fq.ul (by decide)), fun j hj => ?_⟩
  rw [tz_ul_a, nI_clamp (by omega)]
  dsimp only
  by_cases q : j = i
  · subst q
    rw [pk_uLs, if_pos rfl]
  · rw [pk_uLn q, if_neg q, e j hj]
theorem rz_looks (R : rz_N s0 th W h) (V : vz W) {l t : Nat} {c to x y : Int32} (hx : x = nI l) (hl : l ≤ 5) (hy : y = nI t) (ht : t ≤ 7) : k_ok (F12_looks 317 x y c to h) (rz_K s0 th W (sp_fx W l t c to)) := by
  subst hx hy
  obtain ⟨G, K⟩ := rz_G0 R
  have hb := fun h => rz_both (h := h) (l := l) (t := t) (c := 1) (by omega) (by omega) (by decide)
  unfold F12_looks F12_looks_0
  refine k_g (rz_io R) (k_e (rz_gr15 R) (k_b (rz_gs K (i := 0) rfl (by decide)) ?_))
  intro h1 K
  refine k_e (rz_gr15 K.N) (k_b (rz_gs K (i := 1) rfl (by decide)) ?_)
  intro h2 K
  refine k_e (rz_gr15 K.N) (k_e (k_wk K.N) (k_b (rz_gs K (i := 2) rfl (by decide)) ?_))
  intro h3 K
  refine k_e (rz_gr15 K.N) (k_b (rz_gs K (i := 3) rfl (by decide)) ?_)
  intro h4 K
  refine k_e (rz_gr15 K.N) (k_e (rz_so0 K.N rfl (by omega)) (k_b (rz_gs K (i := 4) rfl (by decide)) ?_))
  intro h5 K
  refine k_e (rz_gr15 K.N) (k_e (k_wk K.N) (k_e (rz_priceOf K.N V) (k_b (rz_gs K (i := 5) rfl (by decide)) ?_)))
  intro h6 K
  refine k_e (rz_gr15 K.N) (k_e (rz_gr1 K.N) (k_e (hb h6).1 (k_e (rz_get K.N rfl (hb h6).2) (k_b (rz_gs K (i := 6) rfl (by decide)) ?_))))
  intro h7 K
  refine k_e (rz_gr15 K.N) (k_e (rz_gr1 K.N) (k_e (rz_l5 K.N (r := l) (c := 0) (by omega) (by decide)).1 (k_e (rz_l5 K.N (r := l) (c := 0) (by omega) (by decide)).2 (k_b (rz_gs K (i := 7) rfl (by decide)) ?_))))
  intro h8 K
  refine k_e (rz_gr15 K.N) (k_e (rz_leased K.N V) (k_b (rz_gs K (i := 8) rfl (by decide)) ?_))
  intro h9 K
  refine k_e (rz_gr15 K.N) (k_b (rz_gs K (i := 9) rfl (by decide)) ?_)
  intro h10 K
  obtain ⟨s, a, b, c', d, e⟩ := K
  refine k_s ⟨s, a, b, c', d, fun i hi => (e i hi).trans ?_⟩
  match i, hi with
  | 0, _ => rfl
  | 1, _ => rfl
  | 2, _ => rfl
  | 3, _ => rfl
  | 4, _ => rfl
  | 5, _ => rfl
  | 6, _ => rfl
  | 7, _ => rfl
  | 8, _ => rfl
  | 9, _ => rfl
  | n + 10, hi => exact absurd hi (by omega)
theorem rz_q3 (R : rz_N s0 th W h) {r : Nat} (hr : r < 60) : F12_requestAt (nI r) h = some (2909 + 5 * nI r) ∧ m_ai h 0 318 (2909 + 5 * nI r) = some (W 3 r 0) ∧ m_ai h 0 318 (2909 + 5 * nI r + 1) = some (W 3 r 1) ∧ m_ai h 0 318 (2909 + 5 * nI r + 2) = some (W 3 r 2) ∧ m_ai h 0 318 (2909 + 5 * nI r + 3) = some (W 3 r 3) ∧ m_ai h 0 318 (2909 + 5 * nI r + 4) = some (W 3 r 4) :=
  ⟨rfl, rz_get R (ix30 r) ⟨by decide, hr, by decide⟩, rz_get R (ix3 r 1) ⟨by decide, hr, by decide⟩, rz_get R (ix3 r 2) ⟨by decide, hr, by decide⟩, rz_get R (ix3 r 3) ⟨by decide, hr, by decide⟩, rz_get R (ix3 r 4) ⟨by decide, hr, by decide⟩⟩
theorem rz_looksAt (R : rz_N s0 th W h) (V : vz W) {r l t : Nat} {c x : Int32} (hx : x = nI r) (hr : r < 60) (el : W 3 r 0 = nI l) (hl : l ≤ 5) (et : W 3 r 1 = nI t) (ht : t ≤ 7) : k_ok (F12_looksAt 317 x c h) (rz_K s0 th W (sp_fx W l t c 0)) := by
  subst hx
  have q := rz_q3 R hr
  unfold F12_looksAt F12_looksAt_0
  refine k_g (rz_io R) (k_e (rz_gr1 R) (k_e q.1 (k_e q.2.1 (k_e (rz_gr1 R) (k_e q.1 (k_e q.2.2.1 (k_b (rz_looks R V el hl et ht) ?_)))))))
  intro h1 K
  exact k_s K
theorem rz_lacks (R : rz_N s0 th W h) {r : Nat} {x : Int32} (hx : x = nI r) (hr : r < 60) : F12_lacks 317 x h = some (W 3 r 2 - W 3 r 4) := by
  subst hx
  have q := rz_q3 R hr
  unfold F12_lacks F12_lacks_0
  rw [rz_io R, gz_s, rz_gr1 R, bz_s, q.1, bz_s, q.2.2.2.1, bz_s, bz_s]
  change m_b (m_ai h 0 318 (2909 + 5 * nI r + 4)) _ = _
  rw [q.2.2.2.2.2, bz_s]
noncomputable def sp_weigh (W : m_W) (a b : Int32) : (Int64 × m_W) ⊕ Nat :=
  if 0 ≤ a ∧ a < nI (wz_n W 3) then
    if b = 0 then .inl ((sp_marks W (sp_fx W (W 3 a.toNatClampNeg 0).toNatClampNeg (W 3 a.toNatClampNeg 1).toNatClampNeg (W 3 a.toNatClampNeg 2) 0)).toInt64, W) else if b = 1 then .inl ((sp_why W (sp_fx W (W 3 a.toNatClampNeg 0).toNatClampNeg (W 3 a.toNatClampNeg 1).toNatClampNeg (W 3 a.toNatClampNeg 2) 0) 1).toInt64, W)
    else if b = 2 then .inl ((sp_why W (sp_fx W (W 3 a.toNatClampNeg 0).toNatClampNeg (W 3 a.toNatClampNeg 1).toNatClampNeg (W 3 a.toNatClampNeg 2) 0) 0).toInt64, W) else if b = 3 then .inl ((W 3 a.toNatClampNeg 4).toInt64, W) else if b = 4 then .inl ((W 3 a.toNatClampNeg 2 - W 3 a.toNatClampNeg 4).toInt64, W)
    else if b = 5 then .inl ((sp_owe W (sp_fx W (W 3 a.toNatClampNeg 0).toNatClampNeg (W 3 a.toNatClampNeg 1).toNatClampNeg (W 3 a.toNatClampNeg 2) 0)).toInt64, W) else .inr 4
  else .inr 0
theorem rz_weigh (R : rz_N s0 th W h) (V : vz W) {a b : Int32} : k_ok (F12_weigh 317 a b h) (hz_I s0 e04 W (sp_weigh W a b)) := by
  have hn : wz_n W 3 ≤ 60 := V.c (k := 3) (by omega)
  unfold F12_weigh F12_weigh_0 sp_weigh
  refine k_g (rz_io R) ?_
  refine k_b (rz_th R) ?_
  intro h1 R1
  refine k_e (rz_noRequest R1 V) (k_ww R1 _ rfl (fun c1 => ?_) (fun c1 h2 R2 => k_s (by rw [if_neg c1]; exact R2)))
  rw [if_pos c1]
  obtain ⟨r, hr, rfl⟩ := i_rowlt (by omega) c1
  obtain ⟨l, t, el, hl1, hl, et, ht⟩ := V.ask hr
  have q := rz_q3 R1 (r := r) (by omega)
  rw [nI_clamp (n := r) (by omega), el, et, nI_clamp (n := l) (by omega), nI_clamp (n := t) (by omega)]
  refine k_e (rz_gr1 R1) (k_e q.1 (k_e q.2.2.2.1 (k_b (rz_looksAt R1 V rfl (by omega) el hl et ht) ?_)))
  intro h2 K
  have R2 := K.N
  have q := rz_q3 R2 (r := r) (by omega)
  rcases swi6 (b := b) with ⟨k, hk, rfl, e⟩ | ⟨qn, e⟩
  · rw [e]
    match k, hk with
    | 0, _ =>
      refine k_t rfl (k_b (rz_all K V.vt (k := 1) (Or.inl rfl)) ?_)
      rintro _ ⟨h3, rfl, K3⟩
      exact k_s ⟨rfl, K3.N⟩
    | 1, _ =>
      refine k_f (by decide) (k_t rfl (k_b (rz_first K V.vt (k := 1)) ?_))
      rintro _ ⟨h3, rfl, K3⟩
      exact k_s ⟨rfl, K3.N⟩
    | 2, _ =>
      refine k_f (by decide) (k_f (by decide) (k_t rfl (k_b (rz_first K V.vt (k := 0)) ?_)))
      rintro _ ⟨h3, rfl, K3⟩
      exact k_s ⟨rfl, K3.N⟩
    | 3, _ => exact k_f (by decide) (k_f (by decide) (k_f (by decide) (k_t rfl (k_e (rz_gr1 R2) (k_e q.1 (k_e q.2.2.2.2.2 (k_s ⟨rfl, R2⟩)))))))
    | 4, _ => exact k_f (by decide) (k_f (by decide) (k_f (by decide) (k_f (by decide) (k_t rfl (k_e (rz_lacks R2 rfl (by omega)) (k_s ⟨rfl, R2⟩))))))
    | 5, _ =>
      refine k_f (by decide) (k_f (by decide) (k_f (by decide) (k_f (by decide) (k_f (by decide) (k_t rfl (k_b (rz_all K V.vt (k := 2) (Or.inr rfl)) ?_))))))
      rintro _ ⟨h3, rfl, K3⟩
      exact k_s ⟨rfl, K3.N⟩
    | n + 6, hk => exact absurd hk (by omega)
  · rw [e]
    have hb : ∀ k, k ≤ 5 → ¬ b = nI k := by
      rintro k hk rfl
      rcases qn with q | q
      · exact nI_pos (by omega) q
      · exact nI_nlt hk (by decide) q
    rw [if_neg (show ¬ b = 0 from hb 0 (by decide)), if_neg (show ¬ b = 1 from hb 1 (by decide)), if_neg (show ¬ b = 2 from hb 2 (by decide)), if_neg (show ¬ b = 3 from hb 3 (by decide)), if_neg (show ¬ b = 4 from hb 4 (by decide)), if_neg (show ¬ b = 5 from hb 5 (by decide))]
    refine k_b (rz_th R2) ?_
    intro h3 R3
    exact k_s R3
theorem cz_weighed (K : cz_K s0 W F w h) (L : cz_L s0 W w) (V : vz W) {k : Nat} (hk : k ≤ 2) : k_ok (F11_weighed 200 (nI k) h) (fun z => ∃ h1, z = (if k = 0 then sp_marks W F else if k = 1 then sp_why W F 1 else sp_why W F 0, h1) ∧ cz_K s0 W F w h1) := by
  unfold F11_weighed F11_weighed_0
  refine k_g (nz_io200 K.N) ?_
  match k, hk with
  | 0, _ =>
    refine k_t rfl (k_e (nz_gr200_2 K.N) (k_b (cz_marks K L V) ?_))
    rintro _ ⟨h1, rfl, K1⟩
    exact k_s ⟨h1, rfl, K1⟩
  | 1, _ =>
    refine k_f (by decide) (k_t rfl (k_e (nz_gr200_2 K.N) (k_b (cz_why K L V) ?_)))
    rintro _ ⟨h1, rfl, K1⟩
    exact k_s ⟨h1, rfl, K1⟩
  | 2, _ =>
    refine k_f (by decide) (k_f (by decide) (k_t rfl (k_e (nz_gr200_2 K.N) (k_b (cz_why K L V) ?_))))
    rintro _ ⟨h1, rfl, K1⟩
    exact k_s ⟨h1, rfl, K1⟩
  | n + 3, hk => exact absurd hk (by omega)
theorem cz_weighed5 (K : cz_K s0 W F w h) (L : cz_L s0 W w) (V : vz W) : k_ok (F11_weighed 200 5 h) (fun z => ∃ h1, z = (sp_owe W F, h1) ∧ cz_K s0 W F w h1) := by
  unfold F11_weighed F11_weighed_0
  refine k_g (nz_io200 K.N) ?_
  show k_ok (m_b (m_gr h 200 8 2) _) _
  refine k_e (nz_gr200_2 K.N) (k_b (cz_owe K L V) ?_)
  rintro _ ⟨h1, rfl, K1⟩
  exact k_s ⟨h1, rfl, K1⟩
theorem cz_weigh (R : cz_N s0 W h) (V : vz W) {a b : Int32} : k_ok (F11_weigh 200 a b h) (fz_I s0 W (sp_weigh W a b)) := by
  have hn : wz_n W 3 ≤ 60 := V.c (k := 3) (by omega)
  unfold F11_weigh F11_weigh_0 sp_weigh
  refine k_g (nz_io200 R) (k_e (nz_gr200_4 R) (k_e (nz_gr223_9 R) (k_e (cz_has R (k := 3) (by decide) rfl) ?_)))
  by_cases c1 : a < 0 ∨ nI (wz_n W 3) ≤ a
  · rw [if_pos c1, if_neg (show ¬ (0 ≤ a ∧ a < nI (wz_n W 3)) from fun q => c1.elim (fun x => Int32.not_le.mpr x q.1) (fun x => Int32.not_le.mpr q.2 x))]
    exact k_t rfl (k_s ⟨_, rfl, R⟩)
  rw [if_neg c1]
  have c2 : 0 ≤ a ∧ a < nI (wz_n W 3) := ⟨Int32.not_lt.mp (fun x => c1 (Or.inl x)), Int32.not_le.mp (fun x => c1 (Or.inr x))⟩
  rw [if_pos c2]
  obtain ⟨r, hr, rfl⟩ := i_rowlt (by omega) c2
  obtain ⟨l, t, el, hl1, hl, et, ht⟩ := V.ask hr
  rw [nI_clamp (n := r) (by omega), el, et, nI_clamp (n := l) (by omega), nI_clamp (n := t) (by omega)]
  refine k_f (by decide) (k_o (fun c3 => ?_) (fun c3 => ?_))
  · obtain ⟨k, hk, rfl⟩ := i_row (n := 5) rfl c3
    have go : ∀ {Q : (Int32 ⊕ Nat) × m_H → Prop} {x : Int32}, (∀ h1 w, cz_K s0 W (sp_fx W l t (W 3 r 2) 0) w h1 → cz_L s0 W w → k_ok (F11_weighed 200 x h1) (fun z => Q (.inl z.1, z.2))) → k_ok (m_b (m_gr h 200 8 2) fun v13 => m_b (m_gr h 200 8 4) fun v15 => m_b (m_gr h 200 8 4) fun v17 => m_b (m_gr h v17 3 9) fun v19 => m_b (F8_get v19 (nI r) 2 h) fun v22 => m_b (F2_hear v13 v15 (nI r) v22 h) fun h24 => m_b (F11_weighed 200 x h24) fun z26 => some (.inl z26.1, z26.2)) Q := by
      intro Q x H
      refine k_e (nz_gr200_2 R) (k_e (nz_gr200_4 R) (k_e (nz_gr200_4 R) (k_e (nz_gr223_9 R) (k_e (cz_g3_2 R rfl hr) (k_b (cz_hear R V rfl hr el hl et ht) ?_)))))
      rintro h1 ⟨w, K, L⟩
      obtain ⟨z, e, hz⟩ := H h1 w K L
      exact k_e e (k_s hz)
    match k, hk with
    | 0, _ =>
      refine k_f (by decide) (k_f (by decide) (go (x := nI 0) fun h1 w K L => ?_))
      obtain ⟨_, e, h2, rfl, K2⟩ := cz_weighed K L V (k := 0) (by decide)
      exact ⟨_, e, _, h2, rfl, rfl, K2.N⟩
    | 1, _ =>
      refine k_f (by decide) (k_f (by decide) (go (x := nI 1) fun h1 w K L => ?_))
      obtain ⟨_, e, h2, rfl, K2⟩ := cz_weighed K L V (k := 1) (by decide)
      exact ⟨_, e, _, h2, rfl, rfl, K2.N⟩
    | 2, _ =>
      refine k_f (by decide) (k_f (by decide) (go (x := nI 2) fun h1 w K L => ?_))
      obtain ⟨_, e, h2, rfl, K2⟩ := cz_weighed K L V (k := 2) (by decide)
      exact ⟨_, e, _, h2, rfl, rfl, K2.N⟩
    | 3, _ => exact k_t rfl (k_e (nz_gr200_4 R) (k_e (nz_gr223_9 R) (k_e (cz_g3_4 R rfl hr) (k_s ⟨_, h, rfl, rfl, R⟩))))
    | 4, _ =>
      refine k_f (by decide) (k_t rfl (k_e (nz_gr200_4 R) ?_))
      unfold F3_lackOf F3_lackOf_0
      refine k_e (x := W 3 r 2 - W 3 r 4) ?_ (k_s ⟨_, h, rfl, rfl, R⟩)
      rw [nz_io223 R, gz_s, nz_gr223_9 R, bz_s, cz_g3_2 R rfl hr, bz_s, bz_s, cz_g3_4 R rfl hr, bz_s]
    | 5, _ =>
      refine k_f (by decide) (k_f (by decide) (go (x := nI 5) fun h1 w K L => ?_))
      obtain ⟨_, e, h2, rfl, K2⟩ := cz_weighed5 K L V
      exact ⟨_, e, _, h2, rfl, rfl, K2.N⟩
    | n + 6, hk => exact absurd hk (by omega)
  · have hb : ∀ k, k ≤ 5 → ¬ b = nI k := by
      rintro k hk rfl
      exact c3 ⟨Int32.not_lt.mp (nI_pos (by omega)), nI_le hk (by decide)⟩
    rw [if_neg (show ¬ b = 0 from hb 0 (by decide)), if_neg (show ¬ b = 1 from hb 1 (by decide)), if_neg (show ¬ b = 2 from hb 2 (by decide)), if_neg (show ¬ b = 3 from hb 3 (by decide)), if_neg (show ¬ b = 4 from hb 4 (by decide)), if_neg (show ¬ b = 5 from hb 5 (by decide))]
    exact k_s ⟨_, rfl, R⟩
end
