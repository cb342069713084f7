/-! ===== faces without a catch; weeks, cash, undo, the image ===== -/
section
variable {s s' s1 : tz_S} {W W' B : m_W} {b0 i : Option m_W} {n m N : Nat} {f g : Nat → Int32} {T T' : Nat → Nat} {q q' : Nat} {e : Int32} {h : m_H} {a b c d e2 x : Int32}
def PR (N : Nat) (A : Option (Int32 × m_H)) (F : m_H → Option (Int32 × m_H)) : Prop := k_ok A (fun z => ∃ s', z.2 = tz_H s' ∧ k_ok (F (tz_H s')) (fun z2 => z.1 = z2.1 ∧ ∃ s2, z2.2 = tz_H s2 ∧ JJ s2 (N + 1)))
def PS (N : Nat) (s : tz_S) (A : Option Int32) (F : m_H → Option (Int32 × m_H)) : Prop := ∃ v, A = some v ∧ k_ok (F (tz_H s)) (fun z2 => v = z2.1 ∧ ∃ s2, z2.2 = tz_H s2 ∧ JJ s2 (N + 1))
theorem JM.ss (M : JM s n m N) : JM s n m (N + 1) := M.ee rfl
theorem JC.te (J : JC s W b0 i n m f g T q e) (F : tfe s s') (t : tpe s' T' q') : JC s' W b0 i n m f g T' q' e ∧ CF s s' := by
  obtain ⟨j1, j2, j3, j4, j5, j6⟩ := J
  have c : ∀ {x : Nat} {X : m_W}, 223 ≤ x → tz_HR s x X → tz_HR s' x X := fun hx H => H.cong (fun a k h1 h2 => F.1 a k (by omega)) (fun a h1 h2 => F.2.1 a (by omega)) (by rw [F.2.2]) (by rw [F.2.2])
  have f1 : ∀ k, s'.1 200 k = s.1 200 k := fun k => F.1 200 k (by omega)
  refine ⟨⟨c (by decide) j1, ?_, ?_, bz_Z_cong j4 (F.2.1 314 (by decide)) (F.2.1 316 (by decide)) (by rw [F.2.2]) (by rw [F.2.2]) (by rw [F.2.2]), t, (f1 11).trans j6⟩, fun a k z => F.1 a k (by omega), fun a z => F.2.1 a (by omega)⟩
  · cases b0 with
    | none => exact (f1 9).trans j2
    | some B => exact ⟨(f1 9).trans j2.1, c (by decide) j2.2⟩
  · cases i with
    | none => exact (f1 10).trans j3
    | some B => exact ⟨(f1 10).trans j3.1, c (by decide) j3.2⟩
theorem JR.re (J : JR s W b0 i T q e) (F : rfe s s') (t : tpr s' T' q') : JR s' W b0 i T' q' e ∧ RF s s' := by
  obtain ⟨j1, j2, j3, j5, j6⟩ := J
  have f1 : ∀ k, ¬ (k = 0 ∨ k = 7) → s'.1 317 k = s.1 317 k := fun k hk => F.1 317 k (fun z => hk z.2)
  refine ⟨⟨tz_WR_cong j1 (F.2.1 318 (by decide)), ?_, ?_, t, (f1 12 (by decide)).trans j6⟩, fun a k z => F.1 a k (fun y => z y.1), fun a z => F.2.1 a (by omega), by rw [F.2.2]⟩
  · cases b0 with
    | none => exact (f1 5 (by decide)).trans j2
    | some B => exact ⟨(f1 5 (by decide)).trans j2.1, tz_WR_cong j2.2 (F.2.1 320 (by decide))⟩
  · cases i with
    | none => exact (f1 4 (by decide)).trans j3
    | some B => exact ⟨(f1 4 (by decide)).trans j3.1, tz_WR_cong j3.2 (F.2.1 319 (by decide))⟩
theorem JP.tq (P : JP W b0 i n m f g T q) (h1 : q' ≤ 400) (h2 : ∀ j, j < q' → T' j < 256) : JP W b0 i n m f g T' q' := ⟨P.1, P.2.1, P.2.2.1, P.2.2.2.1, P.2.2.2.2.1, h1, h2⟩
theorem lw_feed (J : JC s W b0 i n m f g T q e) (R0 : JR s W b0 i T q e) (P : JP W b0 i n m f g T q) (M : JM s n m N) : PR N (F11_feed 200 a b c d e2 (tz_H s)) (F12_feed 317 a b c d e2) := by
  obtain ⟨-, -, -, -, -, hq, hT⟩ := id P
  refine k_m (cz_feed J.2.2.2.2.1 hq) ?_
  rintro ⟨v, h⟩ ⟨s', eh, F, D⟩
  refine ⟨s', eh, ?_⟩
  have cf : CF s s' := ⟨fun a k z => F.1 a k (by omega), fun a z => F.2.1 a (by omega)⟩
  have R1 := R0.cf cf
  refine k_m (rz_feed R1.2.2.2.1 hq) ?_
  rintro ⟨v2, h2⟩ ⟨s2, eh2, F2, t0, D2⟩
  dsimp only at D D2 ⊢
  have M1 : JM s' n m (N + 1) := M.ee (congrArg (fun z => z.2.2.2) F.2.2)
  rcases D with ⟨c1, ev, t1⟩ | ⟨c1, ev, t1⟩
  · rcases D2 with ⟨c2, ev2, t2⟩ | ⟨c2, -⟩
    · obtain ⟨J1, -⟩ := J.te F t1
      obtain ⟨R2, rf⟩ := R1.re F2 t2
      exact ⟨ev.trans ev2.symm, s2, eh2, W, b0, i, n, m, f, g, _, _, e, J1.rf rf, R2, P.tq c1 (t20_lt hT), M1.rf rf⟩
    · exact absurd c1 c2
  · rcases D2 with ⟨c2, -⟩ | ⟨c2, ev2, t2⟩
    · exact absurd c2 c1
    · obtain ⟨J1, -⟩ := J.te F t1
      obtain ⟨R2, rf⟩ := R1.re F2 t2
      exact ⟨ev.trans ev2.symm, s2, eh2, W, b0, i, n, m, f, g, T, q, e, J1.rf rf, R2, P, M1.rf rf⟩
theorem lw_end (J : JC s W b0 i n m f g T q e) (R0 : JR s W b0 i T q e) (P : JP W b0 i n m f g T q) (M : JM s n m N) : PR N (F11_end 200 x (tz_H s)) (F12_end 317 x) := by
  obtain ⟨-, -, -, -, -, hq, hT⟩ := id P
  refine k_m (cz_end J.2.2.2.2.1 hq) ?_
  rintro ⟨v, h⟩ ⟨s', eh, F, D⟩
  refine ⟨s', eh, ?_⟩
  have cf : CF s s' := ⟨fun a k z => F.1 a k (by omega), fun a z => F.2.1 a (by omega)⟩
  have R1 := R0.cf cf
  refine k_m (rz_end R1.2.2.2.1 hq) ?_
  rintro ⟨v2, h2⟩ ⟨s2, eh2, F2, t0, D2⟩
  dsimp only at D D2 ⊢
  have M1 : JM s' n m (N + 1) := M.ee (congrArg (fun z => z.2.2.2) F.2.2)
  rcases D with ⟨k, ek, hk, ev, t1⟩ | ⟨c1, ev, t1⟩
  · rcases D2 with ⟨k2, ek2, hk2, ev2, t2⟩ | ⟨c2, -⟩
    · have : k = k2 := nI_e (by omega) (by omega) (ek.symm.trans ek2)
      subst this
      obtain ⟨J1, -⟩ := J.te F t1
      obtain ⟨R2, rf⟩ := R1.re F2 t2
      exact ⟨ev.trans ev2.symm, s2, eh2, W, b0, i, n, m, f, g, T, k, e, J1.rf rf, R2, P.tq (by omega) (fun j hj => hT j (by omega)), M1.rf rf⟩
    · exact absurd ⟨k, ek, hk⟩ c2
  · rcases D2 with ⟨k2, ek2, hk2, -⟩ | ⟨c2, ev2, t2⟩
    · exact absurd ⟨k2, ek2, hk2⟩ c1
    · obtain ⟨J1, -⟩ := J.te F t1
      obtain ⟨R2, rf⟩ := R1.re F2 t2
      exact ⟨ev.trans ev2.symm, s2, eh2, W, b0, i, n, m, f, g, T, q, e, J1.rf rf, R2, P, M1.rf rf⟩
theorem RF.u0 {v : Int32} : RF s (tz_uf s 317 0 v) := ⟨fun a k z => if_neg (fun y => z y.1), fun _ _ => rfl, rfl⟩
theorem JR.u0 {v : Int32} (R : JR s W b0 i T q e) : JR (tz_uf s 317 0 v) W b0 i T q e := by
  obtain ⟨j1, j2, j3, j5, j6⟩ := R
  refine ⟨j1, ?_, ?_, ⟨(tz_uf_n (by decide)).trans j5.1, j5.2⟩, (tz_uf_n (by decide)).trans j6⟩
  · cases b0 with
    | none => exact (tz_uf_n (by decide)).trans j2
    | some B => exact ⟨(tz_uf_n (by decide)).trans j2.1, j2.2⟩
  · cases i with
    | none => exact (tz_uf_n (by decide)).trans j3
    | some B => exact ⟨(tz_uf_n (by decide)).trans j3.1, j3.2⟩
theorem lw_fault (J : JC s W b0 i n m f g T q e) (R0 : JR s W b0 i T q e) (P : JP W b0 i n m f g T q) (M : JM s n m N) : PS N s (F11_fault 200 (tz_H s)) (F12_fault 317) :=
  ⟨_, cz_fault, _, rz_fault, J.2.2.2.2.2.trans R0.2.2.2.2.symm, _, rfl, W, b0, i, n, m, f, g, T, q, e, J.rf RF.u0, R0.u0, P, M.ss.rf RF.u0⟩
/-! both sides: no deed, no refusal -/
theorem lw_N {A : Option (Int32 × m_H)} {F : m_H → Option (Int32 × m_H)} {v : Int32} (J : JC s W b0 i n m f g T q e) (R0 : JR s W b0 i T q e) (P : JP W b0 i n m f g T q) (M : JM s n m N) (hp : vz W' ∧ kp W W') (hA : k_ok A (fun z => ∃ h1, z = (v, h1) ∧ cz_N s W' h1)) (hB : ∀ s1, tz_WR s1 318 W → k_ok (F (tz_H s1)) (fun z => ∃ h1, z = (v, h1) ∧ rz_N s1 0 W' h1)) : PR N A F := by
  refine k_m hA ?_
  rintro _ ⟨h1, rfl, s', rfl, H, F1⟩
  refine ⟨s', rfl, ?_⟩
  have R1 := R0.cf F1.CF
  refine k_m (hB s' R1.1) ?_
  rintro _ ⟨h2, rfl, R⟩
  obtain ⟨s2, rfl, rf, R2, -, -⟩ := r_N R R1
  exact ⟨rfl, s2, rfl, W', b0, i, n, m, f, g, T, q, e, (J.fr F1 H).rf rf, R2, P.kpt hp.2 hp.1, (M.ee (congrArg Prod.snd F1.2.2.2.2)).rf rf⟩
theorem lw_S {A : Option Int32} {F : m_H → Option (Int32 × m_H)} {v : Int32} (J : JC s W b0 i n m f g T q e) (R0 : JR s W b0 i T q e) (P : JP W b0 i n m f g T q) (M : JM s n m N) (hA : A = some v) (hB : ∀ s1, tz_WR s1 318 W → k_ok (F (tz_H s1)) (fun z => ∃ h1, z = (v, h1) ∧ rz_N s1 0 W h1)) : PS N s A F := by
  refine ⟨v, hA, k_m (hB s R0.1) ?_⟩
  rintro _ ⟨h2, rfl, R⟩
  obtain ⟨s2, rfl, rf, R2, -, -⟩ := r_N R R0
  exact ⟨rfl, s2, rfl, W, b0, i, n, m, f, g, T, q, e, J.rf rf, R2, P, M.ss.rf rf⟩
theorem JRN (R0 : tz_WR s 318 W) : rz_N s (s.1 317 0) W (tz_H s) := ⟨s, rfl, R0, rfl, tz_fq.refl⟩
theorem lw_best (J : JC s W b0 i n m f g T q e) (R0 : JR s W b0 i T q e) (P : JP W b0 i n m f g T q) (M : JM s n m N) : PR N (F11_bestOrders 200 (tz_H s)) (F12_bestOrders 317) := by
  refine k_m (cz_bestOrders s J.1 P.1) ?_
  rintro _ ⟨F, rfl⟩
  refine ⟨tz_un s 8 F, rfl, ?_⟩
  have R1 : JR (tz_un s 8 F) W b0 i T q e := R0.cf CF.ux
  refine k_m (rz_bestOrders (JRN R1.1) P.1) ?_
  rintro _ ⟨h2, rfl, R⟩
  obtain ⟨s2, rfl, rf, R2, -, -⟩ := r_N R R1
  have J1 : JC (tz_un s 8 F) W b0 i n m f g T q e := J.px rfl rfl rfl rfl rfl
  have M1 : JM (tz_un s 8 F) n m (N + 1) := by
    unfold JM rm_s rm_c at M ⊢
    show ((s.2.2.2.2.2.1 ++ [_]).map m_sz).sum + s.2.2.2.2.2.2.2 ≤ _ ∧ (s.2.2.2.2.2.1 ++ [_]).length + s.2.2.2.2.2.2.1 ≤ _
    rw [List.map_append, List.sum_append, List.length_append]
    show (s.2.2.2.2.2.1.map m_sz).sum + (8 + 0) + s.2.2.2.2.2.2.2 ≤ _ ∧ s.2.2.2.2.2.1.length + 1 + s.2.2.2.2.2.2.1 ≤ _
    omega
  exact ⟨rfl, s2, rfl, W, b0, i, n, m, f, g, T, q, e, J1.rf rf, R2, P, M1.rf rf⟩
def pC (W : m_W) (b : Option m_W) (p : Int32 ⊕ Nat) : jP := match p with
  | .inl v => .inl (v.toInt64, W, b)
  | .inr E => .inr E
theorem wp_cash (J : JC s W b0 i n m f g T q e) (R0 : JR s W b0 i T q e) (P : JP W b0 i n m f g T q) (M : JM s n m N) : k_ok (F13_cash 200 a b c d e2 333 (tz_H s)) (WP true N e1 W b0 i T q e (pC W b0 (sp_cash W a b c d e2))) := by
  unfold F13_cash F13_cash_0
  refine k_b (cz_cash s W J.1 P.1) ?_
  rintro ⟨v, h⟩ Q
  have er : ∀ E, sp_cash W a b c d e2 = .inr E → E = 1 := by
    intro E h
    unfold sp_cash at h
    split at h
    · cases h
    · cases h; rfl
  revert er Q
  generalize sp_cash W a b c d e2 = p
  intro Q er
  cases p with
  | inl v1 =>
    obtain ⟨F, ez⟩ := Q
    cases ez
    have J1 : JC (tz_un s 6 F) W b0 i n m f g T q e := J.px rfl rfl rfl rfl rfl
    have M1 : JM (tz_un s 6 F) n m (N + 1) := by
      unfold JM rm_s rm_c at M ⊢
      show ((s.2.2.2.2.2.1 ++ [_]).map m_sz).sum + s.2.2.2.2.2.2.2 ≤ _ ∧ (s.2.2.2.2.2.1 ++ [_]).length + s.2.2.2.2.2.2.1 ≤ _
      rw [List.map_append, List.sum_append, List.length_append]
      show (s.2.2.2.2.2.1.map m_sz).sum + (6 + 0) + s.2.2.2.2.2.2.2 ≤ _ ∧ s.2.2.2.2.2.1.length + 1 + s.2.2.2.2.2.2.1 ≤ _
      omega
    unfold m_sx
    dsimp only
    exact k_e (w_out _) (k_s ⟨tz_ul (tz_un s 6 F) 333 (vp_updL ((tz_un s 6 F).2.2.1 333) 0 (m_i2l v1)), rfl, R0.cf ((CF.ux : CF s (tz_un s 6 F)).trans CF.ul), rfl, n, m, f, g, J1.rf RF.ul, P, M1, fun _ => w_got⟩)
  | inr E =>
    have : E = 1 := er E rfl
    subst this
    cases Q
    exact w_R (G := ch1 1) (cd := e1) ⟨fun _ => rfl, by decide⟩ J.1.N J R0 P M
theorem r_cash {z : Int32 × m_H} {p : Int32 ⊕ Nat} (Q : match p with
  | .inl v => ∃ h1, z = (v, h1) ∧ rz_N s 0 W h1
  | .inr E => rz_N s (e1 E) W z.2) (J : JR s W b0 i T q e) : (∀ r, pC W b0 p = .inl r → m_i2l z.1 = r.1) ∧ RP s e1 W b0 i T q e (pC W b0 p) z.2 := by
  cases p with
  | inl v =>
    obtain ⟨h1, rfl, R⟩ := Q
    exact ⟨(fun r er => by cases er; rfl), r_N R J⟩
  | inr E =>
    obtain ⟨s', a, c, d, k, -⟩ := r_N Q J
    exact ⟨(fun r' er => by cases er), s', a, c, d, k⟩
/-! weeks -/
theorem jwk_wkn (V : vz W) : ∀ j, jwk W ≤ jwk (sp_wkn W j)
  | 0 => Nat.le_refl _
  | j + 1 => by
    have ih := jwk_wkn V j
    have V1 := vz_wkn V j
    obtain ⟨ew, w5⟩ := V1.week
    show jwk W ≤ jwk (sp_wst j (sp_wkn W j))
    unfold sp_wst
    by_cases q : sp_wkn W j 14 0 0 < 500
    · rw [if_pos q]
      refine Nat.le_trans ih ?_
      unfold jwk
      rw [sp_week_w]
      generalize (sp_wkn W j 14 0 0).toNatClampNeg = k at ew w5
      rw [ew, ← nI_succ, nI_clamp (by omega)]
      omega
    · rw [if_neg q]
      exact ih
theorem wp_weeks (J : JC s W b0 i n m f g T q e) (R0 : JR s W b0 i T q e) (P : JP W b0 i n m f g T q) (M : JM s n m N) : k_ok (F13_weeks 200 a 333 (tz_H s)) (WP true N e1 W b0 i T q e (pD W b0 (sp_weeks W a))) := by
  unfold F13_weeks F13_weeks_0
  refine k_b (cz_weeks s W J.1 P.1 J.2.2.2.1 P.2.1 P.2.2.1) ?_
  rintro ⟨v, h⟩ Q
  have ok : ∀ v W1, sp_weeks W a = .inl (v, some W1) → vz W1 ∧ jwk W ≤ jwk W1 := by
    intro v W1 h
    unfold sp_weeks at h
    repeat' split at h
    all_goals first | (cases h; done) | (cases h; exact ⟨vz_wkn P.1 _, jwk_wkn P.1 _⟩)
  have er : ∀ E, sp_weeks W a = .inr E → E = 1 := fun E h => er_weeks h
  revert er ok Q
  generalize sp_weeks W a = p
  intro Q ok er
  rcases p with ⟨v1, _ | W1⟩ | E
  · cases Q
    unfold m_sx
    dsimp only
    exact k_e (w_out _) (k_s ⟨tz_ul s 333 (vp_updL (s.2.2.1 333) 0 (m_i2l v1)), rfl, R0.cf CF.ul, rfl, n, m, f, g, J.rf RF.ul, P, M.ss, fun _ => w_got⟩)
  · obtain ⟨s', n', f', ez, H, HB, u, Z, hn, C, hw, ef, F, r1, r2⟩ := Q
    cases ez
    obtain ⟨V1, mono⟩ := ok _ _ rfl
    obtain ⟨j1, j2, j3, j4, j5, j6⟩ := J
    have cf : CF s s' := ⟨fun a k z => F.1 a k (by omega) (by omega), fun a z => F.2.2.1 a (by omega) (by omega) (by omega)⟩
    have J1 : JC s' W1 (some W) i n' m f' g T q e := by
      refine ⟨H, ⟨u, HB⟩, ?_, Z, ⟨F.2.1.trans j5.1, fun j hj => by rw [F.2.2.1 202 (by omega) (by decide) (by decide)]; exact j5.2 j hj⟩, (F.1 200 11 (by omega) (by decide)).trans j6⟩
      cases i with
      | none => exact (F.1 200 10 (by omega) (by decide)).trans j3
      | some I => exact ⟨(F.1 200 10 (by omega) (by decide)).trans j3.1, j3.2.congx (fun a k h1 h2 => F.1 a k (by omega) (by omega)) (fun a h1 h2 => F.2.2.1 a (by omega) (by omega) (by omega)) (F.2.2.2.1 _ (by omega)).2 F.2.2.2.2.2.1⟩
    have P1 : JP W1 (some W) i n' m f' g T q := by
      refine ⟨V1, C, hw, fun B hB => ?_, P.2.2.2.2⟩
      cases hB
      refine ⟨P.1, fun k hk c h1 h2 => ?_, mono⟩
      rw [ef _ (by unfold jwk at hk; omega)]
      exact P.2.1 k hk c h1 h2
    have M1 : JM s' n' m (N + 1) := by
      unfold JM at M ⊢
      omega
    unfold m_sx
    dsimp only
    exact k_e (w_out _) (k_s ⟨tz_ul s' 333 (vp_updL (s'.2.2.1 333) 0 (m_i2l v1)), rfl, R0.cf (cf.trans CF.ul), rfl, n', m, f', g, J1.rf RF.ul, P1, M1, fun _ => w_got⟩)
  · have : E = 1 := er E rfl
    subst this
    cases Q
    exact w_R (G := ch1 1) (cd := e1) ⟨fun _ => rfl, by decide⟩ J.1.N J R0 P M
/-! undo, the image -/
theorem bz_Z.sw {u v : Nat} (Z : bz_Z s u v n m f g) : bz_Z s v u m n g f := ⟨Z.2.1, Z.1, fun z => Z.2.2.1 z.symm, Z.2.2.2.2, Z.2.2.2.1⟩
theorem JR.fz5 (J : JR s W b0 i T q e) (F : tz_fz 318 5 s s') (H : tz_WR s' 318 W') (u : s'.1 317 5 = 0) : JR s' W' none i T q e ∧ RF s s' := by
  obtain ⟨j1, j2, j3, j5, j6⟩ := J
  have f1 : ∀ k, ¬ (k = 0 ∨ k = 5) → s'.1 317 k = s.1 317 k := fun k hk => F.1 317 k (fun z => hk z.2)
  refine ⟨⟨H, u, ?_, ⟨(f1 7 (by decide)).trans j5.1, fun j hj => by rw [F.2.1 321 (by decide)]; exact j5.2 j hj⟩, (f1 12 (by decide)).trans j6⟩, fun a k z => F.1 a k (fun y => z y.1), fun a z => F.2.1 a (by omega), by rw [F.2.2]⟩
  cases i with
  | none => exact (f1 4 (by decide)).trans j3
  | some B => exact ⟨(f1 4 (by decide)).trans j3.1, tz_WR_cong j3.2 (F.2.1 319 (by decide))⟩
theorem JR.fz4 (J : JR s W b0 i T q e) (F : tz_fz 319 4 s s') (H : tz_WR s' 319 W) (u : s'.1 317 4 = 1) : JR s' W b0 (some W) T q e ∧ RF s s' := by
  obtain ⟨j1, j2, j3, j5, j6⟩ := J
  have f1 : ∀ k, ¬ (k = 0 ∨ k = 4) → s'.1 317 k = s.1 317 k := fun k hk => F.1 317 k (fun z => hk z.2)
  refine ⟨⟨tz_WR_cong j1 (F.2.1 318 (by decide)), ?_, ⟨u, H⟩, ⟨(f1 7 (by decide)).trans j5.1, fun j hj => by rw [F.2.1 321 (by decide)]; exact j5.2 j hj⟩, (f1 12 (by decide)).trans j6⟩, fun a k z => F.1 a k (fun y => z y.1), fun a z => F.2.1 a (by omega), by rw [F.2.2]⟩
  cases b0 with
  | none => exact (f1 5 (by decide)).trans j2
  | some B => exact ⟨(f1 5 (by decide)).trans j2.1, tz_WR_cong j2.2 (F.2.1 320 (by decide))⟩
/-- now and the books of now are written anew; there is nothing to undo -/
theorem JC.now {n' : Nat} {f' : Nat → Int32} {s2 : tz_S} (J : JC s W b0 i n m f g T q e) (F : tz_fb 223 s s1) (H : tz_HR s1 223 W') (F2 : tz_fm 313 s1 s2) (Z : bz_Z s2 313 315 n' m f' g) : JC (tz_uf s2 200 9 0) W' none i n' m f' g T q e ∧ CF s (tz_uf s2 200 9 0) := by
  obtain ⟨j1, j2, j3, j4, j5, j6⟩ := J
  obtain ⟨F2a, F2b, F2c, F2d, F2e, F2f, F2g⟩ := F2
  have u1 : ∀ a k, ¬ a = 200 → (tz_uf s2 200 9 0).1 a k = s1.1 a k := fun a k z => (if_neg (fun y => z y.1)).trans (by rw [F2a])
  have u2 : ∀ k, ¬ k = 9 → (tz_uf s2 200 9 0).1 200 k = s.1 200 k := fun k hk => (tz_uf_n hk).trans (by rw [F2a]; exact F.1 200 k (by omega))
  have c : ∀ {x : Nat} {X : m_W}, 223 ≤ x → x < 284 → tz_HR s1 x X → tz_HR (tz_uf s2 200 9 0) x X := fun hx hy H => H.congx (fun a k h1 h2 => u1 a k (by omega)) (fun a h1 h2 => F2b a (by omega) (by omega)) (by show s2.2.2.2.1 _ = _; rw [F2d]) F2f
  refine ⟨⟨c (by decide) (by decide) H, tz_uf_s, ?_, bz_Z_cong Z rfl rfl rfl rfl rfl, ⟨(u1 201 1 (by decide)).trans ((F.1 201 1 (by omega)).trans j5.1), fun j hj => ?_⟩, (u2 11 (by decide)).trans j6⟩, fun a k z => (u1 a k (by omega)).trans (F.1 a k (by omega)), fun a z => (F2b a (by omega) (by omega)).trans (F.2.1 a (by omega))⟩
  · cases i with
    | none => exact (u2 10 (by decide)).trans j3
    | some I => exact ⟨(u2 10 (by decide)).trans j3.1, c (by decide) (by decide) (F.off (Or.inl rfl) (Or.inr (Or.inr rfl)) (by decide) j3.2)⟩
  · show s2.2.1 202 j = _
    rw [F2b 202 (by decide) (by decide), F.2.1 202 (by omega)]
    exact j5.2 j hj
theorem lw_undo (J : JC s W b0 i n m f g T q e) (R0 : JR s W b0 i T q e) (P : JP W b0 i n m f g T q) (M : JM s n m N) : PR N (F11_undo 200 (tz_H s)) (F12_undo 317) := by
  cases b0 with
  | none =>
    refine ⟨_, cz_undo0 J.2.1, s, rfl, _, rz_undo0 R0.2.1, rfl, _, rfl, W, none, i, n, m, f, g, T, q, e, J.rf RF.u0, R0.u0, P, M.ss.rf RF.u0⟩
  | some B =>
    obtain ⟨VB, CB, jB⟩ := P.2.2.2.1 B rfl
    refine k_m (cz_undo1 J.2.1.1 J.2.1.2 VB.en) ?_
    rintro _ ⟨s1, rfl, F, H⟩
    have Z1 := J.2.2.2.1.fb F (Or.inl rfl)
    obtain ⟨J1, cf⟩ := J.now F H (tz_fm.refl) Z1
    refine ⟨_, rfl, ?_⟩
    have R1 := R0.cf cf
    refine k_m (rz_undo1 R1.2.1.1 R1.2.1.2) ?_
    rintro _ ⟨s2, rfl, H2, u5, -, F2⟩
    obtain ⟨R2, rf⟩ := R1.fz5 F2 H2 u5
    have P1 : JP B none i n m f g T q := ⟨VB, CB, (by have := P.2.2.1; omega), (fun _ z => by cases z), P.2.2.2.2⟩
    exact ⟨rfl, s2, rfl, B, none, i, n, m, f, g, T, q, e, J1.rf rf, R2, P1, (M.ee (s' := tz_uf s1 200 9 0) (congrArg Prod.snd F.2.2.2.2)).rf rf⟩
theorem lw_again (J : JC s W b0 i n m f g T q e) (R0 : JR s W b0 i T q e) (P : JP W b0 i n m f g T q) (M : JM s n m N) : PR N (F11_again 200 (tz_H s)) (F12_again 317) := by
  cases i with
  | none =>
    refine ⟨_, cz_again0 J.2.2.1, s, rfl, _, rz_again0 R0.2.2.1, rfl, _, rfl, W, b0, none, n, m, f, g, T, q, e, J.rf RF.u0, R0.u0, P, M.ss.rf RF.u0⟩
  | some I =>
    obtain ⟨VI, CI, jI⟩ := P.2.2.2.2.1 I rfl
    refine k_m (cz_again1 J.2.2.1.1 J.2.2.1.2 VI J.2.2.2.1 jI) ?_
    rintro _ ⟨s1, s2, n', f', rfl, F, H, F2, Z, hn, hw, ef, r1, r2⟩
    obtain ⟨J1, cf⟩ := J.now F H F2 Z
    refine ⟨_, rfl, ?_⟩
    have R1 := R0.cf cf
    refine k_m (rz_again1 R1.2.2.1.1 R1.2.2.1.2) ?_
    rintro _ ⟨s3, rfl, H3, u5, -, F3⟩
    obtain ⟨R2, rf⟩ := R1.fz5 F3 H3 u5
    have P1 : JP I none (some I) n' m f' g T q := ⟨VI, fun k hk c h1 h2 => by
      rw [ef _ (by unfold jwk at hk; omega)]
      exact CI k hk c h1 h2, hw, (fun _ z => by cases z), P.2.2.2.2⟩
    have M1 : JM (tz_uf s2 200 9 0) n' m (N + 1) := by
      unfold JM at M ⊢
      have x1 : rm_s (tz_uf s2 200 9 0) = rm_s s2 := rfl
      have x2 : rm_c (tz_uf s2 200 9 0) = rm_c s2 := rfl
      omega
    exact ⟨rfl, s3, rfl, I, none, some I, n', m, f', g, T, q, e, J1.rf rf, R2, P1, M1.rf rf⟩
def PK (N : Nat) (A : Option m_H) (F : m_H → Option m_H) : Prop := k_ok A (fun h => ∃ s', h = tz_H s' ∧ k_ok (F (tz_H s')) (fun h2 => ∃ s2, h2 = tz_H s2 ∧ JJ s2 (N + 1)))
theorem lw_keep (J : JC s W b0 i n m f g T q e) (R0 : JR s W b0 i T q e) (P : JP W b0 i n m f g T q) (M : JM s n m N) : PK N (F11_keep 200 (tz_H s)) (F12_keep 317) := by
  refine k_m (cz_keep J.1 P.1 J.2.2.2.1.sw P.2.2.1) ?_
  rintro _ ⟨s1, s2, m', g', rfl, F, H, F2, Z, hm, hw, eg, r1, r2⟩
  obtain ⟨j1, j2, j3, j4, j5, j6⟩ := J
  obtain ⟨F2a, F2b, F2c, F2d, F2e, F2f, F2g⟩ := F2
  have u1 : ∀ a k, ¬ a = 200 → (tz_uf s2 200 10 1).1 a k = s1.1 a k := fun a k z => (if_neg (fun y => z y.1)).trans (by rw [F2a])
  have u2 : ∀ k, ¬ k = 10 → (tz_uf s2 200 10 1).1 200 k = s.1 200 k := fun k hk => (tz_uf_n hk).trans (by rw [F2a]; exact F.1 200 k (by omega))
  have c : ∀ {x : Nat} {X : m_W}, 223 ≤ x → x < 284 → tz_HR s1 x X → tz_HR (tz_uf s2 200 10 1) x X := fun hx hy H => H.congx (fun a k h1 h2 => u1 a k (by omega)) (fun a h1 h2 => F2b a (by omega) (by omega)) (by show s2.2.2.2.1 _ = _; rw [F2d]) F2f
  have J1 : JC (tz_uf s2 200 10 1) W b0 (some W) n m' f g' T q e := by
    refine ⟨c (by decide) (by decide) (F.off (Or.inr (Or.inr rfl)) (Or.inl rfl) (by decide) j1), ?_, ⟨tz_uf_s, c (by decide) (by decide) H⟩, bz_Z_cong Z.sw rfl rfl rfl rfl rfl, ⟨(u1 201 1 (by decide)).trans ((F.1 201 1 (by omega)).trans j5.1), fun j hj => ?_⟩, (u2 11 (by decide)).trans j6⟩
    · cases b0 with
      | none => exact (u2 9 (by decide)).trans j2
      | some B => exact ⟨(u2 9 (by decide)).trans j2.1, c (by decide) (by decide) (F.off (Or.inr (Or.inr rfl)) (Or.inr (Or.inl rfl)) (by decide) j2.2)⟩
    · show s2.2.1 202 j = _
      rw [F2b 202 (by decide) (by decide), F.2.1 202 (by omega)]
      exact j5.2 j hj
  have cf : CF s (tz_uf s2 200 10 1) := ⟨fun a k z => (u1 a k (by omega)).trans (F.1 a k (by omega)), fun a z => (F2b a (by omega) (by omega)).trans (F.2.1 a (by omega))⟩
  have P1 : JP W b0 (some W) n m' f g' T q := ⟨P.1, P.2.1, P.2.2.1, P.2.2.2.1, fun I hI => by
    cases hI
    exact ⟨P.1, fun k hk c h1 h2 => by
      rw [eg _ (by unfold jwk at hk; omega)]
      exact P.2.1 k hk c h1 h2, hw⟩, P.2.2.2.2.2⟩
  have M1 : JM (tz_uf s2 200 10 1) n m' (N + 1) := by
    unfold JM at M ⊢
    have x1 : rm_s (tz_uf s2 200 10 1) = rm_s s2 := rfl
    have x2 : rm_c (tz_uf s2 200 10 1) = rm_c s2 := rfl
    omega
  refine ⟨_, rfl, ?_⟩
  have R1 := R0.cf cf
  refine k_m (rz_keep R1.1) ?_
  rintro _ ⟨s3, rfl, H3, u4, -, F3⟩
  obtain ⟨R2, rf⟩ := R1.fz4 F3 H3 u4
  exact ⟨s3, rfl, W, b0, some W, n, m', f, g', T, q, e, J1.rf rf, R2, P1, M1.rf rf⟩
end
