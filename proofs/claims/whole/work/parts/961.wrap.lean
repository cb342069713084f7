/-! ===== one call of the law: the class behind its catch, the reference, the comparing ===== -/
section
variable {s s' s1 : tz_S} {W W' : m_W} {b i : Option m_W} {n m N : Nat} {f g : Nat → Int32} {T : Nat → Nat} {q : Nat} {e : Int32} {h : m_H}
theorem bz_A.px {l : List m_E} {a n : Nat} {f : Nat → Int32} (A : bz_A s a n f) (h1 : s'.2.1 314 = s.2.1 314) (h2 : s'.2.1 316 = s.2.1 316) (h3 : s'.2.2.2.2.2.1 = s.2.2.2.2.2.1 ++ l) : bz_A s' a n f := by
  rcases A with ⟨rfl | rfl, c, d⟩ | ⟨⟨c, d⟩, k⟩
  · exact Or.inl ⟨Or.inl rfl, c, h1.trans d⟩
  · exact Or.inl ⟨Or.inr rfl, c, h2.trans d⟩
  · refine Or.inr ⟨⟨c, ?_⟩, k⟩
    rw [h3, List.getElem?_append_left (List.getElem?_eq_some_iff.mp d).1]
    exact d
theorem bz_Z.px {l : List m_E} {x y : Nat} (Z : bz_Z s x y n m f g) (h1 : s'.2.1 314 = s.2.1 314) (h2 : s'.2.1 316 = s.2.1 316) (h3 : s'.2.2.2.2.2.1 = s.2.2.2.2.2.1 ++ l) (h4 : s'.2.2.2.2.1 x = s.2.2.2.2.1 x) (h5 : s'.2.2.2.2.1 y = s.2.2.2.2.1 y) : bz_Z s' x y n m f g := by
  obtain ⟨a, c, d, k⟩ := Z
  unfold bz_Z
  rw [h4, h5]
  exact ⟨a.px h1 h2 h3, c.px h1 h2 h3, d, k⟩
theorem xs_px {l x y : List m_E} (h3 : y = x ++ l) : tz_xs x y := by
  intro j e _ hj
  rw [h3, List.getElem?_append_left (List.getElem?_eq_some_iff.mp hj).1]
  exact hj
/-- only what was made since is more -/
theorem JC.px {l : List m_E} (J : JC s W b i n m f g T q e) (h1 : s'.1 = s.1) (h2 : s'.2.1 = s.2.1) (h3 : s'.2.2.2.1 = s.2.2.2.1) (h4 : s'.2.2.2.2.1 = s.2.2.2.2.1) (h5 : s'.2.2.2.2.2.1 = s.2.2.2.2.2.1 ++ l) : JC s' W b i n m f g T q e := by
  obtain ⟨j1, j2, j3, j4, j5, j6⟩ := J
  have c : ∀ {x : Nat} {X : m_W}, tz_HR s x X → tz_HR s' x X := fun H => H.congx (fun a k _ _ => by rw [h1]) (fun a _ _ => by rw [h2]) (by rw [h3]) (xs_px h5)
  refine ⟨c j1, ?_, ?_, j4.px (by rw [h2]) (by rw [h2]) h5 (by rw [h4]) (by rw [h4]), ⟨by rw [h1]; exact j5.1, by rw [h2]; exact j5.2⟩, by rw [h1]; exact j6⟩
  · cases b with
    | none => exact (by rw [h1]; exact j2 : s'.1 200 9 = 0)
    | some B => exact ⟨by rw [h1]; exact j2.1, c j2.2⟩
  · cases i with
    | none => exact (by rw [h1]; exact j3 : s'.1 200 10 = 0)
    | some B => exact ⟨by rw [h1]; exact j3.1, c j3.2⟩
theorem JC.uj {j : Nat × Nat} (J : JC s W b i n m f g T q e) : JC (tz_uj s j) W b i n m f g T q e := J.px (l := []) rfl rfl rfl rfl (List.append_nil _).symm
theorem RF.ul {a : Nat} {F : Nat → Int64} : RF s (tz_ul s a F) := ⟨fun _ _ _ => rfl, fun _ _ => rfl, rfl⟩
theorem CF.ul {a : Nat} {F : Nat → Int64} : CF s (tz_ul s a F) := ⟨fun _ _ _ => rfl, fun _ _ => rfl⟩
theorem CF.uj {j : Nat × Nat} : CF s (tz_uj s j) := ⟨fun _ _ _ => rfl, fun _ _ => rfl⟩
theorem CF.ux {l : List m_E} : CF s (tz_ux s l) := ⟨fun _ _ _ => rfl, fun _ _ => rfl⟩
abbrev jP : Type := (Int64 × m_W × Option m_W) ⊕ Nat
def pI (b : Option m_W) (p : (Int64 × m_W) ⊕ Nat) : jP := match p with
  | .inl r => .inl (r.1, r.2, b)
  | .inr E => .inr E
def pD (W : m_W) (b : Option m_W) (p : (Int32 × Option m_W) ⊕ Nat) : jP := match p with
  | .inl (v, some W1) => .inl (v.toInt64, W1, some W)
  | .inl (v, none) => .inl (v.toInt64, W, b)
  | .inr E => .inr E
/-- behind the class's call: its side is as it ought to be, the reference's is as it was -/
def CS (o : Bool) (s' : tz_S) (N : Nat) (cd : Nat → Int32) (W : m_W) (b i : Option m_W) (T : Nat → Nat) (q : Nat) (e : Int32) (p : jP) (c : Int32) : Prop := JR s' W b i T q e ∧ match p with
  | .inl r => c = 0 ∧ ∃ n m f g, JC s' r.2.1 r.2.2 i n m f g T q e ∧ JP r.2.1 r.2.2 i n m f g T q ∧ JM s' n m (N + 1) ∧ (o = true → s'.2.2.1 333 0 = r.1)
  | .inr E => c = cd E ∧ ¬ cd E = 0 ∧ ∃ n m f g, JC s' W b i n m f g T q e ∧ JP W b i n m f g T q ∧ JM s' n m (N + 1)
def WP (o : Bool) (N : Nat) (cd : Nat → Int32) (W : m_W) (b i : Option m_W) (T : Nat → Nat) (q : Nat) (e : Int32) (p : jP) (z : Int32 × m_H) : Prop := ∃ s', z.2 = tz_H s' ∧ CS o s' N cd W b i T q e p z.1
/-- behind the reference's call -/
def RP (s : tz_S) (cd : Nat → Int32) (W : m_W) (b i : Option m_W) (T : Nat → Nat) (q : Nat) (e : Int32) (p : jP) (h : m_H) : Prop := match p with
  | .inl r => ∃ s', h = tz_H s' ∧ RF s s' ∧ JR s' r.2.1 r.2.2 i T q e ∧ s'.1 317 0 = 0 ∧ s'.2.2.1 333 = s.2.2.1 333
  | .inr E => ∃ s', h = tz_H s' ∧ RF s s' ∧ JR s' W b i T q e ∧ s'.1 317 0 = cd E
/-- behind one call of the law -/
def jLP (x : Int32) (N : Nat) (r : (Int32 × m_H) ⊕ (Int32 × m_H)) : Prop := ∃ s, r = .inl (x, tz_H s) ∧ JJ s (N + 1)
section
variable {cd : Nat → Int32} {G : Nat → m_H → Option (Int32 × m_H)}
theorem w_out (x : Int64) : m_sl (tz_H s) 333 0 x = some (tz_H (tz_ul s 333 (vp_updL (s.2.2.1 333) 0 x))) := tz_sl sh_333 rfl
theorem w_got {x : Int64} : (tz_ul s 333 (vp_updL (s.2.2.1 333) 0 x)).2.2.1 333 0 = x := by
  show (if 333 = 333 then vp_updL (s.2.2.1 333) 0 x else s.2.2.1 333) 0 = x
  rw [if_pos rfl]
  unfold vp_updL
  exact if_pos rfl
/-- the class refused -/
theorem w_R {E : Nat} (hG : (∀ h, G E h = some (cd E, h)) ∧ ¬ cd E = 0) {o : Bool} (R : cz_N s W h) (J : JC s W b i n m f g T q e) (R0 : JR s W b i T q e) (P : JP W b i n m f g T q) (M : JM s n m N) : k_ok (G E (m_junk h)) (WP o N cd W b i T q e (.inr E)) := by
  obtain ⟨s', rfl, H, F⟩ := R
  have e5 : s'.2.2.2.2.2 = s.2.2.2.2.2 := congrArg Prod.snd F.2.2.2.2
  refine ⟨_, hG.1 _, tz_uj s' (s'.2.2.2.2.2.2.1 + 1, s'.2.2.2.2.2.2.2 + 6), tz_junk, R0.cf (F.CF.trans CF.uj), rfl, hG.2, n, m, f, g, (J.fr F H).uj, P, ?_⟩
  refine JM.u ?_
  unfold JM rm_s rm_c at M ⊢
  rw [e5]
  exact M
theorem w_I {A : Option ((Int32 ⊕ Nat) × m_H)} {p : (Int64 × m_W) ⊕ Nat} (hA : k_ok A (fz_I s W p)) (hG : ∀ E, p = .inr E → (∀ h, G E h = some (cd E, h)) ∧ ¬ cd E = 0) (hp : ∀ r, p = .inl r → vz r.2 ∧ kp W r.2) (J : JC s W b i n m f g T q e) (R0 : JR s W b i T q e) (P : JP W b i n m f g T q) (M : JM s n m N) : k_ok (m_b A fun z2 => m_sx z2.1 (fun v3 => m_b (m_sl z2.2 333 0 (m_i2l v3)) fun h7 => some (0, h7)) fun E => G E z2.2) (WP true N cd W b i T q e (pI b p)) := by
  refine k_b hA ?_
  rintro ⟨v, h⟩ Q
  cases p with
  | inl r =>
    obtain ⟨v', h', ez, ev, s', rfl, H, F⟩ := Q
    cases ez
    obtain ⟨V1, K⟩ := hp r rfl
    unfold m_sx
    dsimp only
    exact k_e (w_out _) (k_s ⟨tz_ul s' 333 (vp_updL (s'.2.2.1 333) 0 (m_i2l v')), rfl, R0.cf (F.CF.trans CF.ul), rfl, n, m, f, g, (J.fr F H).rf RF.ul, P.kpt K V1, M.ee (congrArg Prod.snd F.2.2.2.2), fun _ => w_got.trans ev⟩)
  | inr E =>
    obtain ⟨h', ez, R⟩ := Q
    cases ez
    exact w_R (hG E rfl) R J R0 P M
theorem w_J {A : Option ((Int64 ⊕ Nat) × m_H)} {p : (Int64 × m_W) ⊕ Nat} (hA : k_ok A (fz_J s W p)) (hG : ∀ E, p = .inr E → (∀ h, G E h = some (cd E, h)) ∧ ¬ cd E = 0) (hp : ∀ r, p = .inl r → vz r.2 ∧ kp W r.2) (J : JC s W b i n m f g T q e) (R0 : JR s W b i T q e) (P : JP W b i n m f g T q) (M : JM s n m N) : k_ok (m_b A fun z2 => m_sx z2.1 (fun v3 => m_b (m_sl z2.2 333 0 v3) fun h7 => some (0, h7)) fun E => G E z2.2) (WP true N cd W b i T q e (pI b p)) := by
  refine k_b hA ?_
  rintro ⟨v, h⟩ Q
  cases p with
  | inl r =>
    obtain ⟨h', ez, s', rfl, H, F⟩ := Q
    cases ez
    obtain ⟨V1, K⟩ := hp r rfl
    unfold m_sx
    dsimp only
    exact k_e (w_out _) (k_s ⟨tz_ul s' 333 (vp_updL (s'.2.2.1 333) 0 (r.1)), rfl, R0.cf (F.CF.trans CF.ul), rfl, n, m, f, g, (J.fr F H).rf RF.ul, P.kpt K V1, M.ee (congrArg Prod.snd F.2.2.2.2), fun _ => w_got⟩)
  | inr E =>
    obtain ⟨h', ez, R⟩ := Q
    cases ez
    exact w_R (hG E rfl) R J R0 P M
theorem w_V {A : Option ((Unit ⊕ Nat) × m_H)} {p : (Int64 × m_W) ⊕ Nat} (hA : k_ok A (fz_V s W p)) (hG : ∀ E, p = .inr E → (∀ h, G E h = some (cd E, h)) ∧ ¬ cd E = 0) (hp : ∀ r, p = .inl r → vz r.2 ∧ kp W r.2) (J : JC s W b i n m f g T q e) (R0 : JR s W b i T q e) (P : JP W b i n m f g T q) (M : JM s n m N) : k_ok (m_b A fun z2 => m_sx z2.1 (fun _ => some (0, z2.2)) fun E => G E z2.2) (WP false N cd W b i T q e (pI b p)) := by
  refine k_b hA ?_
  rintro ⟨v, h⟩ Q
  cases p with
  | inl r =>
    obtain ⟨h', ez, s', rfl, H, F⟩ := Q
    cases ez
    obtain ⟨V1, K⟩ := hp r rfl
    exact k_s ⟨_, rfl, R0.cf F.CF, rfl, n, m, f, g, J.fr F H, P.kpt K V1, M.ee (congrArg Prod.snd F.2.2.2.2), fun z => by cases z⟩
  | inr E =>
    obtain ⟨h', ez, R⟩ := Q
    cases ez
    exact w_R (hG E rfl) R J R0 P M
theorem w_D {A : Option ((Int32 ⊕ Nat) × m_H)} {p : (Int32 × Option m_W) ⊕ Nat} (hA : k_ok A (fz_D s W p)) (hG : ∀ E, p = .inr E → (∀ h, G E h = some (cd E, h)) ∧ ¬ cd E = 0) (hp : ∀ v W1, p = .inl (v, some W1) → vz W1 ∧ kp W W1) (J : JC s W b i n m f g T q e) (R0 : JR s W b i T q e) (P : JP W b i n m f g T q) (M : JM s n m N) : k_ok (m_b A fun z2 => m_sx z2.1 (fun v3 => m_b (m_sl z2.2 333 0 (m_i2l v3)) fun h7 => some (0, h7)) fun E => G E z2.2) (WP true N cd W b i T q e (pD W b p)) := by
  refine k_b hA ?_
  rintro ⟨v, h⟩ Q
  rcases p with ⟨v1, _ | W1⟩ | E
  · obtain ⟨h', ez, s1, F1, s', rfl, H, F⟩ := Q
    cases ez
    unfold m_sx
    dsimp only
    exact k_e (w_out _) (k_s ⟨tz_ul s' 333 (vp_updL (s'.2.2.1 333) 0 (m_i2l v1)), rfl, R0.cf ((F1.CF.trans F.CF).trans CF.ul), rfl, n, m, f, g, ((J.fc F1).fr F H).rf RF.ul, P, M.ee ((congrArg Prod.snd F.2.2.2.2).trans (congrArg (fun z => z.2.2.2) F1.2.2)), fun _ => w_got⟩)
  · obtain ⟨h', ez, s1, F1, B, u, s', rfl, H, F⟩ := Q
    cases ez
    obtain ⟨V1, K⟩ := hp v1 W1 rfl
    unfold m_sx
    dsimp only
    exact k_e (w_out _) (k_s ⟨tz_ul s' 333 (vp_updL (s'.2.2.1 333) 0 (m_i2l v1)), rfl, R0.cf ((F1.CF.trans F.CF).trans CF.ul), rfl, n, m, f, g, (J.fo F1 B u F H).rf RF.ul, P.deed K V1, M.ee ((congrArg Prod.snd F.2.2.2.2).trans (congrArg Prod.snd F1.2.2.2.2)), fun _ => w_got⟩)
  · obtain ⟨h', ez, R⟩ := Q
    cases ez
    exact w_R (hG E rfl) R J R0 P M
/-! the reference -/
theorem r_N {th : Int32} (R : rz_N s th W' h) (J : JR s W b i T q e) : ∃ s', h = tz_H s' ∧ RF s s' ∧ JR s' W' b i T q e ∧ s'.1 317 0 = th ∧ s'.2.2.1 333 = s.2.2.1 333 := by
  obtain ⟨s', rfl, H, t, F⟩ := R
  obtain ⟨a, c, d⟩ := J.fq F H
  exact ⟨s', rfl, c, a, t, d⟩
theorem r_I {p : (Int64 × m_W) ⊕ Nat} {z : Int32 × m_H} (Q : hz_I s cd W p z) (J : JR s W b i T q e) : (∀ r, pI b p = .inl r → m_i2l z.1 = r.1) ∧ RP s cd W b i T q e (pI b p) z.2 := by
  cases p with
  | inl r => exact ⟨fun r' er => by cases er; exact Q.1, r_N Q.2 J⟩
  | inr E =>
    obtain ⟨s', a, c, d, k, -⟩ := r_N Q J
    exact ⟨(fun r' er => by cases er), s', a, c, d, k⟩
theorem r_J {p : (Int64 × m_W) ⊕ Nat} {z : Int64 × m_H} (Q : hz_J s cd W p z) (J : JR s W b i T q e) : (∀ r, pI b p = .inl r → z.1 = r.1) ∧ RP s cd W b i T q e (pI b p) z.2 := by
  cases p with
  | inl r => exact ⟨fun r' er => by cases er; exact Q.1, r_N Q.2 J⟩
  | inr E =>
    obtain ⟨s', a, c, d, k, -⟩ := r_N Q J
    exact ⟨(fun r' er => by cases er), s', a, c, d, k⟩
theorem r_V {p : (Int64 × m_W) ⊕ Nat} {h : m_H} (Q : hz_V s cd W p h) (J : JR s W b i T q e) : RP s cd W b i T q e (pI b p) h := by
  cases p with
  | inl r => exact r_N Q J
  | inr E =>
    obtain ⟨s', a, c, d, k, -⟩ := r_N Q J
    exact ⟨s', a, c, d, k⟩
theorem r_D {p : (Int32 × Option m_W) ⊕ Nat} {z : Int32 × m_H} (Q : hz_D s cd W p z) (J : JR s W b i T q e) : (∀ r, pD W b p = .inl r → m_i2l z.1 = r.1) ∧ RP s cd W b i T q e (pD W b p) z.2 := by
  rcases p with ⟨v1, _ | W1⟩ | E
  · obtain ⟨ev, s1, F1, R⟩ := Q
    obtain ⟨J1, c1, d1⟩ := J.fcq F1
    obtain ⟨s', a, c, d, k, l⟩ := r_N R J1
    refine ⟨fun r' er => ?_, s', a, c1.trans c, d, k, l.trans d1⟩
    cases er
    exact congrArg Int32.toInt64 ev
  · obtain ⟨ev, s1, F1, B, u, s', a, H, t, F⟩ := Q
    obtain ⟨J1, c1, d1⟩ := J.fp F1 B u F H
    refine ⟨fun r' er => ?_, s', a, c1, J1, t, d1⟩
    cases er
    exact congrArg Int32.toInt64 ev
  · obtain ⟨s', a, c, d, k, -⟩ := r_N Q J
    exact ⟨(fun r' er => by cases er), s', a, c, d, k⟩
/-! the comparing -/
theorem thrown_e : F12_thrown 317 (tz_H s) = some (s.1 317 0) := by
  unfold F12_thrown F12_thrown_0
  rw [io_317, gz_s, gi_317_0, bz_s]
theorem out_e : m_al (tz_H s) 333 0 = some (s.2.2.1 333 0) := tz_al sh_333 rfl
theorem JM.rf (M : JM s n m N) (F : RF s s') : JM s' n m N := by
  unfold JM rm_s rm_c at M ⊢
  rw [F.2.2]
  exact M
/-- both sides agree: what the law does with it -/
theorem fin {o : Bool} {p : jP} {c x : Int32} {h2 : m_H} {Y : Option ((Int32 × m_H) ⊕ (Int32 × m_H))} {Z : Int32 → Option ((Int32 × m_H) ⊕ (Int32 × m_H))} (C : CS o s N cd W b i T q e p c) (R : RP s cd W b i T q e p h2) (hY : ∀ r s', p = .inl r → h2 = tz_H s' → (o = true → s'.2.2.1 333 0 = r.1) → Y = some (.inl (x, h2))) : k_ok (m_b (F12_thrown 317 h2) fun v => m_if (v = c) (m_if (c = 0) Y (some (.inl (x, h2)))) (Z v)) (jLP x N) := by
  obtain ⟨-, C⟩ := C
  cases p with
  | inl r =>
    obtain ⟨rfl, n, m, f, g, J, P, M, O⟩ := C
    obtain ⟨s', rfl, F, J2, t, d⟩ := R
    refine k_e thrown_e (k_t t (k_t rfl ?_))
    rw [hY r s' rfl rfl (fun z => by rw [d]; exact O z)]
    exact k_s ⟨s', rfl, r.2.1, r.2.2, i, n, m, f, g, T, q, e, J.rf F, J2, P, M.rf F⟩
  | inr E =>
    obtain ⟨rfl, nz, n, m, f, g, J, P, M⟩ := C
    obtain ⟨s', rfl, F, J2, t⟩ := R
    exact k_e thrown_e (k_t t (k_f nz (k_s ⟨s', rfl, W, b, i, n, m, f, g, T, q, e, J.rf F, J2, P, M.rf F⟩)))
theorem fin_I {p : jP} {c x : Int32} {h2 : m_H} {v : Int64} (C : CS true s N cd W b i T q e p c) (R : (∀ r, p = .inl r → v = r.1) ∧ RP s cd W b i T q e p h2) : k_ok (m_b (F12_thrown 317 h2) fun v1 => m_if (v1 = c) (m_if (c = 0) (m_b (m_al h2 333 0) fun v2 => m_if ((lg_cmp v2 v) = 0) (some (.inl (x, h2))) (some (.inr (0, h2)))) (some (.inl (x, h2)))) (some (.inr (0, h2)))) (jLP x N) := by
  refine fin C R.2 (fun r s' er eh O => ?_)
  subst eh
  rw [out_e, bz_s, iz_t ((lg_cmp_eq _ _).mpr ((O rfl).trans (R.1 r er).symm))]
theorem fin_V {p : jP} {c x : Int32} {h2 : m_H} (C : CS false s N cd W b i T q e p c) (R : RP s cd W b i T q e p h2) : k_ok (m_b (F12_thrown 317 h2) fun v1 => m_if (v1 = c) (some (.inl (x, h2))) (some (.inr (0, h2)))) (jLP x N) := by
  have K := fin (Y := some (.inl (x, h2))) (Z := fun _ => some (.inr (0, h2))) C R (fun r s' er eh O => rfl)
  obtain ⟨y, ey, hy⟩ := K
  refine ⟨y, ?_, hy⟩
  rw [← ey]
  cases F12_thrown 317 h2 with
  | none => rfl
  | some w =>
    show m_if (w = c) _ _ = m_if (w = c) (m_if (c = 0) _ _) _
    unfold m_if
    by_cases k1 : w = c
    · rw [if_pos k1, if_pos k1]
      by_cases k2 : c = 0
      · rw [if_pos k2]
      · rw [if_neg k2]
    · rw [if_neg k1, if_neg k1]
end
end
