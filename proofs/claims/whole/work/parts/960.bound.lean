/-! ===== between calls: both sides in step ===== -/
def jwk (W : m_W) : Nat := (W 14 0 0).toNatClampNeg
/-- what a call of the class leaves of the reference -/
def CF (s s' : tz_S) : Prop := (∀ a k, 317 ≤ a → s'.1 a k = s.1 a k) ∧ ∀ a, 317 ≤ a → s'.2.1 a = s.2.1 a
/-- what a call of the reference leaves of the class -/
def RF (s s' : tz_S) : Prop := (∀ a k, ¬ a = 317 → s'.1 a k = s.1 a k) ∧ (∀ a, a < 318 → s'.2.1 a = s.2.1 a) ∧ s'.2.2.2 = s.2.2.2
def JC (s : tz_S) (W : m_W) (b i : Option m_W) (n m : Nat) (f g : Nat → Int32) (T : Nat → Nat) (q : Nat) (e : Int32) : Prop :=
  tz_HR s 223 W ∧ (match b with
    | none => s.1 200 9 = 0
    | some B => s.1 200 9 = 1 ∧ tz_HR s 253 B) ∧ (match i with
    | none => s.1 200 10 = 0
    | some I => s.1 200 10 = 1 ∧ tz_HR s 283 I) ∧ bz_Z s 313 315 n m f g ∧ tpe s T q ∧ s.1 200 11 = e
def JR (s : tz_S) (W : m_W) (b i : Option m_W) (T : Nat → Nat) (q : Nat) (e : Int32) : Prop :=
  tz_WR s 318 W ∧ (match b with
    | none => s.1 317 5 = 0
    | some B => s.1 317 5 = 1 ∧ tz_WR s 320 B) ∧ (match i with
    | none => s.1 317 4 = 0
    | some I => s.1 317 4 = 1 ∧ tz_WR s 319 I) ∧ tpr s T q ∧ s.1 317 12 = e
def JP (W : m_W) (b i : Option m_W) (n m : Nat) (f g : Nat → Int32) (T : Nat → Nat) (q : Nat) : Prop :=
  vz W ∧ bz_c f W (jwk W) ∧ jwk W * 48 ≤ n ∧ (∀ B, b = some B → vz B ∧ bz_c f B (jwk B) ∧ jwk B ≤ jwk W) ∧ (∀ I, i = some I → vz I ∧ bz_c g I (jwk I) ∧ jwk I * 48 ≤ m) ∧ q ≤ 400 ∧ ∀ j, j < q → T j < 256
def JM (s : tz_S) (n m N : Nat) : Prop := rm_s s ≤ rm_p n + rm_p m + 500 * N ∧ rm_c s ≤ rm_p n + rm_p m + 10 * N
def JJ (s : tz_S) (N : Nat) : Prop := ∃ W b i n m f g T q e, JC s W b i n m f g T q e ∧ JR s W b i T q e ∧ JP W b i n m f g T q ∧ JM s n m N
section
variable {s s' s1 : tz_S} {W W' : m_W} {b i : Option m_W} {n m N : Nat} {f g : Nat → Int32} {T : Nat → Nat} {q : Nat} {e : Int32} {h : m_H}
theorem CF.refl : CF s s := ⟨fun _ _ _ => rfl, fun _ _ => rfl⟩
theorem CF.trans {s2 : tz_S} (a : CF s s1) (c : CF s1 s2) : CF s s2 := ⟨fun x k z => (c.1 x k z).trans (a.1 x k z), fun x z => (c.2 x z).trans (a.2 x z)⟩
theorem RF.refl : RF s s := ⟨fun _ _ _ => rfl, fun _ _ => rfl, rfl⟩
theorem RF.trans {s2 : tz_S} (a : RF s s1) (c : RF s1 s2) : RF s s2 := ⟨fun x k z => (c.1 x k z).trans (a.1 x k z), fun x z => (c.2.1 x z).trans (a.2.1 x z), c.2.2.trans a.2.2⟩
theorem bz_A_cong {a n : Nat} {f : Nat → Int32} (A : bz_A s a n f) (h1 : s'.2.1 314 = s.2.1 314) (h2 : s'.2.1 316 = s.2.1 316) (h3 : s'.2.2.2.2.2.1 = s.2.2.2.2.2.1) : bz_A s' a n f := by
  rcases A with ⟨rfl | rfl, c, d⟩ | ⟨c, d⟩
  · exact Or.inl ⟨Or.inl rfl, c, h1.trans d⟩
  · exact Or.inl ⟨Or.inr rfl, c, h2.trans d⟩
  · exact Or.inr ⟨by rw [h3]; exact c, d⟩
theorem bz_Z_cong {x y : Nat} (Z : bz_Z s x y n m f g) (h1 : s'.2.1 314 = s.2.1 314) (h2 : s'.2.1 316 = s.2.1 316) (h3 : s'.2.2.2.2.2.1 = s.2.2.2.2.2.1) (h4 : s'.2.2.2.2.1 x = s.2.2.2.2.1 x) (h5 : s'.2.2.2.2.1 y = s.2.2.2.2.1 y) : bz_Z s' x y n m f g := by
  obtain ⟨a, c, d, k⟩ := Z
  unfold bz_Z
  rw [h4, h5]
  exact ⟨bz_A_cong a h1 h2 h3, bz_A_cong c h1 h2 h3, d, k⟩
theorem JC.rf (J : JC s W b i n m f g T q e) (F : RF s s') : JC s' W b i n m f g T q e := by
  obtain ⟨j1, j2, j3, j4, j5, j6⟩ := J
  have c : ∀ {x : Nat} {X : m_W}, x < 284 → tz_HR s x X → tz_HR s' x X := fun hx H => H.cong (fun a k h1 h2 => F.1 a k (by omega)) (fun a h1 h2 => F.2.1 a (by omega)) (by rw [F.2.2]) (by rw [F.2.2])
  have f1 : ∀ k, s'.1 200 k = s.1 200 k := fun k => F.1 200 k (by decide)
  refine ⟨c (by decide) j1, ?_, ?_, bz_Z_cong j4 (F.2.1 314 (by decide)) (F.2.1 316 (by decide)) (by rw [F.2.2]) (by rw [F.2.2]) (by rw [F.2.2]), ⟨(F.1 201 1 (by decide)).trans j5.1, fun j hj => by rw [F.2.1 202 (by decide)]; exact j5.2 j hj⟩, (f1 11).trans j6⟩
  · cases b with
    | none => exact (f1 9).trans j2
    | some B => exact ⟨(f1 9).trans j2.1, c (by decide) j2.2⟩
  · cases i with
    | none => exact (f1 10).trans j3
    | some B => exact ⟨(f1 10).trans j3.1, c (by decide) j3.2⟩
theorem tz_WR_cong {a : Nat} (H : tz_WR s a W) (h : s'.2.1 a = s.2.1 a) : tz_WR s' a W := fun k r c v => by rw [h]; exact H k r c v
theorem JR.cf (J : JR s W b i T q e) (F : CF s s') : JR s' W b i T q e := by
  obtain ⟨j1, j2, j3, j5, j6⟩ := J
  have f1 : ∀ k, s'.1 317 k = s.1 317 k := fun k => F.1 317 k (by decide)
  refine ⟨tz_WR_cong j1 (F.2 318 (by decide)), ?_, ?_, ⟨(f1 7).trans j5.1, fun j hj => by rw [F.2 321 (by decide)]; exact j5.2 j hj⟩, (f1 12).trans j6⟩
  · cases b with
    | none => exact (f1 5).trans j2
    | some B => exact ⟨(f1 5).trans j2.1, tz_WR_cong j2.2 (F.2 320 (by decide))⟩
  · cases i with
    | none => exact (f1 4).trans j3
    | some B => exact ⟨(f1 4).trans j3.1, tz_WR_cong j3.2 (F.2 319 (by decide))⟩
/-- the class: no deed -/
theorem JC.fr (J : JC s W b i n m f g T q e) (F : tz_fr s s') (H : tz_HR s' 223 W') : JC s' W' b i n m f g T q e := by
  obtain ⟨j1, j2, j3, j4, j5, j6⟩ := J
  have c : ∀ {x : Nat} {X : m_W}, 253 ≤ x → tz_HR s x X → tz_HR s' x X := fun hx H => H.cong (fun a k h1 h2 => F.1 a k (by omega)) (fun a h1 h2 => F.2.2.1 a (by omega)) (F.2.2.2.1 _ (by omega)).2 (by rw [F.2.2.2.2])
  have f1 : ∀ k, s'.1 200 k = s.1 200 k := fun k => F.1 200 k (by omega)
  refine ⟨H, ?_, ?_, bz_Z_cong j4 (F.2.2.1 314 (by omega)) (F.2.2.1 316 (by omega)) (by rw [F.2.2.2.2]) (by rw [F.2.2.2.2]) (by rw [F.2.2.2.2]), ⟨F.2.1.trans j5.1, fun j hj => by rw [F.2.2.1 202 (by omega)]; exact j5.2 j hj⟩, (f1 11).trans j6⟩
  · cases b with
    | none => exact (f1 9).trans j2
    | some B => exact ⟨(f1 9).trans j2.1, c (by decide) j2.2⟩
  · cases i with
    | none => exact (f1 10).trans j3
    | some B => exact ⟨(f1 10).trans j3.1, c (by decide) j3.2⟩
theorem tz_fr.CF (F : tz_fr s s') : CF s s' := ⟨fun a k z => F.1 a k (by omega), fun a z => F.2.2.1 a (by omega)⟩
/-- the class: a deed -/
theorem JC.fo (J : JC s W b i n m f g T q e) (F : tz_fo s s1) (B : tz_HR s1 253 W) (u : s1.1 200 9 = 1) (F2 : tz_fr s1 s') (H : tz_HR s' 223 W') : JC s' W' (some W) i n m f g T q e := by
  obtain ⟨j1, j2, j3, j4, j5, j6⟩ := J
  have c : ∀ {x : Nat} {X : m_W}, 253 ≤ x → tz_HR s1 x X → tz_HR s' x X := fun hx H => H.cong (fun a k h1 h2 => F2.1 a k (by omega)) (fun a h1 h2 => F2.2.2.1 a (by omega)) (F2.2.2.2.1 _ (by omega)).2 (by rw [F2.2.2.2.2])
  have c0 : ∀ {x : Nat} {X : m_W}, 283 ≤ x → tz_HR s x X → tz_HR s1 x X := fun hx H => H.cong (fun a k h1 h2 => F.1 a k (by omega) (by omega)) (fun a h1 h2 => F.2.2.1 a (by omega)) (F.2.2.2.1 _ (by omega)).2 (by rw [F.2.2.2.2])
  have f1 : ∀ k, s'.1 200 k = s1.1 200 k := fun k => F2.1 200 k (by omega)
  have f0 : ∀ k, ¬ k = 9 → s1.1 200 k = s.1 200 k := fun k hk => F.1 200 k (by omega) (fun z => hk z.2)
  have g1 : ∀ a, 283 ≤ a ∨ a = 202 → s'.2.1 a = s.2.1 a := fun a z => (F2.2.2.1 a (by omega)).trans (F.2.2.1 a (by omega))
  have g2 : s'.2.2.2.2 = s.2.2.2.2 := F2.2.2.2.2.trans F.2.2.2.2
  refine ⟨H, ⟨(f1 9).trans u, c (by decide) B⟩, ?_, bz_Z_cong j4 (g1 314 (by omega)) (g1 316 (by omega)) (by rw [g2]) (by rw [g2]) (by rw [g2]), ⟨(F2.2.1.trans F.2.1).trans j5.1, fun j hj => by rw [g1 202 (by omega)]; exact j5.2 j hj⟩, (f1 11).trans ((f0 11 (by decide)).trans j6)⟩
  cases i with
  | none => exact (f1 10).trans ((f0 10 (by decide)).trans j3)
  | some B => exact ⟨(f1 10).trans ((f0 10 (by decide)).trans j3.1), c (by decide) (c0 (by decide) j3.2)⟩
theorem tz_fo.CF (F : tz_fo s s') : CF s s' := ⟨fun a k z => F.1 a k (by omega) (by omega), fun a z => F.2.2.1 a (by omega)⟩
theorem JC.fc (J : JC s W b i n m f g T q e) (F : tz_fc s s1) : JC s1 W b i n m f g T q e := by
  obtain ⟨j1, j2, j3, j4, j5, j6⟩ := J
  have c : ∀ {x : Nat} {X : m_W}, 223 ≤ x → tz_HR s x X → tz_HR s1 x X := fun hx H => H.cong (fun a k h1 h2 => by rw [F.1]) (fun a h1 h2 => F.2.1 a (by omega)) (by rw [F.2.2]) (by rw [F.2.2])
  have f1 : ∀ k, s1.1 200 k = s.1 200 k := fun k => by rw [F.1]
  refine ⟨c (by decide) j1, ?_, ?_, bz_Z_cong j4 (F.2.1 314 (by decide)) (F.2.1 316 (by decide)) (by rw [F.2.2]) (by rw [F.2.2]) (by rw [F.2.2]), ⟨by rw [F.1]; exact j5.1, fun j hj => by rw [F.2.1 202 (by decide)]; exact j5.2 j hj⟩, (f1 11).trans j6⟩
  · cases b with
    | none => exact (f1 9).trans j2
    | some B => exact ⟨(f1 9).trans j2.1, c (by decide) j2.2⟩
  · cases i with
    | none => exact (f1 10).trans j3
    | some B => exact ⟨(f1 10).trans j3.1, c (by decide) j3.2⟩
theorem tz_fc.CF (F : tz_fc s s') : CF s s' := ⟨fun a k z => by rw [F.1], fun a z => F.2.1 a (by omega)⟩
theorem JM.ee (M : JM s n m N) (h : s'.2.2.2.2.2 = s.2.2.2.2.2) : JM s' n m (N + 1) := by
  unfold JM rm_s rm_c at M ⊢
  rw [h]
  omega
theorem JM.u (M : JM s n m N) : JM (tz_uj s (s.2.2.2.2.2.2.1 + 1, s.2.2.2.2.2.2.2 + 6)) n m (N + 1) := by
  unfold JM rm_s rm_c at M ⊢
  show (s.2.2.2.2.2.1.map m_sz).sum + (s.2.2.2.2.2.2.2 + 6) ≤ _ ∧ s.2.2.2.2.2.1.length + (s.2.2.2.2.2.2.1 + 1) ≤ _
  omega
/-- the reference: no deed -/
theorem JR.fq (J : JR s W b i T q e) (F : tz_fq s s') (H : tz_WR s' 318 W') : JR s' W' b i T q e ∧ RF s s' ∧ s'.2.2.1 333 = s.2.2.1 333 := by
  obtain ⟨j1, j2, j3, j5, j6⟩ := J
  have f1 : ∀ k, k = 4 ∨ k = 5 ∨ k = 7 ∨ k = 12 → s'.1 317 k = s.1 317 k := fun k hk => F.1 317 k (by omega)
  refine ⟨⟨H, ?_, ?_, ⟨(f1 7 (by omega)).trans j5.1, fun j hj => by rw [F.2.1 321 (by omega)]; exact j5.2 j hj⟩, (f1 12 (by omega)).trans j6⟩, ⟨fun a k z => F.1 a k (fun y => z y.1), fun a z => F.2.1 a (by omega), F.2.2.2⟩, F.2.2.1 333 (by omega)⟩
  · cases b with
    | none => exact (f1 5 (by omega)).trans j2
    | some B => exact ⟨(f1 5 (by omega)).trans j2.1, tz_WR_cong j2.2 (F.2.1 320 (by omega))⟩
  · cases i with
    | none => exact (f1 4 (by omega)).trans j3
    | some B => exact ⟨(f1 4 (by omega)).trans j3.1, tz_WR_cong j3.2 (F.2.1 319 (by omega))⟩
/-- the reference: a deed -/
theorem JR.fp (J : JR s W b i T q e) (F : tz_fp s s1) (B : tz_WR s1 320 W) (u : s1.1 317 5 = 1) (F2 : tz_fq s1 s') (H : tz_WR s' 318 W') : JR s' W' (some W) i T q e ∧ RF s s' ∧ s'.2.2.1 333 = s.2.2.1 333 := by
  obtain ⟨j1, j2, j3, j5, j6⟩ := J
  have f1 : ∀ k, k = 4 ∨ k = 5 ∨ k = 7 ∨ k = 12 → s'.1 317 k = s1.1 317 k := fun k hk => F2.1 317 k (by omega)
  have f0 : ∀ k, k = 4 ∨ k = 7 ∨ k = 12 → s1.1 317 k = s.1 317 k := fun k hk => F.1 317 k (by omega)
  have g1 : ∀ a, a = 319 ∨ a = 321 ∨ a < 318 → s'.2.1 a = s.2.1 a := fun a z => (F2.2.1 a (by omega)).trans (F.2.1 a (by omega))
  refine ⟨⟨H, ⟨(f1 5 (by omega)).trans u, tz_WR_cong B (F2.2.1 320 (by omega))⟩, ?_, ⟨(f1 7 (by omega)).trans ((f0 7 (by omega)).trans j5.1), fun j hj => by rw [g1 321 (by omega)]; exact j5.2 j hj⟩, (f1 12 (by omega)).trans ((f0 12 (by omega)).trans j6)⟩, ⟨fun a k z => (F2.1 a k (fun y => z y.1)).trans (F.1 a k (fun y => z y.1)), fun a z => g1 a (by omega), F2.2.2.2.trans F.2.2.2⟩, (F2.2.2.1 333 (by omega)).trans (F.2.2.1 333 (by omega))⟩
  cases i with
  | none => exact (f1 4 (by omega)).trans ((f0 4 (by omega)).trans j3)
  | some B => exact ⟨(f1 4 (by omega)).trans ((f0 4 (by omega)).trans j3.1), tz_WR_cong j3.2 (g1 319 (by omega))⟩
theorem JR.fcq (J : JR s W b i T q e) (F : tz_fcq s s1) : JR s1 W b i T q e ∧ RF s s1 ∧ s1.2.2.1 333 = s.2.2.1 333 := by
  obtain ⟨j1, j2, j3, j5, j6⟩ := J
  have f1 : ∀ k, s1.1 317 k = s.1 317 k := fun k => by rw [F.1]
  refine ⟨⟨tz_WR_cong j1 (F.2.1 318 (by decide)), ?_, ?_, ⟨(f1 7).trans j5.1, fun j hj => by rw [F.2.1 321 (by decide)]; exact j5.2 j hj⟩, (f1 12).trans j6⟩, ⟨fun a k z => by rw [F.1], fun a z => F.2.1 a (by omega), by rw [F.2.2]⟩, by rw [F.2.2]⟩
  · cases b with
    | none => exact (f1 5).trans j2
    | some B => exact ⟨(f1 5).trans j2.1, tz_WR_cong j2.2 (F.2.1 320 (by decide))⟩
  · cases i with
    | none => exact (f1 4).trans j3
    | some B => exact ⟨(f1 4).trans j3.1, tz_WR_cong j3.2 (F.2.1 319 (by decide))⟩
/-- the pure part: the books' weeks as they were, the week as it was or later -/
def kp (W W' : m_W) : Prop := (∀ r c, W' 16 r c = W 16 r c) ∧ W' 14 0 0 = W 14 0 0
theorem kp.refl : kp W W := ⟨fun _ _ => rfl, rfl⟩
theorem kp.wk (K : kp W W') : jwk W' = jwk W := by
  unfold jwk
  rw [K.2]
theorem JP.kpt (J : JP W b i n m f g T q) (K : kp W W') (V : vz W') : JP W' b i n m f g T q := by
  obtain ⟨j1, j2, j3, j4, j5⟩ := J
  refine ⟨V, ?_, ?_, ?_, j5⟩
  · rw [K.wk]
    intro i hi c h1 h2
    rw [K.1]
    exact j2 i hi c h1 h2
  · rw [K.wk]; exact j3
  · rw [K.wk]; exact j4
theorem JP.deed (J : JP W b i n m f g T q) (K : kp W W') (V : vz W') : JP W' (some W) i n m f g T q := by
  obtain ⟨-, j2, j3, -, j5⟩ := J.kpt K V
  refine ⟨V, j2, j3, fun B hB => ?_, j5⟩
  cases hB
  exact ⟨J.1, J.2.1, by rw [K.wk]; exact Nat.le_refl _⟩
end
