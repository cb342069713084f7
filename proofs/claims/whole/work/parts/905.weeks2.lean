/-! ===== weeks: the class, with what is remembered ===== -/
def tz_fwo (s s' : tz_S) : Prop := (∀ a k, a < 201 ∨ 283 ≤ a → ¬ (a = 200 ∧ k = 9) → s'.1 a k = s.1 a k) ∧ s'.1 201 1 = s.1 201 1 ∧ (∀ a, a < 201 ∨ 283 ≤ a ∨ a = 202 → ¬ a = 314 → ¬ a = 316 → s'.2.1 a = s.2.1 a) ∧ (∀ a, a < 201 ∨ 283 ≤ a → s'.2.2.1 a = s.2.2.1 a ∧ s'.2.2.2.1 a = s.2.2.2.1 a) ∧ (∀ x, ¬ x = 313 → s'.2.2.2.2.1 x = s.2.2.2.2.1 x) ∧ tz_xs s.2.2.2.2.2.1 s'.2.2.2.2.2.1 ∧ s'.2.2.2.2.2.2 = s.2.2.2.2.2.2
def fz_W (s : tz_S) (W : m_W) (n m : Nat) (f g : Nat → Int32) (p : (Int32 × Option m_W) ⊕ Nat) (z : (Int32 ⊕ Nat) × m_H) : Prop := match p with
  | .inl (v, some W1) => ∃ s' n' f', z = (.inl v, tz_H s') ∧ tz_HR s' 223 W1 ∧ tz_HR s' 253 W ∧ s'.1 200 9 = 1 ∧ bz_Z s' 313 315 n' m f' g ∧ n ≤ n' ∧ bz_c f' W1 (W1 14 0 0).toNatClampNeg ∧ (W1 14 0 0).toNatClampNeg * 48 ≤ n' ∧ (∀ j, j < (W 14 0 0).toNatClampNeg * 48 → f' j = f j) ∧ tz_fwo s s' ∧ rm_s s' + rm_p n ≤ rm_s s + rm_p n' ∧ rm_c s' + rm_p n ≤ rm_c s + rm_p n'
  | .inl (v, none) => z = (.inl v, tz_H s)
  | .inr E => z = (.inr E, m_junk (tz_H s))
theorem cz_weeks (s : tz_S) (W : m_W) (H : tz_HR s 223 W) (V : vz W) {n m : Nat} {f g : Nat → Int32} (Z : bz_Z s 313 315 n m f g) (C : bz_c f W (W 14 0 0).toNatClampNeg) (hn : (W 14 0 0).toNatClampNeg * 48 ≤ n) {a : Int32} : k_ok (F11_weeks 200 a (tz_H s)) (fz_W s W n m f g (sp_weeks W a)) := by
  have R := H.N
  unfold F11_weeks F11_weeks_0 sp_weeks
  refine k_g (nz_io200 R) (k_o (fun c1 => ?_) (fun c1 => k_s (by rw [if_neg c1]; rfl)))
  rw [if_pos c1]
  obtain ⟨k, hk, rfl⟩ := i_row (n := 60) rfl c1
  rw [nI_clamp (by omega)]
  have no : ¬ (0 < nI k ∧ W 14 0 0 < 500) → k_ok (F11_weeks_42 200 (nI k) (tz_H s)) (fz_W s W n m f g (.inl (W 14 0 0, none))) := by
    intro q
    unfold F11_weeks_42 F11_weeks_44
    refine wh_i (n := 0) (fun (i : Nat) (z : Int32 × m_H) => z = (0, tz_H s)) _ (fun i _ hi => absurd hi (Nat.not_lt_zero i)) ?_ m_N 0 _ (N_lt (by decide)) (Nat.le_refl _) rfl
    rintro _ rfl
    unfold F11_weeks_44b
    dsimp only
    refine k_if (fun q0 => k_e (nz_gr200_4 R) (k_e (cz_i0 R) (k_s rfl))) (fun q0 => ?_)
    refine k_e (nz_gr200_4 R) (k_e (cz_i0 R) (k_t ?_ (k_e (nz_gr200_4 R) (k_e (cz_i0 R) (k_s rfl)))))
    exact Int32.not_lt.mp (fun x => q ⟨Int32.not_le.mp q0, x⟩)
  refine k_if (fun q => ?_) (fun q => k_e (nz_gr200_4 R) (k_e (cz_i0 R) (k_if (fun q1 => ?_) (fun q1 => ?_))))
  · have q2 : ¬ (0 < nI k ∧ W 14 0 0 < 500) := fun x => absurd x.1 (Int32.not_lt.mpr q)
    rw [if_neg q2]
    exact no q2
  · have q2 : ¬ (0 < nI k ∧ W 14 0 0 < 500) := fun x => absurd x.2 (Int32.not_lt.mpr q1)
    rw [if_neg q2]
    exact no q2
  rw [if_pos ⟨Int32.not_le.mp q, Int32.not_le.mp q1⟩]
  refine k_b (cz_rem0 H V.en) ?_
  rintro _ ⟨s1, rfl, F, HB⟩
  have er : (tz_uf s1 200 9 1).2 = s1.2 := rfl
  have H2 : tz_HR (tz_uf s1 200 9 1) 223 W := (F.off (Or.inr (Or.inl rfl)) (Or.inl rfl) (by decide) H).cong (fun a k q _ => if_neg (fun x => by omega)) (fun _ _ _ => rfl) rfl rfl
  have HB2 : tz_HR (tz_uf s1 200 9 1) 253 W := HB.cong (fun a k q _ => if_neg (fun x => by omega)) (fun _ _ _ => rfl) rfl rfl
  have A2 : ∀ {a n f}, bz_A s a n f → bz_A (tz_uf s1 200 9 1) a n f := by
    intro a n f A
    rcases A with ⟨h1, h2, h3⟩ | ⟨h1, h2⟩
    · exact Or.inl ⟨h1, h2, (F.2.1 a (by omega)).trans h3⟩
    · refine Or.inr ⟨?_, h2⟩
      show tz_Ar s1.2.2.2.2.2.1 a n f
      rw [F.2.2.2.2]
      exact h1
  have rf : (tz_uf s1 200 9 1).2.2.2.2 = s.2.2.2.2 := F.2.2.2.2
  have Z2 : bz_Z (tz_uf s1 200 9 1) 313 315 n m f g := by
    obtain ⟨z1, z2, z3, z4⟩ := Z
    unfold bz_Z
    rw [show (tz_uf s1 200 9 1).2.2.2.2.1 = s.2.2.2.2.1 by rw [rf]]
    exact ⟨A2 z1, A2 z2, z3, z4⟩
  have s9 : (tz_uf s1 200 9 1).1 200 9 = 1 := tz_uf_s
  have fx : ∀ a k, a < 253 ∨ 283 ≤ a → ¬ (a = 200 ∧ k = 9) → (tz_uf s1 200 9 1).1 a k = s.1 a k := fun a k q q1 => (if_neg q1).trans (F.1 a k (by omega))
  have ax : ∀ a, a < 253 ∨ 283 ≤ a → (tz_uf s1 200 9 1).2.1 a = s.2.1 a := fun a q => F.2.1 a (by omega)
  have lx : ∀ a, a < 253 ∨ 283 ≤ a → (tz_uf s1 200 9 1).2.2.1 a = s.2.2.1 a ∧ (tz_uf s1 200 9 1).2.2.2.1 a = s.2.2.2.1 a := fun a q => ⟨congrFun F.2.2.1 a, F.2.2.2.1 a (by omega)⟩
  generalize tz_uf s1 200 9 1 = s2 at H2 HB2 Z2 s9 fx ax lx rf
  refine k_m (cz_weeksL s2 W H2 V Z2 C hn rfl hk) ?_
  rintro _ ⟨s', n', f', rfl, a1, a2, a3, a4, a5, a6, a7, a8, a9⟩
  refine ⟨s', n', f', rfl, a1, ?_, (a7.1 200 9 (by decide)).trans s9, a2, a3, a4, a5, a6, ⟨fun a k q q1 => (a7.1 a k (by omega)).trans (fx a k (by omega) q1), a7.2.1.trans (fx 201 1 (by decide) (by decide)), fun a q q1 q2 => (a7.2.2.1 a (by omega) q1 q2).trans (ax a (by omega)), fun a q => ⟨(a7.2.2.2.1 a (by omega)).1.trans (lx a (by omega)).1, (a7.2.2.2.1 a (by omega)).2.trans (lx a (by omega)).2⟩, fun x q => (a7.2.2.2.2.1 x q).trans (by rw [rf]), by rw [← rf]; exact a7.2.2.2.2.2.1, a7.2.2.2.2.2.2.trans (by rw [rf])⟩, ?_, ?_⟩
  · exact HB2.congx (fun a k q _ => a7.1 a k (by omega)) (fun a q1 q2 => a7.2.2.1 a (by omega) (by omega) (by omega)) (a7.2.2.2.1 _ (by omega)).2 a7.2.2.2.2.2.1
  · have e : rm_s s2 = rm_s s := by unfold rm_s; rw [rf]
    rw [← e]; exact a8
  · have e : rm_c s2 = rm_c s := by unfold rm_c; rw [rf]
    rw [← e]; exact a9
