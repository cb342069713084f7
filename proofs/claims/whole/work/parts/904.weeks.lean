/-! ===== weeks: both sides ===== -/
/-- what the BOOKS hold of the weeks that are over -/
def bz_c (f : Nat → Int32) (W : m_W) (k : Nat) : Prop := ∀ i, i < k → ∀ c, 8 ≤ c → c < 48 → f (i * 48 + c) = W 16 i c
/-- what a week of the class leaves as it was -/
def tz_fw (s s' : tz_S) : Prop := (∀ a k, a < 201 ∨ 253 ≤ a → s'.1 a k = s.1 a k) ∧ s'.1 201 1 = s.1 201 1 ∧ (∀ a, a < 201 ∨ 253 ≤ a ∨ a = 202 ∨ a = 212 ∨ a = 213 → ¬ a = 314 → ¬ a = 316 → s'.2.1 a = s.2.1 a) ∧ (∀ a, a < 201 ∨ 253 ≤ a → s'.2.2.1 a = s.2.2.1 a ∧ s'.2.2.2.1 a = s.2.2.2.1 a) ∧ (∀ x, ¬ x = 313 → s'.2.2.2.2.1 x = s.2.2.2.2.1 x) ∧ tz_xs s.2.2.2.2.2.1 s'.2.2.2.2.2.1 ∧ s'.2.2.2.2.2.2 = s.2.2.2.2.2.2
theorem tz_fw.refl {s : tz_S} : tz_fw s s := ⟨fun _ _ _ => rfl, rfl, fun _ _ _ _ => rfl, fun _ _ => ⟨rfl, rfl⟩, fun _ _ => rfl, tz_xs.refl, rfl⟩
theorem tz_fw.trans {s s1 s2 : tz_S} (h : tz_fw s s1) (k : tz_fw s1 s2) : tz_fw s s2 := by
  obtain ⟨a1, a2, a3, a4, a5, a6, a7⟩ := h
  obtain ⟨b1, b2, b3, b4, b5, b6, b7⟩ := k
  exact ⟨fun a k q => (b1 a k q).trans (a1 a k q), b2.trans a2, fun a q q1 q2 => (b3 a q q1 q2).trans (a3 a q q1 q2), fun a q => ⟨(b4 a q).1.trans (a4 a q).1, (b4 a q).2.trans (a4 a q).2⟩, fun x q => (b5 x q).trans (a5 x q), a6.trans b6, b7.trans a7⟩
theorem tz_fr.fw {s s' : tz_S} (h : tz_fr s s') : tz_fw s s' :=
  ⟨h.1, h.2.1, fun a q _ _ => h.2.2.1 a q, h.2.2.2.1, fun x _ => by rw [h.2.2.2.2], by rw [h.2.2.2.2]; exact tz_xs.refl, by rw [h.2.2.2.2]⟩
theorem tz_fm.fw {s s' : tz_S} (h : tz_fm 313 s s') : tz_fw s s' :=
  ⟨fun a k _ => by rw [h.1], by rw [h.1], fun a _ q1 q2 => h.2.1 a q1 q2, fun a _ => ⟨by rw [h.2.2.1], by rw [h.2.2.2.1]⟩, h.2.2.2.2.1, h.2.2.2.2.2.1, h.2.2.2.2.2.2⟩
theorem bz_A.fr {s s' : tz_S} {a n : Nat} {f : Nat → Int32} (A : bz_A s a n f) (h : tz_fr s s') : bz_A s' a n f := by
  rcases A with ⟨h1, h2, h3⟩ | ⟨h1, h2⟩
  · exact Or.inl ⟨h1, h2, (h.2.2.1 a (by omega)).trans h3⟩
  · exact Or.inr ⟨by rw [h.2.2.2.2]; exact h1, h2⟩
theorem bz_Z.fr {s s' : tz_S} {b o n m : Nat} {f g : Nat → Int32} (Z : bz_Z s b o n m f g) (h : tz_fr s s') : bz_Z s' b o n m f g := by
  obtain ⟨z1, z2, z3, z4⟩ := Z
  have e : s'.2.2.2.2.1 = s.2.2.2.2.1 := by rw [h.2.2.2.2]
  unfold bz_Z
  rw [e]
  exact ⟨z1.fr h, z2.fr h, z3, z4⟩
theorem tz_fr.rm {s s' : tz_S} (h : tz_fr s s') : rm_s s' = rm_s s ∧ rm_c s' = rm_c s := by
  unfold rm_s rm_c
  rw [h.2.2.2.2]
  exact ⟨rfl, rfl⟩
theorem cz_week1 (s : tz_S) (W : m_W) (H : tz_HR s 223 W) (V : vz W) {n m : Nat} {f g : Nat → Int32} (Z : bz_Z s 313 315 n m f g) (C : bz_c f W (W 14 0 0).toNatClampNeg) (hn : (W 14 0 0).toNatClampNeg * 48 ≤ n) (hw : W 14 0 0 < 500) : k_ok (m_b (F1_write 313 223 (tz_H s)) fun h20 => m_b (m_gr h20 200 8 4) fun v21 => F10_pass v21 h20) (fun h => ∃ s' n' f', h = tz_H s' ∧ tz_HR s' 223 (sp_week W) ∧ bz_Z s' 313 315 n' m f' g ∧ n ≤ n' ∧ bz_c f' (sp_week W) (sp_week W 14 0 0).toNatClampNeg ∧ (sp_week W 14 0 0).toNatClampNeg * 48 ≤ n' ∧ (∀ j, j < (W 14 0 0).toNatClampNeg * 48 → f' j = f j) ∧ tz_fw s s' ∧ rm_s s' + rm_p n ≤ rm_s s + rm_p n' ∧ rm_c s' + rm_p n ≤ rm_c s + rm_p n') := by
  obtain ⟨ew, w5⟩ := V.week
  have w1 : (sp_week W 14 0 0).toNatClampNeg = (W 14 0 0).toNatClampNeg + 1 := by
    rw [sp_week_w, ew, ← nI_succ, nI_clamp (by omega), nI_clamp (by omega)]
  refine k_b (cz_write s W H V Z hw) ?_
  rintro _ ⟨s1, n1, f1, rfl, Z1, a1, a2, a3, a4, a5, a6, a7⟩
  have R1 : cz_N s1 (sp_bk W) (tz_H s1) := ((a5.HR H (Or.inl rfl)).b16 (fun _ _ _ h => sp_bk_k h)).N
  refine k_e (nz_gr200_4 R1) (k_m (cz_pass R1 (vz_bk V) (by rw [sp_bk_k (by decide)]; exact hw)) ?_)
  rintro _ ⟨s2, rfl, H2, fr⟩
  refine ⟨s2, n1, f1, rfl, H2, Z1.fr fr, a1, ?_, by rw [w1]; exact a2, fun j hj => a3 j (by omega) hj, a5.fw.trans fr.fw, ?_, ?_⟩
  · rw [w1]
    intro i hi c c8 c48
    have e16 : sp_week W 16 i c = sp_bk W 16 i c := by
      unfold sp_week
      exact sp_pass_k (by decide) (by decide) (by decide) (by decide) (by decide) (by decide)
    rw [e16]
    unfold sp_bk sp_bkp
    by_cases q : i = (W 14 0 0).toNatClampNeg
    · subst q
      rw [if_pos ⟨rfl, rfl, c8, c48⟩]
      have := a4 (c / 8) (c % 8) (by omega) (by omega) (by omega)
      rw [show 8 * (c / 8) + c % 8 = c by omega] at this
      exact this
    · rw [if_neg (fun x => q x.2.1), a3 _ (by omega) (by omega)]
      exact C i (by omega) c c8 c48
  · rw [fr.rm.1]; exact a6
  · rw [fr.rm.2]; exact a7
/-- weeks go by in the class -/
theorem cz_weeksL (s : tz_S) (W : m_W) (H : tz_HR s 223 W) (V : vz W) {n m : Nat} {f g : Nat → Int32} (Z : bz_Z s 313 315 n m f g) (C : bz_c f W (W 14 0 0).toNatClampNeg) (hn : (W 14 0 0).toNatClampNeg * 48 ≤ n) {x : Int32} {k : Nat} (hx : x = nI k) (hk : k ≤ 60) : k_ok (F11_weeks_42 200 x (tz_H s)) (fun z => ∃ s' n' f', z = (.inl (sp_wkn W k 14 0 0), tz_H s') ∧ tz_HR s' 223 (sp_wkn W k) ∧ bz_Z s' 313 315 n' m f' g ∧ n ≤ n' ∧ bz_c f' (sp_wkn W k) (sp_wkn W k 14 0 0).toNatClampNeg ∧ (sp_wkn W k 14 0 0).toNatClampNeg * 48 ≤ n' ∧ (∀ j, j < (W 14 0 0).toNatClampNeg * 48 → f' j = f j) ∧ tz_fw s s' ∧ rm_s s' + rm_p n ≤ rm_s s + rm_p n' ∧ rm_c s' + rm_p n ≤ rm_c s + rm_p n') := by
  subst hx
  unfold F11_weeks_42 F11_weeks_44
  refine wh_i (n := k) (fun (i : Nat) (z : Int32 × m_H) => z.1 = nI i ∧ ∃ s' n' f', z.2 = tz_H s' ∧ tz_HR s' 223 (sp_wkn W i) ∧ bz_Z s' 313 315 n' m f' g ∧ n ≤ n' ∧ bz_c f' (sp_wkn W i) (sp_wkn W i 14 0 0).toNatClampNeg ∧ (sp_wkn W i 14 0 0).toNatClampNeg * 48 ≤ n' ∧ (W 14 0 0).toNatClampNeg ≤ (sp_wkn W i 14 0 0).toNatClampNeg ∧ (∀ j, j < (W 14 0 0).toNatClampNeg * 48 → f' j = f j) ∧ tz_fw s s' ∧ rm_s s' + rm_p n ≤ rm_s s + rm_p n' ∧ rm_c s' + rm_p n ≤ rm_c s + rm_p n') _ ?_ ?_ m_N 0 _ (N_lt (by omega)) (Nat.zero_le _) ⟨rfl, s, n, f, rfl, H, Z, Nat.le_refl _, C, hn, Nat.le_refl _, fun _ _ => rfl, tz_fw.refl, Nat.le_refl _, Nat.le_refl _⟩
  · rintro i ⟨y, h1⟩ hi ⟨q1, s1, n1, f1, q2, H1, Z1, a1, C1, a2, a3, a4, a5, a6, a7⟩
    dsimp only at q1 q2
    subst q1 q2
    have V1 := vz_wkn V i
    have st := fun q => @sp_wkn_stop W i q (k - i)
    rw [show i + (k - i) = k by omega] at st
    have es : sp_wkn W (i + 1) = sp_wst i (sp_wkn W i) := rfl
    unfold F11_weeks_44b
    dsimp only
    refine k_f (nI_ge hi (by omega)) (k_e (nz_gr200_4 H1.N) (k_e (cz_i0 H1.N) (k_if (fun q => ?_) (fun q => ?_))))
    · rw [st (Int32.not_lt.mpr q)]
      exact k_e (nz_gr200_4 H1.N) (k_e (cz_i0 H1.N) (k_s ⟨s1, n1, f1, rfl, H1, Z1, a1, C1, a2, a4, a5, a6, a7⟩))
    · have q' : sp_wkn W i 14 0 0 < 500 := Int32.not_le.mp q
      rw [es, sp_wst, if_pos q']
      obtain ⟨ew, w5⟩ := V1.week
      have w1 : (sp_week (sp_wkn W i) 14 0 0).toNatClampNeg = (sp_wkn W i 14 0 0).toNatClampNeg + 1 := by
        rw [sp_week_w, ew, ← nI_succ, nI_clamp (by omega), nI_clamp (by omega)]
      refine k_e (nz_gr200_7 H1.N) (k_e (nz_gr200_4 H1.N) ?_)
      have P := cz_week1 s1 (sp_wkn W i) H1 V1 Z1 C1 a2 q'
      obtain ⟨h2, e2, s2, n2, f2, rfl, H2, Z2, b1, C2, b2, b3, b4, b5, b6⟩ := P
      refine ⟨.inl (nI i + 1, tz_H s2), ?_, (nI_succ i).symm, s2, n2, f2, rfl, H2, Z2, Nat.le_trans a1 b1, C2, b2, by rw [w1]; omega, fun j hj => (b3 j (by have := Nat.mul_le_mul_right 48 a3; omega)).trans (a4 j hj), a5.trans b4, by omega, by omega⟩
      have e3 : ∀ (o : Option m_H) (F : m_H → Option Nat) (G : Nat → m_H → Option m_H), (m_b o fun h20 => m_b (F h20) fun v21 => G v21 h20) = some (tz_H s2) → (m_b o fun h20 => m_b (F h20) fun v21 => m_b (G v21 h20) fun h24 => some (Sum.inl (nI i + 1, h24) : (Int32 × m_H) ⊕ ((Int32 ⊕ Nat) × m_H))) = some (.inl (nI i + 1, tz_H s2)) := by
        intro o F G e
        cases o with
        | none => cases e
        | some h20 =>
          have e : (m_b (F h20) fun v21 => G v21 h20) = some (tz_H s2) := e
          show (m_b (F h20) fun v21 => m_b (G v21 h20) fun h24 => some (Sum.inl (nI i + 1, h24))) = _
          cases hF : F h20 with
          | none => rw [hF] at e; cases e
          | some v =>
            rw [hF] at e
            have e : G v h20 = some (tz_H s2) := e
            show (m_b (G v h20) fun h24 => some (Sum.inl (nI i + 1, h24))) = _
            rw [e]
            rfl
      exact e3 _ _ _ e2
  · rintro ⟨y, h1⟩ ⟨q1, s1, n1, f1, q2, H1, Z1, a1, C1, a2, a3, a4, a5, a6, a7⟩
    dsimp only at q1 q2
    subst q1 q2
    unfold F11_weeks_44b
    dsimp only
    exact k_t (nI_le (Nat.le_refl _) (by omega)) (k_e (nz_gr200_4 H1.N) (k_e (cz_i0 H1.N) (k_s ⟨s1, n1, f1, rfl, H1, Z1, a1, C1, a2, a4, a5, a6, a7⟩)))
/-- the reference: weeks -/
theorem rz_weeksL {s0 : tz_S} {th : Int32} {W : m_W} {h : m_H} (R : rz_N s0 th W h) (V : vz W) {x : Int32} {k : Nat} (hx : x = nI k) (hk : k ≤ 60) : k_ok (F12_weeks_48 317 x h) (fun z => z.1 = sp_wkn W k 14 0 0 ∧ rz_N s0 th (sp_wkn W k) z.2) := by
  subst hx
  unfold F12_weeks_48 F12_weeks_50
  refine wh_i (n := k) (fun (i : Nat) (z : Int32 × m_H) => z.1 = nI i ∧ rz_N s0 th (sp_wkn W i) z.2) _ ?_ ?_ m_N 0 _ (N_lt (by omega)) (Nat.zero_le _) ⟨rfl, R⟩
  · rintro i ⟨y, h1⟩ hi ⟨q1, R1⟩
    dsimp only at q1 R1
    subst q1
    have st := fun q => @sp_wkn_stop W i q (k - i)
    rw [show i + (k - i) = k by omega] at st
    have es : sp_wkn W (i + 1) = sp_wst i (sp_wkn W i) := rfl
    unfold F12_weeks_50b
    dsimp only
    refine k_f (nI_ge hi (by omega)) (k_e (k_wk R1) (k_if (fun q => ?_) (fun q => ?_)))
    · rw [st (Int32.not_lt.mpr q)]
      exact k_e (k_wk R1) (k_s ⟨rfl, R1⟩)
    · have q' : sp_wkn W i 14 0 0 < 500 := Int32.not_le.mp q
      rw [es, sp_wst, if_pos q']
      refine k_b (rz_goesOn R1 (vz_wkn V i) q') ?_
      intro h2 R2
      exact k_s ⟨(nI_succ i).symm, R2⟩
  · rintro ⟨y, h1⟩ ⟨q1, R1⟩
    dsimp only at q1 R1
    subst q1
    unfold F12_weeks_50b
    dsimp only
    exact k_t (nI_le (Nat.le_refl _) (by omega)) (k_e (k_wk R1) (k_s ⟨rfl, R1⟩))
theorem rz_weeks {s0 : tz_S} {th : Int32} {W : m_W} {h : m_H} (R : rz_N s0 th W h) (V : vz W) {a : Int32} : k_ok (F12_weeks 317 a h) (hz_D s0 e1 W (sp_weeks W a)) := by
  unfold F12_weeks F12_weeks_0 sp_weeks
  refine k_g (rz_io R) (k_b (rz_th R) ?_)
  intro h1 R1
  refine k_i (fun c1 => ?_) (fun c1 => ?_)
  · rw [if_pos c1]
    obtain ⟨k, hk, rfl⟩ := i_row (n := 60) rfl c1
    rw [nI_clamp (by omega)]
    unfold F12_weeks_21
    refine k_thr0 R1 ?_
    have no : ¬ (0 < nI k ∧ W 14 0 0 < 500) → k_ok (F12_weeks_48 317 (nI k) h1) (hz_D s0 e1 W (.inl (W 14 0 0, none))) := by
      intro q
      have z : sp_wkn W k = W := by
        by_cases q0 : W 14 0 0 < 500
        · have : k = 0 := by
            rcases Nat.eq_zero_or_pos k with x | x
            · exact x
            · exact absurd ⟨nI_lt (a := 0) x (by omega), q0⟩ q
          rw [this]
          rfl
        · have := sp_wkn_stop (W := W) (j := 0) q0 k
          rw [Nat.zero_add] at this
          exact this
      refine k_m (rz_weeksL R1 V rfl hk) ?_
      rintro ⟨v, h2⟩ ⟨e, R2⟩
      rw [z] at e R2
      exact ⟨e, R2.C⟩
    refine k_if (fun q => ?_) (fun q => ?_)
    · have q2 : ¬ (0 < nI k ∧ W 14 0 0 < 500) := fun x => absurd x.1 (Int32.not_lt.mpr q)
      rw [if_neg q2]
      exact no q2
    refine k_e (k_wk R1) (k_if (fun q1 => ?_) (fun q1 => ?_))
    · have q2 : ¬ (0 < nI k ∧ W 14 0 0 < 500) := fun x => absurd x.2 (Int32.not_lt.mpr q1)
      rw [if_neg q2]
      exact no q2
    · rw [if_pos ⟨Int32.not_le.mp q, Int32.not_le.mp q1⟩]
      refine k_b (rz_deed R1) ?_
      rintro h2 ⟨s1, B, R2⟩
      refine k_m (rz_weeksL R2 V rfl hk) ?_
      rintro ⟨v, h3⟩ ⟨e, R3⟩
      exact ⟨e, B.E R3⟩
  · rw [if_neg c1]
    unfold F12_weeks_21
    exact k_thr R1 (fun h2 R2 => k_s R2)
