/-! ===== who is called, in which order: the class ===== -/
abbrev sp_ah (W : m_W) (M : Nat → Int32) (i j : Nat) : Prop := (M i = M j ∧ W 3 i 3 < W 3 j 3) ∨ (¬ M i = M j ∧ M j < M i)
def sp_nxs (W : m_W) (M : Nat → Int32) (P : Nat → Bool) (i : Nat) (b : Option Nat) : Option Nat := if P i = true then (match b with
  | none => some i
  | some j => if sp_ah W M i j then some i else some j) else b
def sp_nx (W : m_W) (M : Nat → Int32) (P : Nat → Bool) (n : Nat) : Option Nat := sp_it (sp_nxs W M P) n none
def nx_I (b : Option Nat) : Int32 := match b with | none => -1 | some j => nI j
theorem sp_nx_P {W : m_W} {M : Nat → Int32} {P : Nat → Bool} {j : Nat} : ∀ n, sp_nx W M P n = some j → j < n ∧ P j = true
  | 0, h => by cases h
  | n + 1, h => by
    have e : sp_nx W M P (n + 1) = sp_nxs W M P n (sp_nx W M P n) := rfl
    rw [e] at h
    unfold sp_nxs at h
    by_cases q : P n = true
    · rw [if_pos q] at h
      cases hb : sp_nx W M P n with
      | none =>
        rw [hb] at h
        cases h
        exact ⟨by omega, q⟩
      | some j' =>
        rw [hb] at h
        have ih := sp_nx_P n hb
        dsimp only at h
        split at h
        · cases h; exact ⟨by omega, q⟩
        · cases h; exact ⟨by omega, ih.2⟩
    · rw [if_neg q] at h
      have ih := sp_nx_P n h
      exact ⟨by omega, ih.2⟩
theorem sp_nx_n {W : m_W} {M : Nat → Int32} {P : Nat → Bool} {n : Nat} (h : ∀ i, n ≤ i → P i = false) : ∀ m, sp_nx W M P (n + m) = sp_nx W M P n
  | 0 => rfl
  | m + 1 => by
    have e : sp_nx W M P (n + (m + 1)) = sp_nxs W M P (n + m) (sp_nx W M P (n + m)) := rfl
    rw [e, sp_nx_n h m]
    unfold sp_nxs
    rw [h (n + m) (by omega)]
    rfl
section
variable {s0 s1 : tz_S} {th : Int32} {W : m_W} {h : m_H}
theorem nr3_0 : vp_nar (m_ty 3) 0 = 0 := by decide
theorem nr3_1 : vp_nar (m_ty 3) 1 = 1 := by decide
theorem cz_ar (R : cz_N s1 W h) {a t n : Nat} (ha : a = 212 ∨ a = 213) (hs : tz_sh a = some (.inl (t, n))) (ht : Nat.beq t 1 = false ∧ Nat.beq t 5 = false) {i : Nat} (hi : i < n) (hn : n < 2 ^ 31) : m_ai h t a (nI i) = some (s1.2.1 a i) := by
  obtain ⟨s, rfl, H, fr⟩ := R
  rw [tz_ai hs ht (nI_in1 hi hn), nI_clamp (by omega), fr.2.2.1 a (by omega)]
theorem cz_as (R : cz_N s1 W h) {a t n : Nat} {v : Int32} (ha : a = 212 ∨ a = 213) (hs : tz_sh a = some (.inl (t, n))) (ht : Nat.beq t 1 = false ∧ Nat.beq t 5 = false) {i : Nat} (hi : i < n) (hn : n < 2 ^ 31) : k_ok (m_si h t a (nI i) v) (cz_N (tz_ui s1 a (upd (s1.2.1 a) i (vp_nar (m_ty t) v))) W) := by
  obtain ⟨s, rfl, H, fr⟩ := R
  refine ⟨_, tz_si hs ht (nI_in1 hi hn), _, rfl, H.cong (fun _ _ _ _ => rfl) (fun b h1 h2 => tz_ui_n (by omega)) rfl rfl, ?_⟩
  rw [nI_clamp (by omega), fr.2.2.1 a (by omega)]
  refine ⟨fr.1, fr.2.1, fun b q => ?_, fr.2.2.2.1, fr.2.2.2.2⟩
  by_cases e : b = a
  · subst e
    exact tz_ui_a.trans tz_ui_a.symm
  · exact (tz_ui_n e).trans ((fr.2.2.1 b q).trans (tz_ui_n e).symm)
theorem tz_fc.ui {s0 s1 : tz_S} {a : Nat} {f : Nat → Int32} (h : tz_fc s0 s1) (ha : a = 212 ∨ a = 213) : tz_fc s0 (tz_ui s1 a f) :=
  ⟨h.1, fun b q => (tz_ui_n (s := s1) (by omega)).trans (h.2.1 b q), h.2.2⟩
/-- who waits, and the marks of those -/
def cz_W (s1 : tz_S) (P : Nat → Bool) (M : Nat → Int32) : Prop := ∀ i, i < 60 → s1.2.1 213 i = (if P i = true then 1 else 0) ∧ (P i = true → s1.2.1 212 i = M i)
theorem cz_isAhead (R : cz_N s1 W h) {P : Nat → Bool} {M : Nat → Int32} (A : cz_W s1 P M) {i j : Nat} (hi : i < wz_n W 3) (hj : j < wz_n W 3) (hn : wz_n W 3 ≤ 60) (pi : P i = true) (pj : P j = true) : F2_isAhead 211 223 (nI i) (nI j) h = some (if sp_ah W M i j then 1 else 0) := by
  have mi : m_ai h 0 212 (nI i) = some (M i) := (cz_ar R (Or.inl rfl) sh_212 ⟨rfl, rfl⟩ (show i < 60 by omega) (by decide)).trans (congrArg some ((A i (by omega)).2 pi))
  have mj : m_ai h 0 212 (nI j) = some (M j) := (cz_ar R (Or.inl rfl) sh_212 ⟨rfl, rfl⟩ (show j < 60 by omega) (by decide)).trans (congrArg some ((A j (by omega)).2 pj))
  have le : m_len h 212 = some 60 := by obtain ⟨s, rfl, -⟩ := R; exact le_212
  unfold F2_isAhead F2_isAhead_0
  rw [nz_io211 R, gz_s, iz_f (nI_pos (by omega)), nz_gr211_0 R, bz_s, le, bz_s, iz_f (show ¬ (60 : Int32) ≤ nI i from nI_ge (show i < 60 by omega) (by decide)), iz_f (nI_pos (by omega)), bz_s, le, bz_s, iz_t (show nI j < (60 : Int32) from nI_lt (show j < 60 by omega) (by decide)), bz_s, mi, bz_s, bz_s, mj, bz_s]
  by_cases q : M i = M j
  · rw [iz_t q, nz_gr223_9 R, bz_s, cz_g3_3 R rfl hi, bz_s, bz_s, cz_g3_3 R rfl hj, bz_s]
    by_cases q2 : W 3 j 3 ≤ W 3 i 3
    · rw [iz_t q2, if_neg (fun x => x.elim (fun x => Int32.not_lt.mpr q2 x.2) (fun x => x.1 q))]
    · rw [iz_f q2, if_pos (Or.inl ⟨q, Int32.not_le.mp q2⟩)]
  · rw [iz_f q, bz_s, mi, bz_s, bz_s, mj, bz_s]
    by_cases q2 : M i ≤ M j
    · rw [iz_t q2, if_neg (fun x => x.elim (fun x => q x.1) (fun x => Int32.not_lt.mpr q2 x.2))]
    · rw [iz_f q2, if_pos (Or.inr ⟨q, Int32.not_le.mp q2⟩)]
def sp_rm (P : Nat → Bool) (r : Nat) : Nat → Bool := fun i => if i = r then false else P i
theorem cz_next (R : cz_N s1 W h) {P : Nat → Bool} {M : Nat → Int32} (A : cz_W s1 P M) (hn : wz_n W 3 ≤ 60) (hP : ∀ i, P i = true → i < wz_n W 3) : k_ok (F2_nextCalled 211 223 h) (fun z => ∃ h1, z = (nx_I (sp_nx W M P 60), h1) ∧ match sp_nx W M P 60 with
    | none => h1 = h
    | some r => cz_N (tz_ui s1 213 (upd (s1.2.1 213) r 0)) W h1) := by
  have le : m_len h 213 = some 60 := by obtain ⟨s, rfl, -⟩ := R; exact le_213
  unfold F2_nextCalled F2_nextCalled_0 F2_nextCalled_4
  refine k_g (nz_io211 R) ?_
  refine wh_i (n := 60) (fun (i : Nat) (z : Int32 × Int32) => z.2 = nI i ∧ z.1 = nx_I (sp_nx W M P i)) _ ?_ ?_ m_N 0 _ (N_lt (by decide)) (Nat.zero_le _) ⟨rfl, rfl⟩
  · rintro i ⟨x, y⟩ hi ⟨q1, q2⟩
    dsimp only at q1 q2
    subst q1 q2
    have hs : sp_nx W M P (i + 1) = sp_nxs W M P i (sp_nx W M P i) := rfl
    have w := cz_ar R (Or.inr rfl) sh_213 ⟨rfl, rfl⟩ (show i < 60 from hi) (by decide)
    rw [(A i hi).1] at w
    unfold F2_nextCalled_4b
    dsimp only
    refine k_e (nz_gr211_1 R) (k_e le (k_f (show ¬ (60 : Int32) ≤ nI i from nI_ge hi (by decide)) (k_e (nz_gr211_1 R) (k_e w ?_))))
    by_cases p : P i = true
    · rw [if_pos p]
      refine k_f (by decide) ?_
      cases hb : sp_nx W M P i with
      | none =>
        refine k_t rfl (k_s ⟨(nI_succ i).symm, ?_⟩)
        rw [hs, sp_nxs.eq_def, if_pos p, hb]
        rfl
      | some j =>
        obtain ⟨hj, pj⟩ := sp_nx_P i hb
        refine k_f (show ¬ nI j = -1 from fun e => absurd (show nI j < 0 by rw [e]; decide) (nI_pos (by omega))) (k_e (cz_isAhead R A (hP i p) (hP j pj) hn p pj) ?_)
        by_cases q : sp_ah W M i j
        · rw [if_pos q]
          refine k_f (by decide) (k_s ⟨(nI_succ i).symm, ?_⟩)
          rw [hs, sp_nxs.eq_def, if_pos p, hb]
          dsimp only
          rw [if_pos q]
          rfl
        · rw [if_neg q]
          refine k_t rfl (k_s ⟨(nI_succ i).symm, ?_⟩)
          rw [hs, sp_nxs.eq_def, if_pos p, hb]
          dsimp only
          rw [if_neg q]
    · rw [if_neg p]
      refine k_t rfl (k_s ⟨(nI_succ i).symm, ?_⟩)
      rw [hs, sp_nxs.eq_def, if_neg p]
  · rintro ⟨x, y⟩ ⟨q1, q2⟩
    dsimp only at q1 q2
    subst q1 q2
    unfold F2_nextCalled_4b
    dsimp only
    refine k_e (nz_gr211_1 R) (k_e le (k_t (show (60 : Int32) ≤ nI 60 by decide) ?_))
    cases hb : sp_nx W M P 60 with
    | none => exact k_t (by decide) (k_s ⟨h, rfl, rfl⟩)
    | some j =>
      obtain ⟨hj, pj⟩ := sp_nx_P 60 hb
      refine k_f (nI_pos (show j < 2 ^ 31 by omega)) (k_e (nz_gr211_1 R) (k_e le (k_f (show ¬ (60 : Int32) ≤ nI j from nI_ge hj (by decide)) (k_e (nz_gr211_1 R) (k_b (cz_as R (Or.inr rfl) sh_213 ⟨rfl, rfl⟩ hj (by decide)) ?_)))))
      intro h1 R1
      rw [nr3_0] at R1
      exact k_s ⟨h1, rfl, R1⟩
end
