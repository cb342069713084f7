/-! ===== allot: the reference ===== -/
def sp_cnt (P : Nat → Bool) (n : Nat) : Nat := sp_it (fun i a => if P i = true then a + 1 else a) n 0
theorem sp_cnt_le {P : Nat → Bool} : ∀ n, sp_cnt P n ≤ n
  | 0 => Nat.le_refl 0
  | n + 1 => by
    have e : sp_cnt P (n + 1) = if P n = true then sp_cnt P n + 1 else sp_cnt P n := rfl
    have := @sp_cnt_le P n
    rw [e]
    split <;> omega
theorem sp_cnt_ge {P : Nat → Bool} {r : Nat} : ∀ n, n ≤ r → sp_cnt (sp_rm P r) n = sp_cnt P n
  | 0, _ => rfl
  | n + 1, h => by
    have e : ∀ P, sp_cnt P (n + 1) = if P n = true then sp_cnt P n + 1 else sp_cnt P n := fun _ => rfl
    rw [e, e, sp_cnt_ge n (by omega), show sp_rm P r n = P n from if_neg (by omega)]
theorem sp_cnt_rm {P : Nat → Bool} {r : Nat} (p : P r = true) : ∀ n, r < n → sp_cnt (sp_rm P r) n + 1 = sp_cnt P n
  | 0, h => absurd h (by omega)
  | n + 1, h => by
    have e : ∀ P, sp_cnt P (n + 1) = if P n = true then sp_cnt P n + 1 else sp_cnt P n := fun _ => rfl
    rw [e, e]
    by_cases q : r = n
    · subst q
      rw [sp_cnt_ge r (Nat.le_refl r), show sp_rm P r r = false from if_pos rfl, if_pos p, if_neg (by decide)]
    · rw [show sp_rm P r n = P n from if_neg (by omega), ← sp_cnt_rm p n (by omega)]
      split <;> rfl
theorem sp_cnt_0 {P : Nat → Bool} {i : Nat} : ∀ n, sp_cnt P n = 0 → i < n → ¬ P i = true
  | 0, _, h => absurd h (by omega)
  | n + 1, h0, h => by
    have e : sp_cnt P (n + 1) = if P n = true then sp_cnt P n + 1 else sp_cnt P n := rfl
    rw [e] at h0
    by_cases q : P n = true
    · rw [if_pos q] at h0; omega
    · rw [if_neg q] at h0
      by_cases qi : i = n
      · subst qi; exact q
      · exact sp_cnt_0 n h0 (by omega)
section
variable {s0 s1 : tz_S} {th : Int32} {W W1 : m_W} {h : m_H}
theorem rz_ar (R : rz_N s1 th W h) {a t n : Nat} (ha : a = 325 ∨ a = 326) (hs : tz_sh a = some (.inl (t, n))) (ht : Nat.beq t 1 = false ∧ Nat.beq t 5 = false) {i : Nat} (hi : i < n) (hn : n < 2 ^ 31) : m_ai h t a (nI i) = some (s1.2.1 a i) := by
  obtain ⟨s, rfl, H, t0, fr⟩ := R
  rw [tz_ai hs ht (nI_in1 hi hn), nI_clamp (by omega), fr.2.1 a (by omega)]
theorem rz_as (R : rz_N s1 th W h) {a t n : Nat} {v : Int32} (ha : a = 325 ∨ a = 326) (hs : tz_sh a = some (.inl (t, n))) (ht : Nat.beq t 1 = false ∧ Nat.beq t 5 = false) {i : Nat} (hi : i < n) (hn : n < 2 ^ 31) : k_ok (m_si h t a (nI i) v) (rz_N (tz_ui s1 a (upd (s1.2.1 a) i (vp_nar (m_ty t) v))) th W) := by
  obtain ⟨s, rfl, H, t0, fr⟩ := R
  refine ⟨_, tz_si hs ht (nI_in1 hi hn), _, rfl, ?_, t0, ?_⟩
  · intro k r c hv
    rw [tz_ui_n (by omega)]
    exact H k r c hv
  rw [nI_clamp (by omega), fr.2.1 a (by omega)]
  refine ⟨fr.1, fun b q => ?_, fr.2.2.1, fr.2.2.2⟩
  by_cases e : b = a
  · subst e
    exact tz_ui_a.trans tz_ui_a.symm
  · exact (tz_ui_n e).trans ((fr.2.1 b q).trans (tz_ui_n e).symm)
theorem tz_fcq.ui {a : Nat} {f : Nat → Int32} (h : tz_fcq s0 s1) (ha : a = 325 ∨ a = 326) : tz_fcq s0 (tz_ui s1 a f) :=
  ⟨h.1, fun b q => (tz_ui_n (s := s1) (by omega)).trans (h.2.1 b q), h.2.2⟩
def rz_W (s1 : tz_S) (W1 : m_W) (x : Int32) (P : Nat → Bool) (M : Nat → Int32) : Prop := (∀ i, i < wz_n W1 3 → s1.2.1 325 i = M i) ∧ ∀ i, P i = true ↔ i < wz_n W1 3 ∧ s1.2.1 326 i = 0 ∧ ¬ W1 3 i 2 - W1 3 i 4 ≤ 0 ∧ W1 3 i 1 = x
theorem rz_isAhead (R : rz_N s1 th W1 h) {M : Nat → Int32} (A : ∀ i, i < wz_n W1 3 → s1.2.1 325 i = M i) {i j : Nat} (hi : i < wz_n W1 3) (hj : j < i) (hn : wz_n W1 3 ≤ 60) : F12_isAhead 317 (nI i) (nI j) h = some (if sp_ah W1 M i j then 1 else 0) := by
  have mi : m_ai h 0 325 (nI i) = some (M i) := (rz_ar R (Or.inl rfl) sh_325 ⟨rfl, rfl⟩ (show i < 60 by omega) (by decide)).trans (congrArg some (A i hi))
  have mj : m_ai h 0 325 (nI j) = some (M j) := (rz_ar R (Or.inl rfl) sh_325 ⟨rfl, rfl⟩ (show j < 60 by omega) (by decide)).trans (congrArg some (A j (by omega)))
  have qi := rz_q3 R (r := i) (by omega)
  have qj := rz_q3 R (r := j) (by omega)
  have key : k_ok (F12_isAhead 317 (nI i) (nI j) h) (fun z => z = (if sp_ah W1 M i j then 1 else 0)) := by
    unfold F12_isAhead F12_isAhead_0
    refine k_g (rz_io R) (k_e (rz_gr17 R) (k_e mi (k_e (rz_gr17 R) (k_e mj (k_if (fun q => ?_) (fun q => ?_))))))
    · refine k_e (rz_gr1 R) (k_e qi.1 (k_e qi.2.2.2.2.1 (k_e (rz_gr1 R) (k_e qj.1 (k_e qj.2.2.2.2.1 (k_if (fun q2 => ?_) (fun q2 => ?_)))))))
      · exact k_s (by rw [if_pos (Or.inl ⟨q, q2⟩)])
      · have no : ¬ sp_ah W1 M i j := fun y => y.elim (fun y => q2 y.2) (fun y => y.1 q)
        rw [if_neg no]
        refine k_if (fun q3 => k_t (nI_le (by omega) (by omega)) (k_s rfl)) (fun q3 => k_s rfl)
    · refine k_e (rz_gr17 R) (k_e mi (k_e (rz_gr17 R) (k_e mj (k_if (fun q2 => ?_) (fun q2 => ?_)))))
      · exact k_s (by rw [if_neg (fun y => y.elim (fun y => q y.1) (fun y => Int32.not_lt.mpr q2 y.2))])
      · exact k_s (by rw [if_pos (Or.inr ⟨q, Int32.not_le.mp q2⟩)])
  obtain ⟨z, e, hz⟩ := key
  rw [e, hz]
theorem rz_nextFor (R : rz_N s1 th W1 h) (V : vz W1) {x : Int32} {P : Nat → Bool} {M : Nat → Int32} (A : rz_W s1 W1 x P M) : F12_nextFor 317 x h = some (nx_I (sp_nx W1 M P 60)) := by
  have hc3 := (V.cap (k := 3) (by omega)).1
  have hn : wz_n W1 3 ≤ 60 := V.c (k := 3) (by omega)
  have e60 : sp_nx W1 M P 60 = sp_nx W1 M P (wz_n W1 3) := by
    have := sp_nx_n (W := W1) (M := M) (P := P) (n := wz_n W1 3) (fun i hi => by
      cases hp : P i with
      | false => rfl
      | true => have := ((A.2 i).mp hp).1; omega) (60 - wz_n W1 3)
    rw [show wz_n W1 3 + (60 - wz_n W1 3) = 60 by omega] at this
    exact this
  have key : k_ok (F12_nextFor 317 x h) (fun z => z = nx_I (sp_nx W1 M P 60)) := by
    unfold F12_nextFor F12_nextFor_0 F12_nextFor_4
    refine k_g (rz_io R) ?_
    refine wh_i (n := wz_n W1 3) (fun (i : Nat) (z : Int32 × Int32) => z.2 = nI i ∧ z.1 = nx_I (sp_nx W1 M P i)) _ ?_ ?_ m_N 0 _ (N_lt (by omega)) (Nat.zero_le _) ⟨rfl, rfl⟩
    · rintro i ⟨y, z⟩ hi ⟨q1, q2⟩
      dsimp only at q1 q2
      subst q1 q2
      have hs : sp_nx W1 M P (i + 1) = sp_nxs W1 M P i (sp_nx W1 M P i) := rfl
      have q := rz_q3 R (r := i) (by omega)
      have w := rz_ar R (Or.inr rfl) sh_326 ⟨rfl, rfl⟩ (show i < 60 by omega) (by decide)
      have no : ¬ P i = true → nx_I (sp_nx W1 M P i) = nx_I (sp_nx W1 M P (i + 1)) := by
        intro p
        rw [hs, sp_nxs.eq_def, if_neg p]
      unfold F12_nextFor_4b
      dsimp only
      refine k_e (rz_gr1 R) (k_e (rz_c3 R) ?_)
      rw [show W1 23 0 0 = nI (wz_n W1 3) from hc3]
      refine k_f (nI_ge hi (by omega)) (k_e (rz_gr1 R) (k_e q.1 (k_e q.2.2.1 (k_if (fun c1 => ?_) (fun c1 => ?_)))))
      · refine k_e (rz_gr18 R) (k_e w (k_if (fun c2 => ?_) (fun c2 => ?_)))
        · refine k_e (rz_lacks R rfl (by omega)) (k_if (fun c3 => ?_) (fun c3 => ?_))
          · exact k_s ⟨(nI_succ i).symm, no (fun p => ((A.2 i).mp p).2.2.1 c3)⟩
          · have p : P i = true := (A.2 i).mpr ⟨hi, c2, c3, c1⟩
            cases hb : sp_nx W1 M P i with
            | none =>
              refine k_t (show (-1 : Int32) < 0 by decide) (k_s ⟨(nI_succ i).symm, ?_⟩)
              rw [hs, sp_nxs.eq_def, if_pos p, hb]
              rfl
            | some j =>
              obtain ⟨hj, pj⟩ := sp_nx_P i hb
              refine k_f (show ¬ nI j < 0 from nI_pos (by omega)) (k_e (rz_isAhead R A.1 hi hj hn) ?_)
              by_cases c4 : sp_ah W1 M i j
              · rw [if_pos c4]
                refine k_f (by decide) (k_s ⟨(nI_succ i).symm, ?_⟩)
                rw [hs, sp_nxs.eq_def, if_pos p, hb]
                dsimp only
                rw [if_pos c4]
                rfl
              · rw [if_neg c4]
                refine k_t rfl (k_s ⟨(nI_succ i).symm, ?_⟩)
                rw [hs, sp_nxs.eq_def, if_pos p, hb]
                dsimp only
                rw [if_neg c4]
        · exact k_s ⟨(nI_succ i).symm, no (fun p => c2 ((A.2 i).mp p).2.1)⟩
      · exact k_s ⟨(nI_succ i).symm, no (fun p => c1 ((A.2 i).mp p).2.2.2)⟩
    · rintro ⟨y, z⟩ ⟨q1, q2⟩
      dsimp only at q1 q2
      subst q1 q2
      unfold F12_nextFor_4b
      dsimp only
      refine k_e (rz_gr1 R) (k_e (rz_c3 R) ?_)
      rw [show W1 23 0 0 = nI (wz_n W1 3) from hc3, e60]
      exact k_t (nI_le (Nat.le_refl _) (by omega)) (k_s rfl)
  obtain ⟨z, e, hz⟩ := key
  rw [e, hz]
end
