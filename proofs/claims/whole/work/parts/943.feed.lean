/-! ===== feed: the class puts bytes on its tape ===== -/
def tfe (s s' : tz_S) : Prop := (∀ a k, ¬ (a = 201 ∧ k = 1) → s'.1 a k = s.1 a k) ∧ (∀ a, ¬ a = 202 → s'.2.1 a = s.2.1 a) ∧ s'.2.2 = s.2.2
def tpe (s : tz_S) (T : Nat → Nat) (n : Nat) : Prop := s.1 201 1 = nI n ∧ ∀ j, j < n → s.2.1 202 j = nI (T j)
def tad (T : Nat → Nat) (n : Nat) (w : Int32) (j : Nat) : Nat := if j < n then T j else byt w (24 - 8 * (j - n))
def shk : Nat → Int32
  | 0 => 24
  | 1 => 16
  | 2 => 8
  | 3 => 0
  | _ => -8
theorem shk_e : ∀ k ∈ List.range 4, ¬ shk k < 0 ∧ shk k + (-8) = shk (k + 1) ∧ ((shk k).toUInt32 &&& Int32.toUInt32 31).toNat = 24 - 8 * k := by decide +kernel
theorem nar_c : ∀ b ∈ List.range 256, vp_nar (m_ty 4) (nI b) = nI b := by decide +kernel
theorem nar_b : ∀ b ∈ List.range 256, vp_nar (m_ty 2) (sgb b) = sgb b := by decide +kernel
section
variable {s s1 : tz_S} {T : Nat → Nat} {n : Nat} {w : Int32}
theorem tfe.refl : tfe s s := ⟨fun _ _ _ => rfl, fun _ _ => rfl, rfl⟩
theorem tfe.trans {s2 : tz_S} (h : tfe s s1) (k : tfe s1 s2) : tfe s s2 := ⟨fun a j q => (k.1 a j q).trans (h.1 a j q), fun a q => (k.2.1 a q).trans (h.2.1 a q), k.2.2.trans h.2.2⟩
theorem tad_lt (hT : ∀ j, j < n → T j < 256) : ∀ j, j < n + 4 → tad T n w j < 256 := fun j hj => by
  unfold tad
  by_cases q : j < n
  · rw [if_pos q]; exact hT j q
  · rw [if_neg q]; exact byt_lt _ _
theorem cz_put (t : tpe s T n) (hn : n + 4 ≤ 400) : k_ok (F9_put 201 w (tz_H s)) (fun h' => ∃ s', h' = tz_H s' ∧ tfe s s' ∧ tpe s' (tad T n w) (n + 4)) := by
  unfold F9_put F9_put_0 F9_put_3
  refine k_g io_201 ?_
  refine wh_i (n := 4) (fun (k : Nat) (z : Int32 × m_H) => z.1 = shk k ∧ ∃ s', z.2 = tz_H s' ∧ tfe s s' ∧ tpe s' (tad T n w) (n + k)) _ ?_ ?_ m_N 0 _ (N_lt (by decide)) (Nat.zero_le _) ⟨rfl, s, rfl, tfe.refl, t.1, fun j hj => ?_⟩
  · rintro k ⟨x, h1⟩ hk ⟨q1, s1, q2, f, t1⟩
    dsimp only at q1 q2
    subst q1 q2
    obtain ⟨k1, k2, k3⟩ := shk_e k (List.mem_range.mpr hk)
    have g1 : m_gi (tz_H s1) 201 7 1 = some (nI (n + k)) := gi_201_1.trans (congrArg some t1.1)
    unfold F9_put_3b
    dsimp only
    refine k_f k1 (k_e g1 (k_f (nI_pos (by omega)) (k_e g1 (k_e gr_201_0 (k_e le_202 (k_f (show ¬ (400 : Int32) ≤ nI (n + k) from nI_ge (b := 400) (by omega) (by decide)) (k_e gr_201_0 (k_e g1 ?_))))))))
    have eb : m_i2c (m_ushr w (shk k) &&& 255) = nI (byt w (24 - 8 * k)) := byt_c w _ _ k3 (by omega)
    rw [eb]
    refine k_e (tz_si sh_202 ⟨rfl, rfl⟩ (nI_in1 (show n + k < 400 by omega) (by decide))) ?_
    rw [nI_clamp (by omega), nar_c _ (List.mem_range.mpr (byt_lt _ _))]
    refine k_e (gi_201_1.trans (congrArg some t1.1)) ?_
    rw [nI_11]
    refine k_e pf_201_1 (k_s ⟨k2, _, rfl, f.trans ⟨fun a j q => if_neg q, fun a q => tz_ui_n q, rfl⟩, tz_uf_s, fun j hj => ?_⟩)
    show (tz_ui s1 202 (upd (s1.2.1 202) (n + k) (nI (byt w (24 - 8 * k))))).2.1 202 j = _
    rw [tz_ui_a]
    by_cases e : j = n + k
    · subst e
      rw [pk_us]
      unfold tad
      rw [if_neg (by omega), Nat.add_sub_cancel_left]
    · rw [pk_un e]
      exact t1.2 j (by omega)
  · rintro ⟨x, h1⟩ ⟨q1, s1, q2, f, t1⟩
    dsimp only at q1 q2
    subst q1 q2
    unfold F9_put_3b
    dsimp only
    exact k_t (by decide) (k_s ⟨s1, rfl, f, t1⟩)
  · rw [t.2 j hj]
    unfold tad
    rw [if_pos (show j < n by omega)]
end
