/-! ===== HULLS: the reference, all of it ===== -/
section
variable {s0 : tz_S} {th : Int32} {W : m_W} {k : Nat} {H R : Nat → Int} {D : Nat → Nat} {T : Nat → Int} {h : m_H}
def hz_Qd (W : m_W) (k : Nat) (H R : Nat → Int) (D : Nat → Nat) (T : Nat → Int) : Prop := k ≤ 6 ∧ (∀ m, 0 ≤ H m ∧ H m ≤ 5000) ∧ (∀ l, 0 ≤ R l ∧ R l ≤ 100) ∧ R 0 = 0 ∧ (∀ m, m < k → D m < 12 ∧ (W 4 (D m) 0).toInt = H m) ∧ (∀ l, 1 ≤ l → l < 6 → (sp_told W 7 (nI l) (W 14 0 0 + 1)).toInt = R l) ∧ ∀ l, l < 6 → (W 5 l 3).toInt = T l ∧ 0 ≤ T l ∧ T l ≤ 100000
theorem rz_send1 (V : vz W) (hD : hz_Qd W k H R D T) {A : Nat → Int32 → Int32 → Int32 → m_H → Option m_H} {j i : Nat} (hij : i + (j + 1) = k) {L : Nat → Int} {c : Int} {p : Nat → Nat} {lost : Int32} (hL : ∀ l, l < 6 → -5000 * (i : Int) ≤ L l ∧ L l ≤ 100000) (hl : lost.toInt = c) (hc : 0 ≤ c ∧ c ≤ 500000 * (i : Int))
    (IH : ∀ (L : Nat → Int) (c : Int) (p : Nat → Nat) (q : Option (Int × (Nat → Nat))) (h : m_H) (lost : Int32), (∀ l, l < 6 → -5000 * ((i + 1 : Nat) : Int) ≤ L l ∧ L l ≤ 100000) → lost.toInt = c → 0 ≤ c ∧ c ≤ 500000 * ((i + 1 : Nat) : Int) → (∀ z, q = some z → 0 ≤ z.1 ∧ z.1 < hBIG) → hz_R s0 th W k D T L p (i + 1) q h → k_ok (A 317 (nI (i + 1)) (nI k) lost h) (hz_R s0 th W k D T L p (i + 1) (hS H R j (i + 1) L c p q)))
    {l : Nat} (hl6 : l < 6) {x : Int32} (hx : x.toInt = H i) {q : Option (Int × (Nat → Nat))} {h : m_H} (hq : ∀ z, q = some z → 0 ≤ z.1 ∧ z.1 < hBIG) (C : hz_R s0 th W k D T L p i q h) : k_ok (F12_sends_129b A 317 (nI i) (nI k) lost x (nI l, h)) (fun z => ∃ h1, z = .inl (nI (l + 1), h1) ∧ hz_R s0 th W k D T L p i (hS H R j (i + 1) (hU L l (H i)) (c + H i * R l) (hP p i l) q) h1) := by
  obtain ⟨hk, hH, hRb, hR0, hDm, hRt, hTl⟩ := hD
  have i6 : i < 6 := by omega
  have bH := hH i
  have bR := hRb l
  have bL := hL l hl6
  have bT := hTl l hl6
  unfold F12_sends_129b
  dsimp only
  refine k_f (i6f hl6) (k_e (rz_gr20 C.N) (k_b (C.goal i6) ?_))
  intro h1 C1
  obtain ⟨a, ea, ha⟩ := C1.g hl6
  refine k_e (rz_gr22 C1.N) (k_e ea (k_b (C1.gath hl6 (v := a + x) (x := L l - H i) ?_) ?_))
  · rw [i_add (by omega) (by omega), ha, hx]
    omega
  intro h2 C2
  rw [← hU_T] at C2
  have rest : ∀ r : Int32, r.toInt = H i * R l → k_ok (F12_sends_189 A 317 (nI i) (nI k) lost x (nI l) r lost (nI k) (nI i + 1) 317 h2) (fun z => ∃ h1, z = .inl (nI (l + 1), h1) ∧ hz_R s0 th W k D T L p i (hS H R j (i + 1) (hU L l (H i)) (c + H i * R l) (hP p i l) q) h1) := by
    intro r hr
    have m2 : 0 ≤ H i * R l := Int.mul_nonneg bH.1 bR.1
    have m3 : H i * R l ≤ 5000 * 100 := Int.mul_le_mul bH.2 bR.2 bR.1 (by decide)
    unfold F12_sends_189
    rw [nI_1]
    refine k_b (IH (hU L l (H i)) (c + H i * R l) (hP p i l) q h2 (lost + r) (fun m hm => ?_) ?_ ⟨by omega, by omega⟩ hq C2) ?_
    · have := hL m hm
      unfold hU
      split <;> omega
    · rw [i_add (by omega) (by omega), hl, hr]
    intro h3 C3
    obtain ⟨a3, ea3, ha3⟩ := C3.g hl6
    have eU : hU L l (H i) l = L l - H i := if_pos rfl
    rw [eU] at ha3
    refine k_e (rz_gr22 C3.N) (k_e ea3 (k_b (C3.gath hl6 (v := a3 - x) (x := L l) ?_) ?_))
    · rw [i_sub (by omega) (by omega), ha3, hx]
      omega
    intro h4 C4
    rw [hT_U] at C4
    exact k_s ⟨h4, by rw [nI_succ], C4.cut.unP⟩
  refine k_if (fun z0 => ?_) (fun z0 => ?_)
  · have l0 : l = 0 := nI_e (m := 0) (by omega) (by decide) z0
    refine rest 0 ?_
    rw [l0, hR0, Int.mul_zero]
    rfl
  · have l1 : 1 ≤ l := by
      rcases Nat.eq_zero_or_pos l with y | y
      · subst y; exact absurd rfl z0
      · exact y
    have et := hRt l l1 hl6
    refine k_e (k_wk C2.N) (k_e (rz_toldR C2.N V) (rest _ ?_))
    have := (i_mulb (a := x) (b := sp_told W 7 (nI l) (W 14 0 0 + 1)) (A := 5000) (B := 100) (by omega) (by omega) (by omega) (by omega) (by decide)).1
    rw [this, hx, et]
theorem rz_send (V : vz W) (hD : hz_Qd W k H R D T) : ∀ (j n i : Nat), j + 1 ≤ n → i + j = k → ∀ (L : Nat → Int) (c : Int) (p : Nat → Nat) (q : Option (Int × (Nat → Nat))) (h : m_H) (lost : Int32), (∀ l, l < 6 → -5000 * (i : Int) ≤ L l ∧ L l ≤ 100000) → lost.toInt = c → 0 ≤ c ∧ c ≤ 500000 * (i : Int) → (∀ z, q = some z → 0 ≤ z.1 ∧ z.1 < hBIG) → hz_R s0 th W k D T L p i q h → k_ok (F12_sends n 317 (nI i) (nI k) lost h) (hz_R s0 th W k D T L p i (hS H R j i L c p q))
  | j, 0, i, hn, _, _, _, _, _, _, _, _, _, _, _, _ => absurd hn (by omega)
  | j, n + 1, i, hn, hij, L, c, p, q, h, lost, hL, hl, hc, hq, C => by
    have hHR : ∀ m l, 0 ≤ H m * R l := fun m l => Int.mul_nonneg (hD.2.1 m).1 (hD.2.2.1 l).1
    have hk := hD.1
    show k_ok (F12_sendss (F12_sends n) 317 (nI i) (nI k) lost h) _
    unfold F12_sendss F12_sends_0
    refine k_g (rz_io C.N) ?_
    match j with
    | 0 =>
      have hik : i = k := by omega
      subst hik
      exact k_t rfl (rz_leaf C hk (fun l hl6 => (hD.2.2.2.2.2.2 l hl6).1) hq hl ⟨hc.1, by unfold hBIG; omega⟩)
    | j + 1 =>
      have hik : i < k := by omega
      have hDi := hD.2.2.2.2.1 i hik
      refine k_f (fun e => by have := nI_e (by omega) (by omega) e; omega) (k_e (rz_gr19 C.N) (k_e (C.at hk hik) (k_e (rz_i0 C.N rfl hDi.1) ?_)))
      rw [hW_6]
      unfold F12_sends_129
      have qn : ∀ n, ∀ z, hW H R j i L c p q n = some z → 0 ≤ z.1 ∧ z.1 < hBIG := by
        intro n
        induction n with
        | zero => exact hq
        | succ n ih =>
          rw [hW_s]
          have := hHR i n
          exact hS_b hHR j (i + 1) _ _ _ _ (by omega) ih
      refine wh_i (n := 6) (fun (l : Nat) (z : Int32 × m_H) => z.1 = nI l ∧ hz_R s0 th W k D T L p i (hW H R j i L c p q l) z.2) _ ?_ ?_ m_N 0 _ (N_lt (by decide)) (Nat.zero_le _) ⟨rfl, C⟩
      · rintro l ⟨y, h1⟩ hl6 ⟨e1, C1⟩
        dsimp only at e1 C1
        subst e1
        refine k_m (rz_send1 V hD hij hL hl hc (fun L' c' p' q' h' l' a1 a3 a4 a5 a6 => rz_send V hD j n (i + 1) (by omega) (by omega) L' c' p' q' h' l' a1 a3 a4 a5 a6) hl6 hDi.2 (qn l) C1) ?_
        rintro _ ⟨h2, rfl, C2⟩
        exact ⟨rfl, C2⟩
      · rintro ⟨y, h1⟩ ⟨e1, C1⟩
        dsimp only at e1 C1
        subst e1
        unfold F12_sends_129b
        dsimp only
        exact k_t i6t (k_s C1)
end
