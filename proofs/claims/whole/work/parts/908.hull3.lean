/-! ===== HULLS: the class's search, all of it ===== -/
section
variable {s0 : tz_S} {W : m_W} {k : Nat} {H R : Nat → Int} {D : Nat → Nat}
theorem cz_send1 (hk : k ≤ 6) (hH : ∀ m, 0 ≤ H m ∧ H m ≤ 5000) (hRb : ∀ l, 0 ≤ R l ∧ R l ≤ 100) {A : Nat → Int32 → Int32 → Int32 → m_H → Option m_H} {j i : Nat} (hij : i + (j + 1) = k) {L : Nat → Int} {c : Int} {p : Nat → Nat} {free lost : Int32} (hL : ∀ l, l < 6 → -5000 * i ≤ L l ∧ L l ≤ 100000) (hf : free.toInt = hR H i (j + 1)) (hl : lost.toInt = c) (hc : 0 ≤ c ∧ c ≤ 500000 * i)
    (IH : ∀ (L : Nat → Int) (c : Int) (p : Nat → Nat) (q : Option (Int × (Nat → Nat))) (h : m_H) (free lost : Int32), (∀ l, l < 6 → -5000 * ((i + 1 : Nat) : Int) ≤ L l ∧ L l ≤ 100000) → free.toInt = hR H (i + 1) j → lost.toInt = c → 0 ≤ c ∧ c ≤ 500000 * ((i + 1 : Nat) : Int) → hV q ≤ hBIG → hz_C s0 W k H R D L p (i + 1) q h → k_ok (A 216 (nI (i + 1)) free lost h) (hz_C s0 W k H R D L p (i + 1) (hS H R j (i + 1) L c p q)))
    {l : Nat} (hl6 : l < 6) {q : Option (Int × (Nat → Nat))} {h : m_H} (hq : hV q ≤ hBIG) (C : hz_C s0 W k H R D L p i q h) : k_ok (F4_send_113 A 216 (nI i) free lost (nI l) h) (fun z => ∃ h1, z = .inl (nI (l + 1), h1) ∧ hz_C s0 W k H R D L p i (hS H R j (i + 1) (hU L l (H i)) (c + H i * R l) (hP p i l) q) h1) := by
  have i6 : i < 6 := by omega
  have hik : i < k := by omega
  have bH := hH i
  have bR := hRb l
  have bL := hL l hl6
  unfold F4_send_113
  refine k_e (nz_gr216_2 C.N) (k_b (C.goal i6) ?_)
  intro h1 C1
  obtain ⟨a, ea, ha⟩ := C1.l hl6
  obtain ⟨b, eb, hb⟩ := C1.ho hk hik
  refine k_e (nz_gr216_5 C1.N) (k_e ea (k_e (nz_gr216_1 C1.N) (k_e eb (k_b (C1.lack hl6 (v := a - b) (x := L l - H i) ?_) ?_))))
  · rw [i_sub (by omega) (by omega), ha, hb]
  intro h2 C2
  rw [← hU_T] at C2
  obtain ⟨b2, eb2, hb2⟩ := C2.ho hk hik
  obtain ⟨r, er, hr⟩ := C2.r hl6
  refine k_e (nz_gr216_1 C2.N) (k_e eb2 (k_e (nz_gr216_1 C2.N) (k_e eb2 (k_e (nz_gr216_4 C2.N) (k_e er ?_)))))
  obtain ⟨m1, m2, m3⟩ := i_mulb (a := b2) (b := r) (A := 5000) (B := 100) (by omega) (by omega) (by omega) (by omega) (by decide)
  rw [hb2, hr] at m1 m2 m3
  have e1 : hR H i (j + 1) = H i + hR H (i + 1) j := rfl
  have hrn : ∀ jj ii, 0 ≤ hR H ii jj ∧ hR H ii jj ≤ 5000 * jj := by
    intro jj
    induction jj with
    | zero => intro ii; exact ⟨Int.le_refl _, Int.le_refl _⟩
    | succ n ih =>
      intro ii
      have := ih (ii + 1)
      have := hH ii
      show 0 ≤ H ii + hR H (ii + 1) n ∧ H ii + hR H (ii + 1) n ≤ 5000 * ((n + 1 : Nat) : Int)
      omega
  have hr1 := hrn j (i + 1)
  rw [nI_1]
  refine k_b (IH (hU L l (H i)) (c + H i * R l) (hP p i l) q h2 (free - b2) (lost + b2 * r) (fun m hm => ?_) ?_ ?_ ⟨by omega, by omega⟩ hq C2) ?_
  · have := hL m hm
    unfold hU
    split <;> omega
  · rw [i_sub (by omega) (by omega), hf, hb2, e1]
    omega
  · rw [i_add (by rw [m1]; omega) (by rw [m1]; omega), m1, hl]
  intro h3 C3
  obtain ⟨a3, ea3, ha3⟩ := C3.l hl6
  obtain ⟨b3, eb3, hb3⟩ := C3.ho hk hik
  have eU : hU L l (H i) l = L l - H i := if_pos rfl
  rw [eU] at ha3
  refine k_e (nz_gr216_5 C3.N) (k_e ea3 (k_e (nz_gr216_1 C3.N) (k_e eb3 (k_b (C3.lack hl6 (v := a3 + b3) (x := L l) ?_) ?_))))
  · rw [i_add (by omega) (by omega), ha3, hb3]
    omega
  intro h4 C4
  rw [hT_U] at C4
  exact k_s ⟨h4, by rw [nI_succ], C4.cut.unP⟩
theorem cz_send (hk : k ≤ 6) (hH : ∀ m, 0 ≤ H m ∧ H m ≤ 5000) (hRb : ∀ l, 0 ≤ R l ∧ R l ≤ 100) (hR0 : R 0 = 0) : ∀ (j n i : Nat), j + 1 ≤ n → i + j = k → ∀ (L : Nat → Int) (c : Int) (p : Nat → Nat) (q : Option (Int × (Nat → Nat))) (h : m_H) (free lost : Int32), (∀ l, l < 6 → -5000 * (i : Int) ≤ L l ∧ L l ≤ 100000) → free.toInt = hR H i j → lost.toInt = c → 0 ≤ c ∧ c ≤ 500000 * (i : Int) → hV q ≤ hBIG → hz_C s0 W k H R D L p i q h → k_ok (F4_send n 216 (nI i) free lost h) (hz_C s0 W k H R D L p i (hS H R j i L c p q))
  | j, 0, i, hn, _, _, _, _, _, _, _, _, _, _, _, _, _, _ => absurd hn (by omega)
  | j, n + 1, i, hn, hij, L, c, p, q, h, free, lost, hL, hf, hl, hc, hq, C => by
    have hHn : ∀ m, 0 ≤ H m := fun m => (hH m).1
    have hHR : ∀ m l, 0 ≤ H m * R l := fun m l => Int.mul_nonneg (hH m).1 (hRb l).1
    obtain ⟨v, ev, hv⟩ := C.v
    show k_ok (F4_sends (F4_send n) 216 (nI i) free lost h) _
    unfold F4_sends F4_send_0
    refine k_g (nz_io216 C.N) (k_e ev (k_if (fun q1 => k_s ?_) (fun q1 => ?_)))
    · rw [hS_p1 hHR hq (by rw [← hv, ← hl]; exact Int32.le_iff_toInt_le.mp q1)]
      exact C
    have q1' : c < hV q := by
      rw [← hv, ← hl]
      exact Int.not_le.mp (fun x => q1 (Int32.le_iff_toInt_le.mpr x))
    obtain ⟨w, ew, hw⟩ := cz_lacking C (fun l h6 => by have := hL l h6; omega)
    have p2 : ¬ w ≤ free → hS H R j i L c p q = q := fun q2 => hS_p2 hHn hq (by
      rw [← hf, ← hw]
      exact Int.not_le.mp (fun x => q2 (Int32.le_iff_toInt_le.mpr x)))
    refine k_e ew (k_if (fun q2 => ?_) (fun q2 => k_s (by rw [p2 q2]; exact C)))
    have q2' : hK L ≤ hR H i j := by
      rw [← hf, ← hw]
      exact Int32.le_iff_toInt_le.mp q2
    match j with
    | 0 =>
      have hik : i = k := by omega
      subst hik
      have e : hS H R 0 i L c p q = some (c, p) := by
        unfold hS
        exact if_pos ⟨hK_F.mpr q2', q1'⟩
      rw [e]
      exact k_e C.cn (k_t (Int32.le_refl _) (cz_send43 C hk hl))
    | j + 1 =>
      have hik : i < k := by omega
      have i6 : i < 6 := by omega
      refine k_e C.cn (k_f (nI_ge hik (by omega)) (k_e (nz_gr216_1 C.N) (k_e (nz_le218 C.N) (k_f (i6f i6) (k_e (nz_gr216_2 C.N) (k_e (nz_le219 C.N) (k_t (show nI i < 6 from nI_lt (b := 6) i6 (by decide)) ?_)))))))
      rw [hW_6]
      unfold F4_send_78
      refine wh_i (n := 6) (fun (l : Nat) (z : Int32 × m_H) => z.1 = nI l ∧ hz_C s0 W k H R D L p i (hW H R j i L c p q l) z.2) _ ?_ ?_ m_N 0 _ (N_lt (by decide)) (Nat.zero_le _) ⟨rfl, C⟩
      · rintro l ⟨y, h1⟩ hl6 ⟨e1, C1⟩
        dsimp only at e1 C1
        subst e1
        have hq1 := (hW_le (H := H) (R := R) (j := j) (i := i) (L := L) (c := c) (p := p) hq l).1
        have go : k_ok (F4_send_113 (F4_send n) 216 (nI i) free lost (nI l) h1) (m_KK (fun (z : Int32 × m_H) => z.1 = nI (l + 1) ∧ hz_C s0 W k H R D L p i (hW H R j i L c p q (l + 1)) z.2) (hz_C s0 W k H R D L p i (hW H R j i L c p q 6))) := by
          refine k_m (cz_send1 hk hH hRb hij hL hf hl hc (fun L' c' p' q' h' f' l' a1 a2 a3 a4 a5 a6 => cz_send hk hH hRb hR0 j n (i + 1) (by omega) (by omega) L' c' p' q' h' f' l' a1 a2 a3 a4 a5 a6) hl6 hq1 C1) ?_
          rintro _ ⟨h2, rfl, C2⟩
          exact ⟨rfl, C2⟩
        obtain ⟨v1, ev1, hv1⟩ := C1.l hl6
        unfold F4_send_78b
        dsimp only
        refine k_e (nz_gr216_5 C1.N) (k_e (nz_le222 C1.N) (k_f (i6f hl6) (k_e (nz_gr216_4 C1.N) (k_e (nz_le221 C1.N) (k_f (i6f hl6) (k_if (fun z0 => go) (fun z0 => ?_)))))))
        refine k_e (nz_gr216_5 C1.N) (k_e ev1 (k_if (fun z1 => k_s ⟨(nI_succ l).symm, ?_⟩) (fun z1 => go)))
        have l1 : 1 ≤ l := by
          rcases Nat.eq_zero_or_pos l with x | x
          · subst x; exact absurd rfl z0
          · exact x
        rw [hS_p3 hHn hR0 hHR hq l1 (by rw [← hv1]; exact Int32.le_iff_toInt_le.mp z1)]
        exact C1
      · rintro ⟨y, h1⟩ ⟨e1, C1⟩
        dsimp only at e1 C1
        subst e1
        unfold F4_send_78b
        dsimp only
        exact k_e (nz_gr216_5 C1.N) (k_e (nz_le222 C1.N) (k_t i6t (k_s C1)))
end
