/-! ===== a text: the reference's words and signs ===== -/
def ra (k : Nat) : Nat := if k < 5 then 59 + k else if k = 5 then 76 else if k = 6 then 75 else if k = 7 then 64 else 57 + k
theorem ra_len : ∀ k ∈ List.range 18, m_slen (ra k) = some (nI (m_sls (11 + k)).length) := by decide +kernel
theorem ra_ch : ∀ k ∈ List.range 18, ∀ i ∈ List.range (m_sls (11 + k)).length, m_sch (ra k) (nI i) = some ((m_sls (11 + k)).getD i 0) := by decide +kernel
theorem sls_ne : ∀ a ∈ List.range 18, ∀ b ∈ List.range 18, a = b ∨ ¬ (m_sls (11 + a)).length = (m_sls (11 + b)).length ∨ (List.range (m_sls (11 + a)).length).any (fun i => ! decide ((m_sls (11 + a)).getD i 0 = (m_sls (11 + b)).getD i 0)) = true := by decide +kernel
section
variable {T : Nat → Nat} {n q : Nat}
theorem lx_w_1 {a b r : Nat} (ha : a < 18) (hb : b < 18) (h1 : lx_w T (11 + a) q r) (h2 : lx_w T (11 + b) q r) : a = b := by
  have l : (m_sls (11 + a)).length = (m_sls (11 + b)).length := by have := h1.1; have := h2.1; omega
  rcases sls_ne a (List.mem_range.mpr ha) b (List.mem_range.mpr hb) with e | e | e
  · exact e
  · exact absurd l e
  · obtain ⟨i, hi, e⟩ := List.any_eq_true.mp e
    have hi := List.mem_range.mp hi
    have : (m_sls (11 + a)).getD i 0 = (m_sls (11 + b)).getD i 0 := (h1.2 i hi).symm.trans (h2.2 i (by omega))
    rw [decide_eq_true this] at e
    cases e
theorem lx_wn_m {r : Nat} : ∀ j k, (lx_wn T q r j k = 2 ∧ ∀ i, i < j → ¬ lx_w T (11 + (k + i)) q r) ∨ ∃ i, i < j ∧ lx_w T (11 + (k + i)) q r ∧ lx_wn T q r j k = nI (256 + (k + i))
  | 0, k => Or.inl ⟨rfl, fun i hi => absurd hi (Nat.not_lt_zero i)⟩
  | j + 1, k => by
    by_cases w : lx_w T (11 + k) q r
    · exact Or.inr ⟨0, by omega, w, by unfold lx_wn; rw [if_pos w]; rfl⟩
    · rcases lx_wn_m (r := r) j (k + 1) with ⟨e, f⟩ | ⟨i, hi, f, e⟩
      · refine Or.inl ⟨by unfold lx_wn; rw [if_neg w]; exact e, fun i hi => ?_⟩
        cases i with
        | zero => exact w
        | succ i => rw [show k + (i + 1) = k + 1 + i by omega]; exact f i (by omega)
      · refine Or.inr ⟨i + 1, by omega, by rw [show k + (i + 1) = k + 1 + i by omega]; exact f, ?_⟩
        unfold lx_wn
        rw [if_neg w, e, show k + (i + 1) = k + 1 + i by omega]
theorem lx_t_w (hT : ∀ j, j < n → T j < 256) {k : Nat} (hk : k < 18) : lx_t T n q = nI (256 + k) ↔ lx_w T (11 + k) q (lx_e lx_l T n q) := by
  constructor
  · intro h
    unfold lx_t at h
    split at h
    · exact absurd (nI_e (n := 0) (by decide) (by omega) h) (by omega)
    · next c =>
      split at h
      · split at h
        · exact absurd (nI_e (n := 1) (by decide) (by omega) h) (by omega)
        · exact absurd (nI_e (n := 2) (by decide) (by omega) h) (by omega)
      · split at h
        · rcases lx_wn_m (T := T) (q := q) (r := lx_e lx_l T n q) 18 0 with ⟨e, f⟩ | ⟨i, hi, f, e⟩
          · have h : lx_wn T q (lx_e lx_l T n q) 18 0 = nI (256 + k) := h
            rw [e] at h
            exact absurd (nI_e (n := 2) (by decide) (by omega) h) (by omega)
          · have h : lx_wn T q (lx_e lx_l T n q) 18 0 = nI (256 + k) := h
            rw [e] at h
            have := nI_e (by omega) (by omega) h
            rw [show k = 0 + i by omega]
            exact f
        · split at h
          · have := nI_e (by have := hT q (by omega); omega) (by omega) h
            have := hT q (by omega)
            omega
          · exact absurd (nI_e (n := 2) (by decide) (by omega) h) (by omega)
  · intro w
    obtain ⟨l0, l6⟩ := sls_ok k (List.mem_range.mpr hk)
    have s := lx_s lx_l T n q
    have w1 := w.1
    obtain ⟨qn, ql⟩ := s.2.1 q (Nat.le_refl _) (by omega)
    have nd : ¬ lx_d (T q) = true := fun z => by
      have := lx_dg.mp z
      have := lx_lt.mp ql
      omega
    unfold lx_t
    rw [if_neg (by omega), if_neg nd, if_pos ql]
    show lx_wn T q (lx_e lx_l T n q) 18 0 = _
    rcases lx_wn_m (T := T) (q := q) (r := lx_e lx_l T n q) 18 0 with ⟨e, f⟩ | ⟨i, hi, f, e⟩
    · exact absurd w (by have := f k hk; rwa [Nat.zero_add] at this)
    · rw [Nat.zero_add] at f e
      rw [e, lx_w_1 hi hk f w]
theorem lx_x_w {k : Nat} (hk : k < 18) (w : lx_w T (11 + k) q (lx_e lx_l T n q)) : lx_x T n q = lx_e lx_l T n q := by
  obtain ⟨l0, l6⟩ := sls_ok k (List.mem_range.mpr hk)
  have s := lx_s lx_l T n q
  have w1 := w.1
  obtain ⟨qn, ql⟩ := s.2.1 q (Nat.le_refl _) (by omega)
  have nd : ¬ lx_d (T q) = true := fun z => by
    have := lx_dg.mp z
    have := lx_lt.mp ql
    omega
  unfold lx_x
  rw [if_neg (by omega), if_neg nd, if_pos ql]
theorem lx_t_s (hT : ∀ j, j < n → T j < 256) {x : Nat} (hx : lx_sg x) : lx_t T n q = nI x ↔ q < n ∧ T q = x := by
  have x1 : 2 < x ∧ x < 48 ∨ 57 < x ∧ x < 97 := by unfold lx_sg at hx; omega
  constructor
  · intro h
    unfold lx_t at h
    split at h
    · exact absurd (nI_e (n := 0) (by decide) (by omega) h) (by omega)
    · next c =>
      split at h
      · split at h
        · exact absurd (nI_e (n := 1) (by decide) (by omega) h) (by omega)
        · exact absurd (nI_e (n := 2) (by decide) (by omega) h) (by omega)
      · split at h
        · rcases lx_wn_m (T := T) (q := q) (r := lx_e lx_l T n q) 18 0 with ⟨e, f⟩ | ⟨i, hi, f, e⟩
          · have h : lx_wn T q (lx_e lx_l T n q) 18 0 = nI x := h
            rw [e] at h
            exact absurd (nI_e (n := 2) (by decide) (by omega) h) (by omega)
          · have h : lx_wn T q (lx_e lx_l T n q) 18 0 = nI x := h
            rw [e] at h
            exact absurd (nI_e (by omega) (by omega) h) (by omega)
        · split at h
          · exact ⟨by omega, nI_e (by have := hT q (by omega); omega) (by omega) h⟩
          · exact absurd (nI_e (n := 2) (by decide) (by omega) h) (by omega)
  · rintro ⟨h1, h2⟩
    unfold lx_t
    rw [if_neg (by omega), if_neg (fun z => by have := lx_dg.mp z; omega), if_neg (fun z => by have := lx_lt.mp z; omega), if_pos (by rw [h2]; exact hx), h2]
theorem lx_x_s {x : Nat} (hx : lx_sg x) (h1 : q < n) (h2 : T q = x) : lx_x T n q = q + 1 := by
  have x1 : 2 < x ∧ x < 48 ∨ 57 < x ∧ x < 97 := by unfold lx_sg at hx; omega
  unfold lx_x
  rw [if_neg (by omega), if_neg (fun z => by have := lx_dg.mp z; omega), if_neg (fun z => by have := lx_lt.mp z; omega)]
end
section
variable {s0 : tz_S} {W : m_W} {T : Nat → Nat} {n p b d q : Nat} {Y : gY} {c : gC} {h : m_H}
theorem rg_word (P : rg s0 W T n Y p b d c h) (hn : n ≤ 400) (hT : ∀ j, j < n → T j < 256) (hp : p ≤ n) (hq : lx_k0 T n p = q) : k_ok (F12_word 317 h) (rg s0 W T n Y (lx_e lx_l T n q) q d c) := by
  unfold F12_word F12_word_0
  refine k_g P.io (k_b (rg_blanks P hn hT hp) ?_)
  rw [hq]
  intro h1 P1
  have hqn : q ≤ n := by rw [← hq]; exact (lx_s lx_b T n p).2.2.2 hp
  unfold F12_word_4
  refine wh_i (n := n) (fun (i : Nat) (z : m_H) => rg s0 W T n Y (q + i) q d c z ∧ q + i ≤ n ∧ ∀ j, q ≤ j → j < q + i → j < n ∧ lx_l (T j) = true) _ ?_ ?_ m_N 0 _ (N_lt (by omega)) (Nat.zero_le _) ⟨P1, hqn, fun j a b => absurd b (by omega)⟩
  · rintro i h1 hi ⟨P1, hpi, q2⟩
    unfold F12_word_4b
    refine k_e (rg_isAt P1 hn hT hpi (lo := 97) (hi := 122) (by decide) (by decide)) ?_
    by_cases e : q + i < n ∧ 97 ≤ T (q + i) ∧ T (q + i) ≤ 122
    · rw [if_pos e]
      refine k_f (by decide) (k_e P1.pt ?_)
      rw [nI_1]
      refine k_b P1.put8 (fun h2 P2 => k_s ⟨P2, by omega, fun j a b => ?_⟩)
      by_cases w : j = q + i
      · subst w; exact ⟨e.1, lx_lt.mpr e.2⟩
      · exact q2 j a (by omega)
    · rw [if_neg e]
      refine k_t rfl (k_s ?_)
      rw [show lx_e lx_l T n q = q + i from lx_u (by omega) q2 (by
        rcases Nat.lt_or_ge (q + i) n with a | a
        · right
          cases hb : lx_l (T (q + i)) with
          | false => rfl
          | true => exact absurd ⟨a, lx_lt.mp hb⟩ e
        · left; exact a)]
      exact P1
  · rintro h1 ⟨P1, hpi, q2⟩
    unfold F12_word_4b
    refine k_e (rg_isAt P1 hn hT hpi (lo := 97) (hi := 122) (by decide) (by decide)) ?_
    rw [if_neg (fun z => by omega)]
    refine k_t rfl (k_s ?_)
    rw [show lx_e lx_l T n q = q + n from lx_u (by omega) q2 (Or.inl (by omega))]
    exact P1
theorem rg_isWord (P : rg s0 W T n Y p b d c h) (hn : n ≤ 400) (hp : p ≤ n) (hb : b ≤ p) (hw : ∀ j, b ≤ j → j < p → lx_l (T j) = true) {k : Nat} (hk : k < 18) : F12_isWord 317 (ra k) h = some (if lx_w T (11 + k) b p then 1 else 0) := by
  obtain ⟨l0, l6⟩ := sls_ok k (List.mem_range.mpr hk)
  have el := ra_len k (List.mem_range.mpr hk)
  unfold F12_isWord F12_isWord_0 F12_isWord_21
  rw [P.io, gz_s, P.pt, bz_s, P.be, bz_s, el, bz_s, nI_sub hb]
  by_cases e : p = b + (m_sls (11 + k)).length
  · rw [iz_t (by congr 1; omega)]
    have Q : k_ok (F12_isWord_24 317 (ra k) 1 0 h) (fun v => v = if lx_w T (11 + k) b p then 1 else 0) := by
      unfold F12_isWord_24
      refine wh_i (n := (m_sls (11 + k)).length) (fun (i : Nat) (z : Int32 × Int32) => (z = (1, nI i) ∧ ∀ j, j < i → nI (T (b + j)) = (m_sls (11 + k)).getD j 0) ∨ (z.1 = 0 ∧ ¬ lx_w T (11 + k) b p)) _ ?_ ?_ m_N 0 _ (N_lt (by omega)) (Nat.zero_le _) (Or.inl ⟨rfl, fun j hj => absurd hj (Nat.not_lt_zero j)⟩)
      · rintro i ⟨z1, z2⟩ hi (⟨ez, ih⟩ | ⟨ez, hz⟩)
        · cases ez
          unfold F12_isWord_24b
          dsimp only
          have bt : b + i < n := by omega
          have lt := lx_lt.mp (hw (b + i) (by omega) (by omega))
          refine k_f (by decide) (k_e el (k_f (nI_ge hi (by omega)) (k_e P.g6 (k_e P.be ?_))))
          rw [nI_add]
          refine k_e (P.by hn bt) (k_e (ra_ch k (List.mem_range.mpr hk) i (List.mem_range.mpr hi)) ?_)
          rw [show sgb (T (b + i)) = nI (T (b + i)) from if_pos (by omega)]
          refine k_if (fun z => k_s (Or.inl ⟨by rw [nI_1], fun j hj => ?_⟩)) (fun z => k_s (Or.inr ⟨rfl, fun w => z (w.2 i hi)⟩))
          by_cases w : j = i
          · subst w; exact z
          · exact ih j (by omega)
        · dsimp only at ez
          subst ez
          unfold F12_isWord_24b
          dsimp only
          exact k_t rfl (k_g rfl (k_s (by show (0 : Int32) = _; rw [if_neg hz])))
      · rintro ⟨z1, z2⟩ (⟨ez, ih⟩ | ⟨ez, hz⟩)
        · cases ez
          unfold F12_isWord_24b
          dsimp only
          exact k_f (by decide) (k_e el (k_t (Int32.le_refl _) (k_g rfl (k_s (by show (1 : Int32) = _; rw [if_pos ⟨e, ih⟩])))))
        · dsimp only at ez
          subst ez
          unfold F12_isWord_24b
          dsimp only
          exact k_t rfl (k_g rfl (k_s (by show (0 : Int32) = _; rw [if_neg hz])))
    obtain ⟨v, ev, rfl⟩ := Q
    exact ev
  · rw [iz_f (fun z => e (by have := nI_e (by omega) (by omega) z; omega)), if_neg (fun w => e w.1)]
    have e0 : F12_isWord_24b 317 (ra k) h (0, 0) = some (.inr 0) := by
      unfold F12_isWord_24b
      rw [iz_t rfl, show m_rok .boolean 0 = true from rfl, gz_s]
    unfold F12_isWord_24
    have key : ∀ N, 0 < N → m_wh (fun s => F12_isWord_24b 317 (ra k) h s) N (0, 0) = some 0 := by
      intro N hN
      obtain ⟨N, rfl⟩ : ∃ M, N = M + 1 := ⟨N - 1, by omega⟩
      unfold m_wh
      rw [e0]
    exact key m_N (N_lt (by decide))
end
