/-! ===== a text: its things, as mathematics ===== -/
def lx_d (b : Nat) : Bool := decide (48 ≤ b) && decide (b ≤ 57)
def lx_l (b : Nat) : Bool := decide (97 ≤ b) && decide (b ≤ 122)
def lx_b (b : Nat) : Bool := decide (b = 32)
def lx_r (P : Nat → Bool) (T : Nat → Nat) (n : Nat) : Nat → Nat → Nat
  | 0, q => q
  | f + 1, q => if q < n ∧ P (T q) = true then lx_r P T n f (q + 1) else q
def lx_e (P : Nat → Bool) (T : Nat → Nat) (n q : Nat) : Nat := lx_r P T n n q
theorem lx_ru {P : Nat → Bool} {T : Nat → Nat} {n : Nat} : ∀ f q r, n ≤ q + f → q ≤ r → (∀ j, q ≤ j → j < r → j < n ∧ P (T j) = true) → (n ≤ r ∨ P (T r) = false) → lx_r P T n f q = r
  | 0, q, r, hf, hq, h1, h2 => by
    rcases Nat.eq_or_lt_of_le hq with e | e
    · exact e
    · have := (h1 q (Nat.le_refl _) e).1
      omega
  | f + 1, q, r, hf, hq, h1, h2 => by
    unfold lx_r
    rcases Nat.eq_or_lt_of_le hq with e | e
    · subst e
      rw [if_neg (fun z => h2.elim (fun y => by omega) (fun y => by rw [z.2] at y; cases y))]
    · rw [if_pos (h1 q (Nat.le_refl _) e)]
      exact lx_ru f (q + 1) r (by omega) e (fun j a b => h1 j (by omega) b) h2
theorem lx_u {P : Nat → Bool} {T : Nat → Nat} {n q r : Nat} (hq : q ≤ r) (h1 : ∀ j, q ≤ j → j < r → j < n ∧ P (T j) = true) (h2 : n ≤ r ∨ P (T r) = false) : lx_e P T n q = r := lx_ru n q r (by omega) hq h1 h2
theorem lx_rs {P : Nat → Bool} {T : Nat → Nat} {n : Nat} : ∀ f q, n ≤ q + f → q ≤ lx_r P T n f q ∧ (∀ j, q ≤ j → j < lx_r P T n f q → j < n ∧ P (T j) = true) ∧ (n ≤ lx_r P T n f q ∨ P (T (lx_r P T n f q)) = false) ∧ (q ≤ n → lx_r P T n f q ≤ n)
  | 0, q, hf => ⟨Nat.le_refl _, fun j a b => absurd b (by show ¬ j < q; omega), Or.inl (by show n ≤ q; omega), fun h => h⟩
  | f + 1, q, hf => by
    unfold lx_r
    by_cases c : q < n ∧ P (T q) = true
    · rw [if_pos c]
      obtain ⟨a1, a2, a3, a4⟩ := lx_rs (P := P) (T := T) (n := n) f (q + 1) (by omega)
      refine ⟨by omega, fun j b1 b2 => ?_, a3, fun _ => a4 (by omega)⟩
      by_cases e : j = q
      · subst e; exact c
      · exact a2 j (by omega) b2
    · rw [if_neg c]
      refine ⟨Nat.le_refl _, fun j a b => absurd b (by omega), ?_, fun h => h⟩
      by_cases e : q < n
      · right
        cases h : P (T q) with
        | false => rfl
        | true => exact absurd ⟨e, h⟩ c
      · left; omega
theorem lx_s (P : Nat → Bool) (T : Nat → Nat) (n q : Nat) : q ≤ lx_e P T n q ∧ (∀ j, q ≤ j → j < lx_e P T n q → j < n ∧ P (T j) = true) ∧ (n ≤ lx_e P T n q ∨ P (T (lx_e P T n q)) = false) ∧ (q ≤ n → lx_e P T n q ≤ n) := lx_rs n q (by omega)
/-- behind blanks -/
def lx_k0 (T : Nat → Nat) (n q : Nat) : Nat := lx_e lx_b T n q
theorem lx_kk {T : Nat → Nat} {n q : Nat} (h : n ≤ q ∨ lx_b (T q) = false) : lx_k0 T n q = q := lx_u (Nat.le_refl _) (fun j a b => absurd b (by omega)) h
abbrev lx_w (T : Nat → Nat) (a q r : Nat) : Prop := r = q + (m_sls a).length ∧ ∀ i, i < (m_sls a).length → nI (T (q + i)) = (m_sls a).getD i 0
noncomputable def lx_wn (T : Nat → Nat) (q r : Nat) : Nat → Nat → Int32
  | 0, _ => 2
  | j + 1, k => if lx_w T (11 + k) q r then nI (256 + k) else lx_wn T q r j (k + 1)
noncomputable def lx_wd (T : Nat → Nat) (q r : Nat) : Int32 := lx_wn T q r 18 0
abbrev lx_sg (b : Nat) : Prop := b = 59 ∨ b = 60 ∨ b = 62 ∨ b = 43 ∨ b = 40 ∨ b = 41
/-- the thing that begins at q, where it ends, its number -/
noncomputable def lx_t (T : Nat → Nat) (n q : Nat) : Int32 := if n ≤ q then 0 else if lx_d (T q) = true then (if lx_e lx_d T n q - q ≤ 5 then 1 else 2) else if lx_l (T q) = true then lx_wd T q (lx_e lx_l T n q) else if lx_sg (T q) then nI (T q) else 2
def lx_x (T : Nat → Nat) (n q : Nat) : Nat := if n ≤ q then q else if lx_d (T q) = true then lx_e lx_d T n q else if lx_l (T q) = true then lx_e lx_l T n q else q + 1
def lx_va (T : Nat → Nat) (q i : Nat) : Int32 := sp_it (fun j a => if j < 5 then a * 10 + (nI (T (q + j)) - 48) else a) i 0
def lx_v (T : Nat → Nat) (n q : Nat) : Int32 := if n ≤ q then 0 else if lx_d (T q) = true then lx_va T q (lx_e lx_d T n q - q) else 0
/-- the next thing -/
def lx_n (T : Nat → Nat) (n q : Nat) : Nat := lx_k0 T n (lx_x T n q)
def lx_q (T : Nat → Nat) (n : Nat) : Nat → Nat
  | 0 => lx_k0 T n 0
  | i + 1 => lx_n T n (lx_q T n i)
section
variable {T : Nat → Nat} {n : Nat}
theorem lx_e_lt {P : Nat → Bool} {q : Nat} (h : q < n) (hp : P (T q) = true) : q < lx_e P T n q := by
  have := lx_s P T n q
  rcases Nat.eq_or_lt_of_le this.1 with e | e
  · rw [← e] at this
    rcases this.2.2.1 with y | y
    · omega
    · rw [hp] at y; cases y
  · exact e
theorem lx_x_lt {q : Nat} (h : q < n) : q < lx_x T n q ∧ lx_x T n q ≤ n := by
  unfold lx_x
  rw [if_neg (by omega)]
  split
  · next c => exact ⟨lx_e_lt h c, (lx_s lx_d T n q).2.2.2 (by omega)⟩
  · split
    · next c => exact ⟨lx_e_lt h c, (lx_s lx_l T n q).2.2.2 (by omega)⟩
    · omega
theorem lx_n_lt {q : Nat} (h : q < n) : q < lx_n T n q ∧ lx_n T n q ≤ n := by
  obtain ⟨a, b⟩ := lx_x_lt (T := T) h
  have := lx_s lx_b T n (lx_x T n q)
  exact ⟨Nat.lt_of_lt_of_le a this.1, this.2.2.2 b⟩
theorem lx_n_end {q : Nat} (h : n ≤ q) : lx_n T n q = q := by
  have e : lx_x T n q = q := if_pos h
  unfold lx_n
  rw [e]
  exact lx_kk (Or.inl h)
theorem lx_n_le {q : Nat} (h : q ≤ n) : q ≤ lx_n T n q ∧ lx_n T n q ≤ n := by
  rcases Nat.eq_or_lt_of_le h with e | e
  · subst e
    rw [lx_n_end (Nat.le_refl _)]
    exact ⟨Nat.le_refl _, Nat.le_refl _⟩
  · have := lx_n_lt (T := T) e
    omega
theorem lx_q_le : ∀ i, lx_q T n i ≤ n
  | 0 => (lx_s lx_b T n 0).2.2.2 (Nat.zero_le _)
  | i + 1 => (lx_n_le (lx_q_le i)).2
/-- a place where a thing begins -/
def lx_p (T : Nat → Nat) (n q : Nat) : Prop := q ≤ n ∧ (n ≤ q ∨ lx_b (T q) = false)
theorem lx_p_k {q : Nat} (h : q ≤ n) : lx_p T n (lx_k0 T n q) := by
  have := lx_s lx_b T n q
  exact ⟨this.2.2.2 h, this.2.2.1⟩
theorem lx_p_n {q : Nat} (h : q ≤ n) : lx_p T n (lx_n T n q) := by
  refine lx_p_k ?_
  rcases Nat.eq_or_lt_of_le h with e | e
  · have : lx_x T n q = q := if_pos (by omega)
    omega
  · exact (lx_x_lt e).2
theorem lx_p_q : ∀ i, lx_p T n (lx_q T n i)
  | 0 => lx_p_k (Nat.zero_le _)
  | i + 1 => lx_p_n (lx_q_le i)
theorem lx_q_i {i : Nat} (h : lx_q T n i < n) : i ≤ lx_q T n i := by
  induction i with
  | zero => exact Nat.zero_le _
  | succ i ih =>
    have h0 : lx_q T n i < n := by
      rcases Nat.lt_or_ge (lx_q T n i) n with a | a
      · exact a
      · have : lx_q T n (i + 1) = lx_q T n i := lx_n_end a
        omega
    have := ih h0
    have := (lx_n_lt (T := T) h0).1
    show i + 1 ≤ lx_n T n (lx_q T n i)
    omega
theorem lx_va_b {q : Nat} : ∀ i, (∀ j, j < i → 48 ≤ T (q + j) ∧ T (q + j) ≤ 57) → i ≤ 5 → ∃ v, v < 10 ^ i ∧ lx_va T q i = nI v
  | 0, _, _ => ⟨0, by decide, rfl⟩
  | i + 1, h, hi => by
    obtain ⟨v, hv, e⟩ := lx_va_b i (fun j hj => h j (by omega)) (by omega)
    have b := h i (by omega)
    refine ⟨v * 10 + (T (q + i) - 48), ?_, ?_⟩
    · rw [Nat.pow_succ]; omega
    · show (if i < 5 then lx_va T q i * 10 + (nI (T (q + i)) - 48) else _) = _
      rw [if_pos (by omega), e]
      show nI v * nI 10 + (nI (T (q + i)) - nI 48) = _
      rw [nI_sub b.1, nI_mul, nI_add]
theorem lx_va_s {q : Nat} : ∀ m, lx_va T q (5 + m) = lx_va T q 5
  | 0 => rfl
  | m + 1 => by
    show (if 5 + m < 5 then _ else lx_va T q (5 + m)) = _
    rw [if_neg (by omega), lx_va_s m]
theorem lx_dg {b : Nat} : lx_d b = true ↔ 48 ≤ b ∧ b ≤ 57 := by
  unfold lx_d
  rw [Bool.and_eq_true, decide_eq_true_eq, decide_eq_true_eq]
theorem lx_lt {b : Nat} : lx_l b = true ↔ 97 ≤ b ∧ b ≤ 122 := by
  unfold lx_l
  rw [Bool.and_eq_true, decide_eq_true_eq, decide_eq_true_eq]
theorem lx_bl {b : Nat} : lx_b b = true ↔ b = 32 := by
  unfold lx_b
  rw [decide_eq_true_eq]
theorem lx_v_b {q : Nat} (h : lx_t T n q = 1) : ∃ v, v ≤ 99999 ∧ lx_v T n q = nI v := by
  unfold lx_t at h
  unfold lx_v
  by_cases c : n ≤ q
  · rw [if_pos c] at h; exact absurd h (by decide)
  · rw [if_neg c] at h ⊢
    by_cases d : lx_d (T q) = true
    · rw [if_pos d] at h ⊢
      by_cases l : lx_e lx_d T n q - q ≤ 5
      · obtain ⟨v, hv, e⟩ := lx_va_b (T := T) (q := q) (lx_e lx_d T n q - q) (fun j hj => lx_dg.mp ((lx_s lx_d T n q).2.1 (q + j) (by omega) (by omega)).2) l
        refine ⟨v, ?_, e⟩
        have : 10 ^ (lx_e lx_d T n q - q) ≤ 10 ^ 5 := Nat.pow_le_pow_right (by decide) l
        have e5 : 10 ^ 5 = 100000 := rfl
        omega
      · rw [if_neg l] at h; exact absurd h (by decide)
    · rw [if_neg d]
      exact ⟨0, by decide, rfl⟩
end
