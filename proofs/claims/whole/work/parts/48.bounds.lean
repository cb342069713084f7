/-! ===== bounds of what lies where ===== -/
theorem si_nn {f : Nat → Int} : ∀ {n : Nat}, (∀ i, i < n → 0 ≤ f i) → 0 ≤ sp_it (fun i a => a + f i) n 0
  | 0, _ => Int.le_refl 0
  | n + 1, h => by
    have h1 := si_nn (n := n) (fun i hi => h i (by omega))
    have h2 := h n (by omega)
    show 0 ≤ sp_it (fun i a => a + f i) n 0 + f n
    omega
theorem si_le {f : Nat → Int} : ∀ {n : Nat}, (∀ i, i < n → 0 ≤ f i) → ∀ i, i < n → f i ≤ sp_it (fun i a => a + f i) n 0
  | 0, _, i, hi => absurd hi (Nat.not_lt_zero i)
  | n + 1, h, i, hi => by
    have h1 := si_nn (n := n) (fun i hi => h i (by omega))
    have h2 := h n (by omega)
    show f i ≤ sp_it (fun i a => a + f i) n 0 + f n
    by_cases q : i = n
    · subst q; omega
    · have := si_le (n := n) (fun i hi => h i (by omega)) i (by omega)
      omega
theorem si_ub {f : Nat → Int} {b : Int} : ∀ {n : Nat}, (∀ i, i < n → f i ≤ b) → sp_it (fun i a => a + f i) n 0 ≤ n * b
  | 0, _ => by simp [sp_it]
  | n + 1, h => by
    have h1 := si_ub (n := n) (fun i hi => h i (by omega))
    have h2 := h n (by omega)
    show sp_it (fun i a => a + f i) n 0 + f n ≤ ((n + 1 : Nat) : Int) * b
    have e : ((n + 1 : Nat) : Int) * b = n * b + b := by rw [Int.natCast_add, Int.add_mul]; simp
    omega
theorem i_nn {x : Int32} (h : 0 ≤ x) : 0 ≤ x.toInt := Int32.le_iff_toInt_le.mp h
theorem i_add {a b : Int32} (h1 : -2147483648 ≤ a.toInt + b.toInt) (h2 : a.toInt + b.toInt < 2147483648) : (a + b).toInt = a.toInt + b.toInt := by
  rw [Int32.toInt_add]
  exact Int.bmod_eq_of_le (by omega) (by omega)
theorem i_sub {a b : Int32} (h1 : -2147483648 ≤ a.toInt - b.toInt) (h2 : a.toInt - b.toInt < 2147483648) : (a - b).toInt = a.toInt - b.toInt := by
  rw [Int32.toInt_sub]
  exact Int.bmod_eq_of_le (by omega) (by omega)
theorem vz.car {W : m_W} (V : vz W) {s t : Nat} (hs : s < wz_n W 4) : 0 ≤ sp_car W s t := by
  unfold sp_car
  refine si_nn (f := fun j => if W 4 s (7 + 2 * j) = nI t then (W 4 s (8 + 2 * j)).toInt else 0) (fun j hj => ?_)
  split
  · exact i_nn (V.2.2.2.2.2.1 s hs j hj).2
  · exact Int.le_refl 0
theorem vz.pl {W : m_W} (V : vz W) {t p : Nat} (ht : t < wz_n W 2) (hp : p < 9) (h2 : ¬ p = 2) : 0 ≤ (W 2 t (10 + p)).toInt ∧ (W 2 t (10 + p)).toInt ≤ 1000 := by
  have hl := V.lot ht
  have hpl := hl.2.2.2.2.2.2.2.2.2.2.2.2.2
  refine ⟨i_nn (hpl p hp h2), ?_⟩
  have hc := V.2.2.2.2.2.2.1 t ht
  have h1 : (W 2 t 1).toInt ≤ 1000 := Int32.le_iff_toInt_le.mp hl.2.1.2
  have h3 : 0 ≤ sp_it (fun s a => a + sp_car W s t) (wz_n W 4) 0 := si_nn (fun s hs => V.car hs)
  have h4 := si_le (f := fun p => if p = 2 then 0 else (W 2 t (10 + p)).toInt) (n := 9) (fun i hi => by
    split
    · exact Int.le_refl 0
    · next q => exact i_nn (hpl i hi q)) p hp
  rw [if_neg h2] at h4
  omega
/-- sums of a few small numbers -/
theorem s32 {f : Nat → Int32} {b : Int} (hb : 0 ≤ b) : ∀ {n : Nat}, n * b < 2147483648 → (∀ i, i < n → 0 ≤ (f i).toInt ∧ (f i).toInt ≤ b) → (sp_it (fun i a => a + f i) n 0).toInt = sp_it (fun i a => a + (f i).toInt) n 0 ∧ 0 ≤ sp_it (fun i a => a + (f i).toInt) n 0 ∧ sp_it (fun i a => a + (f i).toInt) n 0 ≤ n * b
  | 0, _, _ => ⟨rfl, Int.le_refl 0, by simp [sp_it]⟩
  | n + 1, hn, h => by
    have e : ((n + 1 : Nat) : Int) * b = n * b + b := by rw [Int.natCast_add, Int.add_mul]; simp
    obtain ⟨h1, h2, h3⟩ := s32 hb (n := n) (by omega) (fun i hi => h i (by omega))
    have h4 := h n (by omega)
    show (sp_it (fun i a => a + f i) n 0 + f n).toInt = sp_it (fun i a => a + (f i).toInt) n 0 + (f n).toInt ∧ 0 ≤ sp_it (fun i a => a + (f i).toInt) n 0 + (f n).toInt ∧ sp_it (fun i a => a + (f i).toInt) n 0 + (f n).toInt ≤ ((n + 1 : Nat) : Int) * b
    refine ⟨?_, by omega, by omega⟩
    rw [i_add (by omega) (by omega), h1]
theorem s64 {f : Nat → Int32} {b : Int} (hb : 0 ≤ b) : ∀ {n : Nat}, n * b < 2147483648 → (∀ i, i < n → 0 ≤ (f i).toInt ∧ (f i).toInt ≤ b) → (sp_it (fun i a => a + f i) n 0).toInt64 = sp_it (fun i a => a + (f i).toInt64) n 0 := by
  intro n hn h
  have key : ∀ m, m ≤ n → (sp_it (fun i a => a + (f i).toInt64) m (0 : Int64)).toInt = sp_it (fun i a => a + (f i).toInt) m 0 := by
    intro m
    induction m with
    | zero => intro _; rfl
    | succ m ih =>
      intro hm
      have e : ((m + 1 : Nat) : Int) * b = m * b + b := by rw [Int.natCast_add, Int.add_mul]; simp
      have e2 : ((m + 1 : Nat) : Int) * b ≤ n * b := Int.mul_le_mul_of_nonneg_right (by omega) hb
      obtain ⟨-, h2, h3⟩ := s32 hb (n := m) (by omega) (fun i hi => h i (by omega))
      have h4 := h m (by omega)
      have ih := ih (by omega)
      show (sp_it (fun i a => a + (f i).toInt64) m 0 + (f m).toInt64).toInt = sp_it (fun i a => a + (f i).toInt) m 0 + (f m).toInt
      rw [Int64.toInt_add, Int32.toInt_toInt64, ih]
      exact Int.bmod_eq_of_le (by omega) (by omega)
  apply Int64.toInt_inj.mp
  rw [Int32.toInt_toInt64, key n (Nat.le_refl n), (s32 hb hn h).1]
theorem si_if {α : Type} {f : Nat → α → α} {g : Nat → α → α} : ∀ {n : Nat} {a : α}, (∀ i, i < n → ∀ x, f i x = g i x) → sp_it f n a = sp_it g n a
  | 0, _, _ => rfl
  | n + 1, a, h => by
    show f n (sp_it f n a) = g n (sp_it g n a)
    rw [h n (by omega), si_if (n := n) (fun i hi => h i (by omega))]
theorem si64_add {f g : Nat → Int64} : ∀ {n : Nat}, sp_it (fun i a => a + (f i + g i)) n 0 = sp_it (fun i a => a + f i) n 0 + sp_it (fun i a => a + g i) n 0
  | 0 => rfl
  | n + 1 => by
    show sp_it (fun i a => a + (f i + g i)) n 0 + (f n + g n) = sp_it (fun i a => a + f i) n 0 + f n + (sp_it (fun i a => a + g i) n 0 + g n)
    rw [si64_add (n := n), Int64.add_assoc, Int64.add_assoc, ← Int64.add_assoc (sp_it (fun i a => a + g i) n 0) (f n) (g n), Int64.add_comm (sp_it (fun i a => a + g i) n 0) (f n), Int64.add_assoc]
theorem si64_0 : ∀ {n : Nat}, sp_it (fun _ (a : Int64) => a + 0) n 0 = 0
  | 0 => rfl
  | n + 1 => by
    show sp_it (fun _ (a : Int64) => a + 0) n 0 + 0 = 0
    rw [si64_0 (n := n)]
    rfl
/-- sums may be taken in either order -/
theorem si64_sw {f : Nat → Nat → Int64} : ∀ {n m : Nat}, sp_it (fun i a => a + sp_it (fun j b => b + f i j) m 0) n 0 = sp_it (fun j b => b + sp_it (fun i a => a + f i j) n 0) m 0
  | 0, m => (si64_0 (n := m)).symm
  | n + 1, m => by
    show sp_it (fun i a => a + sp_it (fun j b => b + f i j) m 0) n 0 + sp_it (fun j b => b + f n j) m 0 = sp_it (fun j b => b + (sp_it (fun i a => a + f i j) n 0 + f n j)) m 0
    rw [si64_sw (n := n), ← si64_add]
theorem si64_one {m : Nat} {x : Int64} : ∀ {n : Nat}, sp_it (fun t a => a + (if m = t then x else 0)) n 0 = if m < n then x else 0
  | 0 => rfl
  | n + 1 => by
    show sp_it (fun t a => a + (if m = t then x else 0)) n 0 + (if m = n then x else 0) = _
    rw [si64_one (n := n)]
    by_cases q : m = n
    · rw [if_pos q, if_neg (by omega), if_pos (by omega), Int64.zero_add]
    · rw [if_neg q, Int64.add_zero]
      by_cases q2 : m < n
      · rw [if_pos q2, if_pos (by omega)]
      · rw [if_neg q2, if_neg (by omega)]
