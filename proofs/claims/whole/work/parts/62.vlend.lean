/-! ===== what always holds still holds after a lending ===== -/
theorem vz_lot_cong {f g : Nat → Int32} (h : vz_lot f) (e : ∀ x, g x = f x) : vz_lot g := by
  rw [show g = f from funext e]
  exact h
theorem sp_car_cong {W W' : m_W} {s t : Nat} (e : ∀ c, W' 4 s c = W 4 s c) : sp_car W' s t = sp_car W s t := by
  unfold sp_car
  rw [e, show (fun (j : Nat) (a : Int) => a + (if W' 4 s (7 + 2 * j) = nI t then (W' 4 s (8 + 2 * j)).toInt else 0)) = (fun (j : Nat) (a : Int) => a + (if W 4 s (7 + 2 * j) = nI t then (W 4 s (8 + 2 * j)).toInt else 0)) from funext fun j => funext fun a => by rw [e, e]]
def sp_pls (W : m_W) (t : Nat) : Int := sp_it (fun p a => a + (if p = 2 then 0 else (W 2 t (10 + p)).toInt)) 9 0
def sp_cars (W : m_W) (t : Nat) : Int := sp_it (fun s a => a + sp_car W s t) (wz_n W 4) 0
theorem sp_pls_e {W : m_W} {t : Nat} : sp_pls W t = 0 + (W 2 t 10).toInt + (W 2 t 11).toInt + 0 + (W 2 t 13).toInt + (W 2 t 14).toInt + (W 2 t 15).toInt + (W 2 t 16).toInt + (W 2 t 17).toInt + (W 2 t 18).toInt := rfl
theorem sp_cars_cong {W W' : m_W} {t : Nat} (e : ∀ s c, W' 4 s c = W 4 s c) (en : wz_n W' 4 = wz_n W 4) : sp_cars W' t = sp_cars W t := by
  unfold sp_cars
  rw [en, show (fun (s : Nat) (a : Int) => a + sp_car W' s t) = (fun s a => a + sp_car W s t) from funext fun s => funext fun a => by rw [sp_car_cong (e s)]]
section
variable {W : m_W}
theorem vz.cons (V : vz W) {t : Nat} (ht : t < wz_n W 2) : sp_pls W t + sp_cars W t = (W 2 t 1).toInt := V.2.2.2.2.2.2.1 t ht
theorem vz.cars (V : vz W) {t : Nat} : 0 ≤ sp_cars W t := si_nn (fun s hs => V.car hs)
theorem vz.pls (V : vz W) {t : Nat} (ht : t < wz_n W 2) : 0 ≤ (W 2 t 10).toInt ∧ 0 ≤ (W 2 t 11).toInt ∧ 0 ≤ (W 2 t 13).toInt ∧ 0 ≤ (W 2 t 14).toInt ∧ 0 ≤ (W 2 t 15).toInt ∧ 0 ≤ (W 2 t 16).toInt ∧ 0 ≤ (W 2 t 17).toInt ∧ 0 ≤ (W 2 t 18).toInt ∧ 0 ≤ (W 2 t 1).toInt ∧ (W 2 t 1).toInt ≤ 1000 := by
  have h := V.lot ht
  have p := fun p hp h2 => (V.pl (t := t) (p := p) ht hp h2).1
  exact ⟨p 0 (by decide) (by decide), p 1 (by decide) (by decide), p 3 (by decide) (by decide), p 4 (by decide) (by decide), p 5 (by decide) (by decide), p 6 (by decide) (by decide), p 7 (by decide) (by decide), p 8 (by decide) (by decide), i_nn h.2.1.1, Int32.le_iff_toInt_le.mp h.2.1.2⟩
theorem sp_cars_0 (V : vz W) {t : Nat} (ht : wz_n W 2 ≤ t) (h2 : t < 2 ^ 31) : sp_cars W t = 0 := by
  have hn : wz_n W 2 ≤ 100 := V.c (k := 2) (by omega)
  have z : ∀ {f : Nat → Int} {n : Nat}, (∀ i, i < n → f i = 0) → sp_it (fun i a => a + f i) n 0 = 0 := by
    intro f n
    induction n with
    | zero => intro _; rfl
    | succ n ih =>
      intro h
      show sp_it (fun i a => a + f i) n 0 + f n = 0
      rw [ih (fun i hi => h i (by omega)), h n (by omega)]
      rfl
  unfold sp_cars
  refine z (fun s hs => ?_)
  unfold sp_car
  refine z (fun j hj => ?_)
  obtain ⟨t', ht', et⟩ := V.ship hs hj
  rw [et, if_neg (fun q => by have := nI_e (by omega) h2 q; omega)]
/-- what was taken of each lot -/
theorem sp_tk_row (V : vz W) {t c : Int32} (hc : 0 ≤ c) : ∀ k, k ≤ wz_n W 2 → 0 ≤ (sp_tk W t c k).1 ∧ ∀ i, i < k → ∃ m : Int32, 0 ≤ m.toInt ∧ m.toInt ≤ (W 2 i 11).toInt ∧ (¬ m = 0 → W 2 i 2 = 0 ∧ W 2 i 0 = t) ∧ (sp_tk W t c k).2 2 i 1 = W 2 i 1 - m ∧ (sp_tk W t c k).2 2 i 11 = W 2 i 11 - m
  | 0, _ => ⟨hc, fun i hi => absurd hi (Nat.not_lt_zero i)⟩
  | k + 1, hk => by
    obtain ⟨a, b⟩ := sp_tk_row V hc k (by omega)
    have hs : sp_tk W t c (k + 1) = sp_tks t k (sp_tk W t c k) := rfl
    have e1 : ∀ x, (sp_tk W t c k).2 2 k x = W 2 k x := fun x => sp_tk_r k (Nat.le_refl _)
    have p := V.pls (show k < wz_n W 2 by omega)
    have stay : sp_tk W t c (k + 1) = sp_tk W t c k → 0 ≤ (sp_tk W t c (k + 1)).1 ∧ ∀ i, i < k + 1 → ∃ m : Int32, 0 ≤ m.toInt ∧ m.toInt ≤ (W 2 i 11).toInt ∧ (¬ m = 0 → W 2 i 2 = 0 ∧ W 2 i 0 = t) ∧ (sp_tk W t c (k + 1)).2 2 i 1 = W 2 i 1 - m ∧ (sp_tk W t c (k + 1)).2 2 i 11 = W 2 i 11 - m := by
      intro e
      rw [e]
      refine ⟨a, fun i hi => ?_⟩
      by_cases q : i = k
      · subst q
        exact ⟨0, by decide, p.2.1, fun x => absurd rfl x, by rw [e1, Int32.sub_zero], by rw [e1, Int32.sub_zero]⟩
      · exact b i (by omega)
    by_cases q1 : (sp_tk W t c k).1 ≤ 0
    · exact stay (by rw [hs, sp_tks, if_pos q1])
    by_cases q2 : (sp_tk W t c k).2 2 k 2 = 0 ∧ (sp_tk W t c k).2 2 k 0 = t
    case neg => exact stay (by rw [hs, sp_tks, if_neg q1, if_neg q2])
    rw [hs, sp_tks, if_neg q1, if_pos q2]
    have a' := i_nn a
    have m1 : 0 ≤ (m_min (sp_tk W t c k).1 ((sp_tk W t c k).2 2 k 11)).toInt ∧ (m_min (sp_tk W t c k).1 ((sp_tk W t c k).2 2 k 11)).toInt ≤ (W 2 k 11).toInt ∧ (m_min (sp_tk W t c k).1 ((sp_tk W t c k).2 2 k 11)).toInt ≤ (sp_tk W t c k).1.toInt := by
      rw [e1]
      unfold m_min
      split
      · next h => exact ⟨p.2.1, Int.le_refl _, Int.le_of_lt (Int32.lt_iff_toInt_lt.mp h)⟩
      · next h => exact ⟨a', Int32.le_iff_toInt_le.mp (Int32.not_lt.mp h), Int.le_refl _⟩
    refine ⟨?_, fun i hi => ?_⟩
    · show (0 : Int32) ≤ _ - _
      have := Int32.toInt_lt (sp_tk W t c k).1
      rw [Int32.le_iff_toInt_le, i_sub (by omega) (by omega)]
      show (0 : Int) ≤ _
      omega
    · by_cases q : i = k
      · subst q
        refine ⟨m_min (sp_tk W t c i).1 ((sp_tk W t c i).2 2 i 11), m1.1, m1.2.1, fun _ => by rw [e1, e1] at q2; exact q2, ?_, ?_⟩
        · show wz_up _ 2 i 1 _ 2 i 1 = _
          rw [wz_up_s, e1 1]
        · show wz_up (wz_up _ 2 i 11 _) 2 i 1 _ 2 i 11 = _
          rw [wz_up_c (by decide), wz_up_s, e1 11]
      · obtain ⟨m, x1, x2, x3, x4, x5⟩ := b i (by omega)
        refine ⟨m, x1, x2, x3, ?_, ?_⟩
        · show wz_up (wz_up _ 2 k 11 _) 2 k 1 _ 2 i 1 = _
          rw [wz_up_r q, wz_up_r q]
          exact x4
        · show wz_up (wz_up _ 2 k 11 _) 2 k 1 _ 2 i 11 = _
          rw [wz_up_r q, wz_up_r q]
          exact x5
/-- how many crates of a sort are in port -/
def sp_sv (W : m_W) (t : Int32) (i : Nat) : Int := if W 2 i 2 = 0 ∧ W 2 i 0 = t then (W 2 i 11).toInt else 0
def sp_ss (W : m_W) (t : Int32) (k : Nat) : Int := sp_it (fun i a => a + sp_sv W t i) k 0
theorem sp_ss_cong {W W' : m_W} {t : Int32} (k : Nat) (h : ∀ i, i < k → sp_sv W' t i = sp_sv W t i) : sp_ss W' t k = sp_ss W t k := by
  unfold sp_ss
  exact si_if (fun i hi a => by rw [h i hi])
theorem sp_stock_i (V : vz W) {t : Int32} : (sp_stock W t).toInt = sp_ss W t (wz_n W 2) ∧ 0 ≤ sp_ss W t (wz_n W 2) ∧ sp_ss W t (wz_n W 2) ≤ 100000 := by
  have hn : wz_n W 2 ≤ 100 := V.c (k := 2) (by omega)
  have b : ∀ i, i < wz_n W 2 → 0 ≤ (if W 2 i 2 = 0 ∧ W 2 i 0 = t then W 2 i 11 else 0).toInt ∧ (if W 2 i 2 = 0 ∧ W 2 i 0 = t then W 2 i 11 else 0).toInt ≤ 1000 := by
    intro i hi
    split
    · exact V.pl (p := 1) hi (by decide) (by decide)
    · exact ⟨by decide, by decide⟩
  have s := s32 (b := 1000) (by decide) (n := wz_n W 2) (by omega) b
  have e1 : sp_stock W t = sp_it (fun i a => a + (if W 2 i 2 = 0 ∧ W 2 i 0 = t then W 2 i 11 else 0)) (wz_n W 2) 0 := by
    unfold sp_stock
    refine si_if (fun i hi a => ?_)
    by_cases q1 : W 2 i 2 = 0
    · by_cases q2 : W 2 i 0 = t
      · rw [if_pos q1, if_pos q2, if_pos ⟨q1, q2⟩]
      · rw [if_pos q1, if_neg q2, if_neg (fun x => q2 x.2), Int32.add_zero]
    · rw [if_neg q1, if_neg (fun x => q1 x.1), Int32.add_zero]
  have e2 : sp_ss W t (wz_n W 2) = sp_it (fun i a => a + (if W 2 i 2 = 0 ∧ W 2 i 0 = t then W 2 i 11 else 0).toInt) (wz_n W 2) 0 := by
    unfold sp_ss sp_sv
    refine si_if (fun i hi a => ?_)
    split <;> rfl
  rw [e1, e2]
  exact ⟨s.1, s.2.1, by have := s.2.2; omega⟩
theorem sp_tk_sum (V : vz W) {t c : Int32} (hc : 0 ≤ c) : ∀ k, k ≤ wz_n W 2 → 0 ≤ sp_ss W t k ∧ (sp_tk W t c k).1.toInt = (if c.toInt ≤ sp_ss W t k then 0 else c.toInt - sp_ss W t k) ∧ sp_ss (sp_tk W t c k).2 t k = sp_ss W t k - (if c.toInt ≤ sp_ss W t k then c.toInt else sp_ss W t k)
  | 0, _ => by
    have := i_nn hc
    refine ⟨Int.le_refl 0, ?_, ?_⟩
    · show c.toInt = if c.toInt ≤ 0 then 0 else c.toInt - 0
      split <;> omega
    · show (0 : Int) = 0 - (if c.toInt ≤ 0 then c.toInt else 0)
      split <;> omega
  | k + 1, hk => by
    obtain ⟨a0, a, b⟩ := sp_tk_sum V hc k (by omega)
    have hc0 := i_nn hc
    have hs : sp_tk W t c (k + 1) = sp_tks t k (sp_tk W t c k) := rfl
    have e1 : ∀ x, (sp_tk W t c k).2 2 k x = W 2 k x := fun x => sp_tk_r k (Nat.le_refl _)
    have p := V.pls (show k < wz_n W 2 by omega)
    have S1 : sp_ss W t (k + 1) = sp_ss W t k + sp_sv W t k := rfl
    have S2 : ∀ W', sp_ss W' t (k + 1) = sp_ss W' t k + sp_sv W' t k := fun _ => rfl
    have v0 : 0 ≤ sp_sv W t k := by
      unfold sp_sv
      split
      · exact p.2.1
      · exact Int.le_refl 0
    by_cases q2 : W 2 k 2 = 0 ∧ W 2 k 0 = t
    case neg =>
      have sv : sp_sv W t k = 0 := by unfold sp_sv; rw [if_neg q2]
      have st : sp_tk W t c (k + 1) = sp_tk W t c k := by
        rw [hs, sp_tks, e1, e1, if_neg q2]
        split <;> rfl
      have sv' : sp_sv (sp_tk W t c k).2 t k = 0 := by unfold sp_sv; rw [e1, e1, if_neg q2]
      rw [st, S1, S2, sv, sv', Int.add_zero, Int.add_zero]
      exact ⟨a0, a, b⟩
    have sv : sp_sv W t k = (W 2 k 11).toInt := by unfold sp_sv; rw [if_pos q2]
    by_cases q1 : (sp_tk W t c k).1 ≤ 0
    · have st : sp_tk W t c (k + 1) = sp_tk W t c k := by rw [hs, sp_tks, if_pos q1]
      have sv' : sp_sv (sp_tk W t c k).2 t k = sp_sv W t k := by unfold sp_sv; rw [e1, e1, e1]
      have q1' : (sp_tk W t c k).1.toInt ≤ 0 := Int32.le_iff_toInt_le.mp q1
      rw [st, S1, S2, sv', b, a]
      have : c.toInt ≤ sp_ss W t k := by
        rw [a] at q1'
        split at q1' <;> omega
      rw [if_pos this, if_pos this, if_pos (by omega), if_pos (by omega)]
      exact ⟨by omega, rfl, by omega⟩
    · have q1' : ¬ (sp_tk W t c k).1.toInt ≤ 0 := fun x => q1 (Int32.le_iff_toInt_le.mpr x)
      have hlt : ¬ c.toInt ≤ sp_ss W t k := fun x => q1' (by rw [a, if_pos x]; exact Int.le_refl 0)
      rw [if_neg hlt] at a b
      rw [hs, sp_tks, if_neg q1, e1, e1, if_pos q2]
      have cb := Int32.toInt_lt c
      have mm : (m_min (sp_tk W t c k).1 (W 2 k 11)).toInt = if (W 2 k 11).toInt < c.toInt - sp_ss W t k then (W 2 k 11).toInt else c.toInt - sp_ss W t k := by
        unfold m_min
        rw [← a]
        split
        · next h => rw [if_pos (Int32.lt_iff_toInt_lt.mp h)]
        · next h => rw [if_neg (fun x => h (Int32.lt_iff_toInt_lt.mpr x))]
      rw [e1]
      dsimp only
      obtain ⟨m, hm⟩ : ∃ m, m_min (sp_tk W t c k).1 (W 2 k 11) = m := ⟨_, rfl⟩
      rw [hm] at mm ⊢
      have ss1 : sp_ss (wz_up (wz_up (sp_tk W t c k).2 2 k 11 (W 2 k 11 - m)) 2 k 1 ((sp_tk W t c k).2 2 k 1 - m)) t k = sp_ss (sp_tk W t c k).2 t k := sp_ss_cong k (fun i hi => by
        unfold sp_sv
        rw [wz_up_r (by omega), wz_up_r (by omega), wz_up_r (by omega), wz_up_r (by omega), wz_up_r (by omega), wz_up_r (by omega)])
      have sv1 : sp_sv (wz_up (wz_up (sp_tk W t c k).2 2 k 11 (W 2 k 11 - m)) 2 k 1 ((sp_tk W t c k).2 2 k 1 - m)) t k = (W 2 k 11 - m).toInt := by
        unfold sp_sv
        rw [wz_up_c (by decide), wz_up_c (by decide), wz_up_c (by decide), wz_up_c (by decide), wz_up_c (by decide), wz_up_s, e1, e1, if_pos q2]
      rw [S1, S2, ss1, sv1, b, sv]
      have pl := V.pl (p := 1) (show k < wz_n W 2 by omega) (by decide) (by decide)
      have pl : 0 ≤ (W 2 k 11).toInt ∧ (W 2 k 11).toInt ≤ 1000 := pl
      have m0 : 0 ≤ m.toInt ∧ m.toInt ≤ (W 2 k 11).toInt ∧ m.toInt ≤ c.toInt - sp_ss W t k := by
        rw [mm]
        split <;> omega
      rw [i_sub (by omega) (by omega), i_sub (by omega) (by omega), a, mm]
      refine ⟨by omega, ?_, ?_⟩
      · split <;> split <;> omega
      · split <;> split <;> omega
end
