/-! ===== a week: ships at sea, what they do ===== -/
def sp_cl (W : m_W) (s j : Nat) : Nat := (W 4 s (7 + 2 * j)).toNatClampNeg
def sp_un1 (W : m_W) (s p j : Nat) (X : m_W) : m_W := sp_mv X (sp_cl W s j) 2 p (W 4 s (8 + 2 * j))
def sp_un (W : m_W) (s p i : Nat) (X : m_W) : m_W := sp_it (sp_un1 W s p) i X
def sp_tr (W : m_W) (s l j : Nat) : Nat := 8 * l + (W 2 (sp_cl W s j) 0).toNatClampNeg
def sp_tm1 (W : m_W) (s l j : Nat) (X : m_W) : m_W := wz_up (wz_up X 6 (sp_tr W s l j) 1 (X 6 (sp_tr W s l j) 1 + W 4 s (8 + 2 * j))) 5 l 1 (m_max (-100) (X 5 l 1 - W 2 (sp_cl W s j) 7))
def sp_tm (W : m_W) (s l i : Nat) (X : m_W) : m_W := sp_it (sp_tm1 W s l) i X
def sp_m (W : m_W) (s : Nat) : Nat := (W 4 s 6).toNatClampNeg
def sp_clr (W : m_W) (s p : Nat) (X : m_W) : m_W := wz_up (sp_un W s p (sp_m W s) X) 4 s 6 0
def sp_sink (W : m_W) (s : Nat) : m_W := wz_up (wz_up (wz_up (sp_clr W s 6 W) 4 s 2 4) 4 s 4 0) 4 s 5 (W 14 0 0)
def sp_abr (W : m_W) (s : Nat) : m_W := wz_up (sp_clr W s 3 (sp_tm W s (W 4 s 3).toNatClampNeg (sp_m W s) W)) 4 s 2 2
def sp_home (W : m_W) (s : Nat) : m_W := wz_up (wz_up (sp_clr W s 7 W) 4 s 2 0) 4 s 3 0
def sp_drw (W : m_W) (s : Nat) : Int32 := (W 4 s 1 + 37 * W 14 0 0) - (W 4 s 1 + 37 * W 14 0 0) / 100 * 100
def sp_nxw (W : m_W) (s : Nat) : m_W := wz_up W 4 s 4 (W 4 s 4 - 1)
def sp_go (W : m_W) (s : Nat) : m_W := if sp_told W 7 (W 4 s 3) (W 14 0 0) ≤ sp_drw W s then (if sp_nxw W s 4 s 4 ≤ 0 then (if W 4 s 2 = 1 then sp_abr (sp_nxw W s) s else sp_home (sp_nxw W s) s) else sp_nxw W s) else sp_sink W s
def sp_go1 (s : Nat) (W : m_W) : m_W := if W 4 s 2 = 1 ∨ W 4 s 2 = 3 then sp_go W s else W
def sp_gos (W : m_W) (i : Nat) : m_W := sp_it sp_go1 i W
section
variable {W X : m_W}
theorem sp_un_k {s p i k r c : Nat} (h : ¬ k = 2) : sp_un W s p i X k r c = X k r c := by
  unfold sp_un
  induction i with
  | zero => rfl
  | succ i ih =>
    rw [sp_it_s]
    unfold sp_un1
    rw [sp_mv_k h]
    exact ih
theorem sp_un_n {s p i k : Nat} : wz_n (sp_un W s p i X) k = wz_n X k := wz_n_cong (sp_un_k (by omega))
theorem sp_mv_x {t a b r : Nat} {n : Int32} {x : Nat} (h1 : ¬ x = 10 + a) (h2 : ¬ x = 10 + b) : sp_mv W t a b n 2 r x = W 2 r x := by
  unfold sp_mv
  rw [wz_up_c h2, wz_up_c h1]
theorem sp_un_x {s p i r x : Nat} (h1 : ¬ x = 12) (h2 : ¬ x = 10 + p) : sp_un W s p i X 2 r x = X 2 r x := by
  unfold sp_un
  induction i with
  | zero => rfl
  | succ i ih =>
    rw [sp_it_s]
    unfold sp_un1
    rw [sp_mv_x h1 h2]
    exact ih
theorem sp_un_r {s p i r x : Nat} (h : ∀ j, j < i → ¬ r = sp_cl W s j) : sp_un W s p i X 2 r x = X 2 r x := by
  unfold sp_un
  induction i with
  | zero => rfl
  | succ i ih =>
    rw [sp_it_s]
    unfold sp_un1
    rw [sp_mv_r (h i (by omega))]
    exact ih (fun j hj => h j (by omega))
theorem sp_un_cm {s p i k r c : Nat} {v : Int32} (h : ¬ k = 2) : sp_un W s p i (wz_up X k r c v) = wz_up (sp_un W s p i X) k r c v := by
  unfold sp_un
  induction i with
  | zero => rfl
  | succ i ih =>
    rw [sp_it_s, sp_it_s, ih]
    unfold sp_un1
    rw [sp_mv_cm h]
theorem sp_tm_k {s l i k r c : Nat} (h5 : ¬ (k = 5 ∧ r = l ∧ c = 1)) (h6 : ¬ (k = 6 ∧ c = 1)) : sp_tm W s l i X k r c = X k r c := by
  unfold sp_tm
  induction i with
  | zero => rfl
  | succ i ih =>
    rw [sp_it_s]
    generalize sp_it (sp_tm1 W s l) i X = Y at ih ⊢
    unfold sp_tm1
    rw [← ih]
    unfold wz_up
    rw [if_neg h5, if_neg (fun q => h6 ⟨q.1, q.2.2⟩)]
theorem sp_tm_n {s l i k : Nat} : wz_n (sp_tm W s l i X) k = wz_n X k := wz_n_cong (sp_tm_k (by omega) (by omega))
/-- one cargo after the other, moved and counted, or all counted, then all moved -/
theorem sp_un_tm {s l p i : Nat} : sp_un W s p i (sp_tm1 W s l i X) = sp_tm1 W s l i (sp_un W s p i X) := by
  unfold sp_tm1
  rw [sp_un_cm (by decide), sp_un_cm (by decide), sp_un_k (k := 6) (by decide), sp_un_k (k := 5) (by decide)]
theorem sp_un1_tm1 {s l p j : Nat} : sp_un1 W s p j (sp_tm1 W s l j X) = sp_tm1 W s l j (sp_un1 W s p j X) := by
  unfold sp_tm1 sp_un1
  rw [sp_mv_cm (by decide), sp_mv_cm (by decide), sp_mv_k (k := 6) (by decide), sp_mv_k (k := 5) (by decide)]
theorem sp_it_cm {α : Type} {f g : Nat → α → α} (h : ∀ i j a, f i (g j a) = g j (f i a)) : ∀ n a, sp_it f n (sp_it g n a) = sp_it (fun i a => f i (g i a)) n a
  | 0, _ => rfl
  | n + 1, a => by
    have h1 : ∀ m b, sp_it f m (g n b) = g n (sp_it f m b) := by
      intro m b
      induction m with
      | zero => rfl
      | succ m ih => rw [sp_it_s, sp_it_s, ih, h]
    rw [sp_it_s (f := g), sp_it_s (f := f), h1, sp_it_cm h n a, sp_it_s]
theorem sp_un1_tm1' {s l p i j : Nat} : sp_un1 W s p i (sp_tm1 W s l j X) = sp_tm1 W s l j (sp_un1 W s p i X) := by
  unfold sp_tm1 sp_un1
  rw [sp_mv_cm (by decide), sp_mv_cm (by decide), sp_mv_k (k := 6) (by decide), sp_mv_k (k := 5) (by decide)]
theorem sp_both {s l p i : Nat} : sp_un W s p i (sp_tm W s l i X) = sp_it (fun j Y => sp_un1 W s p j (sp_tm1 W s l j Y)) i X := by
  unfold sp_un sp_tm
  exact sp_it_cm (f := sp_un1 W s p) (g := sp_tm1 W s l) (fun _ _ _ => sp_un1_tm1') i X
theorem sp_both_s {s l p i : Nat} : sp_un W s p (i + 1) (sp_tm W s l (i + 1) X) = sp_tm1 W s l i (sp_un1 W s p i (sp_un W s p i (sp_tm W s l i X))) := by
  rw [sp_both, sp_it_s, ← sp_both, sp_un1_tm1]
end
/-- what the first i cargoes hold of a lot -/
def sp_ci (W : m_W) (s t i : Nat) : Int := sp_it (fun j a => a + (if W 4 s (7 + 2 * j) = nI t then (W 4 s (8 + 2 * j)).toInt else 0)) i 0
section
variable {W X : m_W}
theorem sp_car_ci {s t : Nat} : sp_car W s t = sp_ci W s t (sp_m W s) := rfl
theorem sp_ci_nn (V : vz W) {s t : Nat} (hs : s < wz_n W 4) {i : Nat} (hi : i ≤ sp_m W s) : 0 ≤ sp_ci W s t i := by
  unfold sp_ci
  refine si_nn (f := fun j => if W 4 s (7 + 2 * j) = nI t then (W 4 s (8 + 2 * j)).toInt else 0) (fun j hj => ?_)
  split
  · exact i_nn (V.2.2.2.2.2.1 s hs j (Nat.lt_of_lt_of_le hj hi)).2
  · exact Int.le_refl 0
theorem sp_ci_m (V : vz W) {s t : Nat} (hs : s < wz_n W 4) {i : Nat} : ∀ m, i + m ≤ sp_m W s → sp_ci W s t i ≤ sp_ci W s t (i + m)
  | 0, _ => Int.le_refl _
  | m + 1, h => by
    have ih := sp_ci_m V hs (t := t) (i := i) m (by omega)
    show sp_ci W s t i ≤ sp_ci W s t (i + m) + (if W 4 s (7 + 2 * (i + m)) = nI t then (W 4 s (8 + 2 * (i + m))).toInt else 0)
    have : 0 ≤ (if W 4 s (7 + 2 * (i + m)) = nI t then (W 4 s (8 + 2 * (i + m))).toInt else 0) := by
      split
      · exact i_nn (V.2.2.2.2.2.1 s hs (i + m) (show i + m < sp_m W s by omega)).2
      · exact Int.le_refl 0
    omega
theorem sp_ci_le (V : vz W) {s t : Nat} (hs : s < wz_n W 4) {i : Nat} (h : i ≤ sp_m W s) : sp_ci W s t i ≤ sp_car W s t := by
  have := sp_ci_m V hs (t := t) (i := i) (sp_m W s - i) (by omega)
  rw [show i + (sp_m W s - i) = sp_m W s by omega] at this
  exact this
/-- a ship's crates of a lot are no more than are in all ships -/
theorem sp_car_le (V : vz W) {s t : Nat} (hs : s < wz_n W 4) : sp_car W s t ≤ sp_cars W t := si_le (f := fun s => sp_car W s t) (n := wz_n W 4) (fun s hs => V.car hs) s hs
theorem vz.cl (V : vz W) {s j : Nat} (hs : s < wz_n W 4) (hj : j < sp_m W s) : W 4 s (7 + 2 * j) = nI (sp_cl W s j) ∧ sp_cl W s j < wz_n W 2 := by
  have hn : wz_n W 2 ≤ 100 := V.c (k := 2) (by omega)
  obtain ⟨t, ht, et⟩ := V.ship hs hj
  unfold sp_cl
  rw [et, nI_clamp (by omega)]
  exact ⟨rfl, ht⟩
theorem vz.cr (V : vz W) {s j : Nat} (hs : s < wz_n W 4) (hj : j < sp_m W s) : 0 ≤ (W 4 s (8 + 2 * j)).toInt ∧ (W 4 s (8 + 2 * j)).toInt ≤ 1000 := by
  obtain ⟨e, ht⟩ := V.cl hs hj
  refine ⟨i_nn (V.2.2.2.2.2.1 s hs j hj).2, ?_⟩
  have h1 := sp_ci_le V hs (t := sp_cl W s j) (i := j + 1) hj
  have h2 := sp_ci_nn V hs (t := sp_cl W s j) (i := j) (Nat.le_of_lt hj)
  have h3 : sp_ci W s (sp_cl W s j) (j + 1) = sp_ci W s (sp_cl W s j) j + (W 4 s (8 + 2 * j)).toInt := by
    show sp_ci W s (sp_cl W s j) j + (if W 4 s (7 + 2 * j) = nI (sp_cl W s j) then (W 4 s (8 + 2 * j)).toInt else 0) = _
    rw [if_pos e]
  have h4 := sp_car_le V hs (t := sp_cl W s j)
  have h5 := V.cons ht
  have h6 := V.pls ht
  rw [sp_pls_e] at h5
  omega
/-- unloading: crates of each lot -/
theorem sp_un_i (V : vz W) {s p t : Nat} (hs : s < wz_n W 4) (ht : t < wz_n W 2) (hp : p < 9) (h2 : ¬ p = 2) (hX : X 2 t (10 + p) = W 2 t (10 + p)) : ∀ i, i ≤ sp_m W s → (sp_un W s p i X 2 t (10 + p)).toInt = (W 2 t (10 + p)).toInt + sp_ci W s t i
  | 0, _ => by
    show (X 2 t (10 + p)).toInt = _ + 0
    rw [hX]
    omega
  | i + 1, h => by
    have hn : wz_n W 2 ≤ 100 := V.c (k := 2) (by omega)
    have ih := sp_un_i V hs ht hp h2 hX i (by omega)
    obtain ⟨e, hc⟩ := V.cl hs (show i < sp_m W s by omega)
    have cr := V.cr hs (show i < sp_m W s by omega)
    have b1 := V.pl ht hp h2
    have b2 := sp_ci_nn V hs (t := t) (i := i) (by omega)
    have b3 := sp_ci_le V hs (t := t) (i := i) (by omega)
    have b4 := sp_car_le V hs (t := t)
    have b5 := V.cons ht
    have b6 := V.pls ht
    rw [sp_pls_e] at b5
    show (sp_un1 W s p i (sp_un W s p i X) 2 t (10 + p)).toInt = _ + (sp_ci W s t i + (if W 4 s (7 + 2 * i) = nI t then (W 4 s (8 + 2 * i)).toInt else 0))
    unfold sp_un1
    by_cases q : sp_cl W s i = t
    · rw [q, sp_mv_e (by omega), if_pos rfl, e, q, if_pos rfl, i_add (by omega) (by omega), ih]
      omega
    · rw [sp_mv_r (fun x => q x.symm), e, if_neg (fun x => q (nI_e (by omega) (by omega) x)), ih]
      omega
end
