/-! ===== what always holds is kept: face by face ===== -/
section
variable {W W' : m_W} {a b c d e1 : Int32}
theorem if_in {α : Type} {c : Prop} [Decidable c] {A : α ⊕ Nat} {E : Nat} {p : α} (e : (if c then A else .inr E) = .inl p) : c ∧ A = .inl p := by
  by_cases h : c
  · rw [if_pos h] at e; exact ⟨h, e⟩
  · rw [if_neg h] at e; cases e
theorem vz_glob_g (G : vz_glob W) (e6 : ∀ i, W' 6 i 1 = W 6 i 1) (e8 : ∀ i, W' 8 i 2 = W 8 i 2) (e10 : ∀ i x, W' 10 i x = W 10 i x) (e14 : ∀ i x, W' 14 i x = W 14 i x) (n10 : wz_n W' 10 = wz_n W 10) (n8 : wz_n W' 8 = wz_n W 8) : vz_glob W' := by
  unfold vz_glob at G ⊢
  rw [n10, n8]
  simp only [e6, e8, e10, e14]
  exact G
theorem vz_ask {p : Int64 × m_W} (V : vz W) (e : sp_ask W a b c d = .inl p) : vz p.2 := by
  unfold sp_ask at e
  obtain ⟨h1, e⟩ := if_in e
  obtain ⟨h2, e⟩ := if_in e
  obtain ⟨h3, e⟩ := if_in e
  obtain ⟨h4, e⟩ := if_in e
  obtain ⟨h5, e⟩ := if_in e
  obtain ⟨h6, e⟩ := if_in e
  cases e
  have g : ∀ x, _ = _ := fun x => @sp_new_x W 3 x [(0, a), (1, b), (2, c), (3, d)]
  have key : ∀ F : Nat → Int32, F 0 = a → F 1 = b → F 2 = c → F 4 = 0 → vz_row 3 F := by
    intro F g0 g1 g2 g4
    show (1 ≤ F 0 ∧ F 0 ≤ 5) ∧ (0 ≤ F 1 ∧ F 1 ≤ 7) ∧ (1 ≤ F 2 ∧ F 2 ≤ 1000) ∧ (0 ≤ F 4 ∧ F 4 ≤ F 2)
    rw [g0, g1, g2, g4]
    exact ⟨⟨i_one h1.1 h3, h1.2⟩, h2, h4, by decide, Int32.le_trans (by decide) h4.1⟩
  exact V.plain (k := 3) (by decide) (by decide) (by decide) h6 (by omega) (key _ (g 0) (g 1) (g 2) ((g 4).trans (V.z (k := 3) (by decide) (Nat.le_refl _) h6 (by decide))))
theorem vz_seen {p : Int64 × m_W} (V : vz W) (e : sp_seen W a b c = .inl p) : vz p.2 := by
  unfold sp_seen at e
  obtain ⟨h1, e⟩ := if_in e
  obtain ⟨h2, e⟩ := if_in e
  obtain ⟨h3, e⟩ := if_in e
  obtain ⟨h4, e⟩ := if_in e
  by_cases h6 : wz_n W 9 < 60
  · rw [if_pos h6] at e
    cases e
    exact V.plain (k := 9) (by decide) (by decide) (by decide) h6 (by omega) trivial
  · rw [if_neg h6] at e
    cases e
    exact V
theorem vz_page {p : Int64 × m_W} (V : vz W) (e : sp_page W a b = .inl p) : vz p.2 := by
  unfold sp_page at e
  obtain ⟨h1, e⟩ := if_in e
  obtain ⟨h2, e⟩ := if_in e
  by_cases h6 : wz_n W 11 < 9
  · rw [if_pos h6] at e
    cases e
    have g : ∀ x, _ = _ := fun x => @sp_new_x W 11 x [(0, a), (1, b)]
    have key : ∀ F : Nat → Int32, F 0 = a → F 1 = b → vz_row 11 F := by
      intro F g0 g1
      show (-10000 ≤ F 0 ∧ F 0 ≤ 10000) ∧ (-10000 ≤ F 1 ∧ F 1 ≤ 10000)
      rw [g0, g1]
      exact ⟨h1, h2⟩
    exact V.plain (k := 11) (by decide) (by decide) (by decide) h6 (by omega) (key _ (g 0) (g 1))
  · rw [if_neg h6] at e
    cases e
    exact V
theorem vz_choice {p : Int64 × m_W} (V : vz W) (e : sp_choice W a b c d = .inl p) : vz p.2 := by
  unfold sp_choice at e
  obtain ⟨h1, e⟩ := if_in e
  obtain ⟨h2, e⟩ := if_in e
  obtain ⟨h3, e⟩ := if_in e
  obtain ⟨h4, e⟩ := if_in e
  by_cases h6 : wz_n W 12 < 8
  · rw [if_pos h6] at e
    cases e
    have g : ∀ x, _ = _ := fun x => @sp_new_x W 12 x [(0, a), (1, b), (2, c), (3, d)]
    have key : ∀ F : Nat → Int32, F 0 = a → F 1 = b → F 2 = c → F 3 = d → vz_row 12 F := by
      intro F g0 g1 g2 g3
      show (0 ≤ F 0 ∧ F 0 ≤ 10000) ∧ (0 ≤ F 1 ∧ F 1 ≤ 4) ∧ (0 ≤ F 2 ∧ F 2 ≤ 10000) ∧ (0 ≤ F 3 ∧ F 3 ≤ 10000)
      rw [g0, g1, g2, g3]
      exact ⟨h1, h2, h3, h4⟩
    exact V.plain (k := 12) (by decide) (by decide) (by decide) h6 (by omega) (key _ (g 0) (g 1) (g 2) (g 3))
  · rw [if_neg h6] at e
    cases e
    exact V
theorem vz_tells (V : vz W) {k : Nat} {n : Int32} (hk : k = 1 ∨ k = 7) (hb : W 14 0 0 ≤ b) (hn : 0 ≤ n ∧ n ≤ 1000) (h7 : k = 7 → n ≤ 100 ∧ ¬ a = 0) : vz (sp_tells W k a b n).2 := by
  unfold sp_tells
  by_cases h6 : wz_n W k < 100
  · rw [if_pos h6]
    show vz (sp_new W k [(0, a), (1, b), (2, n)])
    have g : ∀ x, _ = _ := fun x => @sp_new_x W k x [(0, a), (1, b), (2, n)]
    have b0 : 0 ≤ b := Int32.le_trans V.wk.1 hb
    have key : ∀ F : Nat → Int32, F 0 = a → F 1 = b → F 2 = n → vz_row k F := by
      intro F g0 g1 g2
      rcases hk with rfl | rfl
      · show 0 ≤ F 1 ∧ (0 ≤ F 2 ∧ F 2 ≤ 1000)
        rw [g1, g2]
        exact ⟨b0, hn⟩
      · show 0 ≤ F 1 ∧ (0 ≤ F 2 ∧ F 2 ≤ 100) ∧ ¬ F 0 = 0
        rw [g0, g1, g2]
        exact ⟨b0, ⟨hn.1, (h7 rfl).1⟩, (h7 rfl).2⟩
    have kc : 100 ≤ wz_cap k := by rcases hk with rfl | rfl <;> decide
    exact V.plain (k := k) (by omega) (by omega) (by omega) (by omega) (by omega) (key _ (g 0) (g 1) (g 2))
  · rw [if_neg h6]
    exact V
theorem vz_price {p : Int64 × m_W} {n : Int32} (V : vz W) (e : sp_price W a b n = .inl p) : vz p.2 := by
  unfold sp_price at e
  obtain ⟨h1, e⟩ := if_in e
  obtain ⟨h2, e⟩ := if_in e
  obtain ⟨h3, e⟩ := if_in e
  cases e
  exact vz_tells V (Or.inl rfl) h2.1 h3 (fun z => absurd z (by decide))
theorem vz_risk {p : Int64 × m_W} {n : Int32} (V : vz W) (e : sp_risk W a b n = .inl p) : vz p.2 := by
  unfold sp_risk at e
  obtain ⟨h1, e⟩ := if_in e
  obtain ⟨h2, e⟩ := if_in e
  obtain ⟨h3, e⟩ := if_in e
  obtain ⟨h4, e⟩ := if_in e
  cases e
  exact vz_tells V (Or.inr rfl) h3.1 ⟨h4.1, Int32.le_trans h4.2 (by decide)⟩ (fun _ => ⟨h4.2, h2⟩)
/-- one row of a table that is always full -/
theorem vz.fixed (V : vz W) {k r : Nat} (hk : k < 14) (h2 : ¬ k = 2) (h4 : ¬ k = 4) (hr : r < wz_n W k) (e : ∀ k' i x, ¬ (k' = k ∧ i = r) → W' k' i x = W k' i x) (R : vz_row k (W' k r)) (g : vz_glob W') : vz W' :=
  V.rowUp hk h2 h4 (fun k' i x q => e k' i x (fun z => q z.1)) (fun i x q => e k i x (by omega)) (fun i hi => by
    by_cases q : i = r
    · rw [q]; exact R
    · rw [show W' k i = W k i from funext fun x => e k i x (fun z => q z.2)]
      exact V.row hk hi) g
theorem nI_c {n : Nat} {x : Int32} (hn : n < 2 ^ 31) (h : 0 ≤ x ∧ x ≤ nI n) : x.toNatClampNeg ≤ n := by
  obtain ⟨r, hr, rfl⟩ := i_row (n := n) (nI_toInt (by omega)) h
  rw [nI_clamp (by omega)]
  exact hr
theorem vz_row5 {p : Int64 × m_W} (V : vz W) (e : sp_row W a b c d e1 = .inl p) : vz p.2 := by
  unfold sp_row at e
  obtain ⟨h1, e⟩ := if_in e
  obtain ⟨h2, e⟩ := if_in e
  obtain ⟨h3, e⟩ := if_in e
  obtain ⟨h4, e⟩ := if_in e
  obtain ⟨h5, e⟩ := if_in e
  cases e
  have a2 := nI_c (n := 2) (by decide) h1
  have b2 := nI_c (n := 4) (by decide) h2
  have n13 := V.n13
  obtain ⟨r, er⟩ : ∃ r, r = 5 * a.toNatClampNeg + b.toNatClampNeg := ⟨_, rfl⟩
  have g : ∀ x, _ = _ := fun x => @sp_sets_x 13 r x [(0, c), (1, d), (2, e1)] W
  have o : ∀ k i x, ¬ (k = 13 ∧ i = r) → sp_sets W 13 r [(0, c), (1, d), (2, e1)] k i x = W k i x := fun k i x z => sp_sets_o z
  show vz (sp_sets W 13 (5 * a.toNatClampNeg + b.toNatClampNeg) [(0, c), (1, d), (2, e1)])
  rw [← er]
  have key : ∀ F : Nat → Int32, F 0 = c → F 1 = d → F 2 = e1 → vz_row 13 F := by
    intro F g0 g1 g2
    show (0 ≤ F 0 ∧ F 0 ≤ 100000) ∧ (0 ≤ F 1 ∧ F 1 ≤ 100000) ∧ (0 ≤ F 2 ∧ F 2 ≤ 100000)
    rw [g0, g1, g2]
    exact ⟨h3, h4, h5⟩
  exact V.fixed (k := 13) (r := r) (by decide) (by decide) (by decide) (by omega) o (key _ (g 0) (g 1) (g 2)) (vz_glob_n V.2.2.2.2.1 (fun k i x h => o _ _ _ (by omega)) (wz_n_cong (o _ _ _ (by omega))) (wz_n_cong (o _ _ _ (by omega))))
theorem up_o {k r c k' i x : Nat} {v : Int32} (h : ¬ (k' = k ∧ i = r)) : wz_up W k r c v k' i x = W k' i x := if_neg (fun z => h ⟨z.1, z.2.1⟩)
theorem vz_sort {p : Int64 × m_W} (V : vz W) (e : sp_sort W a b c d e1 = .inl p) : vz p.2 := by
  unfold sp_sort at e
  obtain ⟨h1, e⟩ := if_in e
  obtain ⟨h2, e⟩ := if_in e
  obtain ⟨h3, e⟩ := if_in e
  obtain ⟨h4, e⟩ := if_in e
  obtain ⟨h5, e⟩ := if_in e
  cases e
  have a2 := nI_c (n := 7) (by decide) h1
  have n0 := V.n0
  obtain ⟨r, er⟩ : ∃ r, r = a.toNatClampNeg := ⟨_, rfl⟩
  show vz (sp_sets W 0 a.toNatClampNeg [(0, b), (1, c), (2, d), (3, e1)])
  rw [← er]
  have g : ∀ x, _ = _ := fun x => @sp_sets_x 0 r x [(0, b), (1, c), (2, d), (3, e1)] W
  have o : ∀ k i x, ¬ (k = 0 ∧ i = r) → sp_sets W 0 r [(0, b), (1, c), (2, d), (3, e1)] k i x = W k i x := fun k i x z => sp_sets_o z
  have key : ∀ F : Nat → Int32, F 0 = b → F 1 = c → F 2 = d → F 3 = e1 → vz_row 0 F := by
    intro F g0 g1 g2 g3
    show (0 ≤ F 0 ∧ F 0 ≤ 20) ∧ (0 ≤ F 1 ∧ F 1 ≤ 50) ∧ (0 ≤ F 2 ∧ F 2 ≤ 50) ∧ (0 ≤ F 3 ∧ F 3 ≤ 9)
    rw [g0, g1, g2, g3]
    exact ⟨⟨Int32.le_trans (by decide) h2.1, h2.2⟩, h3, h4, ⟨Int32.le_trans (by decide) h5.1, h5.2⟩⟩
  exact V.fixed (k := 0) (r := r) (by decide) (by decide) (by decide) (by omega) o (key _ (g 0) (g 1) (g 2) (g 3)) (vz_glob_n V.2.2.2.2.1 (fun k i x h => o _ _ _ (by omega)) (wz_n_cong (o _ _ _ (by omega))) (wz_n_cong (o _ _ _ (by omega))))
theorem vz_works {p : Int64 × m_W} (V : vz W) (e : sp_works W a b = .inl p) : vz p.2 := by
  unfold sp_works at e
  obtain ⟨h1, e⟩ := if_in e
  obtain ⟨h2, e⟩ := if_in e
  cases e
  exact vz_14c (vz_14c V (Or.inl rfl)) (Or.inr rfl)
theorem vz_5s (V : vz W) {r x : Nat} {v : Int32} (hr : r < 6) (hx : x = 2 ∨ x = 3 ∧ 0 ≤ v ∧ v ≤ 100000) : vz (wz_up W 5 r x v) := by
  have n5 := V.n5
  have o : ∀ k i y, ¬ (k = 5 ∧ i = r) → wz_up W 5 r x v k i y = W k i y := fun k i y z => up_o z
  have R : W 5 r 1 ≤ 0 ∧ (0 ≤ W 5 r 3 ∧ W 5 r 3 ≤ 100000) ∧ -100 ≤ W 5 r 1 := V.row (k := 5) (by decide) (by omega)
  have f1 : wz_up W 5 r x v 5 r 1 = W 5 r 1 := wz_up_c (by omega)
  refine V.fixed (k := 5) (r := r) (by decide) (by decide) (by decide) (by omega) o ?_ (vz_glob_n V.2.2.2.2.1 (fun k i x h => o _ _ _ (by omega)) (wz_n_cong (o _ _ _ (by omega))) (wz_n_cong (o _ _ _ (by omega))))
  show wz_up W 5 r x v 5 r 1 ≤ 0 ∧ (0 ≤ wz_up W 5 r x v 5 r 3 ∧ wz_up W 5 r x v 5 r 3 ≤ 100000) ∧ -100 ≤ wz_up W 5 r x v 5 r 1
  rw [f1]
  refine ⟨R.1, ?_, R.2.2⟩
  rcases hx with rfl | ⟨rfl, hv⟩
  · rw [wz_up_c (by decide)]
    exact R.2.1
  · rw [wz_up_s]
    exact hv
theorem vz_way {p : Int64 × m_W} (V : vz W) (e : sp_way W a b = .inl p) : vz p.2 := by
  unfold sp_way at e
  obtain ⟨h1, e⟩ := if_in e
  obtain ⟨h2, e⟩ := if_in e
  obtain ⟨h3, e⟩ := if_in e
  cases e
  have a2 := nI_c (n := 5) (by decide) h1
  exact vz_5s V (by omega) (Or.inl rfl)
theorem vz_tons {p : Int64 × m_W} {n : Int32} (V : vz W) (e : sp_tons W a n = .inl p) : vz p.2 := by
  unfold sp_tons at e
  obtain ⟨h1, e⟩ := if_in e
  obtain ⟨h2, e⟩ := if_in e
  obtain ⟨h3, e⟩ := if_in e
  cases e
  have a2 := nI_c (n := 5) (by decide) h1
  exact vz_5s V (by omega) (Or.inr ⟨rfl, h3⟩)
theorem vz_6s (V : vz W) {r x : Nat} {v : Int32} (hr : r < 48) (hx : x = 2 ∨ x = 0 ∧ 0 ≤ v ∧ v ≤ 1000) : vz (wz_up W 6 r x v) := by
  have n6 := V.n6
  have o : ∀ k i y, ¬ (k = 6 ∧ i = r) → wz_up W 6 r x v k i y = W k i y := fun k i y z => up_o z
  have R : 0 ≤ W 6 r 0 ∧ W 6 r 0 ≤ 1000 := V.row (k := 6) (by decide) (by omega)
  have f1 : ∀ i, wz_up W 6 r x v 6 i 1 = W 6 i 1 := fun i => wz_up_c (by omega)
  refine V.fixed (k := 6) (r := r) (by decide) (by decide) (by decide) (by omega) o ?_ (vz_glob_g V.2.2.2.2.1 f1 (fun i => o _ _ _ (by omega)) (fun i x => o _ _ _ (by omega)) (fun i x => o _ _ _ (by omega)) (wz_n_cong (o _ _ _ (by omega))) (wz_n_cong (o _ _ _ (by omega))))
  show 0 ≤ wz_up W 6 r x v 6 r 0 ∧ wz_up W 6 r x v 6 r 0 ≤ 1000
  rcases hx with rfl | ⟨rfl, hv⟩
  · rw [wz_up_c (by decide)]
    exact R
  · rw [wz_up_s]
    exact hv
theorem vz_need {p : Int64 × m_W} {n : Int32} (V : vz W) (e : sp_need W a b n = .inl p) : vz p.2 := by
  unfold sp_need at e
  obtain ⟨h1, e⟩ := if_in e
  obtain ⟨h2, e⟩ := if_in e
  obtain ⟨h3, e⟩ := if_in e
  obtain ⟨h4, e⟩ := if_in e
  cases e
  have a2 := nI_c (n := 5) (by decide) h1
  have b2 := nI_c (n := 7) (by decide) h2
  exact vz_6s V (by omega) (Or.inr ⟨rfl, h4⟩)
theorem vz_tear {p : Int64 × m_W} (V : vz W) (e : sp_tear W a b = .inl p) : vz p.2 := by
  unfold sp_tear at e
  obtain ⟨h1, e⟩ := if_in e
  cases e
  have rl : sp_rws W ≤ wz_n W 8 ∧ sp_rws W ≤ 6 := by unfold sp_rws; split <;> omega
  obtain ⟨j, hj, rfl⟩ := i_rowlt (by omega) h1
  rw [nI_clamp (by omega)]
  obtain ⟨r, er⟩ : ∃ r, r = wz_n W 8 - sp_rws W + j := ⟨_, rfl⟩
  dsimp only
  rw [← er]
  have o : ∀ k i y, ¬ (k = 8 ∧ i = r) → wz_up W 8 r 3 (W 8 r 3 ^^^ b) k i y = W k i y := fun k i y z => up_o z
  have hr : r < wz_n W 8 := by omega
  have R : (1 ≤ W 8 r 0 ∧ W 8 r 0 ≤ 5) ∧ (0 ≤ W 8 r 1 ∧ W 8 r 1 ≤ 7) ∧ 0 ≤ W 8 r 2 := V.row (k := 8) (by decide) hr
  refine V.fixed (k := 8) (r := r) (by decide) (by decide) (by decide) hr o ?_ (vz_glob_g V.2.2.2.2.1 (fun i => o _ _ _ (by omega)) (fun i => wz_up_c (by decide)) (fun i x => o _ _ _ (by omega)) (fun i x => o _ _ _ (by omega)) (wz_n_cong (o _ _ _ (by omega))) (wz_n_cong (o _ _ _ (by omega))))
  show (1 ≤ wz_up W 8 r 3 _ 8 r 0 ∧ wz_up W 8 r 3 _ 8 r 0 ≤ 5) ∧ (0 ≤ wz_up W 8 r 3 _ 8 r 1 ∧ wz_up W 8 r 3 _ 8 r 1 ≤ 7) ∧ 0 ≤ wz_up W 8 r 3 _ 8 r 2
  rw [wz_up_c (by decide), wz_up_c (by decide), wz_up_c (by decide)]
  exact R
theorem vz_returned {p : Int64 × m_W} (V : vz W) (e : sp_returned W a b c d = .inl p) : vz p.2 := by
  unfold sp_returned at e
  obtain ⟨h1, e⟩ := if_in e
  obtain ⟨h2, e⟩ := if_in e
  obtain ⟨h3, e⟩ := if_in e
  obtain ⟨h4, e⟩ := if_in e
  obtain ⟨h5, e⟩ := if_in e
  by_cases h6 : wz_n W 8 < 100
  · rw [if_pos h6] at e
    cases e
    have g : ∀ x, _ = _ := fun x => @sp_new_x W 8 x [(0, a), (1, b), (2, c), (3, d), (4, d)]
    have o : ∀ k i x, ¬ k = 28 → ¬ (k = 8 ∧ i = wz_n W 8) → sp_new W 8 [(0, a), (1, b), (2, c), (3, d), (4, d)] k i x = W k i x := fun k i x z1 z2 => sp_new_o z1 z2
    have g2 : sp_new W 8 [(0, a), (1, b), (2, c), (3, d), (4, d)] 8 (wz_n W 8) 2 = c := g 2
    have key : ∀ F : Nat → Int32, F 0 = a → F 1 = b → F 2 = c → vz_row 8 F := by
      intro F g0 g1 g2
      show (1 ≤ F 0 ∧ F 0 ≤ 5) ∧ (0 ≤ F 1 ∧ F 1 ≤ 7) ∧ 0 ≤ F 2
      rw [g0, g1, g2]
      exact ⟨⟨i_one h1.1 h3, h1.2⟩, h2, h4.1⟩
    refine V.grow (k := 8) (by decide) (by decide) h6 (by omega) sp_new_c (fun k' i x h1 h2 => o _ _ _ h1 h2) (key _ (g 0) (g 1) (g 2)) ?_ (fun z => absurd z (by decide)) (fun z => absurd z (by decide))
    obtain ⟨G1, G2, G3, G4, G5, G6⟩ := V.2.2.2.2.1
    have n8 : wz_n (sp_new W 8 [(0, a), (1, b), (2, c), (3, d), (4, d)]) 8 = wz_n W 8 + 1 := by
      show Int32.toNatClampNeg (sp_new W 8 _ (20 + 8) 0 0) = _
      rw [sp_new_c, nI_clamp (by omega)]
    generalize sp_new W 8 [(0, a), (1, b), (2, c), (3, d), (4, d)] = X at o g2 n8
    have e6 : ∀ i x, X 6 i x = W 6 i x := fun i x => o _ _ _ (by decide) (by omega)
    have e10 : ∀ i x, X 10 i x = W 10 i x := fun i x => o _ _ _ (by decide) (by omega)
    have e14 : ∀ i x, X 14 i x = W 14 i x := fun i x => o _ _ _ (by decide) (by omega)
    have n10 : wz_n X 10 = wz_n W 10 := wz_n_cong (o _ _ _ (by decide) (by omega))
    unfold vz_glob
    rw [n10, n8]
    simp only [e6, e10, e14]
    refine ⟨G1, G2, G3, G4, fun r hr => ?_, G6⟩
    by_cases q : r = wz_n W 8
    · rw [q, g2]
      exact h4.2
    · rw [o 8 r 2 (by decide) (fun z => q z.2)]
      exact G5 r (by omega)
  · rw [if_neg h6] at e
    cases e
    exact V
theorem vz_rock {p : Int64 × m_W} (V : vz W) (e : sp_rock W a b c d = .inl p) : vz p.2 := by
  unfold sp_rock at e
  obtain ⟨h1, e⟩ := if_in e
  obtain ⟨h2, e⟩ := if_in e
  obtain ⟨h3, e⟩ := if_in e
  obtain ⟨h4, e⟩ := if_in e
  obtain ⟨h5, e⟩ := if_in e
  obtain ⟨h6, e⟩ := if_in e
  cases e
  have g : ∀ x, _ = _ := fun x => @sp_new_x W 10 x [(0, a), (1, W 14 0 0), (2, b), (3, c), (4, d)]
  have o : ∀ k i x, ¬ k = 30 → ¬ (k = 10 ∧ i = wz_n W 10) → sp_new W 10 [(0, a), (1, W 14 0 0), (2, b), (3, c), (4, d)] k i x = W k i x := fun k i x z1 z2 => sp_new_o z1 z2
  have g1 : sp_new W 10 [(0, a), (1, W 14 0 0), (2, b), (3, c), (4, d)] 10 (wz_n W 10) 1 = W 14 0 0 := g 1
  have g5 : sp_new W 10 [(0, a), (1, W 14 0 0), (2, b), (3, c), (4, d)] 10 (wz_n W 10) 5 = 0 := (g 5).trans (V.z (k := 10) (by decide) (Nat.le_refl _) h6 (by decide))
  have key : ∀ F : Nat → Int32, F 0 = a → F 1 = W 14 0 0 → F 2 = b → F 3 = c → F 4 = d → vz_row 10 F := by
    intro F g0 g1 g2 g3 g4
    show (1 ≤ F 0 ∧ F 0 ≤ 5) ∧ 0 ≤ F 1 ∧ (1 ≤ F 2 ∧ F 2 ≤ 500) ∧ (0 ≤ F 3 ∧ F 3 ≤ 10000) ∧ (0 ≤ F 4 ∧ F 4 ≤ 1000)
    rw [g0, g1, g2, g3, g4]
    exact ⟨⟨i_one h1.1 h2, h1.2⟩, V.wk.1, h3, h4, h5⟩
  refine V.grow (k := 10) (by decide) (by decide) h6 (by omega) sp_new_c (fun k' i x h1 h2 => o _ _ _ h1 h2) (key _ (g 0) (g 1) (g 2) (g 3) (g 4)) ?_ (fun z => absurd z (by decide)) (fun z => absurd z (by decide))
  obtain ⟨G1, G2, G3, G4, G5, G6⟩ := V.2.2.2.2.1
  have n10 : wz_n (sp_new W 10 [(0, a), (1, W 14 0 0), (2, b), (3, c), (4, d)]) 10 = wz_n W 10 + 1 := by
    show Int32.toNatClampNeg (sp_new W 10 _ (20 + 10) 0 0) = _
    rw [sp_new_c, nI_clamp (by omega)]
  generalize sp_new W 10 [(0, a), (1, W 14 0 0), (2, b), (3, c), (4, d)] = X at o g1 g5 n10
  have e6 : ∀ i x, X 6 i x = W 6 i x := fun i x => o _ _ _ (by decide) (by omega)
  have e8 : ∀ i x, X 8 i x = W 8 i x := fun i x => o _ _ _ (by decide) (by omega)
  have e14 : ∀ i x, X 14 i x = W 14 i x := fun i x => o _ _ _ (by decide) (by omega)
  have n8 : wz_n X 8 = wz_n W 8 := wz_n_cong (o _ _ _ (by decide) (by omega))
  unfold vz_glob
  rw [n10, n8]
  simp only [e6, e8, e14]
  refine ⟨G1, G2, ?_, fun r hr => ?_, G5, G6⟩
  · rw [sp_it_s, g5, Int32.add_zero, G3]
    exact si_if (fun i hi x => by rw [o 10 i 5 (by decide) (by omega)])
  · by_cases q : r = wz_n W 10
    · rw [q, g1]
      exact Int32.le_refl _
    · rw [o 10 r 1 (by decide) (fun z => q z.2)]
      exact G4 r (by omega)
end
