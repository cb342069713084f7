/-! ===== what always holds is kept: lots ===== -/
section
variable {W X : m_W} {a b c d : Int32}
theorem lot_new {F : Nat → Int32} (ha : 0 ≤ F 0 ∧ F 0 ≤ 7) (hb : 1 ≤ F 1 ∧ F 1 ≤ 1000) (hl : 0 ≤ F 2 ∧ F 2 ≤ 5) (h3 : F 3 = 0 ∨ F 3 = 1) (f5 : F 5 = 0) (f6 : F 6 = -1) (f7 : F 7 = 0) (h9 : F 9 = 0 ∨ F 9 = 1) (f19 : F 19 = 0) (z : F 11 = 0 ∧ F 14 = 0 ∧ F 15 = 0 ∧ F 16 = 0 ∧ F 17 = 0 ∧ F 18 = 0) (hq : (F 2 = 0 ∧ F 3 = 0 ∧ F 10 = F 1 ∧ F 13 = 0) ∨ (¬ F 2 = 0 ∧ F 10 = 0 ∧ F 13 = F 1)) : vz_lot F ∧ 0 + (F 10).toInt + (F 11).toInt + 0 + (F 13).toInt + (F 14).toInt + (F 15).toInt + (F 16).toInt + (F 17).toInt + (F 18).toInt = (F 1).toInt := by
  obtain ⟨z11, z14, z15, z16, z17, z18⟩ := z
  have b0 : 0 ≤ F 1 := Int32.le_trans (by decide) hb.1
  have o : (0 : Int32).toInt = 0 := rfl
  have n10 : 0 ≤ F 10 ∧ 0 ≤ F 13 := by
    rcases hq with ⟨-, -, q1, q2⟩ | ⟨-, q1, q2⟩
    · rw [q1, q2]; exact ⟨b0, by decide⟩
    · rw [q1, q2]; exact ⟨by decide, b0⟩
  refine ⟨⟨ha, ⟨b0, hb.2⟩, hl, h3, Or.inl f5, Or.inl f6, ?_, ?_, h9, fun q => ?_, fun q => ?_, fun _ => z11, fun _ => z17, fun p hp h2 => ?_⟩, ?_⟩
  · rw [f7]; decide
  · rw [f19]; decide
  · rcases hq with ⟨-, q3, q1, q2⟩ | ⟨q3, -⟩
    · exact ⟨q3, fun _ => ⟨q1, hb.1, z11⟩, fun y => Or.inr q1⟩
    · exact absurd q q3
  · rcases hq with ⟨q3, -⟩ | ⟨-, q1, -⟩
    · exact absurd q3 q
    · exact q1
  · match p, hp with
    | 0, _ => exact n10.1
    | 1, _ => rw [show 10 + 1 = 11 from rfl, z11]; decide
    | 2, _ => exact absurd rfl h2
    | 3, _ => exact n10.2
    | 4, _ => rw [show 10 + 4 = 14 from rfl, z14]; decide
    | 5, _ => rw [show 10 + 5 = 15 from rfl, z15]; decide
    | 6, _ => rw [show 10 + 6 = 16 from rfl, z16]; decide
    | 7, _ => rw [show 10 + 7 = 17 from rfl, z17]; decide
    | 8, _ => rw [show 10 + 8 = 18 from rfl, z18]; decide
    | n + 9, hp => exact absurd hp (by omega)
  · rw [z11, z14, z15, z16, z17, z18, o]
    rcases hq with ⟨-, -, q1, q2⟩ | ⟨-, q1, q2⟩
    · rw [q1, q2, o]; omega
    · rw [q1, q2, o]; omega
theorem vz.newLot (V : vz X) (hn : wz_n X 2 < 100) {l : List (Nat × Int32)} (L : vz_lot (sp_new X 2 l 2 (wz_n X 2)) ∧ sp_pls (sp_new X 2 l) (wz_n X 2) = (sp_new X 2 l 2 (wz_n X 2) 1).toInt) : vz (sp_new X 2 l) :=
  V.grow (k := 2) (by decide) (by decide) hn (by omega) sp_new_c (fun k' i x h1 h2 => sp_new_o h1 h2) L.1 (vz_glob_n V.2.2.2.2.1 (fun k' i x h => sp_new_o (by omega) (by omega)) (wz_n_cong (sp_new_o (by decide) (by omega))) (wz_n_cong (sp_new_o (by decide) (by omega)))) (fun z => absurd z (by decide)) (fun _ => L.2)
theorem vz_order {p : Int64 × m_W} (V : vz W) (e : sp_order W a b = .inl p) : vz p.2 := by
  unfold sp_order at e
  obtain ⟨h1, e⟩ := if_in e
  obtain ⟨h2, e⟩ := if_in e
  obtain ⟨h6, e⟩ := if_in e
  obtain ⟨h4, e⟩ := if_in e
  cases e
  show vz (sp_new W 2 [(0, a), (1, b), (2, 0), (6, -1), (8, -1), (10, b)])
  have g : ∀ x, _ = _ := fun x => @sp_new_x W 2 x [(0, a), (1, b), (2, 0), (6, -1), (8, -1), (10, b)]
  have zz : ∀ x, x < 21 → W 2 (wz_n W 2) x = 0 := fun x hx => V.z (k := 2) (by decide) (Nat.le_refl _) h6 hx
  have g0 : sp_new W 2 [(0, a), (1, b), (2, 0), (6, -1), (8, -1), (10, b)] 2 (wz_n W 2) 0 = a := g 0
  have g1 : sp_new W 2 [(0, a), (1, b), (2, 0), (6, -1), (8, -1), (10, b)] 2 (wz_n W 2) 1 = b := g 1
  have g2 : sp_new W 2 [(0, a), (1, b), (2, 0), (6, -1), (8, -1), (10, b)] 2 (wz_n W 2) 2 = 0 := g 2
  have g10 : sp_new W 2 [(0, a), (1, b), (2, 0), (6, -1), (8, -1), (10, b)] 2 (wz_n W 2) 10 = b := g 10
  refine V.newLot h6 (lot_new (by rw [g0]; exact h1) (by rw [g1]; exact h2) (by rw [g2]; decide) (Or.inl ((g 3).trans (zz 3 (by decide)))) ((g 5).trans (zz 5 (by decide))) (g 6) ((g 7).trans (zz 7 (by decide))) (Or.inl ((g 9).trans (zz 9 (by decide)))) ((g 19).trans (zz 19 (by decide))) ⟨(g 11).trans (zz 11 (by decide)), (g 14).trans (zz 14 (by decide)), (g 15).trans (zz 15 (by decide)), (g 16).trans (zz 16 (by decide)), (g 17).trans (zz 17 (by decide)), (g 18).trans (zz 18 (by decide))⟩ (Or.inl ⟨g2, (g 3).trans (zz 3 (by decide)), g10.trans g1.symm, (g 13).trans (zz 13 (by decide))⟩))
theorem vz_back {p : Int64 × m_W} (V : vz W) (e : sp_back W a b c = .inl p) : vz p.2 := by
  unfold sp_back at e
  obtain ⟨h1, e⟩ := if_in e
  obtain ⟨h2, e⟩ := if_in e
  obtain ⟨h3, e⟩ := if_in e
  obtain ⟨h4, e⟩ := if_in e
  obtain ⟨h6, e⟩ := if_in e
  obtain ⟨h5, e⟩ := if_in e
  cases e
  show vz (sp_new W 2 [(0, b), (1, c), (2, a), (6, -1), (8, -1), (13, c), (3, 1)])
  have g : ∀ x, _ = _ := fun x => @sp_new_x W 2 x [(0, b), (1, c), (2, a), (6, -1), (8, -1), (13, c), (3, 1)]
  have zz : ∀ x, x < 21 → W 2 (wz_n W 2) x = 0 := fun x hx => V.z (k := 2) (by decide) (Nat.le_refl _) h6 hx
  have g0 : sp_new W 2 [(0, b), (1, c), (2, a), (6, -1), (8, -1), (13, c), (3, 1)] 2 (wz_n W 2) 0 = b := g 0
  have g1 : sp_new W 2 [(0, b), (1, c), (2, a), (6, -1), (8, -1), (13, c), (3, 1)] 2 (wz_n W 2) 1 = c := g 1
  have g2 : sp_new W 2 [(0, b), (1, c), (2, a), (6, -1), (8, -1), (13, c), (3, 1)] 2 (wz_n W 2) 2 = a := g 2
  have g13 : sp_new W 2 [(0, b), (1, c), (2, a), (6, -1), (8, -1), (13, c), (3, 1)] 2 (wz_n W 2) 13 = c := g 13
  refine V.newLot h6 (lot_new (by rw [g0]; exact h2) (by rw [g1]; exact h4) (by rw [g2]; exact h1) (Or.inr (g 3)) ((g 5).trans (zz 5 (by decide))) (g 6) ((g 7).trans (zz 7 (by decide))) (Or.inl ((g 9).trans (zz 9 (by decide)))) ((g 19).trans (zz 19 (by decide))) ⟨(g 11).trans (zz 11 (by decide)), (g 14).trans (zz 14 (by decide)), (g 15).trans (zz 15 (by decide)), (g 16).trans (zz 16 (by decide)), (g 17).trans (zz 17 (by decide)), (g 18).trans (zz 18 (by decide))⟩ (Or.inr ⟨by rw [g2]; exact h3, (g 10).trans (zz 10 (by decide)), g13.trans g1.symm⟩))
theorem vz_mv3 (V : vz W) {i d : Nat} (hd : d = 4 ∨ d = 5 ∨ d = 8) (hi : i < wz_n W 2) {n : Int32} (n0 : 0 ≤ n.toInt) (n1 : n.toInt ≤ (W 2 i 13).toInt) : vz (sp_mv W i 3 d n) := by
  have L := V.lot hi
  have P3 := V.pl (p := 3) hi (by decide) (by decide)
  have P4 := V.pl (p := d) hi (by omega) (by omega)
  have P3 : 0 ≤ (W 2 i 13).toInt ∧ (W 2 i 13).toInt ≤ 1000 := P3
  have g : ∀ x, sp_mv W i 3 d n 2 i x = if x = 10 + d then W 2 i (10 + d) + n else if x = 13 then W 2 i 13 - n else W 2 i x := fun x => sp_mv_e (by omega)
  have g13 : sp_mv W i 3 d n 2 i 13 = W 2 i 13 - n := (g 13).trans (by rw [if_neg (by omega), if_pos rfl])
  have g14 : sp_mv W i 3 d n 2 i (10 + d) = W 2 i (10 + d) + n := (g (10 + d)).trans (if_pos rfl)
  have k : ∀ x, ¬ x = 13 → ¬ x = 10 + d → sp_mv W i 3 d n 2 i x = W 2 i x := fun x h1 h2 => (g x).trans (by rw [if_neg h2, if_neg h1])
  have i13 : (W 2 i 13 - n).toInt = (W 2 i 13).toInt - n.toInt := i_sub (by omega) (by omega)
  have i14 : (W 2 i (10 + d) + n).toInt = (W 2 i (10 + d)).toInt + n.toInt := i_add (by omega) (by omega)
  refine V.lotUp hi (fun k i' x hk => ?_) ?_ (k 2 (by decide) (by omega)) (k 3 (by decide) (by omega)) ?_
  · unfold sp_mv wz_up
    rw [if_neg (fun y => hk ⟨y.1, y.2.1⟩), if_neg (fun y => hk ⟨y.1, y.2.1⟩)]
  · obtain ⟨a0, a1, a2, a3, a5, a6, a7, a19, a9, as, al, ab, a17, ap⟩ := L
    unfold vz_lot
    rw [k 0 (by decide) (by omega), k 1 (by decide) (by omega), k 2 (by decide) (by omega), k 3 (by decide) (by omega), k 5 (by decide) (by omega), k 6 (by decide) (by omega), k 7 (by decide) (by omega), k 19 (by decide) (by omega), k 9 (by decide) (by omega), k 10 (by decide) (by omega), k 11 (by decide) (by omega), k 17 (by decide) (by omega)]
    refine ⟨a0, a1, a2, a3, a5, a6, a7, a19, a9, as, al, ab, a17, fun p hp h2 => ?_⟩
    by_cases y3 : p = 3
    · subst y3
      rw [g13]
      refine Int32.le_iff_toInt_le.mpr ?_
      rw [i13]; show (0 : Int) ≤ _; omega
    · by_cases y4 : p = d
      · subst y4
        rw [g14]
        refine Int32.le_iff_toInt_le.mpr ?_
        rw [i14]; show (0 : Int) ≤ _; omega
      · rw [k (10 + p) (by omega) (by omega)]
        exact ap p hp h2
  · rw [sp_pls_e, sp_pls_e, k 10 (by decide) (by omega), k 11 (by decide) (by omega), k 16 (by decide) (by omega), k 17 (by decide) (by omega), k 1 (by decide) (by omega), g13, i13]
    rcases hd with rfl | rfl | rfl
    · rw [show sp_mv W i 3 4 n 2 i 14 = W 2 i 14 + n from g14, k 15 (by decide) (by decide), k 18 (by decide) (by decide)]
      have : (W 2 i 14 + n).toInt = (W 2 i 14).toInt + n.toInt := i14
      omega
    · rw [show sp_mv W i 3 5 n 2 i 15 = W 2 i 15 + n from g14, k 14 (by decide) (by decide), k 18 (by decide) (by decide)]
      have : (W 2 i 15 + n).toInt = (W 2 i 15).toInt + n.toInt := i14
      omega
    · rw [show sp_mv W i 3 8 n 2 i 18 = W 2 i 18 + n from g14, k 14 (by decide) (by decide), k 15 (by decide) (by decide)]
      have : (W 2 i 18 + n).toInt = (W 2 i 18).toInt + n.toInt := i14
      omega
theorem sp_mv_n {i p q k : Nat} {n : Int32} : wz_n (sp_mv W i p q n) k = wz_n W k := by
  unfold sp_mv
  rw [wz_n_up (by omega), wz_n_up (by omega)]
theorem vz_on (V : vz W) {t : Nat} {l g : Int32} (ht : t < wz_n W 2) (hg : g = 0 ∨ g = 1) (hl : 0 ≤ l ∧ l ≤ 5) (G : sp_giv W t c l) : vz (sp_on W t c l g) := by
  obtain ⟨⟨s1, s2⟩, ⟨c1, c2⟩, l0, -, h6⟩ := G
  have L := V.lot ht
  have P := V.pls ht
  have ci : 1 ≤ c.toInt := Int32.le_iff_toInt_le.mp c1
  have cu : c.toInt ≤ (W 2 t 13).toInt := Int32.le_iff_toInt_le.mp c2
  have V1 : vz (sp_mv W t 3 5 c) := vz_mv3 V (Or.inr (Or.inl rfl)) ht (by omega) cu
  have C := V.cons ht
  have C0 := V.cars (t := t)
  rw [sp_pls_e] at C
  have c1000 : c ≤ 1000 := Int32.le_iff_toInt_le.mpr (by show c.toInt ≤ 1000; omega)
  have n1 : wz_n (sp_mv W t 3 5 c) 2 = wz_n W 2 := sp_mv_n
  have h6' : wz_n (sp_mv W t 3 5 c) 2 < 100 := by rw [n1]; exact h6
  have ty : 0 ≤ W 2 t 0 ∧ W 2 t 0 ≤ 7 := L.1
  have ll := nI_c (n := 5) (by decide) hl
  have tt := nI_c (n := 7) (by decide) ty
  unfold sp_on
  refine vz_6s ?_ (by omega) (Or.inl rfl)
  obtain ⟨X, hX⟩ : ∃ X, X = sp_mv W t 3 5 c := ⟨_, rfl⟩
  rw [← n1, ← hX]
  rw [← hX] at V1 h6'
  show vz (sp_new X 2 [(0, W 2 t 0), (1, c), (2, l), (6, -1), (8, -1), (13, c), (8, nI t), (9, g)])
  have f : ∀ x, _ = _ := fun x => @sp_new_x X 2 x [(0, W 2 t 0), (1, c), (2, l), (6, -1), (8, -1), (13, c), (8, nI t), (9, g)]
  have zz : ∀ x, x < 21 → X 2 (wz_n X 2) x = 0 := fun x hx => V1.z (k := 2) (by decide) (Nat.le_refl _) h6' hx
  have g0 : sp_new X 2 [(0, W 2 t 0), (1, c), (2, l), (6, -1), (8, -1), (13, c), (8, nI t), (9, g)] 2 (wz_n X 2) 0 = W 2 t 0 := f 0
  have g1 : sp_new X 2 [(0, W 2 t 0), (1, c), (2, l), (6, -1), (8, -1), (13, c), (8, nI t), (9, g)] 2 (wz_n X 2) 1 = c := f 1
  have g2 : sp_new X 2 [(0, W 2 t 0), (1, c), (2, l), (6, -1), (8, -1), (13, c), (8, nI t), (9, g)] 2 (wz_n X 2) 2 = l := f 2
  have g9 : sp_new X 2 [(0, W 2 t 0), (1, c), (2, l), (6, -1), (8, -1), (13, c), (8, nI t), (9, g)] 2 (wz_n X 2) 9 = g := f 9
  have g13 : sp_new X 2 [(0, W 2 t 0), (1, c), (2, l), (6, -1), (8, -1), (13, c), (8, nI t), (9, g)] 2 (wz_n X 2) 13 = c := f 13
  refine V1.newLot h6' (lot_new (by rw [g0]; exact ty) (by rw [g1]; exact ⟨c1, c1000⟩) (by rw [g2]; exact hl) (Or.inl ((f 3).trans (zz 3 (by decide)))) ((f 5).trans (zz 5 (by decide))) (f 6) ((f 7).trans (zz 7 (by decide))) (by rw [g9]; exact hg) ((f 19).trans (zz 19 (by decide))) ⟨(f 11).trans (zz 11 (by decide)), (f 14).trans (zz 14 (by decide)), (f 15).trans (zz 15 (by decide)), (f 16).trans (zz 16 (by decide)), (f 17).trans (zz 17 (by decide)), (f 18).trans (zz 18 (by decide))⟩ (Or.inr ⟨by rw [g2]; exact l0, (f 10).trans (zz 10 (by decide)), g13.trans g1.symm⟩))
theorem vz_give {v : Int32} {W1 : m_W} (V : vz W) (e : sp_give W a b c d = .inl (v, some W1)) : vz W1 := by
  unfold sp_give at e
  obtain ⟨h1, e⟩ := if_in e
  obtain ⟨h2, e⟩ := if_in e
  obtain ⟨h3, e⟩ := if_in e
  have hn : wz_n W 2 ≤ 100 := V.c (k := 2) (by omega)
  obtain ⟨t, ht, rfl⟩ := i_rowlt (by omega) h1
  rw [nI_clamp (by omega)] at e
  by_cases q : sp_giv W t b c
  · rw [if_pos q] at e
    by_cases q1 : sp_given W t b c = -1
    · rw [if_pos q1] at e
      by_cases q2 : d = 0
      · rw [if_pos q2] at e
        cases e
      · rw [if_neg q2] at e
        cases e
        exact vz_on V ht (Or.inr rfl) h2 q
    · rw [if_neg q1] at e
      cases e
      exact vz_on V ht (Or.inl rfl) h2 q
  · rw [if_neg q] at e
    cases e
theorem vz_label {p : Int64 × m_W} (V : vz W) (e : sp_label W a b = .inl p) : vz p.2 := by
  unfold sp_label at e
  obtain ⟨h1, e⟩ := if_in e
  obtain ⟨h2, e⟩ := if_in e
  have hn : wz_n W 2 ≤ 100 := V.c (k := 2) (by omega)
  obtain ⟨t, ht, rfl⟩ := i_rowlt (by omega) h1
  rw [nI_clamp (by omega)] at e
  by_cases q1 : W 2 t 2 = 0
  · rw [if_pos q1] at e; cases e; exact V
  rw [if_neg q1] at e
  by_cases q2 : W 2 t 11 = 0
  · rw [if_pos q2] at e; cases e; exact V
  rw [if_neg q2] at e
  by_cases q3 : W 2 t 7 = b
  · rw [if_pos q3] at e; cases e; exact V
  rw [if_neg q3] at e
  cases e
  show vz (wz_up W 2 t 7 b)
  have L := V.lot ht
  have k : ∀ x, ¬ x = 7 → wz_up W 2 t 7 b 2 t x = W 2 t x := fun x hx => wz_up_c hx
  refine V.lotUp ht (fun k i' x hk => up_o hk) ?_ (k 2 (by decide)) (k 3 (by decide)) ?_
  · unfold vz_lot at L ⊢
    rw [k 0 (by decide), k 1 (by decide), k 2 (by decide), k 3 (by decide), k 5 (by decide), k 6 (by decide), wz_up_s, k 19 (by decide), k 9 (by decide), k 10 (by decide), k 11 (by decide), k 17 (by decide)]
    obtain ⟨a0, a1, a2, a3, a5, a6, a7, a19, a9, as, al, ab, a17, ap⟩ := L
    refine ⟨a0, a1, a2, a3, a5, a6, h2, a19, a9, as, al, ab, a17, fun p hp h2 => ?_⟩
    rw [k (10 + p) (by omega)]
    exact ap p hp h2
  · rw [sp_pls_e, sp_pls_e, k 10 (by decide), k 11 (by decide), k 13 (by decide), k 14 (by decide), k 15 (by decide), k 16 (by decide), k 17 (by decide), k 18 (by decide), k 1 (by decide)]
theorem vz_lefts (V : vz W) : ∀ i, i ≤ wz_n W 2 → vz (sp_it sp_left i (0, W)).2 ∧ wz_n (sp_it sp_left i (0, W)).2 2 = wz_n W 2
  | 0, _ => ⟨V, rfl⟩
  | i + 1, hi => by
    obtain ⟨V1, n1⟩ := vz_lefts V i (by omega)
    rw [sp_it_s]
    generalize sp_it sp_left i (0, W) = p at V1 n1 ⊢
    have P := V1.pl (t := i) (p := 3) (by omega) (by decide) (by decide)
    exact ⟨vz_mv3 V1 (Or.inr (Or.inr rfl)) (by omega) P.1 (Int.le_refl _), sp_mv_n.trans n1⟩
theorem vz_over (V : vz W) : vz (sp_over W).2 := by
  unfold sp_over
  by_cases q : W 14 0 3 = 0
  · rw [if_pos q]
    have V1 := (vz_lefts V (wz_n W 2) (Nat.le_refl _)).1
    dsimp only
    generalize (sp_it sp_left (wz_n W 2) (0, W)).2 = X at V1 ⊢
    obtain ⟨G1, G2, G3, G4, G5, G6⟩ := V1.2.2.2.2.1
    refine V1.up14 (fun k i x hk => wz_up_k hk) ⟨?_, Or.inr wz_up_s, ?_, fun r hr => ?_, fun r hr => ?_, fun r hr => ?_⟩
    · rw [wz_up_c (by decide)]; exact G1
    · rw [wz_up_c (by decide), wz_n_up (by decide)]
      exact G3.trans (si_if (fun i hi x => by rw [wz_up_k (by decide)]))
    · rw [wz_n_up (by decide)] at hr
      rw [wz_up_k (by decide), wz_up_c (by decide)]
      exact G4 r hr
    · rw [wz_n_up (by decide)] at hr
      rw [wz_up_k (by decide), wz_up_c (by decide)]
      exact G5 r hr
    · rw [wz_up_k (by decide), wz_up_c (by decide)]
      exact G6 r hr
  · rw [if_neg q]
    exact V
end
