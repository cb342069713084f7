/-! ===== a lending keeps what always holds ===== -/
theorem wz_up_x {W : m_W} {k r c z : Nat} {v : Int32} : wz_up W k r c v k r z = if z = c then v else W k r z := by
  unfold wz_up
  by_cases q : z = c
  · rw [if_pos ⟨rfl, rfl, q⟩, if_pos q]
  · rw [if_neg (fun x => q x.2.2), if_neg q]
section
variable {W : m_W} {r : Nat} {c owe : Int32}
theorem sp_lend_k {k i x : Nat} (h2 : ¬ k = 2) (h3 : ¬ k = 3) (h22 : ¬ k = 22) : sp_lend W r c owe k i x = W k i x := by
  unfold sp_lend sp_lend1
  rw [wz_up_k h3, wz_up_k h2, wz_up_k h2, wz_up_k h2, sp_lot0_k h2 h22]
  exact sp_tk_k (fun q => h2 q.1) _
theorem sp_lend_3 {i x : Nat} : sp_lend W r c owe 3 i x = if i = r ∧ x = 4 then W 3 r 4 + c else W 3 i x := by
  unfold sp_lend sp_lend1
  by_cases q : i = r ∧ x = 4
  · rw [if_pos q, q.1, q.2, wz_up_s]
  · rw [if_neg q]
    unfold wz_up
    rw [if_neg (fun e => q e.2), if_neg (fun e => absurd e.1 (by decide)), if_neg (fun e => absurd e.1 (by decide)), if_neg (fun e => absurd e.1 (by decide))]
    exact (sp_lot0_k (by decide) (by decide)).trans (sp_tk_k (fun q => absurd q.1 (by decide)) _)
theorem sp_lot0_r {a b l : Int32} {q i x : Nat} (h : ¬ i = wz_n W 2) : sp_lot0 W a b l q 2 i x = W 2 i x := by
  unfold sp_lot0
  rw [wz_up_r h, wz_up_r h, wz_up_r h, wz_up_r h, wz_up_r h, wz_up_r h, wz_up_k (by decide)]
theorem sp_lend_2 {i x : Nat} (h : ¬ i = wz_n W 2) : sp_lend W r c owe 2 i x = sp_take W (W 3 r 1) c 2 i x := by
  unfold sp_lend sp_lend1
  rw [wz_up_k (by decide), wz_up_r h, wz_up_r h, wz_up_r h, sp_lot0_r]
  rw [show wz_n (sp_take W (W 3 r 1) c) 2 = wz_n W 2 from sp_tk_n]
  exact h
theorem sp_lend_n {x : Nat} : sp_lend W r c owe 2 (wz_n W 2) x = if x = 20 then owe else if x = 19 then sp_told W 1 (W 3 r 1) (W 14 0 0) else if x = 6 then W 14 0 0 else if x = 11 then c else if x = 8 then -1 else if x = 6 then -1 else if x = 2 then W 3 r 0 else if x = 1 then c else if x = 0 then W 3 r 1 else W 2 (wz_n W 2) x := by
  unfold sp_lend sp_lend1
  rw [wz_up_k (by decide), wz_up_x, wz_up_x, wz_up_x]
  unfold sp_lot0
  rw [show wz_n (sp_take W (W 3 r 1) c) 2 = wz_n W 2 from sp_tk_n, wz_up_x, wz_up_x, wz_up_x, wz_up_x, wz_up_x, wz_up_x, wz_up_k (by decide)]
  rw [show sp_take W (W 3 r 1) c 2 (wz_n W 2) x = W 2 (wz_n W 2) x from sp_tk_r _ (Nat.le_refl _)]
theorem sp_lend_c : sp_lend W r c owe 22 0 0 = nI (wz_n W 2 + 1) := by
  unfold sp_lend sp_lend1
  rw [wz_up_k (by decide), wz_up_k (by decide), wz_up_k (by decide), wz_up_k (by decide), wz_lot_s (by decide), show wz_n (sp_take W (W 3 r 1) c) 2 = wz_n W 2 from sp_tk_n]
theorem sp_lend_wn {k : Nat} (h : ¬ k = 2) : wz_n (sp_lend W r c owe) k = wz_n W k := by
  unfold wz_n
  by_cases q : 20 + k = 22
  · omega
  · by_cases q1 : 20 + k = 2
    · omega
    · by_cases q2 : 20 + k = 3
      · omega
      · rw [sp_lend_k q1 q2 q]
theorem sp_lend_w2 (hn : wz_n W 2 < 100) : wz_n (sp_lend W r c owe) 2 = wz_n W 2 + 1 := by
  show Int32.toNatClampNeg (sp_lend W r c owe 22 0 0) = _
  rw [sp_lend_c, nI_clamp (by omega)]
theorem vz.told (V : vz W) {a b : Int32} : 0 ≤ sp_told W 1 a b ∧ sp_told W 1 a b ≤ 1000 := by
  unfold sp_told
  have key : ∀ k, k ≤ wz_n W 1 → 0 ≤ (sp_it (sp_tf W 1 a b) k (-1, 0)).2 ∧ (sp_it (sp_tf W 1 a b) k (-1, 0)).2 ≤ 1000 := by
    intro k
    induction k with
    | zero =>
      intro _
      show (0 : Int32) ≤ 0 ∧ (0 : Int32) ≤ 1000
      decide
    | succ k ih =>
      intro hk
      have ih := ih (by omega)
      have v := V.row (k := 1) (by omega) (r := k) (by omega)
      show 0 ≤ (sp_tf W 1 a b k (sp_it (sp_tf W 1 a b) k (-1, 0))).2 ∧ (sp_tf W 1 a b k (sp_it (sp_tf W 1 a b) k (-1, 0))).2 ≤ 1000
      unfold sp_tf
      split
      · split
        · exact ih
        · split
          · exact ih
          · exact v.2
      · exact ih
  exact key _ (Nat.le_refl _)
theorem vz_lend (V : vz W) (hr : r < wz_n W 3) (hc : 1 ≤ c) (hl : c ≤ W 3 r 2 - W 3 r 4) (hn : wz_n W 2 < 100) : vz (sp_lend W r c owe) := by
  have hc1 : 1 ≤ c.toInt := Int32.le_iff_toInt_le.mp hc
  have hr3 := V.row (k := 3) (by omega) hr
  have hr3 : (1 ≤ W 3 r 0 ∧ W 3 r 0 ≤ 5) ∧ (0 ≤ W 3 r 1 ∧ W 3 r 1 ≤ 7) ∧ (1 ≤ W 3 r 2 ∧ W 3 r 2 ≤ 1000) ∧ (0 ≤ W 3 r 4 ∧ W 3 r 4 ≤ W 3 r 2) := hr3
  have b2 : (W 3 r 2).toInt ≤ 1000 := Int32.le_iff_toInt_le.mp hr3.2.2.1.2
  have b4 : 0 ≤ (W 3 r 4).toInt := i_nn hr3.2.2.2.1
  have b24 : (W 3 r 4).toInt ≤ (W 3 r 2).toInt := Int32.le_iff_toInt_le.mp hr3.2.2.2.2
  have hl1 : c.toInt ≤ (W 3 r 2).toInt - (W 3 r 4).toInt := by
    have := Int32.le_iff_toInt_le.mp hl
    rw [i_sub (by omega) (by omega)] at this
    exact this
  have w2 : wz_n (sp_lend W r c owe) 2 = wz_n W 2 + 1 := sp_lend_w2 hn
  have wn : ∀ {k}, ¬ k = 2 → wz_n (sp_lend W r c owe) k = wz_n W k := fun h => sp_lend_wn h
  have rows := (sp_tk_row V (t := W 3 r 1) (Int32.le_trans (by decide) hc) (wz_n W 2) (Nat.le_refl _)).2
  have keep : ∀ {i x}, i < wz_n W 2 → ¬ x = 1 → ¬ x = 11 → sp_lend W r c owe 2 i x = W 2 i x := fun hi h1 h2 => (sp_lend_2 (by omega)).trans (sp_tk_k (by omega) _)
  have e4 : ∀ s x, sp_lend W r c owe 4 s x = W 4 s x := fun s x => sp_lend_k (by decide) (by decide) (by decide)
  have e14 : ∀ s x, sp_lend W r c owe 14 s x = W 14 s x := fun s x => sp_lend_k (by decide) (by decide) (by decide)
  refine ⟨?_, ⟨?_, ?_, ?_, ?_⟩, ?_, ?_, ?_, ?_, ?_, ?_⟩
  · intro k hk
    by_cases q : k = 2
    · subst q
      rw [w2]
      exact ⟨sp_lend_c, show wz_n W 2 + 1 ≤ 100 by omega⟩
    · rw [wn q, sp_lend_k (by omega) (by omega) (by omega)]
      exact V.1 k hk
  · rw [wn (by decide)]; exact V.n0
  · rw [wn (by decide)]; exact V.n5
  · rw [wn (by decide)]; exact V.n6
  · rw [wn (by decide)]; exact V.n13
  · intro k hk i x h1 h2 h3
    by_cases q : k = 2
    · subst q
      rw [w2] at h1
      rw [sp_lend_2 (by omega)]
      exact (sp_tk_r _ (by omega)).trans (V.z (k := 2) (by decide) (by omega) h2 h3)
    · rw [wn q] at h1
      by_cases q3 : k = 3
      · subst q3
        rw [sp_lend_3, if_neg (by omega)]
        exact V.z (k := 3) (by decide) h1 h2 h3
      · rw [sp_lend_k q q3 (by omega)]
        exact V.z hk h1 h2 h3
  · intro k hk i hi
    by_cases q : k = 2
    · subst q
      rw [w2] at hi
      by_cases qn : i = wz_n W 2
      · subst qn
        have g : ∀ x, _ = _ := fun x => @sp_lend_n W r c owe x
        have tl := V.told (a := W 3 r 1) (b := W 14 0 0)
        have zz : ∀ x, x < 21 → W 2 (wz_n W 2) x = 0 := fun x hx => V.z (k := 2) (by decide) (Nat.le_refl _) hn hx
        have wk := V.wk
        have nz : ¬ W 3 r 0 = 0 := fun x => absurd hr3.1.1 (by rw [x]; decide)
        show vz_lot (sp_lend W r c owe 2 (wz_n W 2))
        have f0 : sp_lend W r c owe 2 (wz_n W 2) 0 = W 3 r 1 := g 0
        have f1 : sp_lend W r c owe 2 (wz_n W 2) 1 = c := g 1
        have f2 : sp_lend W r c owe 2 (wz_n W 2) 2 = W 3 r 0 := g 2
        have f3 : sp_lend W r c owe 2 (wz_n W 2) 3 = 0 := (g 3).trans (zz 3 (by decide))
        have f5 : sp_lend W r c owe 2 (wz_n W 2) 5 = 0 := (g 5).trans (zz 5 (by decide))
        have f6 : sp_lend W r c owe 2 (wz_n W 2) 6 = W 14 0 0 := g 6
        have f7 : sp_lend W r c owe 2 (wz_n W 2) 7 = 0 := (g 7).trans (zz 7 (by decide))
        have f9 : sp_lend W r c owe 2 (wz_n W 2) 9 = 0 := (g 9).trans (zz 9 (by decide))
        have f10 : sp_lend W r c owe 2 (wz_n W 2) 10 = 0 := (g 10).trans (zz 10 (by decide))
        have f17 : sp_lend W r c owe 2 (wz_n W 2) 17 = 0 := (g 17).trans (zz 17 (by decide))
        have f19 : sp_lend W r c owe 2 (wz_n W 2) 19 = sp_told W 1 (W 3 r 1) (W 14 0 0) := g 19
        unfold vz_lot
        rw [f0, f1, f2, f3, f5, f6, f7, f9, f10, f17, f19]
        have c0 : 0 ≤ c := Int32.le_trans (by decide) hc
        refine ⟨hr3.2.1, ⟨c0, Int32.le_iff_toInt_le.mpr (by show c.toInt ≤ 1000; omega)⟩, ⟨Int32.le_trans (by decide) hr3.1.1, hr3.1.2⟩, Or.inl rfl, Or.inl rfl, Or.inr ⟨wk.1, nz⟩, ⟨by decide, by decide⟩, tl, Or.inl rfl, fun q => absurd q nz, fun _ => rfl, fun q => absurd q (by decide), fun _ => rfl, ?_⟩
        intro p hp h2
        match p, hp with
        | 0, _ => rw [f10]; decide
        | 1, _ =>
          rw [show sp_lend W r c owe 2 (wz_n W 2) (10 + 1) = c from g 11]
          exact c0
        | 2, _ => exact absurd rfl h2
        | 3, _ => exact ((g 13).trans (zz 13 (by decide))).symm ▸ (by decide : (0 : Int32) ≤ 0)
        | 4, _ => exact ((g 14).trans (zz 14 (by decide))).symm ▸ (by decide : (0 : Int32) ≤ 0)
        | 5, _ => exact ((g 15).trans (zz 15 (by decide))).symm ▸ (by decide : (0 : Int32) ≤ 0)
        | 6, _ => exact ((g 16).trans (zz 16 (by decide))).symm ▸ (by decide : (0 : Int32) ≤ 0)
        | 7, _ => rw [f17]; decide
        | 8, _ => exact ((g 18).trans (zz 18 (by decide))).symm ▸ (by decide : (0 : Int32) ≤ 0)
        | n + 9, hp => exact absurd hp (by omega)
      · have hi' : i < wz_n W 2 := by omega
        obtain ⟨m, m1, m2, m3, m4, m5⟩ := rows i hi'
        have L := V.lot hi'
        have P := V.pls hi'
        have C := V.cons hi'
        have C0 := V.cars (t := i)
        rw [sp_pls_e] at C
        have x1 : sp_lend W r c owe 2 i 1 = W 2 i 1 - m := (sp_lend_2 qn).trans m4
        have x11 : sp_lend W r c owe 2 i 11 = W 2 i 11 - m := (sp_lend_2 qn).trans m5
        show vz_lot (sp_lend W r c owe 2 i)
        by_cases qm : m = 0
        · refine vz_lot_cong L (fun x => ?_)
          by_cases y1 : x = 1
          · rw [y1, x1, qm, Int32.sub_zero]
          · by_cases y2 : x = 11
            · rw [y2, x11, qm, Int32.sub_zero]
            · exact keep hi' y1 y2
        have st := (m3 qm).1
        have mp : 1 ≤ m.toInt := by
          have : ¬ m.toInt = 0 := fun e => qm (Int32.toInt_inj.mp e)
          omega
        have i1 : (W 2 i 1 - m).toInt = (W 2 i 1).toInt - m.toInt := i_sub (by omega) (by omega)
        have i11 : (W 2 i 11 - m).toInt = (W 2 i 11).toInt - m.toInt := i_sub (by omega) (by omega)
        have kp : ∀ x, ¬ x = 1 → ¬ x = 11 → sp_lend W r c owe 2 i x = W 2 i x := fun x h1 h2 => keep hi' h1 h2
        obtain ⟨a0, a1, a2, a3, a5, a6, a7, a19, a9, as, al, ab, a17, ap⟩ := L
        unfold vz_lot
        rw [kp 0 (by decide) (by decide), x1, kp 2 (by decide) (by decide), kp 3 (by decide) (by decide), kp 5 (by decide) (by decide), kp 6 (by decide) (by decide), kp 7 (by decide) (by decide), kp 19 (by decide) (by decide), kp 9 (by decide) (by decide), kp 10 (by decide) (by decide), x11, kp 17 (by decide) (by decide)]
        obtain ⟨as1, as2, as3⟩ := as st
        refine ⟨a0, ⟨Int32.le_iff_toInt_le.mpr ?_, Int32.le_iff_toInt_le.mpr ?_⟩, a2, a3, a5, a6, a7, a19, a9, fun _ => ⟨as1, fun f5 => ?_, fun f5 => ?_⟩, fun q => absurd st q, fun q => ?_, a17, ?_⟩
        · rw [i1]; show (0 : Int) ≤ _; omega
        · rw [i1]; show _ ≤ (1000 : Int); omega
        · exfalso
          have := (as2 f5).2.2
          rw [this] at m2
          have : (0 : Int32).toInt = 0 := rfl
          omega
        · rcases as3 f5 with e | e
          · exact Or.inl e
          · exfalso
            rw [e] at C
            omega
        · rw [as1] at q
          exact absurd q (by decide)
        · intro p hp h2
          by_cases y : p = 1
          · subst y
            rw [show 10 + 1 = 11 from rfl, x11]
            refine Int32.le_iff_toInt_le.mpr ?_
            rw [i11]; show (0 : Int) ≤ _; omega
          · rw [kp (10 + p) (by omega) (by omega)]
            exact ap p hp h2
    · rw [wn q] at hi
      by_cases q3 : k = 3
      · subst q3
        have v := V.row (k := 3) (by omega) hi
        have v : (1 ≤ W 3 i 0 ∧ W 3 i 0 ≤ 5) ∧ (0 ≤ W 3 i 1 ∧ W 3 i 1 ≤ 7) ∧ (1 ≤ W 3 i 2 ∧ W 3 i 2 ≤ 1000) ∧ (0 ≤ W 3 i 4 ∧ W 3 i 4 ≤ W 3 i 2) := v
        show (1 ≤ sp_lend W r c owe 3 i 0 ∧ _ ≤ _) ∧ (_ ≤ sp_lend W r c owe 3 i 1 ∧ _) ∧ (_ ≤ sp_lend W r c owe 3 i 2 ∧ _) ∧ (_ ≤ sp_lend W r c owe 3 i 4 ∧ _)
        rw [sp_lend_3, sp_lend_3, sp_lend_3, sp_lend_3, if_neg (fun x => absurd x.2 (by decide)), if_neg (fun x => absurd x.2 (by decide)), if_neg (fun x => absurd x.2 (by decide))]
        refine ⟨v.1, v.2.1, v.2.2.1, ?_⟩
        by_cases y : i = r
        · subst y
          rw [if_pos ⟨rfl, rfl⟩]
          refine ⟨Int32.le_iff_toInt_le.mpr ?_, Int32.le_iff_toInt_le.mpr ?_⟩
          · rw [i_add (by omega) (by omega)]; show (0 : Int) ≤ _; omega
          · rw [i_add (by omega) (by omega)]; omega
        · rw [if_neg (fun x => y x.1)]
          exact v.2.2.2
      · rw [show sp_lend W r c owe k i = W k i from funext fun x => sp_lend_k q q3 (by omega)]
        exact V.row hk hi
  · have G := V.2.2.2.2.1
    unfold vz_glob at G ⊢
    have e10 : ∀ s x, sp_lend W r c owe 10 s x = W 10 s x := fun s x => sp_lend_k (by decide) (by decide) (by decide)
    have e8 : ∀ s x, sp_lend W r c owe 8 s x = W 8 s x := fun s x => sp_lend_k (by decide) (by decide) (by decide)
    have e6 : ∀ s x, sp_lend W r c owe 6 s x = W 6 s x := fun s x => sp_lend_k (by decide) (by decide) (by decide)
    rw [wn (by decide), wn (by decide)]
    simp only [e10, e8, e6, e14]
    exact G
  · intro s hs j hj
    rw [wn (by decide)] at hs
    rw [e4] at hj
    obtain ⟨⟨t, ht, a, b, c1, c2, c3, c4⟩, d⟩ := V.2.2.2.2.2.1 s hs j hj
    obtain ⟨t1, ht1, et1⟩ := V.ship hs (show 0 < _ by omega)
    simp only [e4]
    refine ⟨⟨t, by omega, a, ?_, ?_, ?_, ?_, ?_⟩, d⟩
    · rw [keep ht (by decide) (by decide)]; exact b
    · rw [keep ht (by decide) (by decide), keep ht (by decide) (by decide)]
      intro q
      refine ⟨(c1 q).1, fun t0 ht0 et0 => ?_⟩
      have : t0 = t1 := nI_e (by omega) (by omega) (et0.symm.trans et1)
      subst this
      rw [keep ht1 (by decide) (by decide)]
      exact (c1 q).2 t0 ht1 et0
    · rw [keep ht (by decide) (by decide), keep ht (by decide) (by decide)]; exact c2
    · rw [keep ht (by decide) (by decide)]; exact c3
    · rw [keep ht (by decide) (by decide)]; exact c4
  · intro t ht
    rw [w2] at ht
    show sp_pls (sp_lend W r c owe) t + sp_cars (sp_lend W r c owe) t = _
    rw [sp_cars_cong e4 (wn (by decide)), sp_pls_e]
    by_cases q : t = wz_n W 2
    · subst q
      have g : ∀ x, _ = _ := fun x => @sp_lend_n W r c owe x
      have zz : ∀ x, x < 21 → W 2 (wz_n W 2) x = 0 := fun x hx => V.z (k := 2) (by decide) (Nat.le_refl _) hn hx
      rw [show sp_lend W r c owe 2 (wz_n W 2) 1 = c from g 1, show sp_lend W r c owe 2 (wz_n W 2) 11 = c from g 11, show sp_lend W r c owe 2 (wz_n W 2) 10 = 0 from (g 10).trans (zz 10 (by decide)), show sp_lend W r c owe 2 (wz_n W 2) 13 = 0 from (g 13).trans (zz 13 (by decide)), show sp_lend W r c owe 2 (wz_n W 2) 14 = 0 from (g 14).trans (zz 14 (by decide)), show sp_lend W r c owe 2 (wz_n W 2) 15 = 0 from (g 15).trans (zz 15 (by decide)), show sp_lend W r c owe 2 (wz_n W 2) 16 = 0 from (g 16).trans (zz 16 (by decide)), show sp_lend W r c owe 2 (wz_n W 2) 17 = 0 from (g 17).trans (zz 17 (by decide)), show sp_lend W r c owe 2 (wz_n W 2) 18 = 0 from (g 18).trans (zz 18 (by decide)), sp_cars_0 V (Nat.le_refl _) (by omega)]
      have : (0 : Int32).toInt = 0 := rfl
      omega
    · have hi' : t < wz_n W 2 := by omega
      obtain ⟨m, m1, m2, m3, m4, m5⟩ := rows t hi'
      have P := V.pls hi'
      have C := V.cons hi'
      have C0 := V.cars (t := t)
      rw [sp_pls_e] at C
      rw [show sp_lend W r c owe 2 t 1 = W 2 t 1 - m from (sp_lend_2 q).trans m4, show sp_lend W r c owe 2 t 11 = W 2 t 11 - m from (sp_lend_2 q).trans m5, keep hi' (by decide) (by decide), keep hi' (by decide) (by decide), keep hi' (by decide) (by decide), keep hi' (by decide) (by decide), keep hi' (by decide) (by decide), keep hi' (by decide) (by decide), keep hi' (by decide) (by decide), i_sub (by omega) (by omega), i_sub (by omega) (by omega)]
      omega
  · intro t ht
    rw [wn (by decide)] at ht
    rw [show sp_lend W r c owe 17 t = W 17 t from funext fun x => sp_lend_k (by decide) (by decide) (by decide)]
    exact V.text ht
end
