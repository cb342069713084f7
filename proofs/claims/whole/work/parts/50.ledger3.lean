/-! ===== balance, whence, land ===== -/
theorem si64_sub {g : Nat → Int64} {e : Int64} : ∀ {n : Nat}, sp_it (fun r a => a - g r) n e = e - sp_it (fun r a => a + g r) n 0
  | 0 => (Int64.sub_zero e).symm
  | n + 1 => by
    show sp_it (fun r a => a - g r) n e - g n = e - (sp_it (fun r a => a + g r) n 0 + g n)
    rw [si64_sub (n := n), Int64.sub_sub]
def sp_cg (W : m_W) (l t : Int32) (r : Nat) : Int32 := if W 2 r 2 = l ∧ W 2 r 0 = t then W 2 r 17 else 0
theorem vz.ever {W : m_W} (V : vz W) {r : Nat} (hr : r < 48) : 0 ≤ (W 6 r 1).toInt ∧ (W 6 r 1).toInt ≤ 48000000 := by
  obtain ⟨h1, h2⟩ := V.2.2.2.2.1.2.2.2.2.2 r hr
  have h3 := Int32.le_iff_toInt_le.mp V.wk.2
  rw [show (500 : Int32).toInt = 500 from rfl] at h3
  exact ⟨i_nn h1, by omega⟩
theorem sp_came_eq {W : m_W} {l t : Int32} : sp_came W l t = sp_it (fun r a => a + sp_cg W l t r) (wz_n W 2) 0 := by
  refine si_if (fun i _ x => ?_)
  unfold sp_cg
  by_cases q : W 2 i 2 = l
  · rw [if_pos q]
    by_cases q2 : W 2 i 0 = t
    · rw [if_pos q2, if_pos ⟨q, q2⟩]
    · rw [if_neg q2, if_neg (fun e => q2 e.2), Int32.add_zero]
  · rw [if_neg q, if_neg (fun e => q e.1), Int32.add_zero]
theorem sp_cg_b {W : m_W} (V : vz W) {l t : Int32} {r : Nat} (hr : r < wz_n W 2) : 0 ≤ (sp_cg W l t r).toInt ∧ (sp_cg W l t r).toInt ≤ 1000 := by
  unfold sp_cg
  split
  · exact V.pl (p := 7) hr (by decide) (by decide)
  · exact ⟨Int.le_refl 0, by decide⟩
theorem sp_came_b {W : m_W} (V : vz W) {l t : Int32} : 0 ≤ (sp_came W l t).toInt ∧ (sp_came W l t).toInt ≤ 100000 := by
  have hn : wz_n W 2 ≤ 100 := V.c (k := 2) (by omega)
  rw [sp_came_eq]
  obtain ⟨h1, h2, h3⟩ := s32 (f := sp_cg W l t) (b := 1000) (by decide) (n := wz_n W 2) (by omega) (fun i hi => sp_cg_b V hi)
  rw [h1]
  exact ⟨h2, by omega⟩
theorem bal_eq {W : m_W} (V : vz W) {l t : Int32} {r : Nat} (hr : r < 48) : sp_it (fun i a => if W 2 i 2 = l then (if W 2 i 3 = 1 then (if W 2 i 0 = t then a - (W 2 i 17).toInt64 else a) else a) else a) (wz_n W 2) (W 6 r 1).toInt64 = (W 6 r 1 - sp_came W l t).toInt64 := by
  have hn : wz_n W 2 ≤ 100 := V.c (k := 2) (by omega)
  have e1 : sp_it (fun i a => if W 2 i 2 = l then (if W 2 i 3 = 1 then (if W 2 i 0 = t then a - (W 2 i 17).toInt64 else a) else a) else a) (wz_n W 2) (W 6 r 1).toInt64 = sp_it (fun i a => a - (sp_cg W l t i).toInt64) (wz_n W 2) (W 6 r 1).toInt64 := by
    refine si_if (fun i hi x => ?_)
    have hl := V.lot hi
    by_cases q : W 2 i 2 = l
    · rw [if_pos q]
      by_cases q2 : W 2 i 0 = t
      · rw [show sp_cg W l t i = W 2 i 17 from if_pos ⟨q, q2⟩]
        rcases hl.2.2.2.1 with q3 | q3
        · rw [if_neg (show ¬ W 2 i 3 = 1 by rw [q3]; decide), hl.2.2.2.2.2.2.2.2.2.2.2.2.1 q3]
          exact (Int64.sub_zero x).symm
        · rw [if_pos q3, if_pos q2]
      · rw [show sp_cg W l t i = 0 from if_neg (fun e => q2 e.2), if_neg q2, ite_self]
        exact (Int64.sub_zero x).symm
    · rw [if_neg q, show sp_cg W l t i = 0 from if_neg (fun e => q e.1)]
      exact (Int64.sub_zero x).symm
  have e2 := s64 (f := sp_cg W l t) (b := 1000) (by decide) (n := wz_n W 2) (by omega) (fun i hi => sp_cg_b V hi)
  rw [e1, si64_sub (g := fun i => (sp_cg W l t i).toInt64), ← e2, ← sp_came_eq]
  apply Int64.toInt_inj.mp
  have h1 := V.ever hr
  have h2 := sp_came_b V (l := l) (t := t)
  rw [Int64.toInt_sub, Int32.toInt_toInt64, Int32.toInt_toInt64, Int32.toInt_toInt64, i_sub (by omega) (by omega)]
  exact Int.bmod_eq_of_le (by omega) (by omega)
def sp_gl (W : m_W) (l : Int32) (p : Nat) (r : Nat) : Int32 := if W 2 r 2 = l ∧ W 2 r 3 = 0 then W 2 r (10 + p) else 0
theorem sp_gl_b {W : m_W} (V : vz W) {l : Int32} {p r : Nat} (hr : r < wz_n W 2) (hp : p < 9) (h2 : ¬ p = 2) : 0 ≤ (sp_gl W l p r).toInt ∧ (sp_gl W l p r).toInt ≤ 1000 := by
  unfold sp_gl
  split
  · exact V.pl hr hp h2
  · exact ⟨Int.le_refl 0, by decide⟩
theorem sp_lentAt_eq {W : m_W} {l : Int32} {p : Nat} : sp_lentAt W l p = sp_it (fun r a => a + sp_gl W l p r) (wz_n W 2) 0 := by
  refine si_if (fun i _ x => ?_)
  unfold sp_gl
  by_cases q : W 2 i 2 = l ∧ W 2 i 3 = 0
  · rw [if_pos q, if_pos q]
  · rw [if_neg q, if_neg q, Int32.add_zero]
theorem sp_lentAt64 {W : m_W} (V : vz W) {l : Int32} {p : Nat} (hp : p < 9) (h2 : ¬ p = 2) : (sp_lentAt W l p).toInt64 = sp_it (fun r a => a + (sp_gl W l p r).toInt64) (wz_n W 2) 0 := by
  have hn : wz_n W 2 ≤ 100 := V.c (k := 2) (by omega)
  rw [sp_lentAt_eq]
  exact s64 (f := sp_gl W l p) (b := 1000) (by decide) (n := wz_n W 2) (by omega) (fun i hi => sp_gl_b V hi hp h2)
theorem sp_landed64 {W : m_W} (V : vz W) {l : Int32} {t : Nat} : (sp_landed W l (nI t)).toInt64 = sp_it (fun r a => a + (if W 2 r 0 = nI t then (sp_gl W l 3 r).toInt64 else 0)) (wz_n W 2) 0 := by
  have hn : wz_n W 2 ≤ 100 := V.c (k := 2) (by omega)
  have e : sp_landed W l (nI t) = sp_it (fun r a => a + (if W 2 r 0 = nI t then sp_gl W l 3 r else 0)) (wz_n W 2) 0 := by
    refine si_if (fun i _ x => ?_)
    unfold sp_gl
    by_cases q : W 2 i 2 = l ∧ W 2 i 3 = 0
    · rw [if_pos q, if_pos q]
      by_cases q2 : W 2 i 0 = nI t
      · rw [if_pos q2, if_pos q2]
      · rw [if_neg q2, if_neg q2, Int32.add_zero]
    · rw [if_neg q, if_neg q, ite_self, Int32.add_zero]
  rw [e, s64 (f := fun r => if W 2 r 0 = nI t then sp_gl W l 3 r else 0) (b := 1000) (by decide) (n := wz_n W 2) (by omega) (fun i hi => by
    split
    · exact sp_gl_b V hi (by decide) (by decide)
    · exact ⟨Int.le_refl 0, by decide⟩)]
  refine si_if (fun i _ x => ?_)
  by_cases q2 : W 2 i 0 = nI t
  · rw [if_pos q2, if_pos q2]
  · rw [if_neg q2, if_neg q2]
    rfl
theorem land3 {W : m_W} (V : vz W) {l : Int32} : sp_it (fun t a => a + (sp_landed W l (nI t)).toInt64) 8 0 = (sp_lentAt W l 3).toInt64 := by
  rw [sp_lentAt64 V (by decide) (by decide), si_if (g := fun t a => a + sp_it (fun r a => a + (if W 2 r 0 = nI t then (sp_gl W l 3 r).toInt64 else 0)) (wz_n W 2) 0) (fun i _ x => by rw [sp_landed64 V]), si64_sw (f := fun t r => if W 2 r 0 = nI t then (sp_gl W l 3 r).toInt64 else 0)]
  refine si_if (fun r hr x => ?_)
  obtain ⟨m, hm, e⟩ := i_row (n := 7) rfl (V.lot hr).1
  have e2 : sp_it (fun t a => a + (if W 2 r 0 = nI t then (sp_gl W l 3 r).toInt64 else 0)) 8 0 = sp_it (fun t a => a + (if m = t then (sp_gl W l 3 r).toInt64 else 0)) 8 0 := by
    refine si_if (fun t ht y => ?_)
    by_cases q : m = t
    · rw [if_pos q, if_pos (by rw [e, q])]
    · rw [if_neg q, if_neg (fun x => q (nI_e (by omega) (by omega) (e.symm.trans x)))]
  rw [e2, si64_one, if_pos (by omega)]
section
variable {s0 : tz_S} {th : Int32} {W : m_W} {h : m_H}
theorem cz_came (R : cz_N s0 W h) (V : vz W) {l t : Int32} : F5_cameBack 223 l t h = some (sp_came W l t) := by
  have hn : wz_n W 2 ≤ 100 := V.c (k := 2) (by omega)
  unfold F5_cameBack F5_cameBack_0 F5_cameBack_5
  refine wh_up (fun r a => if W 2 r 2 = l then (if W 2 r 0 = t then a + W 2 r 17 else a) else a) (wz_n W 2) 0 _ (by omega) (fun i a hi => ?_) ?_
  · unfold F5_cameBack_5b
    dsimp only
    rw [nz_gr223_8 R, bz_s, cz_z2 R, bz_s, iz_f (nI_ge hi (by omega)), bz_s, cz_g2_2 R rfl hi, bz_s]
    by_cases q : W 2 i 2 = l
    · rw [iz_t q, bz_s, cz_g2_0 R rfl hi, bz_s, if_pos q]
      by_cases q2 : W 2 i 0 = t
      · rw [iz_t q2, if_pos q2, cz_cr7 R rfl hi, bz_s]
      · rw [iz_f q2, if_neg q2]
    · rw [iz_f q, if_neg q]
  · unfold F5_cameBack_5b
    dsimp only
    rw [nz_gr223_8 R, bz_s, cz_z2 R, bz_s, iz_t (nI_le (Nat.le_refl _) (by omega))]
    rfl
theorem cz_worth (R : cz_N s0 W h) (V : vz W) {t : Nat} {a b : Int32} (ht : t ≤ 7) : F5_worthOf 223 (nI t) a b h = some (sp_worth W t a b) := by
  have h0 := V.n0
  unfold F5_worthOf F5_worthOf_0 sp_worth
  by_cases q : a = 0
  · rw [iz_t q, if_pos q, cz_priceIn R, bz_s]
  · rw [iz_f q, if_neg q, nz_gr223_6 R, bz_s]
    by_cases q2 : a = 1
    · rw [iz_t q2, if_pos q2, cz_g0_2 R rfl (by omega), bz_s]
    · rw [iz_f q2, if_neg q2, cz_g0_0 R rfl (by omega), bz_s]
theorem cz_bal (R : cz_N s0 W h) (V : vz W) {l : Nat} {a b : Int32} (hl : l ≤ 5) : F5_balanceBy 223 (nI l) a b h = some (sp_bal W l a b) := by
  have h6 := V.n6
  unfold F5_balanceBy F5_balanceBy_0 F5_balanceBy_6
  refine wh_up (fun t x => x + (W 6 (8 * l + t) 1 - sp_came W (nI l) (nI t)).toInt64 * (sp_worth W t a b).toInt64) 8 0 _ (by decide) (fun i x hi => ?_) ?_
  · unfold F5_balanceBy_6b
    dsimp only
    rw [iz_f (i8f hi), nz_gr223_12 R, bz_s, cz_tradeRow, bz_s, cz_g6_1 R rfl (by omega), bz_s, cz_came R V, bz_s, cz_worth R V (by omega), bz_s]
    rfl
  · unfold F5_balanceBy_6b
    dsimp only
    rw [iz_t i8t]
    rfl
theorem rz_bal (R : rz_N s0 th W h) (V : vz W) {l : Nat} {a b : Int32} (hl : l ≤ 5) : F12_balance_64 317 (nI l) a b 0 0 h = some (sp_bal W l a b, h) := by
  have hc := V.cap (k := 2) (by omega)
  have hn : wz_n W 2 ≤ 100 := hc.2
  unfold F12_balance_64
  refine wh_up (fun t x => x + (W 6 (8 * l + t) 1 - sp_came W (nI l) (nI t)).toInt64 * (sp_worth W t a b).toInt64) 8 0 _ (by decide) (fun i x hi => ?_) ?_
  · unfold F12_balance_64b F12_balance_90
    dsimp only
    have hb := rz_both (h := h) (l := l) (t := i) (c := 1) (by omega) (by omega) (by decide)
    rw [iz_f (i8f hi), rz_gr1 R, bz_s, show F12_both 109 (nI l) (nI i) h = _ from hb.1, bz_s, rz_get R rfl hb.2, bz_s]
    rw [← bal_eq V (l := nI l) (t := nI i) (show 8 * l + i < 48 by omega)]
    refine wh_up (fun r a => if W 2 r 2 = nI l then (if W 2 r 3 = 1 then (if W 2 r 0 = nI i then a - (W 2 r 17).toInt64 else a) else a) else a) (wz_n W 2) _ _ (by omega) (fun r y hr => ?_) ?_
    · unfold F12_balance_90b
      dsimp only
      rw [rz_gr1 R, bz_s, rz_c2 R, bz_s, show W 22 0 0 = _ from hc.1, iz_f (nI_ge hr (by omega)), rz_o2 R rfl (by omega), bz_s]
      by_cases q : W 2 r 2 = nI l
      · rw [iz_t q, if_pos q, rz_o3 R rfl (by omega), bz_s]
        by_cases q2 : W 2 r 3 = 1
        · rw [iz_t q2, if_pos q2, rz_o0 R rfl (by omega), bz_s]
          by_cases q3 : W 2 r 0 = nI i
          · rw [iz_t q3, if_pos q3, rz_o17 R rfl (by omega), bz_s]
            rfl
          · rw [iz_f q3, if_neg q3, Int64.sub_zero]
        · rw [iz_f q2, if_neg q2, Int64.sub_zero]
      · rw [iz_f q, if_neg q, Int64.sub_zero]
    · unfold F12_balance_90b F12_balance_201 sp_worth
      dsimp only
      rw [rz_gr1 R, bz_s, rz_c2 R, bz_s, show W 22 0 0 = _ from hc.1, iz_t (nI_le (Nat.le_refl _) (by omega))]
      by_cases q : a = 0
      · rw [iz_t q, if_pos q, rz_priceOf R V, bz_s]
        rfl
      · rw [iz_f q, if_neg q]
        by_cases q2 : a = 1
        · rw [iz_t q2, if_pos q2, rz_so2 R rfl (by omega), bz_s]
          rfl
        · rw [iz_f q2, if_neg q2, rz_so0 R rfl (by omega), bz_s]
          rfl
  · unfold F12_balance_64b
    dsimp only
    rw [iz_t i8t]
    rfl
theorem cz_balance (R : cz_N s0 W h) (V : vz W) {a b c : Int32} : k_ok (F11_balance 200 a b c h) (fz_J s0 W (sp_balance W a b c)) := by
  unfold F11_balance F11_balance_0 sp_balance
  refine k_g (nz_io200 R) ?_
  refine k_tl (fun c1 => ?_) (fun c1 => k_s (by rw [if_neg c1]; exact ⟨_, rfl, R⟩))
  refine k_ta (fun c2 => ?_) (fun c2 => k_s (by rw [if_pos c1, if_neg (fun q => q c2)]; exact ⟨_, rfl, R⟩))
  refine k_o (fun c3 => ?_) (fun c3 => k_s (by rw [if_pos c1, if_pos c2, if_neg c3]; exact ⟨_, rfl, R⟩))
  rw [if_pos c1, if_pos c2, if_pos c3]
  obtain ⟨r, hr, rfl⟩ := i_row (n := 5) rfl c1
  rw [nI_clamp (by omega)]
  exact k_e (nz_gr200_4 R) (k_e (cz_bal R V hr) (k_s ⟨h, rfl, R⟩))
theorem rz_balance (R : rz_N s0 th W h) (V : vz W) {a b c : Int32} : k_ok (F12_balance 317 a b c h) (hz_J s0 e014 W (sp_balance W a b c)) := by
  unfold F12_balance F12_balance_0 sp_balance
  refine k_g (rz_io R) ?_
  refine k_b (rz_th R) ?_
  intro h1 R1
  refine k_e k_nl (k_ww R1 (0 ≤ a ∧ a ≤ 5) rfl (fun c1 => ?_) (fun c1 h2 R2 => k_s (by rw [if_neg c1]; exact R2)))
  refine k_if (fun c2 => (by unfold F12_balance_27; exact k_thr R1 (fun h2 R2 => k_s (by rw [if_pos c1, if_neg (fun q => q c2)]; exact R2)))) (fun c2 => ?_)
  unfold F12_balance_27
  refine k_thr0 R1 ?_
  refine k_i (fun c3 => ?_) (fun c3 => (by unfold F12_balance_49; exact k_thr R1 (fun h2 R2 => k_s (by rw [if_pos c1, if_pos c2, if_neg c3]; exact R2))))
  rw [if_pos c1, if_pos c2, if_pos c3]
  unfold F12_balance_49
  obtain ⟨r, hr, rfl⟩ := i_row (n := 5) rfl c1
  rw [nI_clamp (by omega)]
  exact k_thr0 R1 ⟨_, rz_bal R1 V hr, rfl, R1⟩
theorem cz_unx (R : cz_N s0 W h) (V : vz W) {l t : Nat} (hl : l ≤ 5) (ht : t ≤ 7) : F5_unexplained 223 (nI l) (nI t) h = some (sp_unx W l t) := by
  have hn : wz_n W 9 ≤ 60 := V.c (k := 9) (by omega)
  have h6 := V.n6
  unfold F5_unexplained F5_unexplained_0 F5_unexplained_5
  refine wh_up (fun r a => if W 9 r 0 = nI l then (if W 9 r 1 = nI t then m_max a (W 9 r 2) else a) else a) (wz_n W 9) 0 _ (by omega) (fun i a hi => ?_) ?_
  · unfold F5_unexplained_5b
    dsimp only
    rw [nz_gr223_15 R, bz_s, cz_z9 R, bz_s, iz_f (nI_ge hi (by omega)), bz_s, cz_g9_0 R rfl hi, bz_s]
    by_cases q : W 9 i 0 = nI l
    · rw [iz_t q, bz_s, cz_g9_1 R rfl hi, bz_s, if_pos q]
      by_cases q2 : W 9 i 1 = nI t
      · rw [iz_t q2, if_pos q2, bz_s, cz_g9_2 R rfl hi, bz_s]
      · rw [iz_f q2, if_neg q2]
    · rw [iz_f q, if_neg q]
  · unfold F5_unexplained_5b
    dsimp only
    rw [nz_gr223_15 R, bz_s, cz_z9 R, bz_s, iz_t (nI_le (Nat.le_refl _) (by omega)), cz_tradeRow, bz_s, nz_gr223_12 R, bz_s, cz_g6_1 R rfl (by omega), bz_s, bz_s, cz_g6_2 R rfl (by omega), bz_s]
    rfl
theorem cz_bits (R : cz_N s0 W h) (V : vz W) {t : Nat} (ht : t ≤ 7) : F5_landsWith 223 (nI t) h = some (sp_bits W t) := by
  have h6 := V.n6
  unfold F5_landsWith F5_landsWith_0 F5_landsWith_4
  refine wh_up1 (fun l a => if W 6 (8 * (l + 1) + t) 1 ≤ 0 then a else a ||| (1 <<< (nI (l + 1) &&& 31))) 5 1 0 _ (by decide) (fun i a hi => ?_) ?_
  · unfold F5_landsWith_4b
    dsimp only
    rw [iz_f (i6f (by omega)), nz_gr223_12 R, bz_s, cz_tradeRow, bz_s, cz_g6_1 R rfl (by omega), bz_s, show 1 + i = i + 1 by omega]
    by_cases q : W 6 (8 * (i + 1) + t) 1 ≤ 0
    · rw [iz_t q, if_pos q]
    · rw [iz_f q, if_neg q]
  · unfold F5_landsWith_4b
    dsimp only
    rw [iz_t i6t]
    rfl
theorem rz_bits (R : rz_N s0 th W h) {t : Nat} (ht : t ≤ 7) : F12_whence_61 317 (nI t) 0 1 h = some (sp_bits W t, h) := by
  unfold F12_whence_61
  refine wh_up1 (fun l a => if W 6 (8 * (l + 1) + t) 1 ≤ 0 then a else a ||| (1 <<< (nI (l + 1) &&& 31))) 5 1 0 _ (by decide) (fun i a hi => ?_) ?_
  · unfold F12_whence_61b
    dsimp only
    have hb := rz_both (h := h) (l := 1 + i) (t := t) (c := 1) (by omega) (by omega) (by decide)
    rw [iz_f (i6f (by omega)), rz_gr1 R, bz_s, show F12_both 109 (nI (1 + i)) (nI t) h = _ from hb.1, bz_s, rz_get R rfl hb.2, bz_s, show 1 + i = i + 1 by omega]
    by_cases q : W 6 (8 * (i + 1) + t) 1 ≤ 0
    · rw [iz_t q, if_pos q, Int32.or_zero]
    · rw [iz_f q, if_neg q]
  · unfold F12_whence_61b
    dsimp only
    rw [iz_t i6t]
    rfl
theorem rz_s9 (R : rz_N s0 th W h) {r c : Nat} {x : Int32} (hr : r < 60) (hx : x = nI c) (hc : c < 3) : m_ai h 0 318 (nI (3988 + 3 * r) + x) = some (W 9 r c) := by
  subst hx
  refine rz_get R ?_ ⟨by decide, hr, hc⟩
  rw [nI_add, Nat.add_assoc]
  rfl
theorem rz_s90 (R : rz_N s0 th W h) {r : Nat} (hr : r < 60) : m_ai h 0 318 (nI (3988 + 3 * r)) = some (W 9 r 0) := rz_get R rfl ⟨by decide, hr, by decide⟩
theorem rz_s91 (R : rz_N s0 th W h) {r : Nat} (hr : r < 60) : m_ai h 0 318 (nI (3988 + 3 * r) + 1) = some (W 9 r 1) := rz_s9 R hr rfl (by decide)
theorem rz_s92 (R : rz_N s0 th W h) {r : Nat} (hr : r < 60) : m_ai h 0 318 (nI (3988 + 3 * r) + 2) = some (W 9 r 2) := rz_s9 R hr rfl (by decide)
theorem rz_unx (R : rz_N s0 th W h) (V : vz W) {l t : Nat} (hl : l ≤ 5) (ht : t ≤ 7) : F12_whence_111 317 (nI l) (nI t) 0 3988 h = some (sp_unx W l t, h) := by
  have hc := V.cap (k := 9) (by omega)
  have hn : wz_n W 9 ≤ 60 := hc.2
  have e1 : (3988 : Int32) + 3 * nI (wz_n W 9) = nI (3988 + 3 * wz_n W 9) := by
    show nI 3988 + nI 3 * nI _ = _
    rw [nI_mul, nI_add]
  unfold F12_whence_111
  refine wh_s (fun i => (sp_it (fun r a => if W 9 r 0 = nI l then (if W 9 r 1 = nI t then m_max a (W 9 r 2) else a) else a) i 0, nI (3988 + 3 * i))) _ (wz_n W 9) 0 m_N (N_lt (by omega)) (Nat.zero_le _) (fun i _ hi => ?_) ?_
  · have e3 : nI (3988 + 3 * i) + 3 = nI (3988 + 3 * (i + 1)) := by
      show nI _ + nI 3 = _
      rw [nI_add]
      congr 1
    show F12_whence_111b 317 (nI l) (nI t) h _ = some (Sum.inl ((if W 9 i 0 = nI l then (if W 9 i 1 = nI t then m_max (sp_it (fun r a => if W 9 r 0 = nI l then (if W 9 r 1 = nI t then m_max a (W 9 r 2) else a) else a) i 0) (W 9 i 2) else _) else _), nI (3988 + 3 * (i + 1))))
    generalize sp_it (fun r a => if W 9 r 0 = nI l then (if W 9 r 1 = nI t then m_max a (W 9 r 2) else a) else a) i 0 = a
    unfold F12_whence_111b
    dsimp only
    rw [rz_gr1 R, bz_s, rz_c9 R, bz_s, show W 29 0 0 = _ from hc.1, e1, iz_f (nI_ge (by omega) (by omega)), bz_s, rz_s90 R (by omega), bz_s]
    by_cases q : W 9 i 0 = nI l
    · rw [iz_t q, bz_s, rz_s91 R (by omega), bz_s, if_pos q]
      by_cases q2 : W 9 i 1 = nI t
      · rw [iz_t q2, if_pos q2, bz_s, rz_s92 R (by omega), bz_s, e3]
      · rw [iz_f q2, if_neg q2, e3]
    · rw [iz_f q, if_neg q, e3]
  · unfold F12_whence_111b F12_cameTo F12_cameTo_0
    dsimp only
    have hb := rz_both (h := h) (l := l) (t := t) (c := 1) (by omega) (by omega) (by decide)
    have hb2 := rz_both (h := h) (l := l) (t := t) (c := 2) (by omega) (by omega) (by decide)
    rw [rz_gr1 R, bz_s, rz_c9 R, bz_s, show W 29 0 0 = _ from hc.1, e1, iz_t (nI_le (Nat.le_refl _) (by omega)), rz_io R, gz_s, bz_s, show F12_both 109 (nI l) (nI t) h = _ from hb.1, bz_s, rz_get R rfl hb.2, bz_s, bz_s, show F12_both 157 (nI l) (nI t) h = _ from hb2.1, bz_s, rz_get R rfl hb2.2, bz_s, bz_s]
    rfl
theorem cz_whence (R : cz_N s0 W h) (V : vz W) {a b c : Int32} : k_ok (F11_whence 200 a b c h) (fz_I s0 W (sp_whence W a b c)) := by
  unfold F11_whence F11_whence_0 sp_whence
  refine k_g (nz_io200 R) ?_
  refine k_tl (fun c1 => ?_) (fun c1 => k_s (by rw [if_neg c1]; exact ⟨_, rfl, R⟩))
  refine k_ts (fun c2 => ?_) (fun c2 => k_s (by rw [if_pos c1, if_neg c2]; exact ⟨_, rfl, R⟩))
  refine k_ta (fun c3 => ?_) (fun c3 => k_s (by rw [if_pos c1, if_pos c2, if_neg (fun q => q c3)]; exact ⟨_, rfl, R⟩))
  rw [if_pos c1, if_pos c2, if_pos c3]
  obtain ⟨r, hr, rfl⟩ := i_row (n := 5) rfl c1
  obtain ⟨t, ht, rfl⟩ := i_row (n := 7) rfl c2
  rw [nI_clamp (n := r) (by omega), nI_clamp (n := t) (by omega)]
  refine k_if (fun q => ?_) (fun q => ?_)
  · rw [if_pos q]
    exact k_e (nz_gr200_4 R) (k_e (cz_unx R V hr ht) (k_s ⟨_, h, rfl, rfl, R⟩))
  · rw [if_neg q]
    exact k_e (nz_gr200_4 R) (k_e (cz_bits R V ht) (k_s ⟨_, h, rfl, rfl, R⟩))
theorem rz_whence (R : rz_N s0 th W h) (V : vz W) {a b c : Int32} : k_ok (F12_whence 317 a b c h) (hz_I s0 e01 W (sp_whence W a b c)) := by
  unfold F12_whence F12_whence_0 sp_whence
  refine k_g (rz_io R) ?_
  refine k_b (rz_th R) ?_
  intro h1 R1
  refine k_e k_nl ?_
  by_cases c1 : 0 ≤ a ∧ a ≤ 5
  · rw [if_pos c1]
    refine k_t rfl (k_e k_ns ?_)
    by_cases c2 : 0 ≤ b ∧ b ≤ 7
    · rw [if_pos c2]
      refine k_t rfl ?_
      unfold F12_whence_25
      refine k_thr0 R1 ?_
      refine k_if (fun c3 => (by unfold F12_whence_42; exact k_thr R1 (fun h2 R2 => k_s (by rw [if_pos c1, if_pos c2, if_neg (fun q => q c3)]; exact R2)))) (fun c3 => ?_)
      rw [if_pos c1, if_pos c2, if_pos c3]
      unfold F12_whence_42
      obtain ⟨r, hr, rfl⟩ := i_row (n := 5) rfl c1
      obtain ⟨t, ht, rfl⟩ := i_row (n := 7) rfl c2
      rw [nI_clamp (n := r) (by omega), nI_clamp (n := t) (by omega)]
      refine k_thr0 R1 (k_if (fun q => ?_) (fun q => ?_))
      · rw [if_pos q]
        exact ⟨_, rz_unx R1 V hr ht, rfl, R1⟩
      · rw [if_neg q]
        exact ⟨_, rz_bits R1 ht, rfl, R1⟩
    · rw [if_neg c2]
      refine k_f (by decide) ?_
      unfold F12_whence_20 F12_whence_25
      exact k_thr R1 (fun h2 R2 => k_s (by rw [if_pos c1, if_neg c2]; exact R2))
  · rw [if_neg c1]
    refine k_f (by decide) ?_
    unfold F12_whence_20 F12_whence_25
    exact k_thr R1 (fun h2 R2 => k_s (by rw [if_neg c1]; exact R2))
end
