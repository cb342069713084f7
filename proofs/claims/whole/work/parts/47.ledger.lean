/-! ===== sums over lots: what lands have ===== -/
def sp_landed (W : m_W) (l t : Int32) : Int32 := sp_it (fun r a => if W 2 r 2 = l ∧ W 2 r 3 = 0 then (if W 2 r 0 = t then a + W 2 r 13 else a) else a) (wz_n W 2) 0
def sp_lentAt (W : m_W) (l : Int32) (p : Nat) : Int32 := sp_it (fun r a => if W 2 r 2 = l ∧ W 2 r 3 = 0 then a + W 2 r (10 + p) else a) (wz_n W 2) 0
def sp_owed1 (W : m_W) (r : Nat) : Int64 := ((W 2 r 1 - W 2 r 17 - W 2 r 18).toInt64 * (W 2 r 19).toInt64 * (W 2 r 20).toInt64) / 100
def sp_owed (W : m_W) (l : Int32) : Int64 := sp_it (fun r a => if W 2 r 2 = l ∧ W 2 r 3 = 0 then a + sp_owed1 W r else a) (wz_n W 2) 0
def sp_stock (W : m_W) (t : Int32) : Int32 := sp_it (fun r a => if W 2 r 2 = 0 then (if W 2 r 0 = t then a + W 2 r 11 else a) else a) (wz_n W 2) 0
def sp_lt (W : m_W) (l t : Int32) (i : Nat) (p : Option Nat) : Option Nat := if W 8 i 0 = l then (if W 8 i 1 = t then (match p with
  | none => some i
  | some j => if W 8 i 2 < W 8 j 2 then some j else some i) else p) else p
def sp_lat (W : m_W) (l t : Int32) : Option Nat := sp_it (sp_lt W l t) (wz_n W 8) none
def sp_must (W : m_W) (l t : Nat) (k : Int32) : Int32 := if k = W 14 0 0 then sp_landed W (nI l) (nI t) else W 16 k.toNatClampNeg (8 * l + t)
def sp_sure1 (W : m_W) (l t : Nat) (a : Int64) : Int64 := match sp_lat W (nI l) (nI t) with
  | none => a
  | some r => a + m_maxl 0 ((sp_must W l t (W 8 r 2)).toInt64 - (W 8 r 3).toInt64)
def sp_wor1 (W : m_W) (l t : Nat) (a : Int64) : Int64 := match sp_lat W (nI l) (nI t) with
  | none => a + (sp_landed W (nI l) (nI t)).toInt64
  | some _ => a
def sp_sure (W : m_W) (l : Nat) : Int64 := sp_it (sp_sure1 W l) 8 0
def sp_wor (W : m_W) (l : Nat) : Int64 := sp_it (sp_wor1 W l) 8 0
def sp_leased (W : m_W) (l : Int32) : Int32 := sp_it (fun r a => if W 10 r 0 = l then (if W 10 r 1 + W 10 r 2 ≤ W 14 0 0 then a else a + 1) else a) (wz_n W 10) 0
def sp_came (W : m_W) (l t : Int32) : Int32 := sp_it (fun r a => if W 2 r 2 = l then (if W 2 r 0 = t then a + W 2 r 17 else a) else a) (wz_n W 2) 0
def sp_worth (W : m_W) (t : Nat) (a b : Int32) : Int32 := if a = 0 then sp_told W 1 (nI t) b else if a = 1 then W 0 t 2 else W 0 t 0
def sp_bal (W : m_W) (l : Nat) (a b : Int32) : Int64 := sp_it (fun t x => x + (W 6 (8 * l + t) 1 - sp_came W (nI l) (nI t)).toInt64 * (sp_worth W t a b).toInt64) 8 0
def sp_unx (W : m_W) (l t : Nat) : Int32 := m_max 0 (sp_it (fun r a => if W 9 r 0 = nI l then (if W 9 r 1 = nI t then m_max a (W 9 r 2) else a) else a) (wz_n W 9) 0 - (W 6 (8 * l + t) 1 + W 6 (8 * l + t) 2))
def sp_bits (W : m_W) (t : Nat) : Int32 := sp_it (fun l a => if W 6 (8 * (l + 1) + t) 1 ≤ 0 then a else a ||| (1 <<< (nI (l + 1) &&& 31))) 5 0
theorem wh_up1 {A X : Type} {body : A × Int32 → Option ((A × Int32) ⊕ X)} (f : Nat → A → A) (n m : Nat) (a0 : A) (x : X) (hn : n < 1000000) (hb : ∀ i a, i < n → body (a, nI (m + i)) = some (.inl (f i a, nI (m + i) + 1))) (he : body (sp_it f n a0, nI (m + n)) = some (.inr x)) : m_wh body m_N (a0, nI m) = some x := by
  have := wh_s (body := body) (fun i => (sp_it f i a0, nI (m + i))) x n 0 m_N (N_lt (by omega)) (Nat.zero_le _) (fun i _ hi => by rw [hb i _ hi, ← nI_succ]; rfl) he
  exact this
section
variable {s0 : tz_S} {th : Int32} {W : m_W} {h : m_H}
theorem cz_cr0 (R : cz_N s0 W h) {r : Nat} {x : Int32} (hx : x = nI r) (hr : r < wz_n W 2) : F3_crates 223 x 0 h = some (W 2 r 10) := cz_crates R (q := 0) hx hr rfl (by decide)
theorem cz_cr1 (R : cz_N s0 W h) {r : Nat} {x : Int32} (hx : x = nI r) (hr : r < wz_n W 2) : F3_crates 223 x 1 h = some (W 2 r 11) := cz_crates R (q := 1) hx hr rfl (by decide)
theorem cz_cr2 (R : cz_N s0 W h) {r : Nat} {x : Int32} (hx : x = nI r) (hr : r < wz_n W 2) : F3_crates 223 x 2 h = some (W 2 r 12) := cz_crates R (q := 2) hx hr rfl (by decide)
theorem cz_cr3 (R : cz_N s0 W h) {r : Nat} {x : Int32} (hx : x = nI r) (hr : r < wz_n W 2) : F3_crates 223 x 3 h = some (W 2 r 13) := cz_crates R (q := 3) hx hr rfl (by decide)
theorem cz_cr4 (R : cz_N s0 W h) {r : Nat} {x : Int32} (hx : x = nI r) (hr : r < wz_n W 2) : F3_crates 223 x 4 h = some (W 2 r 14) := cz_crates R (q := 4) hx hr rfl (by decide)
theorem cz_cr5 (R : cz_N s0 W h) {r : Nat} {x : Int32} (hx : x = nI r) (hr : r < wz_n W 2) : F3_crates 223 x 5 h = some (W 2 r 15) := cz_crates R (q := 5) hx hr rfl (by decide)
theorem cz_cr6 (R : cz_N s0 W h) {r : Nat} {x : Int32} (hx : x = nI r) (hr : r < wz_n W 2) : F3_crates 223 x 6 h = some (W 2 r 16) := cz_crates R (q := 6) hx hr rfl (by decide)
theorem cz_cr7 (R : cz_N s0 W h) {r : Nat} {x : Int32} (hx : x = nI r) (hr : r < wz_n W 2) : F3_crates 223 x 7 h = some (W 2 r 17) := cz_crates R (q := 7) hx hr rfl (by decide)
theorem cz_cr8 (R : cz_N s0 W h) {r : Nat} {x : Int32} (hx : x = nI r) (hr : r < wz_n W 2) : F3_crates 223 x 8 h = some (W 2 r 18) := cz_crates R (q := 8) hx hr rfl (by decide)
theorem cz_isLentTo (R : cz_N s0 W h) {r : Nat} {x l : Int32} (hx : x = nI r) (hr : r < wz_n W 2) (hl : ¬ l = 0) : F5_isLentTo 223 x l h = some (if W 2 r 2 = l ∧ W 2 r 3 = 0 then 1 else 0) := by
  unfold F5_isLentTo F5_isLentTo_0
  rw [nz_gr223_8 R, bz_s, cz_g2_2 R hx hr, bz_s]
  by_cases q : W 2 r 2 = l
  · rw [iz_t q, cz_isLent R hx hr, bz_s]
    by_cases q2 : W 2 r 3 = 0
    · rw [if_pos ⟨by rw [q]; exact hl, q2⟩, iz_f (by decide), if_pos ⟨q, q2⟩]
    · rw [if_neg (fun e => q2 e.2), iz_t rfl, if_neg (fun e => q2 e.2)]
  · rw [iz_f q, if_neg (fun e => q e.1)]
theorem cz_landedOf (R : cz_N s0 W h) (V : vz W) {l t : Int32} (hl : ¬ l = 0) : F5_landedOf 223 l t h = some (sp_landed W l t) := by
  have hn : wz_n W 2 ≤ 100 := V.c (k := 2) (by omega)
  unfold F5_landedOf F5_landedOf_0 F5_landedOf_5
  refine wh_up (fun r a => if W 2 r 2 = l ∧ W 2 r 3 = 0 then (if W 2 r 0 = t then a + W 2 r 13 else a) else a) (wz_n W 2) 0 _ (by omega) (fun i a hi => ?_) ?_
  · unfold F5_landedOf_5b
    dsimp only
    rw [nz_gr223_8 R, bz_s, cz_z2 R, bz_s, iz_f (nI_ge hi (by omega)), cz_isLentTo R rfl hi hl, bz_s]
    by_cases q : W 2 i 2 = l ∧ W 2 i 3 = 0
    · rw [if_pos q, iz_f (by decide), bz_s, cz_g2_0 R rfl hi, bz_s, if_pos q]
      by_cases q2 : W 2 i 0 = t
      · rw [iz_t q2, if_pos q2, cz_cr3 R rfl hi, bz_s]
      · rw [iz_f q2, if_neg q2]
    · rw [if_neg q, iz_t rfl, if_neg q]
  · unfold F5_landedOf_5b
    dsimp only
    rw [nz_gr223_8 R, bz_s, cz_z2 R, bz_s, iz_t (nI_le (Nat.le_refl _) (by omega))]
    rfl
theorem rz_landedOf (R : rz_N s0 th W h) (V : vz W) {l t : Int32} : F12_landedOf 317 l t h = some (sp_landed W l t) := by
  have hc := V.cap (k := 2) (by omega)
  have hn : wz_n W 2 ≤ 100 := hc.2
  unfold F12_landedOf F12_landedOf_0 F12_landedOf_5
  rw [rz_io R, gz_s]
  refine wh_up (fun r a => if W 2 r 2 = l ∧ W 2 r 3 = 0 then (if W 2 r 0 = t then a + W 2 r 13 else a) else a) (wz_n W 2) 0 _ (by omega) (fun i a hi => ?_) ?_
  · unfold F12_landedOf_5b
    dsimp only
    rw [rz_gr1 R, bz_s, rz_c2 R, bz_s, show W 22 0 0 = _ from hc.1, iz_f (nI_ge hi (by omega)), rz_isFor R rfl (by omega), bz_s]
    by_cases q : W 2 i 2 = l ∧ W 2 i 3 = 0
    · rw [if_pos q, iz_f (by decide), rz_o0 R rfl (by omega), bz_s, if_pos q]
      by_cases q2 : W 2 i 0 = t
      · rw [iz_t q2, if_pos q2, rz_o13 R rfl (by omega), bz_s]
      · rw [iz_f q2, if_neg q2, Int32.add_zero]
    · rw [if_neg q, iz_t rfl, if_neg q, Int32.add_zero]
  · unfold F12_landedOf_5b
    dsimp only
    rw [rz_gr1 R, bz_s, rz_c2 R, bz_s, show W 22 0 0 = _ from hc.1, iz_t (nI_le (Nat.le_refl _) (by omega))]
    rfl
theorem cz_lentAt (R : cz_N s0 W h) (V : vz W) {l p : Int32} {q : Nat} (hl : ¬ l = 0) (hp : p = nI q) (hq : q < 9) : F5_lentAt 223 l p h = some (sp_lentAt W l q) := by
  have hn : wz_n W 2 ≤ 100 := V.c (k := 2) (by omega)
  unfold F5_lentAt F5_lentAt_0 F5_lentAt_5
  refine wh_up (fun r a => if W 2 r 2 = l ∧ W 2 r 3 = 0 then a + W 2 r (10 + q) else a) (wz_n W 2) 0 _ (by omega) (fun i a hi => ?_) ?_
  · unfold F5_lentAt_5b
    dsimp only
    rw [nz_gr223_8 R, bz_s, cz_z2 R, bz_s, iz_f (nI_ge hi (by omega)), cz_isLentTo R rfl hi hl, bz_s]
    by_cases q1 : W 2 i 2 = l ∧ W 2 i 3 = 0
    · rw [if_pos q1, iz_f (by decide), cz_crates R rfl hi hp hq, bz_s, if_pos q1]
    · rw [if_neg q1, iz_t rfl, if_neg q1]
  · unfold F5_lentAt_5b
    dsimp only
    rw [nz_gr223_8 R, bz_s, cz_z2 R, bz_s, iz_t (nI_le (Nat.le_refl _) (by omega))]
    rfl
theorem mdl100 {x : Int64} : m_dl x 100 = some (x / 100) := if_neg (by decide)
theorem cz_owed (R : cz_N s0 W h) (V : vz W) {l : Int32} (hl : ¬ l = 0) : F5_owed 223 l h = some (sp_owed W l) := by
  have hn : wz_n W 2 ≤ 100 := V.c (k := 2) (by omega)
  unfold F5_owed F5_owed_0 F5_owed_5
  refine wh_up (fun r a => if W 2 r 2 = l ∧ W 2 r 3 = 0 then a + sp_owed1 W r else a) (wz_n W 2) 0 _ (by omega) (fun i a hi => ?_) ?_
  · unfold F5_owed_5b
    dsimp only
    rw [nz_gr223_8 R, bz_s, cz_z2 R, bz_s, iz_f (nI_ge hi (by omega)), cz_isLentTo R rfl hi hl, bz_s]
    by_cases q1 : W 2 i 2 = l ∧ W 2 i 3 = 0
    · rw [if_pos q1, iz_f (by decide), if_pos q1]
      unfold F5_owedFor F5_owedFor_0 sp_owed1
      rw [nz_gr223_8 R, bz_s, cz_g2_1 R rfl hi, bz_s, cz_cr7 R rfl hi, bz_s, cz_cr8 R rfl hi, bz_s, bz_s, cz_g2_20 R rfl hi, bz_s, bz_s, cz_g2_19 R rfl hi, bz_s, mdl100, bz_s, bz_s]
      rfl
    · rw [if_neg q1, iz_t rfl, if_neg q1]
  · unfold F5_owed_5b
    dsimp only
    rw [nz_gr223_8 R, bz_s, cz_z2 R, bz_s, iz_t (nI_le (Nat.le_refl _) (by omega))]
    rfl
theorem rz_owed (R : rz_N s0 th W h) (V : vz W) {l : Int32} : F12_owedBy 317 l h = some (sp_owed W l) := by
  have hc := V.cap (k := 2) (by omega)
  have hn : wz_n W 2 ≤ 100 := hc.2
  unfold F12_owedBy F12_owedBy_0 F12_owedBy_5
  rw [rz_io R, gz_s]
  refine wh_up (fun r a => if W 2 r 2 = l ∧ W 2 r 3 = 0 then a + sp_owed1 W r else a) (wz_n W 2) 0 _ (by omega) (fun i a hi => ?_) ?_
  · unfold F12_owedBy_5b
    dsimp only
    rw [rz_gr1 R, bz_s, rz_c2 R, bz_s, show W 22 0 0 = _ from hc.1, iz_f (nI_ge hi (by omega)), rz_isFor R rfl (by omega), bz_s]
    by_cases q : W 2 i 2 = l ∧ W 2 i 3 = 0
    · rw [if_pos q, iz_f (by decide), rz_o1 R rfl (by omega), bz_s, rz_o17 R rfl (by omega), bz_s, rz_o18 R rfl (by omega), bz_s, rz_o19 R rfl (by omega), bz_s, rz_o20 R rfl (by omega), bz_s, mdl100, bz_s, if_pos q]
      rfl
    · rw [if_neg q, iz_t rfl, if_neg q]
  · unfold F12_owedBy_5b
    dsimp only
    rw [rz_gr1 R, bz_s, rz_c2 R, bz_s, show W 22 0 0 = _ from hc.1, iz_t (nI_le (Nat.le_refl _) (by omega))]
    rfl
theorem cz_stock (R : cz_N s0 W h) (V : vz W) {t : Int32} : F3_stockInPort 223 t h = some (sp_stock W t) := by
  have hn : wz_n W 2 ≤ 100 := V.c (k := 2) (by omega)
  unfold F3_stockInPort F3_stockInPort_0 F3_stockInPort_4
  rw [nz_io223 R, gz_s]
  refine wh_up (fun r a => if W 2 r 2 = 0 then (if W 2 r 0 = t then a + W 2 r 11 else a) else a) (wz_n W 2) 0 _ (by omega) (fun i a hi => ?_) ?_
  · unfold F3_stockInPort_4b
    dsimp only
    rw [nz_gr223_8 R, bz_s, cz_z2 R, bz_s, iz_f (nI_ge hi (by omega)), cz_isStock R rfl hi, bz_s]
    by_cases q : W 2 i 2 = 0
    · rw [if_pos q, iz_f (by decide), bz_s, cz_g2_0 R rfl hi, bz_s, if_pos q]
      by_cases q2 : W 2 i 0 = t
      · rw [iz_t q2, if_pos q2, cz_cr1 R rfl hi, bz_s]
      · rw [iz_f q2, if_neg q2]
    · rw [if_neg q, iz_t rfl, if_neg q]
  · unfold F3_stockInPort_4b
    dsimp only
    rw [nz_gr223_8 R, bz_s, cz_z2 R, bz_s, iz_t (nI_le (Nat.le_refl _) (by omega))]
    rfl
theorem rz_stock (R : rz_N s0 th W h) (hc : W 22 0 0 = nI (wz_n W 2)) (hn : wz_n W 2 ≤ 100) {t : Int32} : F12_stockOf 317 t h = some (sp_stock W t) := by
  unfold F12_stockOf F12_stockOf_0 F12_stockOf_4
  rw [rz_io R, gz_s]
  refine wh_up (fun r a => if W 2 r 2 = 0 then (if W 2 r 0 = t then a + W 2 r 11 else a) else a) (wz_n W 2) 0 _ (by omega) (fun i a hi => ?_) ?_
  · unfold F12_stockOf_4b
    dsimp only
    rw [rz_gr1 R, bz_s, rz_c2 R, bz_s, hc, iz_f (nI_ge hi (by omega)), rz_isStock R rfl (by omega), bz_s]
    by_cases q : W 2 i 2 = 0
    · rw [if_pos q, iz_f (by decide), rz_o0 R rfl (by omega), bz_s, if_pos q]
      by_cases q2 : W 2 i 0 = t
      · rw [iz_t q2, if_pos q2, rz_o11 R rfl (by omega), bz_s]
      · rw [iz_f q2, if_neg q2, Int32.add_zero]
    · rw [if_neg q, iz_t rfl, if_neg q, Int32.add_zero]
  · unfold F12_stockOf_4b
    dsimp only
    rw [rz_gr1 R, bz_s, rz_c2 R, bz_s, hc, iz_t (nI_le (Nat.le_refl _) (by omega))]
    rfl
theorem sp_lat_lt {l t : Int32} : ∀ {n r : Nat}, sp_it (sp_lt W l t) n none = some r → r < n
  | 0, _, h => by cases h
  | n + 1, r, h => by
    have h : sp_lt W l t n (sp_it (sp_lt W l t) n none) = some r := h
    unfold sp_lt at h
    split at h
    · split at h
      · split at h
        · cases h; omega
        · next j hj =>
          have := sp_lat_lt hj
          split at h
          · cases h; omega
          · cases h; omega
      · have := sp_lat_lt h; omega
    · have := sp_lat_lt h; omega
def o_m1 (p : Option Nat) : Int32 := match p with | none => -1 | some r => nI r
theorem o_m1_ne {r : Nat} (h : r < 2 ^ 31) : ¬ nI r = -1 := fun e => by
  have := nI_pos h
  rw [e] at this
  exact this (by decide)
theorem cz_latest (R : cz_N s0 W h) (V : vz W) {l t : Int32} : F5_latestReturn 223 l t h = some (o_m1 (sp_lat W l t)) := by
  have hn : wz_n W 8 ≤ 100 := V.c (k := 8) (by omega)
  unfold F5_latestReturn F5_latestReturn_0 F5_latestReturn_5
  refine wh_s (fun i => (o_m1 (sp_it (sp_lt W l t) i none), nI i)) _ (wz_n W 8) 0 m_N (N_lt (by omega)) (Nat.zero_le _) (fun i _ hi => ?_) ?_
  · have hs : sp_it (sp_lt W l t) (i + 1) none = sp_lt W l t i (sp_it (sp_lt W l t) i none) := rfl
    rw [hs]
    cases hq : sp_it (sp_lt W l t) i none with
    | none =>
      unfold F5_latestReturn_5b sp_lt
      dsimp only
      rw [nz_gr223_14 R, bz_s, cz_z8 R, bz_s, iz_f (nI_ge hi (by omega)), bz_s, cz_g8_0 R rfl hi, bz_s]
      by_cases q : W 8 i 0 = l
      · rw [iz_t q, if_pos q, bz_s, cz_g8_1 R rfl hi, bz_s]
        by_cases q2 : W 8 i 1 = t
        · rw [iz_t q2, if_pos q2, iz_t (show o_m1 none = -1 from rfl), ← nI_succ]
          rfl
        · rw [iz_f q2, if_neg q2, ← nI_succ]
      · rw [iz_f q, if_neg q, ← nI_succ]
    | some j =>
      have hj := sp_lat_lt hq
      unfold F5_latestReturn_5b sp_lt
      dsimp only
      rw [nz_gr223_14 R, bz_s, cz_z8 R, bz_s, iz_f (nI_ge hi (by omega)), bz_s, cz_g8_0 R rfl hi, bz_s]
      by_cases q : W 8 i 0 = l
      · rw [iz_t q, if_pos q, bz_s, cz_g8_1 R rfl hi, bz_s]
        by_cases q2 : W 8 i 1 = t
        · rw [iz_t q2, if_pos q2, iz_f (show ¬ o_m1 (some j) = -1 from o_m1_ne (by omega)), bz_s, cz_g8_3 R rfl hi, bz_s, bz_s, cz_g8_3 R (show o_m1 (some j) = nI j from rfl) (by omega), bz_s]
          by_cases q3 : W 8 i 2 < W 8 j 2
          · rw [iz_t q3, if_pos q3, ← nI_succ]
          · rw [iz_f q3, if_neg q3, ← nI_succ]
            rfl
        · rw [iz_f q2, if_neg q2, ← nI_succ]
      · rw [iz_f q, if_neg q, ← nI_succ]
  · unfold F5_latestReturn_5b
    dsimp only
    rw [nz_gr223_14 R, bz_s, cz_z8 R, bz_s, iz_t (nI_le (Nat.le_refl _) (by omega))]
    rfl
theorem rz_rA (R : rz_N s0 th W h) {r c : Nat} {x : Int32} (hr : r < 100) (hx : x = nI c) (hc : c < 5) : m_ai h 0 318 (3487 + 5 * nI r + x) = some (W 8 r c) := by
  subst hx
  exact rz_get R (ix8 r c) ⟨by decide, hr, hc⟩
theorem rz_rA0 (R : rz_N s0 th W h) {r : Nat} (hr : r < 100) : m_ai h 0 318 (3487 + 5 * nI r) = some (W 8 r 0) :=
  rz_get R (ix80 r) ⟨by decide, hr, by decide⟩
theorem rz_rA1 (R : rz_N s0 th W h) {r : Nat} (hr : r < 100) : m_ai h 0 318 (3487 + 5 * nI r + 1) = some (W 8 r 1) := rz_rA R (c := 1) hr rfl (by decide)
theorem rz_rA2 (R : rz_N s0 th W h) {r : Nat} (hr : r < 100) : m_ai h 0 318 (3487 + 5 * nI r + 2) = some (W 8 r 2) := rz_rA R (c := 2) hr rfl (by decide)
theorem rz_rA3 (R : rz_N s0 th W h) {r : Nat} (hr : r < 100) : m_ai h 0 318 (3487 + 5 * nI r + 3) = some (W 8 r 3) := rz_rA R (c := 3) hr rfl (by decide)
theorem rz_rA4 (R : rz_N s0 th W h) {r : Nat} (hr : r < 100) : m_ai h 0 318 (3487 + 5 * nI r + 4) = some (W 8 r 4) := rz_rA R (c := 4) hr rfl (by decide)
theorem rz_latest (R : rz_N s0 th W h) (V : vz W) {l t : Int32} : F12_latestOf 317 l t h = some (o_m1 (sp_lat W l t)) := by
  have hc := V.cap (k := 8) (by omega)
  have hn : wz_n W 8 ≤ 100 := hc.2
  unfold F12_latestOf F12_latestOf_0 F12_latestOf_5
  rw [rz_io R, gz_s]
  refine wh_s (fun i => (o_m1 (sp_it (sp_lt W l t) i none), nI i)) _ (wz_n W 8) 0 m_N (N_lt (by omega)) (Nat.zero_le _) (fun i _ hi => ?_) ?_
  · have hs : sp_it (sp_lt W l t) (i + 1) none = sp_lt W l t i (sp_it (sp_lt W l t) i none) := rfl
    rw [hs]
    cases hq : sp_it (sp_lt W l t) i none with
    | none =>
      unfold F12_latestOf_5b sp_lt F12_returnAt F12_returnAt_0
      dsimp only
      rw [rz_gr1 R, bz_s, rz_c8 R, bz_s, show W 28 0 0 = _ from hc.1, iz_f (nI_ge hi (by omega)), bz_s, bz_s, rz_rA0 R (by omega), bz_s]
      by_cases q : W 8 i 0 = l
      · rw [iz_t q, if_pos q, bz_s, bz_s, rz_rA1 R (show i < 100 by omega), bz_s]
        by_cases q2 : W 8 i 1 = t
        · rw [iz_t q2, if_pos q2, iz_t (show o_m1 none < 0 by decide), ← nI_succ]
          rfl
        · rw [iz_f q2, if_neg q2, ← nI_succ]
      · rw [iz_f q, if_neg q, ← nI_succ]
    | some j =>
      have hj := sp_lat_lt hq
      unfold F12_latestOf_5b sp_lt F12_returnAt F12_returnAt_0
      dsimp only
      rw [rz_gr1 R, bz_s, rz_c8 R, bz_s, show W 28 0 0 = _ from hc.1, iz_f (nI_ge hi (by omega)), bz_s, bz_s, rz_rA0 R (by omega), bz_s]
      by_cases q : W 8 i 0 = l
      · rw [iz_t q, if_pos q, bz_s, bz_s, rz_rA1 R (show i < 100 by omega), bz_s]
        by_cases q2 : W 8 i 1 = t
        · rw [iz_t q2, if_pos q2, iz_f (show ¬ o_m1 (some j) < 0 from nI_pos (by omega)), bz_s, bz_s, rz_rA2 R (show i < 100 by omega), bz_s, bz_s, bz_s, show o_m1 (some j) = nI j from rfl, rz_rA2 R (show j < 100 by omega), bz_s]
          by_cases q3 : W 8 i 2 < W 8 j 2
          · rw [iz_t q3, if_pos q3, ← nI_succ]
            rfl
          · rw [iz_f q3, if_neg q3, ← nI_succ]
            rfl
        · rw [iz_f q2, if_neg q2, ← nI_succ]
      · rw [iz_f q, if_neg q, ← nI_succ]
  · unfold F12_latestOf_5b
    dsimp only
    rw [rz_gr1 R, bz_s, rz_c8 R, bz_s, show W 28 0 0 = _ from hc.1, iz_t (nI_le (Nat.le_refl _) (by omega))]
    rfl
end
