/-! ===== small readers and writers of both ===== -/
theorem wz_up_same {W : m_W} {k r c : Nat} {v : Int32} (h : W k r c = v) : wz_up W k r c v = W := by
  funext x y z
  unfold wz_up
  split
  · next q => obtain ⟨rfl, rfl, rfl⟩ := q; exact h.symm
  · rfl
def sp_mv (W : m_W) (t a b : Nat) (n : Int32) : m_W := wz_up (wz_up W 2 t (10 + a) (W 2 t (10 + a) - n)) 2 t (10 + b) (wz_up W 2 t (10 + a) (W 2 t (10 + a) - n) 2 t (10 + b) + n)
def sp_lot0 (W : m_W) (a b l : Int32) (q : Nat) : m_W := wz_up (wz_up (wz_up (wz_up (wz_up (wz_up (wz_up W 22 0 0 (nI (wz_n W 2 + 1))) 2 (wz_n W 2) 0 a) 2 (wz_n W 2) 1 b) 2 (wz_n W 2) 2 l) 2 (wz_n W 2) 6 (-1)) 2 (wz_n W 2) 8 (-1)) 2 (wz_n W 2) (10 + q) b
section
variable {s0 : tz_S} {th : Int32} {W : m_W} {h : m_H}
/-! the reference -/
theorem rz_of (R : rz_N s0 th W h) {r c : Nat} {x y : Int32} (hx : x = nI r) (hr : r < 100) (hy : y = nI c) (hc : c < 21) : F12_of 317 x y h = some (W 2 r c) := by
  unfold F12_of F12_of_0 F12_lotAt F12_lotAt_0
  subst hx hy
  rw [rz_io R, gz_s, rz_gr1 R, bz_s, bz_s, rz_get R (ix2 r c) ⟨by decide, hr, hc⟩, bz_s]
theorem rz_o0 (R : rz_N s0 th W h) {r : Nat} {x : Int32} (hx : x = nI r) (hr : r < 100) : F12_of 317 x 0 h = some (W 2 r 0) := rz_of R (c := 0) hx hr rfl (by decide)
theorem rz_o1 (R : rz_N s0 th W h) {r : Nat} {x : Int32} (hx : x = nI r) (hr : r < 100) : F12_of 317 x 1 h = some (W 2 r 1) := rz_of R (c := 1) hx hr rfl (by decide)
theorem rz_o2 (R : rz_N s0 th W h) {r : Nat} {x : Int32} (hx : x = nI r) (hr : r < 100) : F12_of 317 x 2 h = some (W 2 r 2) := rz_of R (c := 2) hx hr rfl (by decide)
theorem rz_o3 (R : rz_N s0 th W h) {r : Nat} {x : Int32} (hx : x = nI r) (hr : r < 100) : F12_of 317 x 3 h = some (W 2 r 3) := rz_of R (c := 3) hx hr rfl (by decide)
theorem rz_o4 (R : rz_N s0 th W h) {r : Nat} {x : Int32} (hx : x = nI r) (hr : r < 100) : F12_of 317 x 4 h = some (W 2 r 4) := rz_of R (c := 4) hx hr rfl (by decide)
theorem rz_o5 (R : rz_N s0 th W h) {r : Nat} {x : Int32} (hx : x = nI r) (hr : r < 100) : F12_of 317 x 5 h = some (W 2 r 5) := rz_of R (c := 5) hx hr rfl (by decide)
theorem rz_o6 (R : rz_N s0 th W h) {r : Nat} {x : Int32} (hx : x = nI r) (hr : r < 100) : F12_of 317 x 6 h = some (W 2 r 6) := rz_of R (c := 6) hx hr rfl (by decide)
theorem rz_o7 (R : rz_N s0 th W h) {r : Nat} {x : Int32} (hx : x = nI r) (hr : r < 100) : F12_of 317 x 7 h = some (W 2 r 7) := rz_of R (c := 7) hx hr rfl (by decide)
theorem rz_o8 (R : rz_N s0 th W h) {r : Nat} {x : Int32} (hx : x = nI r) (hr : r < 100) : F12_of 317 x 8 h = some (W 2 r 8) := rz_of R (c := 8) hx hr rfl (by decide)
theorem rz_o9 (R : rz_N s0 th W h) {r : Nat} {x : Int32} (hx : x = nI r) (hr : r < 100) : F12_of 317 x 9 h = some (W 2 r 9) := rz_of R (c := 9) hx hr rfl (by decide)
theorem rz_o10 (R : rz_N s0 th W h) {r : Nat} {x : Int32} (hx : x = nI r) (hr : r < 100) : F12_of 317 x 10 h = some (W 2 r 10) := rz_of R (c := 10) hx hr rfl (by decide)
theorem rz_o11 (R : rz_N s0 th W h) {r : Nat} {x : Int32} (hx : x = nI r) (hr : r < 100) : F12_of 317 x 11 h = some (W 2 r 11) := rz_of R (c := 11) hx hr rfl (by decide)
theorem rz_o12 (R : rz_N s0 th W h) {r : Nat} {x : Int32} (hx : x = nI r) (hr : r < 100) : F12_of 317 x 12 h = some (W 2 r 12) := rz_of R (c := 12) hx hr rfl (by decide)
theorem rz_o13 (R : rz_N s0 th W h) {r : Nat} {x : Int32} (hx : x = nI r) (hr : r < 100) : F12_of 317 x 13 h = some (W 2 r 13) := rz_of R (c := 13) hx hr rfl (by decide)
theorem rz_o14 (R : rz_N s0 th W h) {r : Nat} {x : Int32} (hx : x = nI r) (hr : r < 100) : F12_of 317 x 14 h = some (W 2 r 14) := rz_of R (c := 14) hx hr rfl (by decide)
theorem rz_o15 (R : rz_N s0 th W h) {r : Nat} {x : Int32} (hx : x = nI r) (hr : r < 100) : F12_of 317 x 15 h = some (W 2 r 15) := rz_of R (c := 15) hx hr rfl (by decide)
theorem rz_o16 (R : rz_N s0 th W h) {r : Nat} {x : Int32} (hx : x = nI r) (hr : r < 100) : F12_of 317 x 16 h = some (W 2 r 16) := rz_of R (c := 16) hx hr rfl (by decide)
theorem rz_o17 (R : rz_N s0 th W h) {r : Nat} {x : Int32} (hx : x = nI r) (hr : r < 100) : F12_of 317 x 17 h = some (W 2 r 17) := rz_of R (c := 17) hx hr rfl (by decide)
theorem rz_o18 (R : rz_N s0 th W h) {r : Nat} {x : Int32} (hx : x = nI r) (hr : r < 100) : F12_of 317 x 18 h = some (W 2 r 18) := rz_of R (c := 18) hx hr rfl (by decide)
theorem rz_o19 (R : rz_N s0 th W h) {r : Nat} {x : Int32} (hx : x = nI r) (hr : r < 100) : F12_of 317 x 19 h = some (W 2 r 19) := rz_of R (c := 19) hx hr rfl (by decide)
theorem rz_o20 (R : rz_N s0 th W h) {r : Nat} {x : Int32} (hx : x = nI r) (hr : r < 100) : F12_of 317 x 20 h = some (W 2 r 20) := rz_of R (c := 20) hx hr rfl (by decide)
theorem rz_lotAt {r c : Nat} {x y : Int32} (hx : x = nI r) (hr : r < 100) (hy : y = nI c) (hc : c < 21) : F12_lotAt x y h = some (nI (wz_ix 2 r c)) ∧ wz_v 2 r c := by
  subst hx hy
  exact ⟨congrArg some (ix2 r c), by decide, hr, hc⟩
theorem rz_its (R : rz_N s0 th W h) {r c : Nat} {x y : Int32} (hx : x = nI r) (hr : r < 12) (hy : y = nI c) (hc : c < 23) : F12_its 317 x y h = some (W 4 r c) := by
  unfold F12_its F12_its_0 F12_shipAt F12_shipAt_0
  subst hx hy
  rw [rz_io R, gz_s, rz_gr1 R, bz_s, bz_s, rz_get R (ix4 r c) ⟨by decide, hr, hc⟩, bz_s]
theorem rz_i0 (R : rz_N s0 th W h) {r : Nat} {x : Int32} (hx : x = nI r) (hr : r < 12) : F12_its 317 x 0 h = some (W 4 r 0) := rz_its R (c := 0) hx hr rfl (by decide)
theorem rz_i1 (R : rz_N s0 th W h) {r : Nat} {x : Int32} (hx : x = nI r) (hr : r < 12) : F12_its 317 x 1 h = some (W 4 r 1) := rz_its R (c := 1) hx hr rfl (by decide)
theorem rz_i2 (R : rz_N s0 th W h) {r : Nat} {x : Int32} (hx : x = nI r) (hr : r < 12) : F12_its 317 x 2 h = some (W 4 r 2) := rz_its R (c := 2) hx hr rfl (by decide)
theorem rz_i3 (R : rz_N s0 th W h) {r : Nat} {x : Int32} (hx : x = nI r) (hr : r < 12) : F12_its 317 x 3 h = some (W 4 r 3) := rz_its R (c := 3) hx hr rfl (by decide)
theorem rz_i4 (R : rz_N s0 th W h) {r : Nat} {x : Int32} (hx : x = nI r) (hr : r < 12) : F12_its 317 x 4 h = some (W 4 r 4) := rz_its R (c := 4) hx hr rfl (by decide)
theorem rz_i5 (R : rz_N s0 th W h) {r : Nat} {x : Int32} (hx : x = nI r) (hr : r < 12) : F12_its 317 x 5 h = some (W 4 r 5) := rz_its R (c := 5) hx hr rfl (by decide)
theorem rz_i6 (R : rz_N s0 th W h) {r : Nat} {x : Int32} (hx : x = nI r) (hr : r < 12) : F12_its 317 x 6 h = some (W 4 r 6) := rz_its R (c := 6) hx hr rfl (by decide)
theorem rz_puts (R : rz_N s0 th W h) {r c : Nat} {x y u : Int32} (hx : x = nI r) (hr : r < 12) (hy : y = nI c) (hc : c < 23) : k_ok (F12_puts 317 x y u h) (rz_N s0 th (wz_up W 4 r c u)) := by
  unfold F12_puts F12_puts_0 F12_shipAt F12_shipAt_0
  subst hx hy
  refine k_g (rz_io R) (k_e (rz_gr1 R) (k_e rfl ?_))
  refine k_b (rz_set R (u := u) (ix4 r c) ⟨by decide, hr, hc⟩) ?_
  intro h1 R1
  exact k_s R1
theorem rz_sortOf (R : rz_N s0 th W h) {r c : Nat} {x y : Int32} (hx : x = nI r) (hr : r < 8) (hy : y = nI c) (hc : c < 4) : F12_sortOf 317 x y h = some (W 0 r c) := by
  unfold F12_sortOf F12_sortOf_0
  subst hx hy
  rw [rz_io R, gz_s, rz_gr1 R, bz_s, rz_get R (ix0 r c) ⟨by decide, hr, hc⟩, bz_s]
theorem rz_so0 (R : rz_N s0 th W h) {r : Nat} {x : Int32} (hx : x = nI r) (hr : r < 8) : F12_sortOf 317 x 0 h = some (W 0 r 0) := rz_sortOf R (c := 0) hx hr rfl (by decide)
theorem rz_so1 (R : rz_N s0 th W h) {r : Nat} {x : Int32} (hx : x = nI r) (hr : r < 8) : F12_sortOf 317 x 1 h = some (W 0 r 1) := rz_sortOf R (c := 1) hx hr rfl (by decide)
theorem rz_so2 (R : rz_N s0 th W h) {r : Nat} {x : Int32} (hx : x = nI r) (hr : r < 8) : F12_sortOf 317 x 2 h = some (W 0 r 2) := rz_sortOf R (c := 2) hx hr rfl (by decide)
theorem rz_so3 (R : rz_N s0 th W h) {r : Nat} {x : Int32} (hx : x = nI r) (hr : r < 8) : F12_sortOf 317 x 3 h = some (W 0 r 3) := rz_sortOf R (c := 3) hx hr rfl (by decide)
theorem rz_isStock (R : rz_N s0 th W h) {r : Nat} {x : Int32} (hx : x = nI r) (hr : r < 100) : F12_isStock 317 x h = some (if W 2 r 2 = 0 then 1 else 0) := by
  unfold F12_isStock F12_isStock_0
  rw [rz_io R, gz_s, rz_o2 R hx hr, bz_s]
  by_cases q : W 2 r 2 = 0
  · rw [iz_t q, if_pos q]
  · rw [iz_f q, if_neg q]
theorem rz_isFor (R : rz_N s0 th W h) {r : Nat} {x l : Int32} (hx : x = nI r) (hr : r < 100) : F12_isFor 317 x l h = some (if W 2 r 2 = l ∧ W 2 r 3 = 0 then 1 else 0) := by
  unfold F12_isFor F12_isFor_0
  rw [rz_io R, gz_s, rz_o2 R hx hr, bz_s]
  by_cases q : W 2 r 2 = l
  · rw [iz_t q, rz_o3 R hx hr, bz_s]
    by_cases q2 : W 2 r 3 = 0
    · rw [iz_t q2, if_pos ⟨q, q2⟩]
    · rw [iz_f q2, if_neg (fun e => q2 e.2)]
  · rw [iz_f q, if_neg (fun e => q e.1)]
theorem nI_lep {x : Int32} {n : Nat} (hn : n < 2 ^ 31) : (0 ≤ x ∧ x ≤ nI n - 1) ↔ (0 ≤ x ∧ x < nI n) := by
  refine and_congr_right fun h0 => ?_
  cases n with
  | zero =>
    refine ⟨fun h => absurd (Int32.le_trans h0 h) (by decide), fun h => absurd (Int32.le_trans h0 (Int32.le_of_lt h)) ?_⟩
    exact absurd h (Int32.not_lt.mpr h0)
  | succ n =>
    rw [nI_pred]
    obtain ⟨j, h1, rfl⟩ := nI_of (Int32.not_lt.mpr h0)
    rw [nI_leI h1 (by omega), nI_ltI h1 hn]
    omega
theorem rz_noLot (R : rz_N s0 th W h) (V : vz W) {x : Int32} : F12_noLot 317 x h = some (if 0 ≤ x ∧ x < nI (wz_n W 2) then 0 else 1) := by
  have hc := V.cap (k := 2) (by omega)
  have h2 : wz_n W 2 ≤ 100 := hc.2
  unfold F12_noLot F12_noLot_0
  rw [rz_io R, gz_s, rz_gr1 R, bz_s, rz_c2 R, bz_s, hc.1, iz, bz_s]
  by_cases q : 0 ≤ x ∧ x < nI (wz_n W 2)
  · rw [if_pos q, if_pos ((nI_lep (by omega)).mpr q), iz_f (by decide)]
  · rw [if_neg q, if_neg (fun e => q ((nI_lep (by omega)).mp e)), iz_t rfl]
theorem rz_noShip (R : rz_N s0 th W h) (V : vz W) {x : Int32} : F12_noShip 317 x h = some (if 0 ≤ x ∧ x < nI (wz_n W 4) then 0 else 1) := by
  have hc := V.cap (k := 4) (by omega)
  have h2 : wz_n W 4 ≤ 12 := hc.2
  unfold F12_noShip F12_noShip_0
  rw [rz_io R, gz_s, rz_gr1 R, bz_s, rz_c4 R, bz_s, hc.1, iz, bz_s]
  by_cases q : 0 ≤ x ∧ x < nI (wz_n W 4)
  · rw [if_pos q, if_pos ((nI_lep (by omega)).mpr q), iz_f (by decide)]
  · rw [if_neg q, if_neg (fun e => q ((nI_lep (by omega)).mp e)), iz_t rfl]
theorem rz_noRequest (R : rz_N s0 th W h) (V : vz W) {x : Int32} : F12_noRequest 317 x h = some (if 0 ≤ x ∧ x < nI (wz_n W 3) then 0 else 1) := by
  have hc := V.cap (k := 3) (by omega)
  have h2 : wz_n W 3 ≤ 60 := hc.2
  unfold F12_noRequest F12_noRequest_0
  rw [rz_io R, gz_s, rz_gr1 R, bz_s, rz_c3 R, bz_s, hc.1, iz, bz_s]
  by_cases q : 0 ≤ x ∧ x < nI (wz_n W 3)
  · rw [if_pos q, if_pos ((nI_lep (by omega)).mpr q), iz_f (by decide)]
  · rw [if_neg q, if_neg (fun e => q ((nI_lep (by omega)).mp e)), iz_t rfl]
theorem rz_moves (R : rz_N s0 th W h) {r a b : Nat} {x y z n : Int32} (hx : x = nI r) (hr : r < 100) (hy : y = nI a) (ha : a < 9) (hz : z = nI b) (hb : b < 9) : k_ok (F12_moves 317 x y z n h) (rz_N s0 th (sp_mv W r a b n)) := by
  have e1 : (10 : Int32) + y = nI (10 + a) := by rw [hy]; exact nI_add 10 a
  have e2 : (10 : Int32) + z = nI (10 + b) := by rw [hz]; exact nI_add 10 b
  have l1 := fun h => rz_lotAt (h := h) (c := 10 + a) hx hr e1 (by omega)
  have l2 := fun h => rz_lotAt (h := h) (c := 10 + b) hx hr e2 (by omega)
  unfold F12_moves F12_moves_0
  refine k_g (rz_io R) (k_e (rz_gr1 R) (k_e (l1 h).1 (k_e (rz_get R rfl (l1 h).2) ?_)))
  refine k_b (rz_set R rfl (l1 h).2) ?_
  intro h1 R1
  refine k_e (rz_gr1 R1) (k_e (l2 h1).1 (k_e (rz_get R1 rfl (l2 h1).2) ?_))
  refine k_b (rz_set R1 rfl (l2 h1).2) ?_
  intro h2 R2
  exact k_s R2
theorem rz_begins (R : rz_N s0 th W h) (V : vz W) {a b l p : Int32} {q : Nat} (hp : p = nI q) (hq : q < 9) (hn : wz_n W 2 < 100) : k_ok (F12_begins 317 a b l p h) (fun z => ∃ h1, z = (nI (wz_n W 2), h1) ∧ rz_N s0 th (sp_lot0 W a b l q) h1) := by
  have hc := V.cap (k := 2) (by omega)
  unfold F12_begins F12_begins_0
  refine k_g (rz_io R) (k_e (rz_gr1 R) (k_e (rz_c2 R) (k_e (rz_gr1 R) (k_e (rz_c2 R) ?_))))
  rw [show W (20 + 2) 0 0 = W 22 0 0 from rfl] at hc
  rw [hc.1, ← nI_succ]
  refine k_b (rz_cs2 R) ?_
  intro h1 R1
  unfold F12_begins_25
  refine wh_i (n := 21) (fun i s => s.1 = nI i ∧ rz_N s0 th (wz_up W 22 0 0 (nI (wz_n W 2 + 1))) s.2) _ ?_ ?_ m_N 0 _ (N_lt (by decide)) (Nat.zero_le _) ⟨rfl, R1⟩
  · rintro i ⟨x, h2⟩ hi ⟨rfl, R2⟩
    dsimp only at R2
    unfold F12_begins_25b
    dsimp only
    refine k_f (nI_ge hi (by decide)) ?_
    have lt := rz_lotAt (h := h2) (x := nI (wz_n W 2)) rfl hn (y := nI i) rfl hi
    refine k_e (rz_gr1 R2) (k_e lt.1 ?_)
    refine k_b (rz_set R2 (u := 0) rfl lt.2) ?_
    intro h3 R3
    rw [wz_up_same (show wz_up W 22 0 0 (nI (wz_n W 2 + 1)) 2 (wz_n W 2) i = 0 from (V.z (k := 2) (by omega) (Nat.le_refl _) hn hi))] at R3
    exact k_s ⟨(nI_succ i).symm, R3⟩
  · rintro ⟨x, h2⟩ ⟨rfl, R2⟩
    dsimp only at R2
    unfold F12_begins_25b
    dsimp only
    have lt := fun h c (hc : c < 21) => rz_lotAt (h := h) (x := nI (wz_n W 2)) rfl hn (y := nI c) rfl hc
    refine k_t (by decide) (k_e (rz_gr1 R2) (k_e (lt h2 0 (by decide)).1 ?_))
    refine k_b (rz_set R2 rfl (lt h2 0 (by decide)).2) ?_
    intro h3 R3
    refine k_e (rz_gr1 R3) (k_e (lt h3 1 (by decide)).1 ?_)
    refine k_b (rz_set R3 rfl (lt h3 1 (by decide)).2) ?_
    intro h4 R4
    refine k_e (rz_gr1 R4) (k_e (lt h4 2 (by decide)).1 ?_)
    refine k_b (rz_set R4 rfl (lt h4 2 (by decide)).2) ?_
    intro h5 R5
    refine k_e (rz_gr1 R5) (k_e (lt h5 6 (by decide)).1 ?_)
    refine k_b (rz_set R5 rfl (lt h5 6 (by decide)).2) ?_
    intro h6 R6
    refine k_e (rz_gr1 R6) (k_e (lt h6 8 (by decide)).1 ?_)
    refine k_b (rz_set R6 rfl (lt h6 8 (by decide)).2) ?_
    intro h7 R7
    have e1 : (10 : Int32) + p = nI (10 + q) := by rw [hp]; exact nI_add 10 q
    have l2 := rz_lotAt (h := h7) (x := nI (wz_n W 2)) rfl hn e1 (show 10 + q < 21 by omega)
    refine k_e (rz_gr1 R7) (k_e l2.1 ?_)
    refine k_b (rz_set R7 rfl l2.2) ?_
    intro h8 R8
    exact k_s ⟨h8, rfl, R8⟩
/-! the class -/
theorem cz_isLent (R : cz_N s0 W h) {r : Nat} {x : Int32} (hx : x = nI r) (hr : r < wz_n W 2) : F3_isLent 223 x h = some (if ¬ W 2 r 2 = 0 ∧ W 2 r 3 = 0 then 1 else 0) := by
  unfold F3_isLent F3_isLent_0
  rw [nz_io223 R, gz_s, nz_gr223_8 R, bz_s, cz_g2_2 R hx hr, bz_s]
  by_cases q : W 2 r 2 = 0
  · rw [iz_t q, if_neg (fun e => e.1 q)]
  · rw [iz_f q, bz_s, cz_g2_3 R hx hr, bz_s]
    by_cases q2 : W 2 r 3 = 0
    · rw [iz_t q2, if_pos ⟨q, q2⟩]
    · rw [iz_f q2, if_neg (fun e => q2 e.2)]
theorem cz_isStock (R : cz_N s0 W h) {r : Nat} {x : Int32} (hx : x = nI r) (hr : r < wz_n W 2) : F3_isStock 223 x h = some (if W 2 r 2 = 0 then 1 else 0) := by
  unfold F3_isStock F3_isStock_0
  rw [nz_io223 R, gz_s, nz_gr223_8 R, bz_s, cz_g2_2 R hx hr, bz_s]
  by_cases q : W 2 r 2 = 0
  · rw [iz_t q, if_pos q]
  · rw [iz_f q, if_neg q]
theorem cz_isBack (R : cz_N s0 W h) {r : Nat} {x : Int32} (hx : x = nI r) (hr : r < wz_n W 2) : F3_isBack 223 x h = some (if W 2 r 3 = 1 then 1 else 0) := by
  unfold F3_isBack F3_isBack_0
  rw [nz_io223 R, gz_s, nz_gr223_8 R, bz_s, cz_g2_3 R hx hr, bz_s]
  by_cases q : W 2 r 3 = 1
  · rw [iz_t q, if_pos q]
  · rw [iz_f q, if_neg q]
theorem cz_notBegun (R : cz_N s0 W h) {r : Nat} {x : Int32} (hx : x = nI r) (hr : r < wz_n W 2) : F3_isOrderNotBegun 223 x h = some (if W 2 r 2 = 0 ∧ W 2 r 5 = 0 then 1 else 0) := by
  unfold F3_isOrderNotBegun F3_isOrderNotBegun_0
  rw [nz_io223 R, gz_s, cz_isStock R hx hr, bz_s]
  by_cases q : W 2 r 2 = 0
  · rw [if_pos q, iz_f (by decide), nz_gr223_8 R, bz_s, cz_g2_5 R hx hr, bz_s]
    by_cases q2 : W 2 r 5 = 0
    · rw [iz_t q2, if_pos ⟨q, q2⟩]
    · rw [iz_f q2, if_neg (fun e => q2 e.2)]
  · rw [if_neg q, iz_t rfl, if_neg (fun e => q e.1)]
theorem wz_pi2 : ∀ q ∈ List.range 9, wz_pi 2 (10 + q) = 10 + q := by decide +kernel
theorem cz_crates (R : cz_N s0 W h) {r q : Nat} {x p : Int32} (hx : x = nI r) (hr : r < wz_n W 2) (hp : p = nI q) (hq : q < 9) : F3_crates 223 x p h = some (W 2 r (10 + q)) := by
  have e1 : (10 : Int32) + p = nI (10 + q) := by rw [hp]; exact nI_add 10 q
  unfold F3_crates F3_crates_0
  rw [nz_io223 R, gz_s, nz_gr223_8 R, bz_s, cz_get R (k := 2) (c := 10 + q) (by decide) rfl hx hr e1 (show 10 + q < 21 by omega), bz_s, wz_pi2 q (List.mem_range.mpr hq)]
theorem cz_move (R : cz_N s0 W h) {r a b : Nat} {x y z n : Int32} (hx : x = nI r) (hr : r < wz_n W 2) (hy : y = nI a) (ha : a < 9) (hz : z = nI b) (hb : b < 9) : k_ok (F3_move 223 x n y z h) (cz_N s0 (sp_mv W r a b n)) := by
  have e1 : (10 : Int32) + y = nI (10 + a) := by rw [hy]; exact nI_add 10 a
  have e2 : (10 : Int32) + z = nI (10 + b) := by rw [hz]; exact nI_add 10 b
  unfold F3_move F3_move_0
  refine k_g (nz_io223 R) (k_e (nz_gr223_8 R) ?_)
  refine k_b (cz_raise R (k := 2) (c := 10 + a) (u := -n) (by decide) rfl hx hr e1 (show 10 + a < 21 by omega)) ?_
  intro h1 R1
  rw [wz_pi2 a (List.mem_range.mpr ha), ← Int32.sub_eq_add_neg] at R1
  refine k_e (nz_gr223_8 R1) ?_
  refine k_b (cz_raise R1 (k := 2) (c := 10 + b) (u := n) (by decide) rfl hx hr e2 (show 10 + b < 21 by omega)) ?_
  intro h2 R2
  rw [wz_pi2 b (List.mem_range.mpr hb)] at R2
  exact k_s R2
theorem cz_addLot (R : cz_N s0 W h) (V : vz W) {a b l p : Int32} {q : Nat} (hp : p = nI q) (hq : q < 9) (hn : wz_n W 2 < 100) : k_ok (F3_addLot 223 a b l p h) (fun z => ∃ h1, z = (nI (wz_n W 2), h1) ∧ cz_N s0 (sp_lot0 W a b l q) h1) := by
  unfold F3_addLot F3_addLot_0
  refine k_g (nz_io223 R) (k_e (nz_gr223_8 R) ?_)
  refine k_b (cz_add R (k := 2) (by decide) rfl hn (fun c hc => V.z (k := 2) (by decide) (Nat.le_refl _) hn hc)) ?_
  rintro _ ⟨h1, rfl, R1⟩
  have hl : wz_n W 2 < wz_n (wz_up W (20 + 2) 0 0 (nI (wz_n W 2 + 1))) 2 := by
    show _ < (nI (wz_n W 2 + 1)).toNatClampNeg
    rw [nI_clamp (by omega)]
    omega
  refine k_e (nz_gr223_8 R1) ?_
  refine k_b (cz_s2_0 R1 rfl hl) ?_
  intro h2 R2
  refine k_e (nz_gr223_8 R2) ?_
  refine k_b (cz_s2_1 R2 rfl hl) ?_
  intro h3 R3
  refine k_e (nz_gr223_8 R3) ?_
  refine k_b (cz_s2_2 R3 rfl hl) ?_
  intro h4 R4
  refine k_e (nz_gr223_8 R4) ?_
  refine k_b (cz_s2_6 R4 rfl hl) ?_
  intro h5 R5
  refine k_e (nz_gr223_8 R5) ?_
  refine k_b (cz_s2_8 R5 rfl hl) ?_
  intro h6 R6
  refine k_e (nz_gr223_8 R6) ?_
  have e1 : (10 : Int32) + p = nI (10 + q) := by rw [hp]; exact nI_add 10 q
  refine k_b (cz_set R6 (k := 2) (c := 10 + q) (by decide) rfl rfl hl e1 (show 10 + q < 21 by omega)) ?_
  intro h7 R7
  rw [wz_pi2 q (List.mem_range.mpr hq)] at R7
  exact k_s ⟨h7, rfl, R7⟩
theorem cz_lackOf (R : cz_N s0 W h) {r : Nat} {x : Int32} (hx : x = nI r) (hr : r < wz_n W 3) : F3_lackOf 223 x h = some (W 3 r 2 - W 3 r 4) := by
  unfold F3_lackOf F3_lackOf_0
  rw [nz_io223 R, gz_s, nz_gr223_9 R, bz_s, cz_g3_2 R hx hr, bz_s, bz_s, cz_g3_4 R hx hr, bz_s]
end
