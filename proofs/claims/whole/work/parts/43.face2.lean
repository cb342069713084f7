/-! ===== order, lot, back, label, ship, ask, returned, seen, rock, net ===== -/
def sp_sets (W : m_W) (k r : Nat) (l : List (Nat × Int32)) : m_W := l.foldl (fun W p => wz_up W k r p.1 p.2) W
def sp_new (W : m_W) (k : Nat) (l : List (Nat × Int32)) : m_W := sp_sets (wz_up W (20 + k) 0 0 (nI (wz_n W k + 1))) k (wz_n W k) l
theorem sp_sets_cm {k r k' r' c' : Nat} {v : Int32} (h : ¬ k = k') : ∀ {l : List (Nat × Int32)} {W : m_W}, wz_up (sp_sets W k r l) k' r' c' v = sp_sets (wz_up W k' r' c' v) k r l
  | [], _ => rfl
  | p :: l, W => by
    show wz_up (sp_sets (wz_up W k r p.1 p.2) k r l) k' r' c' v = sp_sets (wz_up (wz_up W k' r' c' v) k r p.1 p.2) k r l
    rw [sp_sets_cm h, wz_cm h]
theorem wz_cc {W : m_W} {k r c c' : Nat} {v v' : Int32} (h : ¬ c = c') : wz_up (wz_up W k r c v) k r c' v' = wz_up (wz_up W k r c' v') k r c v := by
  funext x y z
  unfold wz_up
  by_cases q : x = k ∧ y = r ∧ z = c
  · by_cases q' : x = k ∧ y = r ∧ z = c'
    · exact absurd (q.2.2.symm.trans q'.2.2) h
    · simp only [if_pos q, if_neg q']
  · simp only [if_neg q]
theorem nI_e {n m : Nat} (hn : n < 2 ^ 31) (hm : m < 2 ^ 31) (h : nI n = nI m) : n = m := (nI_eq hn hm).mp h
theorem wz_nn {W : m_W} {k : Nat} {v : Int32} : wz_n (wz_up W (20 + k) 0 0 v) k = v.toNatClampNeg := by
  unfold wz_n
  rw [wz_up_s]
def sp_order (W : m_W) (a b : Int32) : (Int64 × m_W) ⊕ Nat :=
  if 0 ≤ a ∧ a ≤ 7 then if 1 ≤ b ∧ b ≤ 1000 then if wz_n W 2 < 100 then if W 14 0 3 = 0 then .inl ((nI (wz_n W 2)).toInt64, sp_lot0 W a b 0 0) else .inr 3 else .inr 2 else .inr 1 else .inr 0
def sp_lot (W : m_W) (a b : Int32) : (Int64 × m_W) ⊕ Nat :=
  if 0 ≤ a ∧ a < nI (wz_n W 2) then if 0 ≤ b ∧ b ≤ 18 then .inl ((W 2 a.toNatClampNeg b.toNatClampNeg).toInt64, W) else .inr 4 else .inr 0
def sp_back (W : m_W) (a b c : Int32) : (Int64 × m_W) ⊕ Nat :=
  if 0 ≤ a ∧ a ≤ 5 then if 0 ≤ b ∧ b ≤ 7 then if ¬ a = 0 then if 1 ≤ c ∧ c ≤ 1000 then if wz_n W 2 < 100 then if W 14 0 3 = 0 then .inl ((nI (wz_n W 2)).toInt64, wz_up (sp_lot0 W b c a 3) 2 (wz_n W 2) 3 1) else .inr 3 else .inr 2 else .inr 1 else .inr 1 else .inr 0 else .inr 0
def sp_label (W : m_W) (a b : Int32) : (Int64 × m_W) ⊕ Nat :=
  if 0 ≤ a ∧ a < nI (wz_n W 2) then if 0 ≤ b ∧ b ≤ 9 then
    if W 2 a.toNatClampNeg 2 = 0 then .inl (0, W) else if W 2 a.toNatClampNeg 11 = 0 then .inl (0, W) else if W 2 a.toNatClampNeg 7 = b then .inl (0, W) else .inl (1, wz_up W 2 a.toNatClampNeg 7 b)
  else .inr 1 else .inr 0
def sp_ship (W : m_W) (a b : Int32) : (Int64 × m_W) ⊕ Nat :=
  if 1 ≤ a ∧ a ≤ 5000 then if 0 ≤ b ∧ b ≤ 99 then if wz_n W 4 < 12 then .inl ((nI (wz_n W 4)).toInt64, sp_new W 4 [(0, a), (1, b), (5, -1)]) else .inr 2 else .inr 1 else .inr 1
def sp_ask (W : m_W) (a b c d : Int32) : (Int64 × m_W) ⊕ Nat :=
  if 0 ≤ a ∧ a ≤ 5 then if 0 ≤ b ∧ b ≤ 7 then if ¬ a = 0 then if 1 ≤ c ∧ c ≤ 1000 then if 0 ≤ d ∧ d ≤ 9999 then if wz_n W 3 < 60 then .inl ((nI (wz_n W 3)).toInt64, sp_new W 3 [(0, a), (1, b), (2, c), (3, d)]) else .inr 2 else .inr 1 else .inr 1 else .inr 1 else .inr 0 else .inr 0
def sp_returned (W : m_W) (a b c d : Int32) : (Int64 × m_W) ⊕ Nat :=
  if 0 ≤ a ∧ a ≤ 5 then if 0 ≤ b ∧ b ≤ 7 then if ¬ a = 0 then if 0 ≤ c ∧ c ≤ W 14 0 0 then if 0 ≤ d ∧ d ≤ 100000 then if wz_n W 8 < 100 then .inl ((nI (wz_n W 8 + 1)).toInt64, sp_new W 8 [(0, a), (1, b), (2, c), (3, d), (4, d)]) else .inl (-1, W) else .inr 1 else .inr 1 else .inr 1 else .inr 0 else .inr 0
def sp_seen (W : m_W) (a b c : Int32) : (Int64 × m_W) ⊕ Nat :=
  if 0 ≤ a ∧ a ≤ 5 then if 0 ≤ b ∧ b ≤ 7 then if ¬ a = 0 then if 1 ≤ c ∧ c ≤ 100000 then if wz_n W 9 < 60 then .inl ((nI (wz_n W 9 + 1)).toInt64, sp_new W 9 [(0, a), (1, b), (2, c)]) else .inl (-1, W) else .inr 1 else .inr 1 else .inr 0 else .inr 0
def sp_rock (W : m_W) (a b c d : Int32) : (Int64 × m_W) ⊕ Nat :=
  if 0 ≤ a ∧ a ≤ 5 then if ¬ a = 0 then if 1 ≤ b ∧ b ≤ 500 then if 0 ≤ c ∧ c ≤ 10000 then if 0 ≤ d ∧ d ≤ 1000 then if wz_n W 10 < 10 then .inl ((nI (wz_n W 10)).toInt64, sp_new W 10 [(0, a), (1, W 14 0 0), (2, b), (3, c), (4, d)]) else .inr 2 else .inr 1 else .inr 1 else .inr 1 else .inr 1 else .inr 0
def sp_net (W : m_W) (a : Int32) : (Int64 × m_W) ⊕ Nat :=
  if 0 ≤ a ∧ a < nI (wz_n W 10) then .inl ((W 10 a.toNatClampNeg 5 - W 10 a.toNatClampNeg 3).toInt64, W) else .inr 0
section
variable {s0 : tz_S} {th : Int32} {W : m_W} {h : m_H}
/-- the reference has no room for one more -/
theorem k_rm {β : Type} {Q : β → Prop} {n m : Nat} {a b : Option β} (hn : n ≤ m) (hm : m < 2 ^ 31) {x : Int32} (hx : x = nI m) (k1 : n < m → k_ok b Q) (k2 : ¬ n < m → k_ok a Q) : k_ok (m_if (nI n = x) a b) Q := by
  subst hx
  refine k_if (fun c => k2 ?_) (fun c => k1 ?_)
  · have := nI_e (by omega) hm c
    omega
  · rcases Nat.lt_or_ge n m with q | q
    · exact q
    · exact absurd (congrArg nI (Nat.le_antisymm hn q)) c
theorem k_ovr {β : Type} {Q : β → Prop} {c : Int32} {A B : Int32 × m_H → Option β} (R : rz_N s0 th W h) (V : vz W) (k1 : W 14 0 3 = 0 → k_ok (A (0, h)) Q) (k2 : ¬ W 14 0 3 = 0 → ∀ h1, rz_N s0 c W h1 → k_ok (B (1, h1)) Q) : k_ok (m_b (F12_isOver 317 h) fun v => m_b (F12_throwsIf 317 v c h) fun z => m_if (z.1 = 0) (A z) (B z)) Q := by
  refine k_e (k_ov R) (k_ww R (W 14 0 3 = 0) ?_ k1 k2)
  rcases V.en with q | q
  · rw [q]; decide
  · rw [q]; decide
theorem cz_order (R : cz_N s0 W h) (V : vz W) {a b : Int32} : k_ok (F11_order 200 a b h) (fz_I s0 W (sp_order W a b)) := by
  unfold F11_order F11_order_0 sp_order
  refine k_g (nz_io200 R) ?_
  refine k_ts (fun c1 => ?_) (fun c1 => k_s (by rw [if_neg c1]; exact ⟨_, rfl, R⟩))
  refine k_tc (fun c2 => ?_) (fun c2 => k_s (by rw [if_pos c1, if_neg c2]; exact ⟨_, rfl, R⟩))
  refine k_tr R (fun c3 => ?_) (fun c3 => k_s (by rw [if_pos c1, if_pos c2, if_neg c3]; exact ⟨_, rfl, R⟩))
  refine k_te R (fun c4 => ?_) (fun c4 => k_s (by rw [if_pos c1, if_pos c2, if_pos c3, if_neg c4]; exact ⟨_, rfl, R⟩))
  rw [if_pos c1, if_pos c2, if_pos c3, if_pos c4]
  refine k_e (nz_gr200_4 R) ?_
  refine k_b (cz_addLot R V (q := 0) rfl (by decide) c3) ?_
  rintro _ ⟨h1, rfl, R1⟩
  exact k_s ⟨_, h1, rfl, rfl, R1⟩
theorem rz_order (R : rz_N s0 th W h) (V : vz W) {a b : Int32} : k_ok (F12_order 317 a b h) (hz_I s0 e0123 W (sp_order W a b)) := by
  unfold F12_order F12_order_0 sp_order
  refine k_g (rz_io R) ?_
  refine k_b (rz_th R) ?_
  intro h1 R1
  refine k_e k_ns (k_ww R1 (0 ≤ a ∧ a ≤ 7) rfl (fun c1 => ?_) (fun c1 h2 R2 => k_s (by rw [if_neg c1]; exact R2)))
  refine k_i (fun c2 => ?_) (fun c2 => (by unfold F12_order_34; exact k_thr R1 (fun h2 R2 => k_s (by rw [if_pos c1, if_neg c2]; exact R2))))
  unfold F12_order_34
  refine k_thr0 R1 (k_e (rz_gr1 R1) (k_e (rz_c2 R1) ?_))
  rw [(V.cap (k := 2) (by omega)).1]
  refine k_rm (m := 100) (V.c (k := 2) (by omega)) (by decide) rfl (fun c3 => ?_) (fun c3 => (by unfold F12_order_60; exact k_thr R1 (fun h2 R2 => k_s (by rw [if_pos c1, if_pos c2, if_neg c3]; exact R2))))
  unfold F12_order_60
  refine k_thr0 R1 (k_ovr R1 V (fun c4 => ?_) (fun c4 h2 R2 => k_s (by rw [if_pos c1, if_pos c2, if_pos c3, if_neg c4]; exact R2)))
  rw [if_pos c1, if_pos c2, if_pos c3, if_pos c4]
  refine k_b (rz_begins R1 V (q := 0) rfl (by decide) c3) ?_
  rintro _ ⟨h2, rfl, R2⟩
  exact k_s ⟨rfl, R2⟩
theorem cz_lot (R : cz_N s0 W h) {a b : Int32} : k_ok (F11_lot 200 a b h) (fz_I s0 W (sp_lot W a b)) := by
  unfold F11_lot F11_lot_0 sp_lot
  refine k_g (nz_io200 R) ?_
  refine k_tt R (fun c1 => ?_) (fun c1 => k_s (by rw [if_neg c1]; exact ⟨_, rfl, R⟩))
  refine k_o (fun c2 => ?_) (fun c2 => k_s (by rw [if_pos c1, if_neg c2]; exact ⟨_, rfl, R⟩))
  rw [if_pos c1, if_pos c2]
  have hn : wz_n W 2 ≤ 100 := by
    obtain ⟨s, -, H, -⟩ := R
    exact (H.2.2 2 (by decide)).2.2
  obtain ⟨r, hr, rfl⟩ := i_rowlt (by omega) c1
  obtain ⟨c, hc, rfl⟩ := i_row (n := 18) rfl c2
  rw [nI_clamp (by omega), nI_clamp (by omega)]
  refine k_e (nz_gr200_4 R) ?_
  refine k_e (nz_gr223_8 R) ?_
  refine k_e (cz_get R (k := 2) (c := c) (by decide) rfl rfl hr rfl (show c < 21 by omega)) ?_
  refine k_s ⟨_, h, rfl, ?_, R⟩
  rw [show wz_pi 2 c = c from (show ∀ c ∈ List.range 19, wz_pi 2 c = c by decide +kernel) c (List.mem_range.mpr (by omega))]
theorem rz_lot (R : rz_N s0 th W h) (V : vz W) {a b : Int32} : k_ok (F12_lot 317 a b h) (hz_I s0 e04 W (sp_lot W a b)) := by
  have hn : wz_n W 2 ≤ 100 := V.c (k := 2) (by omega)
  unfold F12_lot F12_lot_0 sp_lot
  refine k_g (rz_io R) ?_
  refine k_b (rz_th R) ?_
  intro h1 R1
  refine k_e (rz_noLot R1 V) (k_ww R1 _ rfl (fun c1 => ?_) (fun c1 h2 R2 => k_s (by rw [if_neg c1]; exact R2)))
  refine k_i (fun c2 => ?_) (fun c2 => (by unfold F12_lot_34; exact k_thr R1 (fun h2 R2 => k_s (by rw [if_pos c1, if_neg c2]; exact R2))))
  rw [if_pos c1, if_pos c2]
  obtain ⟨r, hr, rfl⟩ := i_rowlt (by omega) c1
  obtain ⟨c, hc, rfl⟩ := i_row (n := 18) rfl c2
  rw [nI_clamp (by omega), nI_clamp (by omega)]
  unfold F12_lot_34
  refine k_thr0 R1 (k_e (rz_of R1 rfl (by omega) rfl (by omega)) (k_s ⟨rfl, R1⟩))
theorem cz_back (R : cz_N s0 W h) (V : vz W) {a b c : Int32} : k_ok (F11_back 200 a b c h) (fz_I s0 W (sp_back W a b c)) := by
  unfold F11_back F11_back_0 sp_back
  refine k_g (nz_io200 R) ?_
  refine k_tl (fun c1 => ?_) (fun c1 => k_s (by rw [if_neg c1]; exact ⟨_, rfl, R⟩))
  refine k_ts (fun c2 => ?_) (fun c2 => k_s (by rw [if_pos c1, if_neg c2]; exact ⟨_, rfl, R⟩))
  refine k_ta (fun c3 => ?_) (fun c3 => k_s (by rw [if_pos c1, if_pos c2, if_neg (fun q => q c3)]; exact ⟨_, rfl, R⟩))
  refine k_tc (fun c4 => ?_) (fun c4 => k_s (by rw [if_pos c1, if_pos c2, if_pos c3, if_neg c4]; exact ⟨_, rfl, R⟩))
  refine k_tr R (fun c5 => ?_) (fun c5 => k_s (by rw [if_pos c1, if_pos c2, if_pos c3, if_pos c4, if_neg c5]; exact ⟨_, rfl, R⟩))
  refine k_te R (fun c6 => ?_) (fun c6 => k_s (by rw [if_pos c1, if_pos c2, if_pos c3, if_pos c4, if_pos c5, if_neg c6]; exact ⟨_, rfl, R⟩))
  rw [if_pos c1, if_pos c2, if_pos c3, if_pos c4, if_pos c5, if_pos c6]
  refine k_e (nz_gr200_4 R) ?_
  refine k_b (cz_addLot R V (q := 3) rfl (by decide) c5) ?_
  rintro _ ⟨h1, rfl, R1⟩
  refine k_e (nz_gr200_4 R1) (k_e (nz_gr223_8 R1) ?_)
  have hl : wz_n W 2 < wz_n (sp_lot0 W b c a 3) 2 := by
    show _ < (nI (wz_n W 2 + 1)).toNatClampNeg
    rw [nI_clamp (by omega)]
    omega
  refine k_b (cz_s2_3 R1 rfl hl) ?_
  intro h2 R2
  exact k_s ⟨_, h2, rfl, rfl, R2⟩
theorem rz_back (R : rz_N s0 th W h) (V : vz W) {a b c : Int32} : k_ok (F12_back 317 a b c h) (hz_I s0 e0123 W (sp_back W a b c)) := by
  unfold F12_back F12_back_0 sp_back
  refine k_g (rz_io R) ?_
  refine k_b (rz_th R) ?_
  intro h1 R1
  refine k_e k_nl ?_
  by_cases c1 : 0 ≤ a ∧ a ≤ 5
  · rw [if_pos c1]
    refine k_t rfl (k_e k_ns ?_)
    by_cases c2 : 0 ≤ b ∧ b ≤ 7
    · rw [if_pos c2]
      refine k_t rfl ?_
      unfold F12_back_25
      refine k_thr0 R1 ?_
      refine k_if (fun c3 => (by unfold F12_back_48 F12_back_53; exact k_thr R1 (fun h2 R2 => k_s (by rw [if_pos c1, if_pos c2, if_neg (fun q => q c3)]; exact R2)))) (fun c3 => ?_)
      refine k_i (fun c4 => ?_) (fun c4 => (by unfold F12_back_48 F12_back_53; exact k_thr R1 (fun h2 R2 => k_s (by rw [if_pos c1, if_pos c2, if_pos c3, if_neg c4]; exact R2))))
      unfold F12_back_53
      refine k_thr0 R1 (k_e (rz_gr1 R1) (k_e (rz_c2 R1) ?_))
      rw [(V.cap (k := 2) (by omega)).1]
      refine k_rm (m := 100) (V.c (k := 2) (by omega)) (by decide) rfl (fun c5 => ?_) (fun c5 => (by unfold F12_back_79; exact k_thr R1 (fun h2 R2 => k_s (by rw [if_pos c1, if_pos c2, if_pos c3, if_pos c4, if_neg c5]; exact R2))))
      unfold F12_back_79
      refine k_thr0 R1 (k_ovr R1 V (fun c6 => ?_) (fun c6 h2 R2 => k_s (by rw [if_pos c1, if_pos c2, if_pos c3, if_pos c4, if_pos c5, if_neg c6]; exact R2)))
      rw [if_pos c1, if_pos c2, if_pos c3, if_pos c4, if_pos c5, if_pos c6]
      refine k_b (rz_begins R1 V (q := 3) rfl (by decide) c5) ?_
      rintro _ ⟨h2, rfl, R2⟩
      have lt := rz_lotAt (h := h2) (x := nI (wz_n W 2)) rfl c5 (y := 3) (c := 3) rfl (by decide)
      refine k_e (rz_gr1 R2) (k_e lt.1 ?_)
      refine k_b (rz_set R2 rfl lt.2) ?_
      intro h3 R3
      exact k_s ⟨rfl, R3⟩
    · rw [if_neg c2]
      refine k_f (by decide) ?_
      unfold F12_back_20 F12_back_25
      exact k_thr R1 (fun h2 R2 => k_s (by rw [if_pos c1, if_neg c2]; exact R2))
  · rw [if_neg c1]
    refine k_f (by decide) ?_
    unfold F12_back_20 F12_back_25
    exact k_thr R1 (fun h2 R2 => k_s (by rw [if_neg c1]; exact R2))
theorem cz_label (R : cz_N s0 W h) (V : vz W) {a b : Int32} : k_ok (F11_label 200 a b h) (fz_I s0 W (sp_label W a b)) := by
  have hn : wz_n W 2 ≤ 100 := V.c (k := 2) (by omega)
  unfold F11_label F11_label_0 sp_label
  refine k_g (nz_io200 R) ?_
  refine k_tt R (fun c1 => ?_) (fun c1 => k_s (by rw [if_neg c1]; exact ⟨_, rfl, R⟩))
  refine k_o (fun c2 => ?_) (fun c2 => k_s (by rw [if_pos c1, if_neg c2]; exact ⟨_, rfl, R⟩))
  rw [if_pos c1, if_pos c2]
  obtain ⟨r, hr, rfl⟩ := i_rowlt (by omega) c1
  rw [nI_clamp (by omega)]
  refine k_e (nz_gr200_4 R) (k_e (cz_isLent R rfl hr) ?_)
  have hb := V.lot hr
  by_cases q1 : W 2 r 2 = 0
  · rw [if_pos q1, if_neg (fun e => e.1 q1)]
    exact k_t rfl (k_s ⟨_, h, rfl, rfl, R⟩)
  · rw [if_neg q1]
    by_cases q2 : W 2 r 3 = 0
    · rw [if_pos ⟨q1, q2⟩]
      refine k_f (by decide) (k_e (nz_gr200_4 R) (k_e (cz_crates R (q := 1) rfl hr rfl (by decide)) ?_))
      refine k_if (fun q3 => k_s ?_) (fun q3 => ?_)
      · rw [if_pos q3]; exact ⟨_, h, rfl, rfl, R⟩
      · rw [if_neg q3]
        refine k_e (nz_gr200_4 R) (k_e (nz_gr223_8 R) (k_e (cz_g2_7 R rfl hr) ?_))
        refine k_if (fun q4 => k_s ?_) (fun q4 => ?_)
        · rw [if_pos q4]; exact ⟨_, h, rfl, rfl, R⟩
        · rw [if_neg q4]
          refine k_e (nz_gr200_4 R) (k_e (nz_gr223_8 R) ?_)
          refine k_b (cz_s2_7 R rfl hr) ?_
          intro h1 R1
          exact k_s ⟨_, h1, rfl, rfl, R1⟩
    · rw [if_neg (fun e => q2 e.2), if_pos (hb.2.2.2.2.2.2.2.2.2.2.2.1 (hb.2.2.2.1.resolve_left q2))]
      exact k_t rfl (k_s ⟨_, h, rfl, rfl, R⟩)
theorem rz_label (R : rz_N s0 th W h) (V : vz W) {a b : Int32} : k_ok (F12_label 317 a b h) (hz_I s0 e01 W (sp_label W a b)) := by
  have hn : wz_n W 2 ≤ 100 := V.c (k := 2) (by omega)
  unfold F12_label F12_label_0 sp_label
  refine k_g (rz_io R) ?_
  refine k_b (rz_th R) ?_
  intro h1 R1
  refine k_e (rz_noLot R1 V) (k_ww R1 _ rfl (fun c1 => ?_) (fun c1 h2 R2 => k_s (by rw [if_neg c1]; exact R2)))
  refine k_i (fun c2 => ?_) (fun c2 => (by unfold F12_label_34; exact k_thr R1 (fun h2 R2 => k_s (by rw [if_pos c1, if_neg c2]; exact R2))))
  rw [if_pos c1, if_pos c2]
  obtain ⟨r, hr, rfl⟩ := i_rowlt (by omega) c1
  rw [nI_clamp (by omega)]
  unfold F12_label_34
  refine k_thr0 R1 (k_e (rz_isStock R1 rfl (by omega)) ?_)
  by_cases q1 : W 2 r 2 = 0
  · rw [if_pos q1, if_pos q1]
    exact k_f (by decide) (k_s ⟨rfl, R1⟩)
  · rw [if_neg q1, if_neg q1]
    refine k_t rfl (k_e (rz_o11 R1 rfl (by omega)) ?_)
    refine k_if (fun q3 => k_s ?_) (fun q3 => ?_)
    · rw [if_pos q3]; exact ⟨rfl, R1⟩
    · rw [if_neg q3]
      refine k_e (rz_o7 R1 rfl (by omega)) ?_
      refine k_if (fun q4 => k_s ?_) (fun q4 => ?_)
      · rw [if_pos q4]; exact ⟨rfl, R1⟩
      · rw [if_neg q4]
        have lt := rz_lotAt (h := h1) (x := nI r) rfl (by omega) (y := 7) (c := 7) rfl (by decide)
        refine k_e (rz_gr1 R1) (k_e lt.1 ?_)
        refine k_b (rz_set R1 rfl lt.2) ?_
        intro h2 R2
        exact k_s ⟨rfl, R2⟩
theorem cz_ship (R : cz_N s0 W h) (V : vz W) {a b : Int32} : k_ok (F11_ship 200 a b h) (fz_I s0 W (sp_ship W a b)) := by
  unfold F11_ship F11_ship_0 sp_ship
  refine k_g (nz_io200 R) ?_
  refine k_o (fun c1 => ?_) (fun c1 => k_s (by rw [if_neg c1]; exact ⟨_, rfl, R⟩))
  refine k_o (fun c2 => ?_) (fun c2 => k_s (by rw [if_pos c1, if_neg c2]; exact ⟨_, rfl, R⟩))
  refine k_e (nz_gr200_4 R) (k_e (nz_gr223_10 R) (k_e (cz_f4 R) ?_))
  by_cases c3 : wz_n W 4 < 12
  · rw [if_pos c1, if_pos c2, if_pos c3, if_pos (show wz_n W 4 < wz_cap 4 from c3)]
    refine k_t rfl ?_
    refine k_e (nz_gr200_4 R) (k_e (nz_gr223_10 R) ?_)
    refine k_b (cz_add R (k := 4) (by decide) rfl c3 (fun c hc => V.z (k := 4) (by decide) (Nat.le_refl _) c3 hc)) ?_
    rintro _ ⟨h1, rfl, R1⟩
    have hl : wz_n W 4 < wz_n (wz_up W (20 + 4) 0 0 (nI (wz_n W 4 + 1))) 4 := by
      show _ < (nI (wz_n W 4 + 1)).toNatClampNeg
      rw [nI_clamp (by omega)]
      omega
    refine k_e (nz_gr200_4 R1) (k_e (nz_gr223_10 R1) (k_b (cz_s4_0 R1 rfl hl) ?_))
    intro h2 R2
    refine k_e (nz_gr200_4 R2) (k_e (nz_gr223_10 R2) (k_b (cz_s4_1 R2 rfl hl) ?_))
    intro h3 R3
    refine k_e (nz_gr200_4 R3) (k_e (nz_gr223_10 R3) (k_b (cz_s4_5 R3 rfl hl) ?_))
    intro h4 R4
    exact k_s ⟨_, h4, rfl, rfl, R4⟩
  · rw [if_pos c1, if_pos c2, if_neg c3, if_neg (show ¬ wz_n W 4 < wz_cap 4 from c3)]
    exact k_f (by decide) (k_s ⟨_, rfl, R⟩)
theorem rz_ship (R : rz_N s0 th W h) (V : vz W) {a b : Int32} : k_ok (F12_ship 317 a b h) (hz_I s0 e12 W (sp_ship W a b)) := by
  unfold F12_ship F12_ship_0 sp_ship
  refine k_g (rz_io R) ?_
  refine k_b (rz_th R) ?_
  intro h1 R1
  refine k_i (fun c1 => ?_) (fun c1 => (by unfold F12_ship_27 F12_ship_32; exact k_thr R1 (fun h2 R2 => k_s (by rw [if_neg c1]; exact R2))))
  refine k_i (fun c2 => ?_) (fun c2 => (by unfold F12_ship_27 F12_ship_32; exact k_thr R1 (fun h2 R2 => k_s (by rw [if_pos c1, if_neg c2]; exact R2))))
  unfold F12_ship_32
  have hc := (V.cap (k := 4) (by omega)).1
  refine k_thr0 R1 (k_e (rz_gr1 R1) (k_e (rz_c4 R1) ?_))
  rw [show W 24 0 0 = _ from hc]
  refine k_rm (m := 12) (V.c (k := 4) (by omega)) (by decide) rfl (fun c3 => ?_) (fun c3 => (by unfold F12_ship_58; exact k_thr R1 (fun h2 R2 => k_s (by rw [if_pos c1, if_pos c2, if_neg c3]; exact R2))))
  rw [if_pos c1, if_pos c2, if_pos c3]
  unfold F12_ship_58
  refine k_thr0 R1 (k_e (rz_gr1 R1) (k_e (rz_c4 R1) (k_e (rz_gr1 R1) (k_e (rz_c4 R1) ?_))))
  rw [show W 24 0 0 = _ from hc, ← nI_succ]
  refine k_b (rz_cs4 R1) ?_
  intro h2 R2
  refine k_b (rz_puts R2 (c := 0) rfl c3 rfl (by decide)) ?_
  intro h3 R3
  refine k_b (rz_puts R3 (c := 1) rfl c3 rfl (by decide)) ?_
  intro h4 R4
  refine k_b (rz_puts R4 (c := 5) rfl c3 rfl (by decide)) ?_
  intro h5 R5
  exact k_s ⟨rfl, R5⟩
theorem cz_ask (R : cz_N s0 W h) (V : vz W) {a b c d : Int32} : k_ok (F11_ask 200 a b c d h) (fz_I s0 W (sp_ask W a b c d)) := by
  unfold F11_ask F11_ask_0 sp_ask
  refine k_g (nz_io200 R) ?_
  refine k_tl (fun c1 => ?_) (fun c1 => k_s (by rw [if_neg c1]; exact ⟨_, rfl, R⟩))
  refine k_ts (fun c2 => ?_) (fun c2 => k_s (by rw [if_pos c1, if_neg c2]; exact ⟨_, rfl, R⟩))
  refine k_ta (fun c3 => ?_) (fun c3 => k_s (by rw [if_pos c1, if_pos c2, if_neg (fun q => q c3)]; exact ⟨_, rfl, R⟩))
  refine k_tc (fun c4 => ?_) (fun c4 => k_s (by rw [if_pos c1, if_pos c2, if_pos c3, if_neg c4]; exact ⟨_, rfl, R⟩))
  refine k_o (fun c5 => ?_) (fun c5 => k_s (by rw [if_pos c1, if_pos c2, if_pos c3, if_pos c4, if_neg c5]; exact ⟨_, rfl, R⟩))
  refine k_e (nz_gr200_4 R) (k_e (nz_gr223_9 R) (k_e (cz_f3 R) ?_))
  by_cases c6 : wz_n W 3 < 60
  · rw [if_pos c1, if_pos c2, if_pos c3, if_pos c4, if_pos c5, if_pos c6, if_pos (show wz_n W 3 < wz_cap 3 from c6)]
    refine k_t rfl ?_
    refine k_e (nz_gr200_4 R) (k_e (nz_gr223_9 R) ?_)
    refine k_b (cz_add R (k := 3) (by decide) rfl c6 (fun c hc => V.z (k := 3) (by decide) (Nat.le_refl _) c6 hc)) ?_
    rintro _ ⟨h1, rfl, R1⟩
    have hl : wz_n W 3 < wz_n (wz_up W (20 + 3) 0 0 (nI (wz_n W 3 + 1))) 3 := by
      show _ < (nI (wz_n W 3 + 1)).toNatClampNeg
      rw [nI_clamp (by omega)]
      omega
    refine k_e (nz_gr200_4 R1) (k_e (nz_gr223_9 R1) (k_b (cz_s3_0 R1 rfl hl) ?_))
    intro h2 R2
    refine k_e (nz_gr200_4 R2) (k_e (nz_gr223_9 R2) (k_b (cz_s3_1 R2 rfl hl) ?_))
    intro h3 R3
    refine k_e (nz_gr200_4 R3) (k_e (nz_gr223_9 R3) (k_b (cz_s3_2 R3 rfl hl) ?_))
    intro h4 R4
    refine k_e (nz_gr200_4 R4) (k_e (nz_gr223_9 R4) (k_b (cz_s3_3 R4 rfl hl) ?_))
    intro h5 R5
    exact k_s ⟨_, h5, rfl, rfl, R5⟩
  · rw [if_pos c1, if_pos c2, if_pos c3, if_pos c4, if_pos c5, if_neg c6, if_neg (show ¬ wz_n W 3 < wz_cap 3 from c6)]
    exact k_f (by decide) (k_s ⟨_, rfl, R⟩)
theorem rz_ask (R : rz_N s0 th W h) (V : vz W) {a b c d : Int32} : k_ok (F12_ask 317 a b c d h) (hz_I s0 e012 W (sp_ask W a b c d)) := by
  unfold F12_ask F12_ask_0 sp_ask
  refine k_g (rz_io R) ?_
  refine k_b (rz_th R) ?_
  intro h1 R1
  refine k_e k_nl ?_
  by_cases c1 : 0 ≤ a ∧ a ≤ 5
  · rw [if_pos c1]
    refine k_t rfl (k_e k_ns ?_)
    by_cases c2 : 0 ≤ b ∧ b ≤ 7
    · rw [if_pos c2]
      refine k_t rfl ?_
      unfold F12_ask_25
      refine k_thr0 R1 ?_
      refine k_if (fun c3 => (by unfold F12_ask_60 F12_ask_65; exact k_thr R1 (fun h2 R2 => k_s (by rw [if_pos c1, if_pos c2, if_neg (fun q => q c3)]; exact R2)))) (fun c3 => ?_)
      refine k_i (fun c4 => ?_) (fun c4 => (by unfold F12_ask_60 F12_ask_65; exact k_thr R1 (fun h2 R2 => k_s (by rw [if_pos c1, if_pos c2, if_pos c3, if_neg c4]; exact R2))))
      refine k_i (fun c5 => ?_) (fun c5 => (by unfold F12_ask_60 F12_ask_65; exact k_thr R1 (fun h2 R2 => k_s (by rw [if_pos c1, if_pos c2, if_pos c3, if_pos c4, if_neg c5]; exact R2))))
      unfold F12_ask_65
      have hc := (V.cap (k := 3) (by omega)).1
      refine k_thr0 R1 (k_e (rz_gr1 R1) (k_e (rz_c3 R1) ?_))
      rw [show W 23 0 0 = _ from hc]
      refine k_rm (m := 60) (V.c (k := 3) (by omega)) (by decide) rfl (fun c6 => ?_) (fun c6 => (by unfold F12_ask_91; exact k_thr R1 (fun h2 R2 => k_s (by rw [if_pos c1, if_pos c2, if_pos c3, if_pos c4, if_pos c5, if_neg c6]; exact R2))))
      rw [if_pos c1, if_pos c2, if_pos c3, if_pos c4, if_pos c5, if_pos c6]
      unfold F12_ask_91
      refine k_thr0 R1 (k_e (rz_gr1 R1) (k_e (rz_c3 R1) ?_))
      rw [show W 23 0 0 = _ from hc]
      unfold F12_requestAt F12_requestAt_0
      refine k_e rfl ?_
      have hI : ∀ c, (c < 5 → 2909 + 5 * nI (wz_n W 3) + nI c = nI (wz_ix 3 (wz_n W 3) c)) := fun c _ => ix3 _ c
      have hI : ∀ c, (hc : c < 5) → 2909 + 5 * nI (wz_n W 3) + nI c = nI (wz_ix 3 (wz_n W 3) c) ∧ wz_v 3 (wz_n W 3) c := fun c hc => ⟨ix3 _ c, by decide, c6, hc⟩
      refine k_e (rz_gr1 R1) (k_b (rz_set R1 (k := 3) (r := wz_n W 3) (c := 0) (ix30 _) (hI 0 (by decide)).2) ?_)
      intro h2 R2
      refine k_e (rz_gr1 R2) (k_b (rz_set R2 (k := 3) (r := wz_n W 3) (c := 1) (hI 1 (by decide)).1 (hI 1 (by decide)).2) ?_)
      intro h3 R3
      refine k_e (rz_gr1 R3) (k_b (rz_set R3 (k := 3) (r := wz_n W 3) (c := 2) (hI 2 (by decide)).1 (hI 2 (by decide)).2) ?_)
      intro h4 R4
      refine k_e (rz_gr1 R4) (k_b (rz_set R4 (k := 3) (r := wz_n W 3) (c := 3) (hI 3 (by decide)).1 (hI 3 (by decide)).2) ?_)
      intro h5 R5
      refine k_e (rz_gr1 R5) (k_b (rz_set R5 (k := 3) (r := wz_n W 3) (c := 4) (hI 4 (by decide)).1 (hI 4 (by decide)).2) ?_)
      intro h6 R6
      rw [wz_up_same (by rw [wz_up_c (by decide), wz_up_c (by decide), wz_up_c (by decide), wz_up_c (by decide)]; exact V.z (k := 3) (by decide) (Nat.le_refl _) c6 (show 4 < 5 by decide))] at R6
      refine k_e (rz_gr1 R6) (k_e (rz_c3 R6) ?_)
      refine k_b (rz_cs3 R6) ?_
      intro h7 R7
      refine k_s ⟨rfl, ?_⟩
      have e : wz_up (sp_sets W 3 (wz_n W 3) [(0, a), (1, b), (2, c), (3, d)]) 23 0 0 (nI (wz_n W 3 + 1)) = sp_new W 3 [(0, a), (1, b), (2, c), (3, d)] := sp_sets_cm (by decide)
      rw [← e, nI_succ, ← hc]
      exact R7
    · rw [if_neg c2]
      refine k_f (by decide) ?_
      unfold F12_ask_20 F12_ask_25
      exact k_thr R1 (fun h2 R2 => k_s (by rw [if_pos c1, if_neg c2]; exact R2))
  · rw [if_neg c1]
    refine k_f (by decide) ?_
    unfold F12_ask_20 F12_ask_25
    exact k_thr R1 (fun h2 R2 => k_s (by rw [if_neg c1]; exact R2))
end
