/-! ===== returned, seen, rock, net, page, choice, row, tear, check, over ===== -/
def sp_page (W : m_W) (a b : Int32) : (Int64 × m_W) ⊕ Nat :=
  if -10000 ≤ a ∧ a ≤ 10000 then if -10000 ≤ b ∧ b ≤ 10000 then if wz_n W 11 < 9 then .inl ((nI (wz_n W 11)).toInt64, sp_new W 11 [(0, a), (1, b)]) else .inl (-1, W) else .inr 1 else .inr 1
def sp_choice (W : m_W) (a b c d : Int32) : (Int64 × m_W) ⊕ Nat :=
  if 0 ≤ a ∧ a ≤ 10000 then if 0 ≤ b ∧ b ≤ 4 then if 0 ≤ c ∧ c ≤ 10000 then if 0 ≤ d ∧ d ≤ 10000 then if wz_n W 12 < 8 then .inl ((nI (wz_n W 12 + 1)).toInt64, sp_new W 12 [(0, a), (1, b), (2, c), (3, d)]) else .inl (-1, W) else .inr 1 else .inr 1 else .inr 1 else .inr 1
def sp_row (W : m_W) (a b c d e : Int32) : (Int64 × m_W) ⊕ Nat :=
  if 0 ≤ a ∧ a ≤ 2 then if 0 ≤ b ∧ b ≤ 4 then if 0 ≤ c ∧ c ≤ 100000 then if 0 ≤ d ∧ d ≤ 100000 then if 0 ≤ e ∧ e ≤ 100000 then
    .inl (0, sp_sets W 13 (5 * a.toNatClampNeg + b.toNatClampNeg) [(0, c), (1, d), (2, e)]) else .inr 1 else .inr 1 else .inr 1 else .inr 1 else .inr 1
def sp_rws (W : m_W) : Nat := if wz_n W 8 < 6 then wz_n W 8 else 6
def sp_tear (W : m_W) (a m : Int32) : (Int64 × m_W) ⊕ Nat :=
  if 0 ≤ a ∧ a < nI (sp_rws W) then .inl ((W 8 (wz_n W 8 - sp_rws W + a.toNatClampNeg) 3 ^^^ m).toInt64, wz_up W 8 (wz_n W 8 - sp_rws W + a.toNatClampNeg) 3 (W 8 (wz_n W 8 - sp_rws W + a.toNatClampNeg) 3 ^^^ m)) else .inr 4
section
variable {s0 : tz_S} {th : Int32} {W : m_W} {h : m_H}
theorem cz_returned (R : cz_N s0 W h) (V : vz W) {a b c d : Int32} : k_ok (F11_returned 200 a b c d h) (fz_I s0 W (sp_returned W a b c d)) := by
  unfold F11_returned F11_returned_0 sp_returned
  refine k_g (nz_io200 R) ?_
  refine k_tl (fun c1 => ?_) (fun c1 => k_s (by rw [if_neg c1]; exact ⟨_, rfl, R⟩))
  refine k_ts (fun c2 => ?_) (fun c2 => k_s (by rw [if_pos c1, if_neg c2]; exact ⟨_, rfl, R⟩))
  refine k_ta (fun c3 => ?_) (fun c3 => k_s (by rw [if_pos c1, if_pos c2, if_neg (fun q => q c3)]; exact ⟨_, rfl, R⟩))
  refine k_e (nz_gr200_4 R) (k_e (cz_i0 R) ?_)
  refine k_o (fun c4 => ?_) (fun c4 => k_s (by rw [if_pos c1, if_pos c2, if_pos c3, if_neg c4]; exact ⟨_, rfl, R⟩))
  refine k_o (fun c5 => ?_) (fun c5 => k_s (by rw [if_pos c1, if_pos c2, if_pos c3, if_pos c4, if_neg c5]; exact ⟨_, rfl, R⟩))
  refine k_e (nz_gr200_4 R) (k_e (nz_gr223_14 R) (k_e (cz_f8 R) ?_))
  by_cases c6 : wz_n W 8 < 100
  · rw [if_pos c1, if_pos c2, if_pos c3, if_pos c4, if_pos c5, if_pos c6, if_pos (show wz_n W 8 < wz_cap 8 from c6)]
    refine k_t rfl ?_
    refine k_e (nz_gr200_4 R) (k_e (nz_gr223_14 R) ?_)
    refine k_b (cz_add R (k := 8) (by decide) rfl c6 (fun c hc => V.z (k := 8) (by decide) (Nat.le_refl _) c6 hc)) ?_
    rintro _ ⟨h1, rfl, R1⟩
    have hl : wz_n W 8 < wz_n (wz_up W (20 + 8) 0 0 (nI (wz_n W 8 + 1))) 8 := by
      show _ < (nI (wz_n W 8 + 1)).toNatClampNeg
      rw [nI_clamp (by omega)]
      omega
    refine k_e (nz_gr200_4 R1) (k_e (nz_gr223_14 R1) (k_b (cz_s8_0 R1 rfl hl) ?_))
    intro h2 R2
    refine k_e (nz_gr200_4 R2) (k_e (nz_gr223_14 R2) (k_b (cz_s8_1 R2 rfl hl) ?_))
    intro h3 R3
    refine k_e (nz_gr200_4 R3) (k_e (nz_gr223_14 R3) (k_b (cz_s8_2 R3 rfl hl) ?_))
    intro h4 R4
    refine k_e (nz_gr200_4 R4) (k_e (nz_gr223_14 R4) (k_b (cz_s8_3 R4 rfl hl) ?_))
    intro h5 R5
    refine k_e (nz_gr200_4 R5) (k_e (nz_gr223_14 R5) (k_b (cz_s8_4 R5 rfl hl) ?_))
    intro h6 R6
    refine k_e (nz_gr200_4 R6) (k_e (nz_gr223_14 R6) (k_e (cz_z8 R6) ?_))
    rw [wz_cc (show ¬ 3 = 2 by decide)] at R6
    exact k_s ⟨_, h6, rfl, congrArg (fun x => Int32.toInt64 (nI x)) (nI_clamp (n := wz_n W 8 + 1) (by omega)), R6⟩
  · rw [if_pos c1, if_pos c2, if_pos c3, if_pos c4, if_pos c5, if_neg c6, if_neg (show ¬ wz_n W 8 < wz_cap 8 from c6)]
    exact k_f (by decide) (k_s ⟨_, _, rfl, rfl, R⟩)
theorem rz_returned (R : rz_N s0 th W h) (V : vz W) {a b c d : Int32} : k_ok (F12_returned 317 a b c d h) (hz_I s0 e01 W (sp_returned W a b c d)) := by
  unfold F12_returned F12_returned_0 sp_returned
  refine k_g (rz_io R) ?_
  refine k_b (rz_th R) ?_
  intro h1 R1
  refine k_e k_nl ?_
  by_cases c1 : 0 ≤ a ∧ a ≤ 5
  · rw [if_pos c1]
    refine k_t rfl (k_e k_ns ?_)
    by_cases c2 : 0 ≤ b ∧ b ≤ 7
    · rw [if_pos c2]
      refine k_t rfl ?_
      unfold F12_returned_25
      refine k_thr0 R1 ?_
      refine k_if (fun c3 => (by unfold F12_returned_61 F12_returned_66; exact k_thr R1 (fun h2 R2 => k_s (by rw [if_pos c1, if_pos c2, if_neg (fun q => q c3)]; exact R2)))) (fun c3 => ?_)
      refine k_e (k_wk R1) ?_
      refine k_i (fun c4 => ?_) (fun c4 => (by unfold F12_returned_61 F12_returned_66; exact k_thr R1 (fun h2 R2 => k_s (by rw [if_pos c1, if_pos c2, if_pos c3, if_neg c4]; exact R2))))
      refine k_i (fun c5 => ?_) (fun c5 => (by unfold F12_returned_61 F12_returned_66; exact k_thr R1 (fun h2 R2 => k_s (by rw [if_pos c1, if_pos c2, if_pos c3, if_pos c4, if_neg c5]; exact R2))))
      unfold F12_returned_66
      have hc := (V.cap (k := 8) (by omega)).1
      refine k_thr0 R1 (k_e (rz_gr1 R1) (k_e (rz_c8 R1) ?_))
      rw [show W 28 0 0 = _ from hc]
      refine k_rm (m := 100) (V.c (k := 8) (by omega)) (by decide) rfl (fun c6 => ?_) (fun c6 => k_s (by rw [if_pos c1, if_pos c2, if_pos c3, if_pos c4, if_pos c5, if_neg c6]; exact ⟨rfl, R1⟩))
      rw [if_pos c1, if_pos c2, if_pos c3, if_pos c4, if_pos c5, if_pos c6]
      unfold F12_returnAt F12_returnAt_0
      refine k_e rfl ?_
      have hI : ∀ c, (hc : c < 5) → 3487 + 5 * nI (wz_n W 8) + nI c = nI (wz_ix 8 (wz_n W 8) c) ∧ wz_v 8 (wz_n W 8) c := fun c hc => ⟨ix8 _ c, by decide, c6, hc⟩
      refine k_e (rz_gr1 R1) (k_b (rz_set R1 (k := 8) (r := wz_n W 8) (c := 0) (ix80 _) (hI 0 (by decide)).2) ?_)
      intro h2 R2
      refine k_e (rz_gr1 R2) (k_b (rz_set R2 (k := 8) (r := wz_n W 8) (c := 1) (hI 1 (by decide)).1 (hI 1 (by decide)).2) ?_)
      intro h3 R3
      refine k_e (rz_gr1 R3) (k_b (rz_set R3 (k := 8) (r := wz_n W 8) (c := 2) (hI 2 (by decide)).1 (hI 2 (by decide)).2) ?_)
      intro h4 R4
      refine k_e (rz_gr1 R4) (k_b (rz_set R4 (k := 8) (r := wz_n W 8) (c := 3) (hI 3 (by decide)).1 (hI 3 (by decide)).2) ?_)
      intro h5 R5
      refine k_e (rz_gr1 R5) (k_b (rz_set R5 (k := 8) (r := wz_n W 8) (c := 4) (hI 4 (by decide)).1 (hI 4 (by decide)).2) ?_)
      intro h6 R6
      refine k_e (rz_gr1 R6) (k_e (rz_c8 R6) ?_)
      refine k_b (rz_cs8 R6) ?_
      intro h7 R7
      rw [← nI_succ]
      refine k_s ⟨rfl, ?_⟩
      have e : wz_up (sp_sets W 8 (wz_n W 8) [(0, a), (1, b), (2, c), (3, d), (4, d)]) 28 0 0 (nI (wz_n W 8 + 1)) = sp_new W 8 [(0, a), (1, b), (2, c), (3, d), (4, d)] := sp_sets_cm (by decide)
      rw [← e, nI_succ, ← hc]
      exact R7
    · rw [if_neg c2]
      refine k_f (by decide) ?_
      unfold F12_returned_20 F12_returned_25
      exact k_thr R1 (fun h2 R2 => k_s (by rw [if_pos c1, if_neg c2]; exact R2))
  · rw [if_neg c1]
    refine k_f (by decide) ?_
    unfold F12_returned_20 F12_returned_25
    exact k_thr R1 (fun h2 R2 => k_s (by rw [if_neg c1]; exact R2))
theorem cz_seen (R : cz_N s0 W h) (V : vz W) {a b c : Int32} : k_ok (F11_seen 200 a b c h) (fz_I s0 W (sp_seen W a b c)) := by
  unfold F11_seen F11_seen_0 sp_seen
  refine k_g (nz_io200 R) ?_
  refine k_tl (fun c1 => ?_) (fun c1 => k_s (by rw [if_neg c1]; exact ⟨_, rfl, R⟩))
  refine k_ts (fun c2 => ?_) (fun c2 => k_s (by rw [if_pos c1, if_neg c2]; exact ⟨_, rfl, R⟩))
  refine k_ta (fun c3 => ?_) (fun c3 => k_s (by rw [if_pos c1, if_pos c2, if_neg (fun q => q c3)]; exact ⟨_, rfl, R⟩))
  refine k_o (fun c4 => ?_) (fun c4 => k_s (by rw [if_pos c1, if_pos c2, if_pos c3, if_neg c4]; exact ⟨_, rfl, R⟩))
  refine k_e (nz_gr200_4 R) (k_e (nz_gr223_15 R) (k_e (cz_f9 R) ?_))
  by_cases c6 : wz_n W 9 < 60
  · rw [if_pos c1, if_pos c2, if_pos c3, if_pos c4, if_pos c6, if_pos (show wz_n W 9 < wz_cap 9 from c6)]
    refine k_t rfl ?_
    refine k_e (nz_gr200_4 R) (k_e (nz_gr223_15 R) ?_)
    refine k_b (cz_add R (k := 9) (by decide) rfl c6 (fun c hc => V.z (k := 9) (by decide) (Nat.le_refl _) c6 hc)) ?_
    rintro _ ⟨h1, rfl, R1⟩
    have hl : wz_n W 9 < wz_n (wz_up W (20 + 9) 0 0 (nI (wz_n W 9 + 1))) 9 := by
      show _ < (nI (wz_n W 9 + 1)).toNatClampNeg
      rw [nI_clamp (by omega)]
      omega
    refine k_e (nz_gr200_4 R1) (k_e (nz_gr223_15 R1) (k_b (cz_s9_0 R1 rfl hl) ?_))
    intro h2 R2
    refine k_e (nz_gr200_4 R2) (k_e (nz_gr223_15 R2) (k_b (cz_s9_1 R2 rfl hl) ?_))
    intro h3 R3
    refine k_e (nz_gr200_4 R3) (k_e (nz_gr223_15 R3) (k_b (cz_s9_2 R3 rfl hl) ?_))
    intro h4 R4
    refine k_e (nz_gr200_4 R4) (k_e (nz_gr223_15 R4) (k_e (cz_z9 R4) ?_))
    exact k_s ⟨_, h4, rfl, congrArg (fun x => Int32.toInt64 (nI x)) (nI_clamp (n := wz_n W 9 + 1) (by omega)), R4⟩
  · rw [if_pos c1, if_pos c2, if_pos c3, if_pos c4, if_neg c6, if_neg (show ¬ wz_n W 9 < wz_cap 9 from c6)]
    exact k_f (by decide) (k_s ⟨_, _, rfl, rfl, R⟩)
theorem ix9 (r c : Nat) : (3988 + 3 * nI r) + nI c = nI (wz_ix 9 r c) := by
  show (nI 3988 + nI 3 * nI r) + nI c = nI (3988 + (3 * r + c))
  rw [nI_mul, nI_add, nI_add, Nat.add_assoc]
theorem ix90 (r : Nat) : 3988 + 3 * nI r = nI (wz_ix 9 r 0) := by
  show nI 3988 + nI 3 * nI r = nI (3988 + (3 * r + 0))
  rw [nI_mul, nI_add, Nat.add_zero]
theorem ix11 (r c : Nat) : (4230 + 2 * nI r) + nI c = nI (wz_ix 11 r c) := by
  show (nI 4230 + nI 2 * nI r) + nI c = nI (4230 + (2 * r + c))
  rw [nI_mul, nI_add, nI_add, Nat.add_assoc]
theorem ix110 (r : Nat) : 4230 + 2 * nI r = nI (wz_ix 11 r 0) := by
  show nI 4230 + nI 2 * nI r = nI (4230 + (2 * r + 0))
  rw [nI_mul, nI_add, Nat.add_zero]
theorem ix12 (r c : Nat) : (4249 + 4 * nI r) + nI c = nI (wz_ix 12 r c) := by
  show (nI 4249 + nI 4 * nI r) + nI c = nI (4249 + (4 * r + c))
  rw [nI_mul, nI_add, nI_add, Nat.add_assoc]
theorem ix120 (r : Nat) : 4249 + 4 * nI r = nI (wz_ix 12 r 0) := by
  show nI 4249 + nI 4 * nI r = nI (4249 + (4 * r + 0))
  rw [nI_mul, nI_add, Nat.add_zero]
theorem ix13 (r y c : Nat) : (4281 + 15 * nI r + 3 * nI y) + nI c = nI (wz_ix 13 (5 * r + y) c) := by
  show (nI 4281 + nI 15 * nI r + nI 3 * nI y) + nI c = nI (4281 + (3 * (5 * r + y) + c))
  rw [nI_mul, nI_mul, nI_add, nI_add, nI_add]
  congr 1
  omega
theorem ix130 (r y : Nat) : 4281 + 15 * nI r + 3 * nI y = nI (wz_ix 13 (5 * r + y) 0) := by
  show nI 4281 + nI 15 * nI r + nI 3 * nI y = nI (4281 + (3 * (5 * r + y) + 0))
  rw [nI_mul, nI_mul, nI_add, nI_add]
  congr 1
  omega
theorem rz_seen (R : rz_N s0 th W h) (V : vz W) {a b c : Int32} : k_ok (F12_seen 317 a b c h) (hz_I s0 e01 W (sp_seen W a b c)) := by
  unfold F12_seen F12_seen_0 sp_seen
  refine k_g (rz_io R) ?_
  refine k_b (rz_th R) ?_
  intro h1 R1
  refine k_e k_nl ?_
  by_cases c1 : 0 ≤ a ∧ a ≤ 5
  · rw [if_pos c1]
    refine k_t rfl (k_e k_ns ?_)
    by_cases c2 : 0 ≤ b ∧ b ≤ 7
    · rw [if_pos c2]
      refine k_t rfl ?_
      unfold F12_seen_25
      refine k_thr0 R1 ?_
      refine k_if (fun c3 => (by unfold F12_seen_48 F12_seen_53; exact k_thr R1 (fun h2 R2 => k_s (by rw [if_pos c1, if_pos c2, if_neg (fun q => q c3)]; exact R2)))) (fun c3 => ?_)
      refine k_i (fun c4 => ?_) (fun c4 => (by unfold F12_seen_48 F12_seen_53; exact k_thr R1 (fun h2 R2 => k_s (by rw [if_pos c1, if_pos c2, if_pos c3, if_neg c4]; exact R2))))
      unfold F12_seen_53
      have hc := (V.cap (k := 9) (by omega)).1
      refine k_thr0 R1 (k_e (rz_gr1 R1) (k_e (rz_c9 R1) ?_))
      rw [show W 29 0 0 = _ from hc]
      refine k_rm (m := 60) (V.c (k := 9) (by omega)) (by decide) rfl (fun c6 => ?_) (fun c6 => k_s (by rw [if_pos c1, if_pos c2, if_pos c3, if_pos c4, if_neg c6]; exact ⟨rfl, R1⟩))
      rw [if_pos c1, if_pos c2, if_pos c3, if_pos c4, if_pos c6]
      have hI : ∀ c, (hc : c < 3) → 3988 + 3 * nI (wz_n W 9) + nI c = nI (wz_ix 9 (wz_n W 9) c) ∧ wz_v 9 (wz_n W 9) c := fun c hc => ⟨ix9 _ c, by decide, c6, hc⟩
      refine k_e (rz_gr1 R1) (k_b (rz_set R1 (k := 9) (r := wz_n W 9) (c := 0) (ix90 _) (hI 0 (by decide)).2) ?_)
      intro h2 R2
      refine k_e (rz_gr1 R2) (k_b (rz_set R2 (k := 9) (r := wz_n W 9) (c := 1) (hI 1 (by decide)).1 (hI 1 (by decide)).2) ?_)
      intro h3 R3
      refine k_e (rz_gr1 R3) (k_b (rz_set R3 (k := 9) (r := wz_n W 9) (c := 2) (hI 2 (by decide)).1 (hI 2 (by decide)).2) ?_)
      intro h4 R4
      refine k_e (rz_gr1 R4) (k_e (rz_c9 R4) ?_)
      refine k_b (rz_cs9 R4) ?_
      intro h5 R5
      rw [← nI_succ]
      refine k_s ⟨rfl, ?_⟩
      have e : wz_up (sp_sets W 9 (wz_n W 9) [(0, a), (1, b), (2, c)]) 29 0 0 (nI (wz_n W 9 + 1)) = sp_new W 9 [(0, a), (1, b), (2, c)] := sp_sets_cm (by decide)
      rw [← e, nI_succ, ← hc]
      exact R5
    · rw [if_neg c2]
      refine k_f (by decide) ?_
      unfold F12_seen_20 F12_seen_25
      exact k_thr R1 (fun h2 R2 => k_s (by rw [if_pos c1, if_neg c2]; exact R2))
  · rw [if_neg c1]
    refine k_f (by decide) ?_
    unfold F12_seen_20 F12_seen_25
    exact k_thr R1 (fun h2 R2 => k_s (by rw [if_neg c1]; exact R2))
theorem cz_rock (R : cz_N s0 W h) (V : vz W) {a b c d : Int32} : k_ok (F11_rock 200 a b c d h) (fz_I s0 W (sp_rock W a b c d)) := by
  unfold F11_rock F11_rock_0 sp_rock
  refine k_g (nz_io200 R) ?_
  refine k_tl (fun c1 => ?_) (fun c1 => k_s (by rw [if_neg c1]; exact ⟨_, rfl, R⟩))
  refine k_ta (fun c2 => ?_) (fun c2 => k_s (by rw [if_pos c1, if_neg (fun q => q c2)]; exact ⟨_, rfl, R⟩))
  refine k_o (fun c3 => ?_) (fun c3 => k_s (by rw [if_pos c1, if_pos c2, if_neg c3]; exact ⟨_, rfl, R⟩))
  refine k_o (fun c4 => ?_) (fun c4 => k_s (by rw [if_pos c1, if_pos c2, if_pos c3, if_neg c4]; exact ⟨_, rfl, R⟩))
  refine k_o (fun c5 => ?_) (fun c5 => k_s (by rw [if_pos c1, if_pos c2, if_pos c3, if_pos c4, if_neg c5]; exact ⟨_, rfl, R⟩))
  refine k_e (nz_gr200_4 R) (k_e (nz_gr223_16 R) (k_e (cz_f10 R) ?_))
  by_cases c6 : wz_n W 10 < 10
  · rw [if_pos c1, if_pos c2, if_pos c3, if_pos c4, if_pos c5, if_pos c6, if_pos (show wz_n W 10 < wz_cap 10 from c6)]
    refine k_t rfl ?_
    refine k_e (nz_gr200_4 R) (k_e (nz_gr223_16 R) ?_)
    refine k_b (cz_add R (k := 10) (by decide) rfl c6 (fun c hc => V.z (k := 10) (by decide) (Nat.le_refl _) c6 hc)) ?_
    rintro _ ⟨h1, rfl, R1⟩
    have hl : wz_n W 10 < wz_n (wz_up W (20 + 10) 0 0 (nI (wz_n W 10 + 1))) 10 := by
      show _ < (nI (wz_n W 10 + 1)).toNatClampNeg
      rw [nI_clamp (by omega)]
      omega
    refine k_e (nz_gr200_4 R1) (k_e (nz_gr223_16 R1) (k_b (cz_s10_0 R1 rfl hl) ?_))
    intro h2 R2
    refine k_e (nz_gr200_4 R2) (k_e (nz_gr223_16 R2) (k_e (nz_gr200_4 R2) (k_e (cz_i0 R2) ?_)))
    refine k_b (cz_s10_1 R2 rfl hl) ?_
    intro h3 R3
    refine k_e (nz_gr200_4 R3) (k_e (nz_gr223_16 R3) (k_b (cz_s10_2 R3 rfl hl) ?_))
    intro h4 R4
    refine k_e (nz_gr200_4 R4) (k_e (nz_gr223_16 R4) (k_b (cz_s10_3 R4 rfl hl) ?_))
    intro h5 R5
    refine k_e (nz_gr200_4 R5) (k_e (nz_gr223_16 R5) (k_b (cz_s10_4 R5 rfl hl) ?_))
    intro h6 R6
    exact k_s ⟨_, h6, rfl, rfl, R6⟩
  · rw [if_pos c1, if_pos c2, if_pos c3, if_pos c4, if_pos c5, if_neg c6, if_neg (show ¬ wz_n W 10 < wz_cap 10 from c6)]
    exact k_f (by decide) (k_s ⟨_, rfl, R⟩)
theorem rz_rock (R : rz_N s0 th W h) (V : vz W) {a b c d : Int32} : k_ok (F12_rock 317 a b c d h) (hz_I s0 e012 W (sp_rock W a b c d)) := by
  unfold F12_rock F12_rock_0 sp_rock
  refine k_g (rz_io R) ?_
  refine k_b (rz_th R) ?_
  intro h1 R1
  refine k_e k_nl (k_ww R1 (0 ≤ a ∧ a ≤ 5) rfl (fun c1 => ?_) (fun c1 h2 R2 => k_s (by rw [if_neg c1]; exact R2)))
  refine k_if (fun c2 => (by unfold F12_rock_56 F12_rock_61; exact k_thr R1 (fun h2 R2 => k_s (by rw [if_pos c1, if_neg (fun q => q c2)]; exact R2)))) (fun c2 => ?_)
  refine k_i (fun c3 => ?_) (fun c3 => (by unfold F12_rock_56 F12_rock_61; exact k_thr R1 (fun h2 R2 => k_s (by rw [if_pos c1, if_pos c2, if_neg c3]; exact R2))))
  refine k_i (fun c4 => ?_) (fun c4 => (by unfold F12_rock_56 F12_rock_61; exact k_thr R1 (fun h2 R2 => k_s (by rw [if_pos c1, if_pos c2, if_pos c3, if_neg c4]; exact R2))))
  refine k_i (fun c5 => ?_) (fun c5 => (by unfold F12_rock_56 F12_rock_61; exact k_thr R1 (fun h2 R2 => k_s (by rw [if_pos c1, if_pos c2, if_pos c3, if_pos c4, if_neg c5]; exact R2))))
  unfold F12_rock_61
  have hc := (V.cap (k := 10) (by omega)).1
  refine k_thr0 R1 (k_e (rz_gr1 R1) (k_e (rz_c10 R1) ?_))
  rw [show W 30 0 0 = _ from hc]
  refine k_rm (m := 10) (V.c (k := 10) (by omega)) (by decide) rfl (fun c6 => ?_) (fun c6 => (by unfold F12_rock_87; exact k_thr R1 (fun h2 R2 => k_s (by rw [if_pos c1, if_pos c2, if_pos c3, if_pos c4, if_pos c5, if_neg c6]; exact R2))))
  rw [if_pos c1, if_pos c2, if_pos c3, if_pos c4, if_pos c5, if_pos c6]
  unfold F12_rock_87
  refine k_thr0 R1 (k_e (rz_gr1 R1) (k_e (rz_c10 R1) ?_))
  rw [show W 30 0 0 = _ from hc]
  unfold F12_baseAt F12_baseAt_0
  refine k_e rfl ?_
  have hI : ∀ c, (hc : c < 6) → 4169 + 6 * nI (wz_n W 10) + nI c = nI (wz_ix 10 (wz_n W 10) c) ∧ wz_v 10 (wz_n W 10) c := fun c hc => ⟨ix10 _ c, by decide, c6, hc⟩
  refine k_e (rz_gr1 R1) (k_b (rz_set R1 (k := 10) (r := wz_n W 10) (c := 0) (ix100 _) (hI 0 (by decide)).2) ?_)
  intro h2 R2
  refine k_e (rz_gr1 R2) (k_e (k_wk R2) ?_)
  refine k_b (rz_set R2 (k := 10) (r := wz_n W 10) (c := 1) (hI 1 (by decide)).1 (hI 1 (by decide)).2) ?_
  intro h3 R3
  refine k_e (rz_gr1 R3) (k_b (rz_set R3 (k := 10) (r := wz_n W 10) (c := 2) (hI 2 (by decide)).1 (hI 2 (by decide)).2) ?_)
  intro h4 R4
  refine k_e (rz_gr1 R4) (k_b (rz_set R4 (k := 10) (r := wz_n W 10) (c := 3) (hI 3 (by decide)).1 (hI 3 (by decide)).2) ?_)
  intro h5 R5
  refine k_e (rz_gr1 R5) (k_b (rz_set R5 (k := 10) (r := wz_n W 10) (c := 4) (hI 4 (by decide)).1 (hI 4 (by decide)).2) ?_)
  intro h6 R6
  refine k_e (rz_gr1 R6) (k_b (rz_set R6 (k := 10) (r := wz_n W 10) (c := 5) (hI 5 (by decide)).1 (hI 5 (by decide)).2) ?_)
  intro h7 R7
  rw [wz_up_same (by rw [wz_up_c (by decide), wz_up_c (by decide), wz_up_c (by decide), wz_up_c (by decide), wz_up_c (by decide)]; exact V.z (k := 10) (by decide) (Nat.le_refl _) c6 (show 5 < 6 by decide))] at R7
  refine k_e (rz_gr1 R7) (k_e (rz_c10 R7) ?_)
  refine k_b (rz_cs10 R7) ?_
  intro h8 R8
  refine k_s ⟨rfl, ?_⟩
  have e : wz_up (sp_sets W 10 (wz_n W 10) [(0, a), (1, W 14 0 0), (2, b), (3, c), (4, d)]) 30 0 0 (nI (wz_n W 10 + 1)) = sp_new W 10 [(0, a), (1, W 14 0 0), (2, b), (3, c), (4, d)] := sp_sets_cm (by decide)
  rw [← e, nI_succ, ← hc]
  exact R8
theorem cz_net (R : cz_N s0 W h) {a : Int32} : k_ok (F11_net 200 a h) (fz_I s0 W (sp_net W a)) := by
  have hn : wz_n W 10 ≤ 10 := by
    obtain ⟨s, -, H, -⟩ := R
    exact (H.2.2 10 (by decide)).2.2
  unfold F11_net F11_net_0 sp_net
  refine k_g (nz_io200 R) (k_e (nz_gr200_4 R) (k_e (nz_gr223_16 R) (k_e (cz_h10 R) ?_)))
  by_cases q : a < 0 ∨ nI (wz_n W 10) ≤ a
  · rw [if_pos q, if_neg (fun e => q.elim (fun a => absurd e.1 (Int32.not_le.mpr a)) (fun a => absurd e.2 (Int32.not_lt.mpr a)))]
    exact k_t rfl (k_s ⟨_, rfl, R⟩)
  · have c1 : 0 ≤ a ∧ a < nI (wz_n W 10) := ⟨Int32.not_lt.mp (fun a => q (Or.inl a)), Int32.not_le.mp (fun a => q (Or.inr a))⟩
    rw [if_neg q, if_pos c1]
    obtain ⟨r, hr, rfl⟩ := i_rowlt (by omega) c1
    rw [nI_clamp (by omega)]
    refine k_f (by decide) (k_e (nz_gr200_4 R) (k_e (nz_gr223_16 R) (k_e (cz_g10_5 R rfl hr) (k_e (nz_gr200_4 R) (k_e (nz_gr223_16 R) (k_e (cz_g10_3 R rfl hr) ?_))))))
    exact k_s ⟨_, _, rfl, rfl, R⟩
theorem rz_net (R : rz_N s0 th W h) (V : vz W) {a : Int32} : k_ok (F12_net 317 a h) (hz_I s0 e0 W (sp_net W a)) := by
  have hc := V.cap (k := 10) (by omega)
  have hn : wz_n W 10 ≤ 10 := hc.2
  unfold F12_net F12_net_0 sp_net
  refine k_g (rz_io R) ?_
  refine k_b (rz_th R) ?_
  intro h1 R1
  refine k_e (rz_gr1 R1) (k_e (rz_c10 R1) ?_)
  rw [show W 30 0 0 = _ from hc.1]
  refine k_i (fun c => ?_) (fun c => (by unfold F12_net_29; exact k_thr R1 (fun h2 R2 => k_s (by rw [if_neg (fun e => c ((nI_lep (by omega)).mpr e))]; exact R2))))
  have c1 := (nI_lep (by omega)).mp c
  rw [if_pos c1]
  obtain ⟨r, hr, rfl⟩ := i_rowlt (by omega) c1
  rw [nI_clamp (by omega)]
  unfold F12_net_29 F12_baseAt F12_baseAt_0
  have hv : ∀ c, c < 6 → wz_v 10 r c := fun c hc => ⟨by decide, show r < 10 by omega, hc⟩
  refine k_thr0 R1 (k_e (rz_gr1 R1) (k_e rfl (k_e (rz_get R1 (k := 10) (r := r) (c := 5) (ix10 r 5) (hv 5 (by decide))) (k_e (rz_gr1 R1) (k_e rfl (k_e (rz_get R1 (k := 10) (r := r) (c := 3) (ix10 r 3) (hv 3 (by decide))) ?_))))))
  exact k_s ⟨rfl, R1⟩
theorem cz_page (R : cz_N s0 W h) (V : vz W) {a b : Int32} : k_ok (F11_page 200 a b h) (fz_I s0 W (sp_page W a b)) := by
  unfold F11_page F11_page_0 sp_page
  refine k_g (nz_io200 R) ?_
  refine k_o (fun c1 => ?_) (fun c1 => k_s (by rw [if_neg c1]; exact ⟨_, rfl, R⟩))
  refine k_o (fun c2 => ?_) (fun c2 => k_s (by rw [if_pos c1, if_neg c2]; exact ⟨_, rfl, R⟩))
  rw [if_pos c1, if_pos c2]
  by_cases c6 : wz_n W 11 < 9
  · rw [if_pos c6]
    refine k_e (nz_gr200_4 R) (k_e (nz_gr223_17 R) ?_)
    refine k_b (cz_add R (k := 11) (by decide) rfl c6 (fun c hc => V.z (k := 11) (by decide) (Nat.le_refl _) c6 hc)) ?_
    rintro _ ⟨h1, rfl, R1⟩
    have hl : wz_n W 11 < wz_n (wz_up W (20 + 11) 0 0 (nI (wz_n W 11 + 1))) 11 := by
      show _ < (nI (wz_n W 11 + 1)).toNatClampNeg
      rw [nI_clamp (by omega)]
      omega
    refine k_e (nz_gr200_4 R1) (k_e (nz_gr223_17 R1) (k_b (cz_s11_0 R1 rfl hl) ?_))
    intro h2 R2
    refine k_e (nz_gr200_4 R2) (k_e (nz_gr223_17 R2) (k_b (cz_s11_1 R2 rfl hl) ?_))
    intro h3 R3
    exact k_s ⟨_, h3, rfl, rfl, R3⟩
  · rw [if_neg c6]
    refine k_e (nz_gr200_4 R) (k_e (nz_gr223_17 R) (k_e (cz_add0 R (k := 11) (by decide) rfl c6) ?_))
    refine k_e (nz_gr200_4 R) (k_e (nz_gr223_17 R) (k_e (cz_set0 R (k := 11) (by decide) rfl (Or.inl (show (-1 : Int32) < 0 by decide))) ?_))
    refine k_e (nz_gr200_4 R) (k_e (nz_gr223_17 R) (k_e (cz_set0 R (k := 11) (by decide) rfl (Or.inl (show (-1 : Int32) < 0 by decide))) ?_))
    exact k_s ⟨_, h, rfl, rfl, R⟩
theorem rz_page (R : rz_N s0 th W h) (V : vz W) {a b : Int32} : k_ok (F12_page 317 a b h) (hz_I s0 e1 W (sp_page W a b)) := by
  unfold F12_page F12_page_0 sp_page
  refine k_g (rz_io R) ?_
  refine k_b (rz_th R) ?_
  intro h1 R1
  refine k_i (fun c1 => ?_) (fun c1 => (by unfold F12_page_32 F12_page_37; exact k_thr R1 (fun h2 R2 => k_s (by rw [if_neg c1]; exact R2))))
  refine k_i (fun c2 => ?_) (fun c2 => (by unfold F12_page_32 F12_page_37; exact k_thr R1 (fun h2 R2 => k_s (by rw [if_pos c1, if_neg c2]; exact R2))))
  unfold F12_page_37
  have hc := (V.cap (k := 11) (by omega)).1
  refine k_thr0 R1 (k_e (rz_gr1 R1) (k_e (rz_c11 R1) ?_))
  rw [show W 31 0 0 = _ from hc]
  refine k_rm (m := 9) (V.c (k := 11) (by omega)) (by decide) rfl (fun c6 => ?_) (fun c6 => k_s (by rw [if_pos c1, if_pos c2, if_neg c6]; exact ⟨rfl, R1⟩))
  rw [if_pos c1, if_pos c2, if_pos c6]
  have hv : ∀ c, c < 2 → wz_v 11 (wz_n W 11) c := fun c hc => ⟨by decide, c6, hc⟩
  refine k_e (rz_gr1 R1) (k_b (rz_set R1 (k := 11) (r := wz_n W 11) (c := 0) (ix110 _) (hv 0 (by decide))) ?_)
  intro h2 R2
  refine k_e (rz_gr1 R2) (k_b (rz_set R2 (k := 11) (r := wz_n W 11) (c := 1) (ix11 _ 1) (hv 1 (by decide))) ?_)
  intro h3 R3
  refine k_e (rz_gr1 R3) (k_e (rz_c11 R3) ?_)
  refine k_b (rz_cs11 R3) ?_
  intro h4 R4
  refine k_s ⟨rfl, ?_⟩
  have e : wz_up (sp_sets W 11 (wz_n W 11) [(0, a), (1, b)]) 31 0 0 (nI (wz_n W 11 + 1)) = sp_new W 11 [(0, a), (1, b)] := sp_sets_cm (by decide)
  rw [← e, nI_succ, ← hc]
  exact R4
theorem cz_choice (R : cz_N s0 W h) (V : vz W) {a b c d : Int32} : k_ok (F11_choice 200 a b c d h) (fz_I s0 W (sp_choice W a b c d)) := by
  unfold F11_choice F11_choice_0 sp_choice
  refine k_g (nz_io200 R) ?_
  refine k_o (fun c1 => ?_) (fun c1 => k_s (by rw [if_neg c1]; exact ⟨_, rfl, R⟩))
  refine k_o (fun c2 => ?_) (fun c2 => k_s (by rw [if_pos c1, if_neg c2]; exact ⟨_, rfl, R⟩))
  refine k_o (fun c3 => ?_) (fun c3 => k_s (by rw [if_pos c1, if_pos c2, if_neg c3]; exact ⟨_, rfl, R⟩))
  refine k_o (fun c4 => ?_) (fun c4 => k_s (by rw [if_pos c1, if_pos c2, if_pos c3, if_neg c4]; exact ⟨_, rfl, R⟩))
  refine k_e (nz_gr200_4 R) (k_e (nz_gr223_18 R) (k_e (cz_f12 R) ?_))
  by_cases c6 : wz_n W 12 < 8
  · rw [if_pos c1, if_pos c2, if_pos c3, if_pos c4, if_pos c6, if_pos (show wz_n W 12 < wz_cap 12 from c6)]
    refine k_t rfl ?_
    refine k_e (nz_gr200_4 R) (k_e (nz_gr223_18 R) ?_)
    refine k_b (cz_add R (k := 12) (by decide) rfl c6 (fun c hc => V.z (k := 12) (by decide) (Nat.le_refl _) c6 hc)) ?_
    rintro _ ⟨h1, rfl, R1⟩
    have hl : wz_n W 12 < wz_n (wz_up W (20 + 12) 0 0 (nI (wz_n W 12 + 1))) 12 := by
      show _ < (nI (wz_n W 12 + 1)).toNatClampNeg
      rw [nI_clamp (by omega)]
      omega
    refine k_e (nz_gr200_4 R1) (k_e (nz_gr223_18 R1) (k_b (cz_s12_0 R1 rfl hl) ?_))
    intro h2 R2
    refine k_e (nz_gr200_4 R2) (k_e (nz_gr223_18 R2) (k_b (cz_s12_1 R2 rfl hl) ?_))
    intro h3 R3
    refine k_e (nz_gr200_4 R3) (k_e (nz_gr223_18 R3) (k_b (cz_s12_2 R3 rfl hl) ?_))
    intro h4 R4
    refine k_e (nz_gr200_4 R4) (k_e (nz_gr223_18 R4) (k_b (cz_s12_3 R4 rfl hl) ?_))
    intro h5 R5
    refine k_e (nz_gr200_4 R5) (k_e (nz_gr223_18 R5) (k_e (cz_z12 R5) ?_))
    rw [wz_cc (show ¬ 3 = 1 by decide), wz_cc (show ¬ 2 = 1 by decide)] at R5
    exact k_s ⟨_, h5, rfl, congrArg (fun x => Int32.toInt64 (nI x)) (nI_clamp (n := wz_n W 12 + 1) (by omega)), R5⟩
  · rw [if_pos c1, if_pos c2, if_pos c3, if_pos c4, if_neg c6, if_neg (show ¬ wz_n W 12 < wz_cap 12 from c6)]
    exact k_f (by decide) (k_s ⟨_, _, rfl, rfl, R⟩)
theorem rz_choice (R : rz_N s0 th W h) (V : vz W) {a b c d : Int32} : k_ok (F12_choice 317 a b c d h) (hz_I s0 e1 W (sp_choice W a b c d)) := by
  unfold F12_choice F12_choice_0 sp_choice
  refine k_g (rz_io R) ?_
  refine k_b (rz_th R) ?_
  intro h1 R1
  refine k_i (fun c1 => ?_) (fun c1 => (by unfold F12_choice_49 F12_choice_54; exact k_thr R1 (fun h2 R2 => k_s (by rw [if_neg c1]; exact R2))))
  refine k_i (fun c2 => ?_) (fun c2 => (by unfold F12_choice_49 F12_choice_54; exact k_thr R1 (fun h2 R2 => k_s (by rw [if_pos c1, if_neg c2]; exact R2))))
  refine k_i (fun c3 => ?_) (fun c3 => (by unfold F12_choice_49 F12_choice_54; exact k_thr R1 (fun h2 R2 => k_s (by rw [if_pos c1, if_pos c2, if_neg c3]; exact R2))))
  refine k_i (fun c4 => ?_) (fun c4 => (by unfold F12_choice_49 F12_choice_54; exact k_thr R1 (fun h2 R2 => k_s (by rw [if_pos c1, if_pos c2, if_pos c3, if_neg c4]; exact R2))))
  unfold F12_choice_54
  have hc := (V.cap (k := 12) (by omega)).1
  refine k_thr0 R1 (k_e (rz_gr1 R1) (k_e (rz_c12 R1) ?_))
  rw [show W 32 0 0 = _ from hc]
  refine k_rm (m := 8) (V.c (k := 12) (by omega)) (by decide) rfl (fun c6 => ?_) (fun c6 => k_s (by rw [if_pos c1, if_pos c2, if_pos c3, if_pos c4, if_neg c6]; exact ⟨rfl, R1⟩))
  rw [if_pos c1, if_pos c2, if_pos c3, if_pos c4, if_pos c6]
  have hv : ∀ c, c < 4 → wz_v 12 (wz_n W 12) c := fun c hc => ⟨by decide, c6, hc⟩
  refine k_e (rz_gr1 R1) (k_b (rz_set R1 (k := 12) (r := wz_n W 12) (c := 0) (ix120 _) (hv 0 (by decide))) ?_)
  intro h2 R2
  refine k_e (rz_gr1 R2) (k_b (rz_set R2 (k := 12) (r := wz_n W 12) (c := 1) (ix12 _ 1) (hv 1 (by decide))) ?_)
  intro h3 R3
  refine k_e (rz_gr1 R3) (k_b (rz_set R3 (k := 12) (r := wz_n W 12) (c := 2) (ix12 _ 2) (hv 2 (by decide))) ?_)
  intro h4 R4
  refine k_e (rz_gr1 R4) (k_b (rz_set R4 (k := 12) (r := wz_n W 12) (c := 3) (ix12 _ 3) (hv 3 (by decide))) ?_)
  intro h5 R5
  refine k_e (rz_gr1 R5) (k_e (rz_c12 R5) ?_)
  refine k_b (rz_cs12 R5) ?_
  intro h6 R6
  rw [← nI_succ]
  refine k_s ⟨rfl, ?_⟩
  have e : wz_up (sp_sets W 12 (wz_n W 12) [(0, a), (1, b), (2, c), (3, d)]) 32 0 0 (nI (wz_n W 12 + 1)) = sp_new W 12 [(0, a), (1, b), (2, c), (3, d)] := sp_sets_cm (by decide)
  rw [← e, nI_succ, ← hc]
  exact R6
theorem cz_row (R : cz_N s0 W h) (V : vz W) {a b c d e : Int32} : k_ok (F11_row 200 a b c d e h) (fz_V s0 W (sp_row W a b c d e)) := by
  unfold F11_row F11_row_0 sp_row
  refine k_g (nz_io200 R) ?_
  refine k_o (fun c1 => ?_) (fun c1 => k_s (by rw [if_neg c1]; exact ⟨_, rfl, R⟩))
  refine k_o (fun c2 => ?_) (fun c2 => k_s (by rw [if_pos c1, if_neg c2]; exact ⟨_, rfl, R⟩))
  refine k_o (fun c3 => ?_) (fun c3 => k_s (by rw [if_pos c1, if_pos c2, if_neg c3]; exact ⟨_, rfl, R⟩))
  refine k_o (fun c4 => ?_) (fun c4 => k_s (by rw [if_pos c1, if_pos c2, if_pos c3, if_neg c4]; exact ⟨_, rfl, R⟩))
  refine k_o (fun c5 => ?_) (fun c5 => k_s (by rw [if_pos c1, if_pos c2, if_pos c3, if_pos c4, if_neg c5]; exact ⟨_, rfl, R⟩))
  rw [if_pos c1, if_pos c2, if_pos c3, if_pos c4, if_pos c5]
  obtain ⟨r, hr, rfl⟩ := i_row (n := 2) rfl c1
  obtain ⟨y, hy, rfl⟩ := i_row (n := 4) rfl c2
  have hn := V.n13
  rw [nI_clamp (by omega), nI_clamp (by omega)]
  have e1 : nI r * 5 + nI y = nI (5 * r + y) := by
    show nI r * nI 5 + nI y = _
    rw [nI_mul, nI_add, Nat.mul_comm]
  refine k_e (nz_gr200_4 R) (k_e (nz_gr223_19 R) (k_b (cz_s13_0 R e1 (show 5 * r + y < _ by omega)) ?_))
  intro h1 R1
  refine k_e (nz_gr200_4 R1) (k_e (nz_gr223_19 R1) (k_b (cz_s13_1 R1 e1 (show 5 * r + y < wz_n W 13 by omega)) ?_))
  intro h2 R2
  refine k_e (nz_gr200_4 R2) (k_e (nz_gr223_19 R2) (k_b (cz_s13_2 R2 e1 (show 5 * r + y < wz_n W 13 by omega)) ?_))
  intro h3 R3
  exact k_s ⟨h3, rfl, R3⟩
theorem rz_row (R : rz_N s0 th W h) {a b c d e : Int32} : k_ok (F12_row 317 a b c d e h) (hz_V s0 e1 W (sp_row W a b c d e)) := by
  unfold F12_row F12_row_0 sp_row
  refine k_g (rz_io R) ?_
  refine k_b (rz_th R) ?_
  intro h1 R1
  refine k_i (fun c1 => ?_) (fun c1 => (by unfold F12_row_59 F12_row_64; exact k_thr R1 (fun h2 R2 => k_s (by rw [if_neg c1]; exact R2))))
  refine k_i (fun c2 => ?_) (fun c2 => (by unfold F12_row_59 F12_row_64; exact k_thr R1 (fun h2 R2 => k_s (by rw [if_pos c1, if_neg c2]; exact R2))))
  refine k_i (fun c3 => ?_) (fun c3 => (by unfold F12_row_59 F12_row_64; exact k_thr R1 (fun h2 R2 => k_s (by rw [if_pos c1, if_pos c2, if_neg c3]; exact R2))))
  refine k_i (fun c4 => ?_) (fun c4 => (by unfold F12_row_59 F12_row_64; exact k_thr R1 (fun h2 R2 => k_s (by rw [if_pos c1, if_pos c2, if_pos c3, if_neg c4]; exact R2))))
  refine k_i (fun c5 => ?_) (fun c5 => (by unfold F12_row_59 F12_row_64; exact k_thr R1 (fun h2 R2 => k_s (by rw [if_pos c1, if_pos c2, if_pos c3, if_pos c4, if_neg c5]; exact R2))))
  rw [if_pos c1, if_pos c2, if_pos c3, if_pos c4, if_pos c5]
  obtain ⟨r, hr, rfl⟩ := i_row (n := 2) rfl c1
  obtain ⟨y, hy, rfl⟩ := i_row (n := 4) rfl c2
  rw [nI_clamp (by omega), nI_clamp (by omega)]
  unfold F12_row_64
  have hv : ∀ c, c < 3 → wz_v 13 (5 * r + y) c := fun c hc => ⟨by decide, show 5 * r + y < 15 by omega, hc⟩
  refine k_thr0 R1 (k_e (rz_gr1 R1) (k_b (rz_set R1 (k := 13) (r := 5 * r + y) (c := 0) (ix130 r y) (hv 0 (by decide))) ?_))
  intro h2 R2
  refine k_e (rz_gr1 R2) (k_b (rz_set R2 (k := 13) (r := 5 * r + y) (c := 1) (ix13 r y 1) (hv 1 (by decide))) ?_)
  intro h3 R3
  refine k_e (rz_gr1 R3) (k_b (rz_set R3 (k := 13) (r := 5 * r + y) (c := 2) (ix13 r y 2) (hv 2 (by decide))) ?_)
  intro h4 R4
  exact k_s R4
theorem nI_min {n m : Nat} (hn : n < 2 ^ 31) (hm : m < 2 ^ 31) : m_min (nI m) (nI n) = nI (if n < m then n else m) := by
  unfold m_min
  by_cases q : n < m
  · rw [if_pos q, if_pos (nI_lt q hm)]
  · rw [if_neg q, if_neg (nI_nlt (by omega) hn)]
theorem nI_sub {a b : Nat} (h : b ≤ a) : nI a - nI b = nI (a - b) := by
  have e : nI a = nI (a - b) + nI b := by rw [nI_add, Nat.sub_add_cancel h]
  rw [e, Int32.add_sub_cancel]
theorem cz_tear (R : cz_N s0 W h) (V : vz W) {a m : Int32} : k_ok (F11_tear 200 a m h) (fz_I s0 W (sp_tear W a m)) := by
  have hn : wz_n W 8 ≤ 100 := V.c (k := 8) (by omega)
  have em : m_min 6 (nI (wz_n W 8)) = nI (sp_rws W) := nI_min (m := 6) (by omega) (by decide)
  have hs : sp_rws W ≤ wz_n W 8 := by unfold sp_rws; split <;> omega
  unfold F11_tear F11_tear_0 sp_tear
  refine k_g (nz_io200 R) (k_e (nz_gr200_4 R) (k_e (nz_gr223_14 R) (k_e (cz_z8 R) ?_)))
  rw [em]
  refine k_o (fun c => ?_) (fun c => k_s (by rw [if_neg (fun e => c ((nI_lep (by omega)).mpr e))]; exact ⟨_, rfl, R⟩))
  have c1 := (nI_lep (by omega)).mp c
  rw [if_pos c1]
  obtain ⟨r, hr, rfl⟩ := i_rowlt (by omega) c1
  rw [nI_clamp (by omega)]
  have e1 : nI (wz_n W 8) - nI (sp_rws W) + nI r = nI (wz_n W 8 - sp_rws W + r) := by rw [nI_sub hs, nI_add]
  refine k_e (nz_gr200_4 R) (k_e (nz_gr223_14 R) (k_e (cz_z8 R) (k_e (nz_gr200_4 R) (k_e (nz_gr223_14 R) (k_e (cz_g8_2 R e1 (by omega)) ?_)))))
  refine k_e (nz_gr200_4 R) (k_e (nz_gr223_14 R) (k_b (cz_s8_2 R e1 (by omega)) ?_))
  intro h1 R1
  exact k_s ⟨_, h1, rfl, rfl, R1⟩
theorem rz_rowAt (R : rz_N s0 th W h) (V : vz W) {r : Nat} (hr : r < sp_rws W) : F12_rowAt 317 (nI r) h = some (nI (wz_ix 8 (wz_n W 8 - sp_rws W + r) 0)) ∧ (∀ c, nI (wz_ix 8 (wz_n W 8 - sp_rws W + r) 0) + nI c = nI (wz_ix 8 (wz_n W 8 - sp_rws W + r) c)) ∧ ∀ c, c < 5 → wz_v 8 (wz_n W 8 - sp_rws W + r) c := by
  have hc := V.cap (k := 8) (by omega)
  have hn : wz_n W 8 ≤ 100 := hc.2
  have em : m_min 6 (nI (wz_n W 8)) = nI (sp_rws W) := nI_min (m := 6) (by omega) (by decide)
  have hs : sp_rws W ≤ wz_n W 8 := by unfold sp_rws; split <;> omega
  refine ⟨?_, fun c => ?_, fun c hc => ⟨by decide, show _ < 100 by omega, hc⟩⟩
  · unfold F12_rowAt F12_rowAt_0
    rw [rz_io R, gz_s, rz_gr1 R, bz_s, rz_c8 R, bz_s, show W 28 0 0 = _ from hc.1, em, iz, if_pos ((nI_lep (by omega)).mpr ⟨nI_pos' (by omega), nI_lt hr (by omega)⟩), bz_s, iz_f (by decide), bz_s, rz_c8 R, bz_s, show W 28 0 0 = _ from hc.1, nI_sub hs, nI_add]
    unfold F12_returnAt F12_returnAt_0
    rw [bz_s, ix80]
  · rw [nI_add]
    congr 1
    show 3487 + (5 * (wz_n W 8 - sp_rws W + r) + 0) + c = 3487 + (5 * (wz_n W 8 - sp_rws W + r) + c)
    omega
theorem rz_rowAt0 (R : rz_N s0 th W h) (V : vz W) {x : Int32} (hx : ¬ (0 ≤ x ∧ x < nI (sp_rws W))) : F12_rowAt 317 x h = some (-1) := by
  have hc := V.cap (k := 8) (by omega)
  have hn : wz_n W 8 ≤ 100 := hc.2
  have em : m_min 6 (nI (wz_n W 8)) = nI (sp_rws W) := nI_min (m := 6) (by omega) (by decide)
  have hs : sp_rws W ≤ wz_n W 8 := by unfold sp_rws; split <;> omega
  unfold F12_rowAt F12_rowAt_0
  rw [rz_io R, gz_s, rz_gr1 R, bz_s, rz_c8 R, bz_s, show W 28 0 0 = _ from hc.1, em, iz, if_neg (fun e => hx ((nI_lep (by omega)).mp e)), bz_s, iz_t rfl]
theorem rz_tear (R : rz_N s0 th W h) (V : vz W) {a m : Int32} : k_ok (F12_tear 317 a m h) (hz_I s0 e4 W (sp_tear W a m)) := by
  have hn : wz_n W 8 ≤ 100 := V.c (k := 8) (by omega)
  have hs : sp_rws W ≤ wz_n W 8 := by unfold sp_rws; split <;> omega
  have em : m_min 6 (nI (wz_n W 8)) = nI (sp_rws W) := nI_min (m := 6) (by omega) (by decide)
  unfold F12_tear F12_tear_0 sp_tear
  refine k_g (rz_io R) ?_
  refine k_b (rz_th R) ?_
  intro h1 R1
  by_cases c1 : 0 ≤ a ∧ a < nI (sp_rws W)
  · rw [if_pos c1]
    obtain ⟨r, hr, rfl⟩ := i_rowlt (by omega) c1
    rw [nI_clamp (by omega)]
    have ha := fun h (R : rz_N s0 0 W h) => rz_rowAt R V hr
    have hlt := wz_ix_lt ((ha h1 R1).2.2 0 (by decide))
    refine k_e (ha h1 R1).1 (k_t (nI_pos' (by omega)) ?_)
    unfold F12_tear_19
    refine k_thr0 R1 (k_e (rz_gr1 R1) (k_e (ha h1 R1).1 (k_e (rz_get R1 ((ha h1 R1).2.1 3) ((ha h1 R1).2.2 3 (by decide))) ?_)))
    refine k_b (rz_set R1 ((ha h1 R1).2.1 3) ((ha h1 R1).2.2 3 (by decide))) ?_
    intro h2 R2
    have V2 : wz_up W 8 (wz_n W 8 - sp_rws W + r) 3 (W 8 (wz_n W 8 - sp_rws W + r) 3 ^^^ m) 28 0 0 = nI (wz_n W 8) := (V.cap (k := 8) (by omega)).1
    have e2 : F12_rowAt 317 (nI r) h2 = some (nI (wz_ix 8 (wz_n W 8 - sp_rws W + r) 0)) := by
      unfold F12_rowAt F12_rowAt_0
      rw [rz_io R2, gz_s, rz_gr1 R2, bz_s, rz_c8 R2, bz_s, V2, em, iz, if_pos ((nI_lep (by omega)).mpr ⟨nI_pos' (by omega), nI_lt hr (by omega)⟩), bz_s, iz_f (by decide), bz_s, rz_c8 R2, bz_s, V2, nI_sub hs, nI_add]
      unfold F12_returnAt F12_returnAt_0
      rw [bz_s, ix80]
    refine k_e (rz_gr1 R2) (k_e e2 (k_e (rz_get R2 ((ha h1 R1).2.1 3) ((ha h1 R1).2.2 3 (by decide))) ?_))
    refine k_s ⟨?_, R2⟩
    rw [wz_up_s]
  · rw [if_neg c1]
    refine k_e (rz_rowAt0 R1 V c1) (k_f (by decide) ?_)
    unfold F12_tear_19
    exact k_thr R1 (fun h2 R2 => k_s R2)
end
