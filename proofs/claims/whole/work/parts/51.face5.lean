/-! ===== land, count ===== -/
section
variable {s0 : tz_S} {th : Int32} {W : m_W} {h : m_H}
theorem swiN {b : Int32} (n : Nat) (hn : n < 2 ^ 31) : (∃ k, k ≤ n ∧ b = nI k ∧ m_swi 0 (n : Int) b = some k) ∨ ((∀ k, k ≤ n → ¬ b = nI k) ∧ m_swi 0 (n : Int) b = none) := by
  by_cases q : b < 0 ∨ nI n < b
  · refine Or.inr ⟨?_, m_swi_out q hn⟩
    rintro k hk rfl
    rcases q with q | q
    · exact nI_pos (by omega) q
    · exact nI_nlt hk hn q
  · obtain ⟨k, hk, e⟩ := i_row (x := b) (hi := nI n) (n := n) (nI_toInt hn) ⟨Int32.not_lt.mp (fun a => q (Or.inl a)), Int32.not_lt.mp (fun a => q (Or.inr a))⟩
    exact Or.inl ⟨k, hk, e, m_swi_in (n := n) hk hn e⟩
theorem cz_land (R : cz_N s0 W h) (B : bz_N h W) (V : vz W) {a b : Int32} : k_ok (F11_land 200 a b h) (fz_J s0 W (sp_land W a b)) := by
  have h5 := V.n5
  unfold F11_land F11_land_0 sp_land
  refine k_g (nz_io200 R) ?_
  refine k_tl (fun c1 => ?_) (fun c1 => k_s (by rw [if_neg c1]; exact ⟨_, rfl, R⟩))
  refine k_ta (fun c2 => ?_) (fun c2 => k_s (by rw [if_pos c1, if_neg (fun q => q c2)]; exact ⟨_, rfl, R⟩))
  rw [if_pos c1, if_pos c2]
  obtain ⟨r, hr, rfl⟩ := i_row (n := 5) rfl c1
  rw [nI_clamp (by omega)]
  have hr1 : 1 ≤ r := by
    rcases Nat.eq_zero_or_pos r with q | q
    · subst q; exact absurd rfl c2
    · exact q
  rcases swiN (b := b) 7 (by decide) with ⟨k, hk, rfl, e⟩ | ⟨q, e⟩
  · rw [show m_swi 0 7 (nI k) = some k from e]
    match k, hk with
    | 0, _ => exact k_t rfl (k_e (nz_gr200_4 R) (k_e (nz_gr223_11 R) (k_e (cz_g5_0 R rfl (by omega)) (k_s ⟨h, rfl, R⟩))))
    | 1, _ => exact k_f (by decide) (k_t rfl (k_e (nz_gr200_4 R) (k_e (nz_gr223_11 R) (k_e (cz_g5_1 R rfl (by omega)) (k_s ⟨h, rfl, R⟩)))))
    | 2, _ => exact k_f (by decide) (k_f (by decide) (k_t rfl (k_e (nz_gr200_4 R) (k_e (cz_owed R V c2) (k_s ⟨h, rfl, R⟩)))))
    | 3, _ => exact k_f (by decide) (k_f (by decide) (k_f (by decide) (k_t rfl (k_e (nz_gr200_4 R) (k_e (cz_lentAt R V (q := 3) c2 rfl (by decide)) (k_s ⟨h, rfl, R⟩))))))
    | 4, _ => exact k_f (by decide) (k_f (by decide) (k_f (by decide) (k_f (by decide) (k_t rfl (k_e (nz_gr200_4 R) (k_e (cz_lentAt R V (q := 6) c2 rfl (by decide)) (k_s ⟨h, rfl, R⟩)))))))
    | 5, _ => exact k_f (by decide) (k_f (by decide) (k_f (by decide) (k_f (by decide) (k_f (by decide) (k_t rfl (k_e (nz_gr200_4 R) (k_e (cz_leased R V) (k_s ⟨h, rfl, R⟩))))))))
    | 6, _ => exact k_f (by decide) (k_f (by decide) (k_f (by decide) (k_f (by decide) (k_f (by decide) (k_f (by decide) (k_t rfl (k_e (nz_gr200_4 R) (k_e (nz_gr200_7 R) (k_e (cz_sure R B V hr1 hr) (k_s ⟨h, rfl, R⟩))))))))))
    | 7, _ => exact k_f (by decide) (k_f (by decide) (k_f (by decide) (k_f (by decide) (k_f (by decide) (k_f (by decide) (k_f (by decide) (k_t rfl (k_e (nz_gr200_4 R) (k_e (nz_gr200_7 R) (k_e (cz_sure R B V hr1 hr) (k_e (nz_gr200_4 R) (k_e (cz_wor R V hr1 hr) (k_s ⟨h, rfl, R⟩)))))))))))))
    | n + 8, hk => exact absurd hk (by omega)
  · rw [show m_swi 0 7 b = none from e, if_neg (show ¬ b = 0 from q 0 (by decide)), if_neg (show ¬ b = 1 from q 1 (by decide)), if_neg (show ¬ b = 2 from q 2 (by decide)), if_neg (show ¬ b = 3 from q 3 (by decide)), if_neg (show ¬ b = 4 from q 4 (by decide)), if_neg (show ¬ b = 5 from q 5 (by decide)), if_neg (show ¬ b = 6 from q 6 (by decide)), if_neg (show ¬ b = 7 from q 7 (by decide))]
    exact k_s ⟨h, rfl, R⟩
theorem rz_l5 (R : rz_N s0 th W h) {r c : Nat} (hr : r < 6) (hc : c < 4) : F12_landAt (nI r) (nI c) h = some (nI (wz_ix 5 r c)) ∧ m_ai h 0 318 (nI (wz_ix 5 r c)) = some (W 5 r c) :=
  ⟨congrArg some (ix5 r c), rz_get R rfl ⟨by decide, hr, hc⟩⟩
theorem rz_land (R : rz_N s0 th W h) (V : vz W) {a b : Int32} : k_ok (F12_land 317 a b h) (hz_J s0 e014 W (sp_land W a b)) := by
  have hc2 := V.cap (k := 2) (by omega)
  have hn : wz_n W 2 ≤ 100 := hc2.2
  unfold F12_land F12_land_0 sp_land
  refine k_g (rz_io R) ?_
  refine k_b (rz_th R) ?_
  intro h1 R1
  refine k_e k_nl (k_ww R1 (0 ≤ a ∧ a ≤ 5) rfl (fun c1 => ?_) (fun c1 h2 R2 => k_s (by rw [if_neg c1]; exact R2)))
  refine k_if (fun c2 => (by unfold F12_land_27; exact k_thr R1 (fun h2 R2 => k_s (by rw [if_pos c1, if_neg (fun q => q c2)]; exact R2)))) (fun c2 => ?_)
  rw [if_pos c1, if_pos c2]
  unfold F12_land_27
  refine k_thr0 R1 ?_
  obtain ⟨r, hr, rfl⟩ := i_row (n := 5) rfl c1
  rw [nI_clamp (by omega)]
  rcases swiN (b := b) 7 (by decide) with ⟨k, hk, rfl, e⟩ | ⟨q, e⟩
  · rw [show m_swi 0 7 (nI k) = some k from e]
    match k, hk with
    | 0, _ => exact k_t rfl (k_e (rz_gr1 R1) (k_e (rz_l5 R1 (r := r) (c := 0) (by omega) (by decide)).1 (k_e (rz_l5 R1 (r := r) (c := 0) (by omega) (by decide)).2 (k_s ⟨rfl, R1⟩))))
    | 1, _ => exact k_f (by decide) (k_t rfl (k_e (rz_gr1 R1) (k_e (rz_l5 R1 (r := r) (c := 1) (by omega) (by decide)).1 (k_e (rz_l5 R1 (r := r) (c := 1) (by omega) (by decide)).2 (k_s ⟨rfl, R1⟩)))))
    | 2, _ => exact k_f (by decide) (k_f (by decide) (k_t rfl (k_e (rz_owed R1 V) (k_s ⟨rfl, R1⟩))))
    | 3, _ =>
      refine k_f (by decide) (k_f (by decide) (k_f (by decide) (k_t rfl ⟨((sp_lentAt W (nI r) 3).toInt64, h1), ?_, rfl, R1⟩)))
      unfold F12_land_117
      refine wh_up (fun t a => a + (sp_landed W (nI r) (nI t)).toInt64) 8 0 _ (by decide) (fun i x hi => ?_) ?_
      · unfold F12_land_117b
        dsimp only
        rw [iz_f (i8f hi), rz_landedOf R1 V, bz_s]
        rfl
      · unfold F12_land_117b
        dsimp only
        rw [iz_t i8t, land3 V]
    | 4, _ =>
      refine k_f (by decide) (k_f (by decide) (k_f (by decide) (k_f (by decide) (k_t rfl ⟨((sp_lentAt W (nI r) 6).toInt64, h1), ?_, rfl, R1⟩))))
      unfold F12_land_146
      refine wh_up (fun i a => a + (sp_gl W (nI r) 6 i).toInt64) (wz_n W 2) 0 _ (by omega) (fun i x hi => ?_) ?_
      · unfold F12_land_146b
        dsimp only
        rw [rz_gr1 R1, bz_s, rz_c2 R1, bz_s, show W 22 0 0 = _ from hc2.1, iz_f (nI_ge hi (by omega)), rz_isFor R1 rfl (by omega), bz_s]
        by_cases q : W 2 i 2 = nI r ∧ W 2 i 3 = 0
        · rw [if_pos q, iz_f (by decide), rz_o16 R1 rfl (by omega), bz_s, show sp_gl W (nI r) 6 i = W 2 i 16 from if_pos q]
          rfl
        · rw [if_neg q, iz_t rfl, show sp_gl W (nI r) 6 i = 0 from if_neg q]
          rfl
      · unfold F12_land_146b
        dsimp only
        rw [rz_gr1 R1, bz_s, rz_c2 R1, bz_s, show W 22 0 0 = _ from hc2.1, iz_t (nI_le (Nat.le_refl _) (by omega)), sp_lentAt64 V (by decide) (by decide)]
    | 5, _ => exact k_f (by decide) (k_f (by decide) (k_f (by decide) (k_f (by decide) (k_f (by decide) (k_t rfl (k_e (rz_leased R1 V) (k_s ⟨rfl, R1⟩)))))))
    | 6, _ => exact k_f (by decide) (k_f (by decide) (k_f (by decide) (k_f (by decide) (k_f (by decide) (k_f (by decide) (k_t rfl (k_e (rz_missing R1 V hr) (k_s ⟨rfl, R1⟩))))))))
    | 7, _ => exact k_f (by decide) (k_f (by decide) (k_f (by decide) (k_f (by decide) (k_f (by decide) (k_f (by decide) (k_f (by decide) (k_t rfl (k_e (rz_missing R1 V hr) (k_s ⟨(sure_wor 8 :), R1⟩)))))))))
    | n + 8, hk => exact absurd hk (by omega)
  · rw [show m_swi 0 7 b = none from e, if_neg (show ¬ b = 0 from q 0 (by decide)), if_neg (show ¬ b = 1 from q 1 (by decide)), if_neg (show ¬ b = 2 from q 2 (by decide)), if_neg (show ¬ b = 3 from q 3 (by decide)), if_neg (show ¬ b = 4 from q 4 (by decide)), if_neg (show ¬ b = 5 from q 5 (by decide)), if_neg (show ¬ b = 6 from q 6 (by decide)), if_neg (show ¬ b = 7 from q 7 (by decide))]
    refine k_b (rz_th R1) ?_
    intro h2 R2
    exact k_s R2
theorem cz_cratesAt (R : cz_N s0 W h) (V : vz W) {q : Nat} {p : Int32} (hp : p = nI q) (hq : q < 9) : F3_cratesAt 223 p h = some (sp_sum W 2 (10 + q)) := by
  have e1 : (10 : Int32) + p = nI (10 + q) := by rw [hp]; exact nI_add 10 q
  unfold F3_cratesAt F3_cratesAt_0
  rw [nz_io223 R, gz_s, nz_gr223_8 R, bz_s, cz_sumOf R (k := 2) (c := 10 + q) (by decide) rfl e1 (show 10 + q < 21 by omega) (nz_io229 R) (V.c (k := 2) (by omega)), bz_s, wz_pi2 q (List.mem_range.mpr hq)]
theorem cz_count (R : cz_N s0 W h) (V : vz W) {x : Int32} : F11_count 200 x h = some (sp_count W x) := by
  unfold F11_count F11_count_0 sp_count
  rw [nz_io200 R, gz_s]
  have out : ∀ (hx : ¬ (12 ≤ x ∧ x ≤ 20)), F11_count_24 200 x h = some (if x = 0 then W 14 0 0 else if x = 1 then nI (wz_n W 2) else if x = 2 then W 14 0 1 else if x = 3 then nI (wz_n W 17) else if x = 4 then sp_lines W else if x = 5 then sp_open W else if x = 6 then nI (wz_n W 4) else if x = 7 then sp_rw W 4 2 4 else if x = 8 then sp_rw W 2 9 1 else if x = 9 then nI (wz_n W 10) else if x = 10 then sp_sum W 10 5 else if x = 11 then W 14 0 3 else -1) := by
    intro _
    unfold F11_count_24
    rcases swiN (b := x) 11 (by decide) with ⟨k, hk, rfl, e⟩ | ⟨q, e⟩
    · rw [show m_swi 0 11 (nI k) = some k from e, swt_s]
      match k, hk with
      | 0, _ => rw [iz_t rfl, nz_gr200_4 R, bz_s, cz_i0 R, bz_s]; rfl
      | 1, _ => rw [iz_f (by decide), iz_t rfl, nz_gr200_4 R, bz_s, nz_gr223_8 R, bz_s, cz_z2 R, bz_s]; rfl
      | 2, _ => rw [iz_f (by decide), iz_f (by decide), iz_t rfl, nz_gr200_4 R, bz_s, cz_i1 R, bz_s]; rfl
      | 3, _ => rw [iz_f (by decide), iz_f (by decide), iz_f (by decide), iz_t rfl, nz_gr200_4 R, bz_s, cz_i5 R, bz_s]; rfl
      | 4, _ => rw [iz_f (by decide), iz_f (by decide), iz_f (by decide), iz_f (by decide), iz_t rfl, nz_gr200_4 R, bz_s, cz_lines R, bz_s]; rfl
      | 5, _ => rw [iz_f (by decide), iz_f (by decide), iz_f (by decide), iz_f (by decide), iz_f (by decide), iz_t rfl, nz_gr200_4 R, bz_s, cz_open R V, bz_s]; rfl
      | 6, _ => rw [iz_f (by decide), iz_f (by decide), iz_f (by decide), iz_f (by decide), iz_f (by decide), iz_f (by decide), iz_t rfl, nz_gr200_4 R, bz_s, nz_gr223_10 R, bz_s, cz_z4 R, bz_s]; rfl
      | 7, _ => rw [iz_f (by decide), iz_f (by decide), iz_f (by decide), iz_f (by decide), iz_f (by decide), iz_f (by decide), iz_f (by decide), iz_t rfl, nz_gr200_4 R, bz_s, nz_gr223_10 R, bz_s, cz_rowsWith R (k := 4) (c := 2) (y := 2) (by decide) rfl rfl (by decide) (nz_io233 R) (Nat.le_trans (V.c (k := 4) (by omega)) (by decide)), bz_s]; rfl
      | 8, _ => rw [iz_f (by decide), iz_f (by decide), iz_f (by decide), iz_f (by decide), iz_f (by decide), iz_f (by decide), iz_f (by decide), iz_f (by decide), iz_t rfl, nz_gr200_4 R, bz_s, nz_gr223_8 R, bz_s, cz_rowsWith R (k := 2) (c := 9) (y := 9) (by decide) rfl rfl (by decide) (nz_io229 R) (V.c (k := 2) (by omega)), bz_s]; rfl
      | 9, _ => rw [iz_f (by decide), iz_f (by decide), iz_f (by decide), iz_f (by decide), iz_f (by decide), iz_f (by decide), iz_f (by decide), iz_f (by decide), iz_f (by decide), iz_t rfl, nz_gr200_4 R, bz_s, nz_gr223_16 R, bz_s, cz_z10 R, bz_s]; rfl
      | 10, _ => rw [iz_f (by decide), iz_f (by decide), iz_f (by decide), iz_f (by decide), iz_f (by decide), iz_f (by decide), iz_f (by decide), iz_f (by decide), iz_f (by decide), iz_f (by decide), iz_t rfl, nz_gr200_4 R, bz_s, nz_gr223_16 R, bz_s, cz_sumOf R (k := 10) (c := 5) (y := 5) (by decide) rfl rfl (by decide) (nz_io245 R) (Nat.le_trans (V.c (k := 10) (by omega)) (by decide)), bz_s]; rfl
      | 11, _ =>
        rw [iz_f (by decide), iz_f (by decide), iz_f (by decide), iz_f (by decide), iz_f (by decide), iz_f (by decide), iz_f (by decide), iz_f (by decide), iz_f (by decide), iz_f (by decide), iz_f (by decide), iz_t rfl, nz_gr200_4 R, bz_s, cz_i3 R, bz_s]
        rcases V.en with q | q
        · rw [iz_t q, q]; rfl
        · rw [iz_f (by rw [q]; decide), q]; rfl
      | n + 12, hk => exact absurd hk (by omega)
    · rw [show m_swi 0 11 x = none from e, swt_n, if_neg (show ¬ x = 0 from q 0 (by decide)), if_neg (show ¬ x = 1 from q 1 (by decide)), if_neg (show ¬ x = 2 from q 2 (by decide)), if_neg (show ¬ x = 3 from q 3 (by decide)), if_neg (show ¬ x = 4 from q 4 (by decide)), if_neg (show ¬ x = 5 from q 5 (by decide)), if_neg (show ¬ x = 6 from q 6 (by decide)), if_neg (show ¬ x = 7 from q 7 (by decide)), if_neg (show ¬ x = 8 from q 8 (by decide)), if_neg (show ¬ x = 9 from q 9 (by decide)), if_neg (show ¬ x = 10 from q 10 (by decide)), if_neg (show ¬ x = 11 from q 11 (by decide))]
  by_cases q1 : x < 12
  · have hx : ¬ (12 ≤ x ∧ x ≤ 20) := fun e => absurd q1 (Int32.not_lt.mpr e.1)
    rw [iz_t q1, if_neg hx, out hx]
  · rw [iz_f q1]
    by_cases q2 : 21 ≤ x
    · have hx : ¬ (12 ≤ x ∧ x ≤ 20) := fun e => absurd (Int32.le_trans q2 e.2) (by decide)
      rw [iz_t q2, if_neg hx, out hx]
    · obtain ⟨k, hk, rfl⟩ := i_rowlt (n := 21) (by decide) ⟨Int32.le_trans (by decide) (Int32.not_lt.mp q1), Int32.not_le.mp q2⟩
      have k12 : 12 ≤ k := by
        rcases Nat.lt_or_ge k 12 with a | a
        · exact absurd (nI_lt (b := 12) a (by decide)) q1
        · exact a
      have hx : (12 : Int32) ≤ nI k ∧ nI k ≤ 20 := ⟨nI_le (a := 12) k12 (by omega), nI_le (b := 20) (by omega) (by decide)⟩
      have e2 : nI k - 12 = nI (k - 12) := nI_sub (b := 12) k12
      rw [iz_f q2, if_pos hx, nz_gr200_4 R, bz_s, cz_cratesAt R V e2 (by omega), bz_s, nI_clamp (by omega), show 10 + (k - 12) = k - 2 by omega]
theorem rz_count (R : rz_N s0 th W h) (V : vz W) {x : Int32} : k_ok (F12_count 317 x h) (fun z => ∃ h1, z = (sp_count W x, h1) ∧ rz_N s0 0 W h1) := by
  have hc2 := V.cap (k := 2) (by omega)
  have hc3 := V.cap (k := 3) (by omega)
  have hc4 := V.cap (k := 4) (by omega)
  have hc10 := V.cap (k := 10) (by omega)
  have hc17 := V.cap (k := 17) (by omega)
  have hn2 : wz_n W 2 ≤ 100 := hc2.2
  have hn3 : wz_n W 3 ≤ 60 := hc3.2
  have hn4 : wz_n W 4 ≤ 12 := hc4.2
  unfold F12_count F12_count_0 sp_count
  refine k_g (rz_io R) ?_
  refine k_b (rz_th R) ?_
  intro h1 R1
  refine k_i (fun c => ?_) (fun c => ?_)
  · rw [if_pos c]
    obtain ⟨k, hk, rfl⟩ := i_row (n := 20) rfl ⟨Int32.le_trans (by decide) c.1, c.2⟩
    have k12 : 12 ≤ k := by
      rcases Nat.lt_or_ge k 12 with a | a
      · exact absurd (nI_lt (b := 12) a (by decide)) (Int32.not_lt.mpr c.1)
      · exact a
    have e2 : 10 + nI k - 12 = nI (k - 2) := by
      show nI 10 + nI k - nI 12 = _
      rw [nI_add, nI_sub (by omega)]
      congr 1
      omega
    rw [nI_clamp (by omega)]
    refine ⟨(sp_sum W 2 (k - 2), h1), ?_, h1, rfl, R1⟩
    unfold F12_count_20
    refine wh_up (fun r a => a + W 2 r (k - 2)) (wz_n W 2) 0 _ (by omega) (fun i a hi => ?_) ?_
    · unfold F12_count_20b
      dsimp only
      rw [rz_gr1 R1, bz_s, rz_c2 R1, bz_s, show W 22 0 0 = _ from hc2.1, iz_f (nI_ge hi (by omega)), rz_of R1 rfl (by omega) e2 (by omega), bz_s]
    · unfold F12_count_20b
      dsimp only
      rw [rz_gr1 R1, bz_s, rz_c2 R1, bz_s, show W 22 0 0 = _ from hc2.1, iz_t (nI_le (Nat.le_refl _) (by omega))]
      rfl
  · rw [if_neg c]
    rcases swiN (b := x) 11 (by decide) with ⟨k, hk, rfl, e⟩ | ⟨q, e⟩
    · rw [show m_swi 0 11 (nI k) = some k from e]
      match k, hk with
      | 0, _ => exact k_t rfl (k_e (k_wk R1) (k_s ⟨h1, rfl, R1⟩))
      | 1, _ => exact k_f (by decide) (k_t rfl (k_e (rz_gr1 R1) (k_e (rz_c2 R1) (k_s ⟨h1, by rw [show W 22 0 0 = _ from hc2.1]; rfl, R1⟩))))
      | 2, _ => exact k_f (by decide) (k_f (by decide) (k_t rfl (k_e (rz_gr1 R1) (k_e (rz_w1 R1) (k_s ⟨h1, rfl, R1⟩)))))
      | 3, _ => exact k_f (by decide) (k_f (by decide) (k_f (by decide) (k_t rfl (k_e (rz_gr1 R1) (k_e (rz_c17 R1) (k_s ⟨h1, by rw [show W 37 0 0 = _ from hc17.1]; rfl, R1⟩))))))
      | 4, _ =>
        have hl := rz_linesOf R1 V
        refine k_f (by decide) (k_f (by decide) (k_f (by decide) (k_f (by decide) (k_t rfl ?_))))
        cases hq : F12_text 317 h1 with
        | none => rw [hq] at hl; cases hl
        | some v =>
          rw [hq, bz_s] at hl
          exact k_e rfl (k_e hl (k_s ⟨h1, rfl, R1⟩))
      | 5, _ =>
        refine k_f (by decide) (k_f (by decide) (k_f (by decide) (k_f (by decide) (k_f (by decide) (k_t rfl ⟨(sp_open W, h1), ?_, h1, rfl, R1⟩)))))
        unfold F12_count_161
        refine wh_up (fun r a => if W 3 r 2 - W 3 r 4 ≤ 0 then a else a + 1) (wz_n W 3) 0 _ (by omega) (fun i a hi => ?_) ?_
        · unfold F12_count_161b F12_lacks F12_lacks_0 F12_requestAt F12_requestAt_0
          dsimp only
          have g2 : m_ai h1 0 318 (2909 + 5 * nI i + 2) = some (W 3 i 2) := rz_get R1 (ix3 i 2) ⟨by decide, show i < 60 by omega, by decide⟩
          have g4 : m_ai h1 0 318 (2909 + 5 * nI i + 4) = some (W 3 i 4) := rz_get R1 (ix3 i 4) ⟨by decide, show i < 60 by omega, by decide⟩
          rw [rz_gr1 R1, bz_s, rz_c3 R1, bz_s, show W 23 0 0 = _ from hc3.1, iz_f (nI_ge hi (by omega)), rz_io R1, gz_s, bz_s, bz_s, g2, bz_s, bz_s, bz_s, g4, bz_s, bz_s]
          by_cases q : W 3 i 2 - W 3 i 4 ≤ 0
          · rw [iz_t q, if_pos q, Int32.add_zero]
          · rw [iz_f q, if_neg q]
        · unfold F12_count_161b
          dsimp only
          rw [rz_gr1 R1, bz_s, rz_c3 R1, bz_s, show W 23 0 0 = _ from hc3.1, iz_t (nI_le (Nat.le_refl _) (by omega))]
          rfl
      | 6, _ => exact k_f (by decide) (k_f (by decide) (k_f (by decide) (k_f (by decide) (k_f (by decide) (k_f (by decide) (k_t rfl (k_e (rz_gr1 R1) (k_e (rz_c4 R1) (k_s ⟨h1, by rw [show W 24 0 0 = _ from hc4.1]; rfl, R1⟩)))))))))
      | 7, _ =>
        refine k_f (by decide) (k_f (by decide) (k_f (by decide) (k_f (by decide) (k_f (by decide) (k_f (by decide) (k_f (by decide) (k_t rfl ⟨(sp_rw W 4 2 4, h1), ?_, h1, rfl, R1⟩)))))))
        unfold F12_count_208
        refine wh_up (fun r a => if W 4 r 2 = 4 then a + 1 else a) (wz_n W 4) 0 _ (by omega) (fun i a hi => ?_) ?_
        · unfold F12_count_208b
          dsimp only
          rw [rz_gr1 R1, bz_s, rz_c4 R1, bz_s, show W 24 0 0 = _ from hc4.1, iz_f (nI_ge hi (by omega)), rz_i2 R1 rfl (by omega), bz_s]
          by_cases q : W 4 i 2 = 4
          · rw [iz_t q, if_pos q]
          · rw [iz_f q, if_neg q, Int32.add_zero]
        · unfold F12_count_208b
          dsimp only
          rw [rz_gr1 R1, bz_s, rz_c4 R1, bz_s, show W 24 0 0 = _ from hc4.1, iz_t (nI_le (Nat.le_refl _) (by omega))]
          rfl
      | 8, _ =>
        refine k_f (by decide) (k_f (by decide) (k_f (by decide) (k_f (by decide) (k_f (by decide) (k_f (by decide) (k_f (by decide) (k_f (by decide) (k_t rfl ⟨(sp_rw W 2 9 1, h1), ?_, h1, rfl, R1⟩))))))))
        unfold F12_count_248
        refine wh_up (fun r a => if W 2 r 9 = 1 then a + 1 else a) (wz_n W 2) 0 _ (by omega) (fun i a hi => ?_) ?_
        · unfold F12_count_248b
          dsimp only
          rw [rz_gr1 R1, bz_s, rz_c2 R1, bz_s, show W 22 0 0 = _ from hc2.1, iz_f (nI_ge hi (by omega)), rz_o9 R1 rfl (by omega), bz_s]
          rcases (V.lot hi).2.2.2.2.2.2.2.2.1 with q | q
          · rw [q, if_neg (by decide), Int32.add_zero]
          · rw [q, if_pos rfl]
        · unfold F12_count_248b
          dsimp only
          rw [rz_gr1 R1, bz_s, rz_c2 R1, bz_s, show W 22 0 0 = _ from hc2.1, iz_t (nI_le (Nat.le_refl _) (by omega))]
          rfl
      | 9, _ => exact k_f (by decide) (k_f (by decide) (k_f (by decide) (k_f (by decide) (k_f (by decide) (k_f (by decide) (k_f (by decide) (k_f (by decide) (k_f (by decide) (k_t rfl (k_e (rz_gr1 R1) (k_e (rz_c10 R1) (k_s ⟨h1, by rw [show W 30 0 0 = _ from hc10.1]; rfl, R1⟩))))))))))))
      | 10, _ => exact k_f (by decide) (k_f (by decide) (k_f (by decide) (k_f (by decide) (k_f (by decide) (k_f (by decide) (k_f (by decide) (k_f (by decide) (k_f (by decide) (k_f (by decide) (k_t rfl (k_e (rz_gr1 R1) (k_e (rz_w4 R1) (k_s ⟨h1, by rw [V.2.2.2.2.1.2.2.1]; rfl, R1⟩)))))))))))))
      | 11, _ => exact k_f (by decide) (k_f (by decide) (k_f (by decide) (k_f (by decide) (k_f (by decide) (k_f (by decide) (k_f (by decide) (k_f (by decide) (k_f (by decide) (k_f (by decide) (k_f (by decide) (k_t rfl (k_e (rz_gr1 R1) (k_e (rz_w3 R1) (k_s ⟨h1, rfl, R1⟩))))))))))))))
      | n + 12, hk => exact absurd hk (by omega)
    · rw [show m_swi 0 11 x = none from e, if_neg (show ¬ x = 0 from q 0 (by decide)), if_neg (show ¬ x = 1 from q 1 (by decide)), if_neg (show ¬ x = 2 from q 2 (by decide)), if_neg (show ¬ x = 3 from q 3 (by decide)), if_neg (show ¬ x = 4 from q 4 (by decide)), if_neg (show ¬ x = 5 from q 5 (by decide)), if_neg (show ¬ x = 6 from q 6 (by decide)), if_neg (show ¬ x = 7 from q 7 (by decide)), if_neg (show ¬ x = 8 from q 8 (by decide)), if_neg (show ¬ x = 9 from q 9 (by decide)), if_neg (show ¬ x = 10 from q 10 (by decide)), if_neg (show ¬ x = 11 from q 11 (by decide))]
      exact k_s ⟨h1, rfl, R1⟩
end
