/-! ===== must be, missing, balance, whence, land ===== -/
/-- the BOOKS at a say what W says of the weeks that are over -/
def bz_B (s : tz_S) (a : Nat) (W : m_W) (wk : Nat) : Prop := ∃ n f, m_c (tz_H s) (s.2.2.2.2.1 a) = some (.inl (0, n, .inl f)) ∧ n ≤ 24048 ∧ ∀ k, k < wk → (k + 1) * 48 ≤ n ∧ ∀ c, 8 ≤ c → c < 48 → f (k * 48 + c) = W 16 k c
def bz_N (h : m_H) (W : m_W) : Prop := ∃ s, h = tz_H s ∧ bz_B s 313 W (W 14 0 0).toNatClampNeg
def sp_mustBe (W : m_W) (a b c : Int32) : (Int64 × m_W) ⊕ Nat :=
  if 0 ≤ a ∧ a ≤ 5 then if 0 ≤ b ∧ b ≤ 7 then if ¬ a = 0 then if 0 ≤ c ∧ c ≤ W 14 0 0 then .inl ((sp_must W a.toNatClampNeg b.toNatClampNeg c).toInt64, W) else .inr 1 else .inr 1 else .inr 0 else .inr 0
def sp_whence (W : m_W) (a b c : Int32) : (Int64 × m_W) ⊕ Nat :=
  if 0 ≤ a ∧ a ≤ 5 then if 0 ≤ b ∧ b ≤ 7 then if ¬ a = 0 then .inl ((if c = 0 then sp_unx W a.toNatClampNeg b.toNatClampNeg else sp_bits W b.toNatClampNeg).toInt64, W) else .inr 1 else .inr 0 else .inr 0
def sp_balance (W : m_W) (a b c : Int32) : (Int64 × m_W) ⊕ Nat :=
  if 0 ≤ a ∧ a ≤ 5 then if ¬ a = 0 then if 0 ≤ b ∧ b ≤ 2 then .inl (sp_bal W a.toNatClampNeg b c, W) else .inr 4 else .inr 1 else .inr 0
def sp_land (W : m_W) (a b : Int32) : (Int64 × m_W) ⊕ Nat :=
  if 0 ≤ a ∧ a ≤ 5 then if ¬ a = 0 then
    if b = 0 then .inl ((W 5 a.toNatClampNeg 0).toInt64, W) else if b = 1 then .inl ((W 5 a.toNatClampNeg 1).toInt64, W) else if b = 2 then .inl (sp_owed W a, W) else if b = 3 then .inl ((sp_lentAt W a 3).toInt64, W) else if b = 4 then .inl ((sp_lentAt W a 6).toInt64, W) else if b = 5 then .inl ((sp_leased W a).toInt64, W) else if b = 6 then .inl (sp_sure W a.toNatClampNeg, W) else if b = 7 then .inl (sp_sure W a.toNatClampNeg + sp_wor W a.toNatClampNeg, W) else .inr 4
  else .inr 1 else .inr 0
theorem i8f {i : Nat} (h : i < 8) : ¬ ((8 : Int32) ≤ nI i) := nI_ge (b := 8) h (by decide)
theorem i8t : (8 : Int32) ≤ nI 8 := nI_le (b := 8) (Nat.le_refl _) (by decide)
theorem i6f {i : Nat} (h : i < 6) : ¬ ((6 : Int32) ≤ nI i) := nI_ge (b := 6) h (by decide)
theorem i6t : (6 : Int32) ≤ nI 6 := nI_le (b := 6) (Nat.le_refl _) (by decide)
section
variable {s0 : tz_S} {th : Int32} {W : m_W} {h : m_H}
theorem vz.week (V : vz W) : W 14 0 0 = nI (W 14 0 0).toNatClampNeg ∧ (W 14 0 0).toNatClampNeg ≤ 500 := by
  obtain ⟨j, hj, e⟩ := i_row (n := 500) rfl V.wk
  rw [e, nI_clamp (by omega)]
  exact ⟨rfl, hj⟩
theorem vz.ret (V : vz W) {r : Nat} (hr : r < wz_n W 8) : ∃ k, k ≤ (W 14 0 0).toNatClampNeg ∧ W 8 r 2 = nI k := by
  have h1 := V.2.2.2.2.1.2.2.2.2.1 r hr
  have h2 := (V.row (k := 8) (by omega) hr).2.2
  have hw := V.week
  rw [hw.1] at h1
  obtain ⟨j, hj, e⟩ := i_row (n := (W 14 0 0).toNatClampNeg) (nI_toInt (by omega)) ⟨h2, h1⟩
  exact ⟨j, hj, e⟩
theorem bz_at (B : bz_N h W) (V : vz W) {k l t : Nat} (hk : k < (W 14 0 0).toNatClampNeg) (hl : 1 ≤ l) (hl5 : l ≤ 5) (ht : t ≤ 7) : F1_at 313 (nI k) (nI l) (nI t) h = some (W 16 k (8 * l + t)) := by
  obtain ⟨s, rfl, n, f, hc, hn, hf⟩ := B
  have hw := V.week
  obtain ⟨h1, h2⟩ := hf k hk
  have g : m_gr (tz_H s) 313 1 0 = some (s.2.2.2.2.1 313) := by
    unfold m_gr
    rw [tz_gf sh_313 (k := 0) (o := some 1) rfl]
    rfl
  have hlen : m_len (tz_H s) (s.2.2.2.2.1 313) = some (nI n) := by
    unfold m_len
    rw [hc]
    exact if_pos (show 0 < 6 by decide)
  have e : nI k * 48 + nI (8 * l + t) = nI (k * 48 + (8 * l + t)) := by
    show nI k * nI 48 + _ = _
    rw [nI_mul, nI_add]
  have hai : m_ai (tz_H s) 0 (s.2.2.2.2.1 313) (nI (k * 48 + (8 * l + t))) = some (f (k * 48 + (8 * l + t))) := by
    unfold m_ai
    rw [hc]
    show (if 0 = 0 ∧ m_in _ n = true then _ else _) = _
    rw [if_pos ⟨rfl, nI_in1 (by omega) (by omega)⟩, nI_clamp (by omega)]
  unfold F1_at F1_at_0
  rw [io_313, gz_s, cz_tradeRow, bz_s, e, iz_f (nI_pos (by omega)), g, bz_s, hlen, bz_s, iz_f (nI_ge (by omega) (by omega)), bz_s, hai, bz_s, h2 _ (by omega) (by omega)]
theorem cz_must (R : cz_N s0 W h) (B : bz_N h W) (V : vz W) {l t k : Nat} {x : Int32} (hl : 1 ≤ l) (hl5 : l ≤ 5) (ht : t ≤ 7) (hx : x = nI k) (hk : k ≤ (W 14 0 0).toNatClampNeg) : F5_landedAtEnd 223 313 (nI l) (nI t) x h = some (sp_must W l t x) := by
  have hw := V.week
  unfold F5_landedAtEnd F5_landedAtEnd_0 sp_must
  rw [cz_i0 R, bz_s]
  by_cases q : x = W 14 0 0
  · rw [iz_t q, if_pos q, cz_landedOf R V (nI_ne0 (by omega) (by omega)), bz_s]
  · rw [iz_f q, if_neg q, hx]
    have hk2 : k < (W 14 0 0).toNatClampNeg := by
      rcases Nat.lt_or_ge k (W 14 0 0).toNatClampNeg with q2 | q2
      · exact q2
      · exact absurd (by rw [hx, hw.1]; congr 1; omega) q
    rw [bz_at B V hk2 hl hl5 ht, bz_s, nI_clamp (by omega)]
theorem rz_must (R : rz_N s0 th W h) (V : vz W) {l t k : Nat} {x : Int32} (hl5 : l ≤ 5) (ht : t ≤ 7) (hx : x = nI k) (hk : k ≤ (W 14 0 0).toNatClampNeg) : F12_mustOf 317 (nI l) (nI t) x h = some (sp_must W l t x) := by
  have hw := V.week
  unfold F12_mustOf F12_mustOf_0 sp_must
  rw [rz_io R, gz_s, k_wk R, bz_s]
  by_cases q : x = W 14 0 0
  · rw [iz_t q, if_pos q, rz_landedOf R V, bz_s]
  · rw [iz_f q, if_neg q, hx]
    have hk2 : k < (W 14 0 0).toNatClampNeg := by
      rcases Nat.lt_or_ge k (W 14 0 0).toNatClampNeg with q2 | q2
      · exact q2
      · exact absurd (by rw [hx, hw.1]; congr 1; omega) q
    have e : 4326 + 48 * nI k + 8 * nI l + nI t = nI (wz_ix 16 k (8 * l + t)) := by
      show nI 4326 + nI 48 * nI k + nI 8 * nI l + nI t = nI (4326 + (48 * k + (8 * l + t)))
      rw [nI_mul, nI_mul, nI_add, nI_add, nI_add]
      congr 1
      omega
    rw [rz_gr1 R, bz_s, rz_get R e ⟨by decide, show k < 500 by omega, show 8 * l + t < 48 by omega⟩, bz_s, nI_clamp (by omega)]
theorem cz_sure (R : cz_N s0 W h) (B : bz_N h W) (V : vz W) {l : Nat} (hl : 1 ≤ l) (hl5 : l ≤ 5) : F5_sure 223 313 (nI l) h = some (sp_sure W l) := by
  have hn : wz_n W 8 ≤ 100 := V.c (k := 8) (by omega)
  unfold F5_sure F5_sure_0 F5_sure_5
  refine wh_up (sp_sure1 W l) 8 0 _ (by decide) (fun i a hi => ?_) ?_
  · unfold F5_sure_5b sp_sure1
    dsimp only
    rw [iz_f (i8f hi), cz_latest R V, bz_s]
    cases hq : sp_lat W (nI l) (nI i) with
    | none => rw [iz_t (show o_m1 none = -1 from rfl)]
    | some r =>
      have hr := sp_lat_lt hq
      obtain ⟨k, hk, e⟩ := V.ret hr
      rw [iz_f (show ¬ o_m1 (some r) = -1 from o_m1_ne (by omega)), nz_gr223_14 R, bz_s, cz_g8_3 R (show o_m1 (some r) = nI r from rfl) hr, bz_s, cz_must R B V hl hl5 (by omega) e hk, bz_s, bz_s, cz_g8_2 R (show o_m1 (some r) = nI r from rfl) hr, bz_s]
      rfl
  · unfold F5_sure_5b
    dsimp only
    rw [iz_t (i8t)]
    rfl
theorem cz_wor (R : cz_N s0 W h) (V : vz W) {l : Nat} (hl : 1 ≤ l) (hl5 : l ≤ 5) : F5_landedWithoutReturn 223 (nI l) h = some (sp_wor W l) := by
  have hn : wz_n W 8 ≤ 100 := V.c (k := 8) (by omega)
  unfold F5_landedWithoutReturn F5_landedWithoutReturn_0 F5_landedWithoutReturn_5
  refine wh_up (sp_wor1 W l) 8 0 _ (by decide) (fun i a hi => ?_) ?_
  · unfold F5_landedWithoutReturn_5b sp_wor1
    dsimp only
    rw [iz_f (i8f hi), cz_latest R V, bz_s]
    cases hq : sp_lat W (nI l) (nI i) with
    | none =>
      rw [iz_t (show o_m1 none = -1 from rfl), cz_landedOf R V (nI_ne0 (by omega) (by omega)), bz_s]
      rfl
    | some r =>
      have hr := sp_lat_lt hq
      rw [iz_f (show ¬ o_m1 (some r) = -1 from o_m1_ne (by omega))]
  · unfold F5_landedWithoutReturn_5b
    dsimp only
    rw [iz_t (i8t)]
    rfl
theorem rz_missing (R : rz_N s0 th W h) (V : vz W) {l : Nat} {m : Int32} (hl5 : l ≤ 5) : F12_missing 317 (nI l) m h = some (sp_it (fun t a => if m = 0 then sp_sure1 W l t a else sp_wor1 W l t (sp_sure1 W l t a)) 8 0) := by
  have hn : wz_n W 8 ≤ 100 := V.c (k := 8) (by omega)
  unfold F12_missing F12_missing_0 F12_missing_5
  rw [rz_io R, gz_s]
  refine wh_up (fun t a => if m = 0 then sp_sure1 W l t a else sp_wor1 W l t (sp_sure1 W l t a)) 8 0 _ (by decide) (fun i a hi => ?_) ?_
  · unfold F12_missing_5b sp_wor1 sp_sure1
    dsimp only
    rw [iz_f (i8f hi), rz_latest R V, bz_s]
    cases hq : sp_lat W (nI l) (nI i) with
    | none =>
      rw [iz_t (show o_m1 none < 0 by decide)]
      by_cases q : m = 0
      · rw [iz_t q, if_pos q, Int64.add_zero]
      · rw [iz_f q, if_neg q, rz_landedOf R V, bz_s]
        rfl
    | some r =>
      have hr := sp_lat_lt hq
      obtain ⟨k, hk, e⟩ := V.ret hr
      rw [iz_f (show ¬ o_m1 (some r) < 0 from nI_pos (by omega)), rz_gr1 R, bz_s, show o_m1 (some r) = nI r from rfl]
      unfold F12_returnAt F12_returnAt_0
      rw [bz_s, rz_rA2 R (by omega), bz_s, rz_must R V hl5 (by omega) e hk, bz_s, bz_s, bz_s, rz_rA3 R (by omega), bz_s]
      dsimp only
      rw [ite_self]
      rfl
  · unfold F12_missing_5b
    dsimp only
    rw [iz_t (i8t)]
theorem sure_wor {l : Nat} : ∀ n, sp_it (fun t a => sp_wor1 W l t (sp_sure1 W l t a)) n 0 = sp_it (sp_sure1 W l) n 0 + sp_it (sp_wor1 W l) n 0
  | 0 => rfl
  | n + 1 => by
    show sp_wor1 W l n (sp_sure1 W l n (sp_it (fun t a => sp_wor1 W l t (sp_sure1 W l t a)) n 0)) = sp_sure1 W l n (sp_it (sp_sure1 W l) n 0) + sp_wor1 W l n (sp_it (sp_wor1 W l) n 0)
    rw [sure_wor n]
    unfold sp_wor1 sp_sure1
    cases sp_lat W (nI l) (nI n) with
    | none => exact Int64.add_assoc _ _ _
    | some r =>
      dsimp only
      rw [Int64.add_assoc, Int64.add_assoc, Int64.add_comm (sp_it _ n 0) (m_maxl _ _)]
theorem cz_leased (R : cz_N s0 W h) (V : vz W) {l : Int32} : F3_basesOf 223 l h = some (sp_leased W l) := by
  have hn : wz_n W 10 ≤ 10 := V.c (k := 10) (by omega)
  unfold F3_basesOf F3_basesOf_0 F3_basesOf_4
  rw [nz_io223 R, gz_s]
  refine wh_up (fun r a => if W 10 r 0 = l then (if W 10 r 1 + W 10 r 2 ≤ W 14 0 0 then a else a + 1) else a) (wz_n W 10) 0 _ (by omega) (fun i a hi => ?_) ?_
  · unfold F3_basesOf_4b
    dsimp only
    rw [nz_gr223_16 R, bz_s, cz_z10 R, bz_s, iz_f (nI_ge hi (by omega)), cz_i0 R, bz_s, bz_s, cz_g10_1 R rfl hi, bz_s, bz_s, cz_g10_0 R rfl hi, bz_s]
    by_cases q : W 10 i 0 = l
    · rw [iz_t q, if_pos q, bz_s, cz_g10_2 R rfl hi, bz_s]
      have hb := V.row (k := 10) (by omega) hi
      have hw := V.wk
      have a1 := Int32.le_iff_toInt_le.mp hb.2.1
      have a2 := Int32.le_iff_toInt_le.mp hb.2.2.1.1
      have a3 := Int32.le_iff_toInt_le.mp hb.2.2.1.2
      have a4 := Int32.le_iff_toInt_le.mp hw.1
      have a5 := Int32.le_iff_toInt_le.mp hw.2
      have a6 := Int32.le_iff_toInt_le.mp (V.2.2.2.2.1.2.2.2.1 i hi)
      rw [show (0 : Int32).toInt = 0 from rfl] at a1 a4
      rw [show (1 : Int32).toInt = 1 from rfl] at a2
      rw [show (500 : Int32).toInt = 500 from rfl] at a3 a5
      have e : (W 10 i 2 ≤ W 14 0 0 - W 10 i 1) ↔ (W 10 i 1 + W 10 i 2 ≤ W 14 0 0) := by
        rw [Int32.le_iff_toInt_le, Int32.le_iff_toInt_le, i_add (by omega) (by omega), i_sub (by omega) (by omega)]
        omega
      by_cases q2 : W 10 i 2 ≤ W 14 0 0 - W 10 i 1
      · rw [iz_t q2, if_pos (e.mp q2)]
      · rw [iz_f q2, if_neg (fun x => q2 (e.mpr x))]
    · rw [iz_f q, if_neg q]
  · unfold F3_basesOf_4b
    dsimp only
    rw [nz_gr223_16 R, bz_s, cz_z10 R, bz_s, iz_t (nI_le (Nat.le_refl _) (by omega))]
    rfl
theorem rz_bA0 (R : rz_N s0 th W h) {r : Nat} (hr : r < 10) : m_ai h 0 318 (4169 + 6 * nI r) = some (W 10 r 0) :=
  rz_get R (ix100 r) ⟨by decide, hr, by decide⟩
theorem rz_bA1 (R : rz_N s0 th W h) {r : Nat} (hr : r < 10) : m_ai h 0 318 (4169 + 6 * nI r + 1) = some (W 10 r 1) := rz_get R (ix10 r 1) ⟨by decide, hr, by decide⟩
theorem rz_bA2 (R : rz_N s0 th W h) {r : Nat} (hr : r < 10) : m_ai h 0 318 (4169 + 6 * nI r + 2) = some (W 10 r 2) := rz_get R (ix10 r 2) ⟨by decide, hr, by decide⟩
theorem rz_bA3 (R : rz_N s0 th W h) {r : Nat} (hr : r < 10) : m_ai h 0 318 (4169 + 6 * nI r + 3) = some (W 10 r 3) := rz_get R (ix10 r 3) ⟨by decide, hr, by decide⟩
theorem rz_bA4 (R : rz_N s0 th W h) {r : Nat} (hr : r < 10) : m_ai h 0 318 (4169 + 6 * nI r + 4) = some (W 10 r 4) := rz_get R (ix10 r 4) ⟨by decide, hr, by decide⟩
theorem rz_bA5 (R : rz_N s0 th W h) {r : Nat} (hr : r < 10) : m_ai h 0 318 (4169 + 6 * nI r + 5) = some (W 10 r 5) := rz_get R (ix10 r 5) ⟨by decide, hr, by decide⟩
theorem rz_leased (R : rz_N s0 th W h) (V : vz W) {l : Int32} : F12_leased 317 l h = some (sp_leased W l) := by
  have hc := V.cap (k := 10) (by omega)
  have hn : wz_n W 10 ≤ 10 := hc.2
  unfold F12_leased F12_leased_0 F12_leased_4
  rw [rz_io R, gz_s]
  refine wh_up (fun r a => if W 10 r 0 = l then (if W 10 r 1 + W 10 r 2 ≤ W 14 0 0 then a else a + 1) else a) (wz_n W 10) 0 _ (by omega) (fun i a hi => ?_) ?_
  · unfold F12_leased_4b F12_baseAt F12_baseAt_0
    dsimp only
    rw [rz_gr1 R, bz_s, rz_c10 R, bz_s, show W 30 0 0 = _ from hc.1, iz_f (nI_ge hi (by omega)), bz_s, bz_s, rz_bA0 R (by omega), bz_s]
    by_cases q : W 10 i 0 = l
    · rw [iz_t q, if_pos q, k_wk R, bz_s, bz_s, bz_s, rz_bA1 R (by omega), bz_s, bz_s, bz_s, rz_bA2 R (by omega), bz_s]
      by_cases q2 : W 10 i 1 + W 10 i 2 ≤ W 14 0 0
      · rw [iz_t q2, if_pos q2, Int32.add_zero]
      · rw [iz_f q2, if_neg q2]
    · rw [iz_f q, if_neg q, Int32.add_zero]
  · unfold F12_leased_4b
    dsimp only
    rw [rz_gr1 R, bz_s, rz_c10 R, bz_s, show W 30 0 0 = _ from hc.1, iz_t (nI_le (Nat.le_refl _) (by omega))]
    rfl
theorem cz_mustBe (R : cz_N s0 W h) (B : bz_N h W) (V : vz W) {a b c : Int32} : k_ok (F11_mustBe 200 a b c h) (fz_I s0 W (sp_mustBe W a b c)) := by
  unfold F11_mustBe F11_mustBe_0 sp_mustBe
  refine k_g (nz_io200 R) ?_
  refine k_tl (fun c1 => ?_) (fun c1 => k_s (by rw [if_neg c1]; exact ⟨_, rfl, R⟩))
  refine k_ts (fun c2 => ?_) (fun c2 => k_s (by rw [if_pos c1, if_neg c2]; exact ⟨_, rfl, R⟩))
  refine k_ta (fun c3 => ?_) (fun c3 => k_s (by rw [if_pos c1, if_pos c2, if_neg (fun q => q c3)]; exact ⟨_, rfl, R⟩))
  refine k_e (nz_gr200_4 R) (k_e (cz_i0 R) ?_)
  refine k_o (fun c4 => ?_) (fun c4 => k_s (by rw [if_pos c1, if_pos c2, if_pos c3, if_neg c4]; exact ⟨_, rfl, R⟩))
  rw [if_pos c1, if_pos c2, if_pos c3, if_pos c4]
  have hw := V.week
  obtain ⟨r, hr, rfl⟩ := i_row (n := 5) rfl c1
  obtain ⟨t, ht, rfl⟩ := i_row (n := 7) rfl c2
  rw [hw.1] at c4
  obtain ⟨k, hk, rfl⟩ := i_row (n := (W 14 0 0).toNatClampNeg) (nI_toInt (by omega)) c4
  rw [nI_clamp (n := r) (by omega), nI_clamp (n := t) (by omega)]
  have hr1 : 1 ≤ r := by
    rcases Nat.eq_zero_or_pos r with q | q
    · subst q; exact absurd rfl c3
    · exact q
  refine k_e (nz_gr200_4 R) (k_e (nz_gr200_7 R) (k_e (cz_must R B V hr1 hr ht rfl hk) ?_))
  exact k_s ⟨_, h, rfl, rfl, R⟩
theorem rz_mustBe (R : rz_N s0 th W h) (V : vz W) {a b c : Int32} : k_ok (F12_mustBe 317 a b c h) (hz_I s0 e01 W (sp_mustBe W a b c)) := by
  unfold F12_mustBe F12_mustBe_0 sp_mustBe
  refine k_g (rz_io R) ?_
  refine k_b (rz_th R) ?_
  intro h1 R1
  refine k_e k_nl ?_
  by_cases c1 : 0 ≤ a ∧ a ≤ 5
  · rw [if_pos c1]
    refine k_t rfl (k_e k_ns ?_)
    by_cases c2 : 0 ≤ b ∧ b ≤ 7
    · rw [if_pos c2]
      refine k_t rfl ?_
      unfold F12_mustBe_25
      refine k_thr0 R1 ?_
      refine k_if (fun c3 => (by unfold F12_mustBe_49 F12_mustBe_54; exact k_thr R1 (fun h2 R2 => k_s (by rw [if_pos c1, if_pos c2, if_neg (fun q => q c3)]; exact R2)))) (fun c3 => ?_)
      refine k_e (k_wk R1) ?_
      refine k_i (fun c4 => ?_) (fun c4 => (by unfold F12_mustBe_49 F12_mustBe_54; exact k_thr R1 (fun h2 R2 => k_s (by rw [if_pos c1, if_pos c2, if_pos c3, if_neg c4]; exact R2))))
      rw [if_pos c1, if_pos c2, if_pos c3, if_pos c4]
      unfold F12_mustBe_54
      have hw := V.week
      obtain ⟨r, hr, rfl⟩ := i_row (n := 5) rfl c1
      obtain ⟨t, ht, rfl⟩ := i_row (n := 7) rfl c2
      rw [hw.1] at c4
      obtain ⟨k, hk, rfl⟩ := i_row (n := (W 14 0 0).toNatClampNeg) (nI_toInt (by omega)) c4
      rw [nI_clamp (n := r) (by omega), nI_clamp (n := t) (by omega)]
      exact k_thr0 R1 (k_e (rz_must R1 V hr ht rfl hk) (k_s ⟨rfl, R1⟩))
    · rw [if_neg c2]
      refine k_f (by decide) ?_
      unfold F12_mustBe_20 F12_mustBe_25
      exact k_thr R1 (fun h2 R2 => k_s (by rw [if_pos c1, if_neg c2]; exact R2))
  · rw [if_neg c1]
    refine k_f (by decide) ?_
    unfold F12_mustBe_20 F12_mustBe_25
    exact k_thr R1 (fun h2 R2 => k_s (by rw [if_neg c1]; exact R2))
end
