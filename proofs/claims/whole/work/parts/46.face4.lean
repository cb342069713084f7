/-! ===== count, led, check, over ===== -/
theorem wh_l {S X : Type} {body : S → Option (S ⊕ X)} {N : Nat} {s s' : S} {r : Option X} (h : body s = some (.inl s')) (k : m_wh body N s' = r) : m_wh body (N + 1) s = r := by
  unfold m_wh
  rw [h]
  exact k
theorem wh_r {S X : Type} {body : S → Option (S ⊕ X)} {N : Nat} {s : S} {x : X} (h : body s = some (.inr x)) : m_wh body (N + 1) s = some x := by
  unfold m_wh
  rw [h]
def sp_led (W : m_W) (a b : Int32) : (Int64 × m_W) ⊕ Nat :=
  if 0 ≤ a ∧ a < nI (wz_n W 4) then
    if b = 0 then .inl ((W 4 a.toNatClampNeg 2).toInt64, W) else if b = 1 then .inl ((W 4 a.toNatClampNeg 3).toInt64, W) else if b = 2 then .inl ((W 4 a.toNatClampNeg 4).toInt64, W) else if b = 3 then .inl ((sp_tonsIn W a.toNatClampNeg).toInt64, W) else if b = 4 then .inl ((W 4 a.toNatClampNeg 5).toInt64, W) else if b = 5 then .inl ((W 4 a.toNatClampNeg 6).toInt64, W) else .inr 4
  else .inr 0
def sp_chk (W : m_W) : Nat → Int32
  | 0 => -1
  | n + 1 => if W 8 (wz_n W 8 - sp_rws W + (sp_rws W - (n + 1))) 3 = W 8 (wz_n W 8 - sp_rws W + (sp_rws W - (n + 1))) 4 then sp_chk W n else nI (sp_rws W - (n + 1))
def sp_left (t : Nat) (p : Int32 × m_W) : Int32 × m_W := (p.1 + p.2 2 t 13, sp_mv p.2 t 3 8 (p.2 2 t 13))
def sp_over (W : m_W) : Int32 × m_W := if W 14 0 3 = 0 then ((sp_it sp_left (wz_n W 2) (0, W)).1, wz_up (sp_it sp_left (wz_n W 2) (0, W)).2 14 0 3 1) else (-1, W)
theorem sp_mv_k {W : m_W} {t a b : Nat} {n : Int32} {k r c : Nat} (h : ¬ k = 2) : sp_mv W t a b n k r c = W k r c := by
  unfold sp_mv
  rw [wz_up_k h, wz_up_k h]
theorem sp_mv_r {W : m_W} {t a b : Nat} {n : Int32} {k r c : Nat} (h : ¬ r = t) : sp_mv W t a b n k r c = W k r c := by
  unfold sp_mv
  rw [wz_up_r h, wz_up_r h]
theorem sp_left_k {W : m_W} {k r c : Nat} (h : ¬ k = 2) : ∀ n, (sp_it sp_left n (0, W)).2 k r c = W k r c
  | 0 => rfl
  | n + 1 => (sp_mv_k h).trans (sp_left_k h n)
theorem sp_mv_cm {W : m_W} {t a b : Nat} {n v : Int32} {k r c : Nat} (h : ¬ k = 2) : sp_mv (wz_up W k r c v) t a b n = wz_up (sp_mv W t a b n) k r c v := by
  have h' : ¬ 2 = k := fun e => h e.symm
  unfold sp_mv
  rw [wz_up_k h', wz_cm (k := 2) (k' := k) h', wz_cm h', wz_cm h, wz_up_k h']
theorem sp_left_cm {W : m_W} {k r c : Nat} {v : Int32} (h : ¬ k = 2) : ∀ n, sp_it sp_left n (0, wz_up W k r c v) = ((sp_it sp_left n (0, W)).1, wz_up (sp_it sp_left n (0, W)).2 k r c v)
  | 0 => rfl
  | n + 1 => by
    show sp_left n (sp_it sp_left n (0, wz_up W k r c v)) = _
    rw [sp_left_cm h n]
    unfold sp_left
    dsimp only
    rw [wz_up_k (fun e => h e.symm), sp_mv_cm h]
    rfl
section
variable {s0 : tz_S} {th : Int32} {W : m_W} {h : m_H}
theorem cz_tonsOf (R : cz_N s0 W h) (V : vz W) {t : Nat} {x : Int32} (hx : x = nI t) (ht : t < wz_n W 2) : F3_tonsOf 223 x h = some (W 0 (W 2 t 0).toNatClampNeg 0) := by
  have hs := (V.lot ht).1
  obtain ⟨j, hj, e⟩ := i_row (n := 7) rfl hs
  unfold F3_tonsOf F3_tonsOf_0
  have h0 := V.n0
  rw [nz_io223 R, gz_s, nz_gr223_6 R, bz_s, nz_gr223_8 R, bz_s, cz_g2_0 R hx ht, bz_s, e, cz_g0_0 R rfl (by omega), bz_s, nI_clamp (by omega)]
theorem wz_pi4 (c : Nat) : wz_pi 4 c = c := rfl
theorem cz_cargoLot (R : cz_N s0 W h) {s j : Nat} {x y : Int32} (hx : x = nI s) (hs : s < wz_n W 4) (hy : y = nI j) (hj : j < 8) : F3_cargoLot 223 x y h = some (W 4 s (7 + 2 * j)) := by
  have e : (7 : Int32) + 2 * y = nI (7 + 2 * j) := by
    rw [hy]
    show nI 7 + nI 2 * nI j = _
    rw [nI_mul, nI_add]
  unfold F3_cargoLot F3_cargoLot_0
  rw [nz_io223 R, gz_s, nz_gr223_10 R, bz_s, cz_get R (k := 4) (c := 7 + 2 * j) (by decide) rfl hx hs e (show 7 + 2 * j < 23 by omega), bz_s, wz_pi4]
theorem cz_cargoCr (R : cz_N s0 W h) {s j : Nat} {x y : Int32} (hx : x = nI s) (hs : s < wz_n W 4) (hy : y = nI j) (hj : j < 8) : F3_cargoCrates 223 x y h = some (W 4 s (8 + 2 * j)) := by
  have e : (7 : Int32) + 2 * y + 1 = nI (8 + 2 * j) := by
    rw [hy]
    show nI 7 + nI 2 * nI j + nI 1 = _
    rw [nI_mul, nI_add, nI_add]
    congr 1
    omega
  unfold F3_cargoCrates F3_cargoCrates_0
  rw [nz_io223 R, gz_s, nz_gr223_10 R, bz_s, cz_get R (k := 4) (c := 8 + 2 * j) (by decide) rfl hx hs e (show 8 + 2 * j < 23 by omega), bz_s, wz_pi4]
theorem vz.ship (V : vz W) {s j : Nat} (hs : s < wz_n W 4) (hj : j < (W 4 s 6).toNatClampNeg) : ∃ t, t < wz_n W 2 ∧ W 4 s (7 + 2 * j) = nI t := by
  obtain ⟨⟨t, h1, h2, -⟩, -⟩ := V.2.2.2.2.2.1 s hs j hj
  exact ⟨t, h1, h2⟩
theorem vz.has (V : vz W) {s : Nat} (hs : s < wz_n W 4) : W 4 s 6 = nI (W 4 s 6).toNatClampNeg ∧ (W 4 s 6).toNatClampNeg ≤ 8 := by
  have := (V.row (k := 4) (by omega) hs).2.2.2.1
  obtain ⟨j, hj, e⟩ := i_row (n := 8) rfl this
  rw [e, nI_clamp (by omega)]
  exact ⟨rfl, hj⟩
theorem cz_tonsAboard (R : cz_N s0 W h) (V : vz W) {s : Nat} {x : Int32} (hx : x = nI s) (hs : s < wz_n W 4) : F3_tonsAboard 223 x h = some (sp_tonsIn W s) := by
  have h6 := V.has hs
  unfold F3_tonsAboard F3_tonsAboard_0 F3_tonsAboard_4
  rw [nz_io223 R, gz_s]
  refine wh_up (sp_tons1 W s) (W 4 s 6).toNatClampNeg 0 _ (by omega) (fun i a hi => ?_) ?_
  · obtain ⟨t, ht, e⟩ := V.ship hs hi
    unfold F3_tonsAboard_4b sp_tons1
    dsimp only
    rw [nz_gr223_10 R, bz_s, cz_g4_6 R hx hs, bz_s, h6.1, iz_f (nI_ge hi (by omega)), iz_f (show ¬ ((8 : Int32) ≤ nI i) from nI_ge (a := i) (b := 8) (by omega) (by decide)), cz_cargoCr R hx hs rfl (by omega), bz_s, cz_cargoLot R hx hs rfl (by omega), bz_s, e, cz_tonsOf R V rfl ht, bz_s, nI_clamp (n := t) (by have := V.c (k := 2) (by omega); have e2 : wz_cap 2 = 100 := rfl; omega)]
  · unfold F3_tonsAboard_4b
    dsimp only
    rw [nz_gr223_10 R, bz_s, cz_g4_6 R hx hs, bz_s, iz_t (by rw [← h6.1]; exact Int32.le_refl _)]
    rfl
theorem rz_tonsIn (R : rz_N s0 th W h) (V : vz W) {s : Nat} {x : Int32} (hx : x = nI s) (hs : s < wz_n W 4) : F12_tonsIn 317 x h = some (sp_tonsIn W s) := by
  have h6 := V.has hs
  have h4 : wz_n W 4 ≤ 12 := V.c (k := 4) (by omega)
  have h2 : wz_n W 2 ≤ 100 := V.c (k := 2) (by omega)
  unfold F12_tonsIn F12_tonsIn_0 F12_tonsIn_4
  rw [rz_io R, gz_s]
  refine wh_up (sp_tons1 W s) (W 4 s 6).toNatClampNeg 0 _ (by omega) (fun i a hi => ?_) ?_
  · obtain ⟨t, ht, e⟩ := V.ship hs hi
    have hso := (V.lot ht).1
    obtain ⟨j, hj, e0⟩ := i_row (n := 7) rfl hso
    have e1 : (7 : Int32) + 2 * nI i = nI (7 + 2 * i) := by
      show nI 7 + nI 2 * nI i = _
      rw [nI_mul, nI_add]
    have e2 : (7 : Int32) + 2 * nI i + 1 = nI (8 + 2 * i) := by
      rw [e1, ← nI_succ]
      congr 1
      omega
    unfold F12_tonsIn_4b sp_tons1
    dsimp only
    rw [rz_i6 R hx (by omega), bz_s, h6.1, iz_f (nI_ge hi (by omega)), rz_its R hx (by omega) e2 (by omega), bz_s, rz_its R hx (by omega) e1 (by omega), bz_s, e, rz_o0 R rfl (by omega), bz_s, nI_clamp (n := t) (by omega), e0, rz_so0 R rfl (by omega), bz_s, nI_clamp (n := j) (by omega)]
  · unfold F12_tonsIn_4b
    dsimp only
    rw [rz_i6 R hx (by omega), bz_s, iz_t (by rw [← h6.1]; exact Int32.le_refl _)]
    rfl
theorem swi6 {b : Int32} : (∃ k, k ≤ 5 ∧ b = nI k ∧ m_swi 0 5 b = some k) ∨ ((b < 0 ∨ nI 5 < b) ∧ m_swi 0 5 b = none) := by
  by_cases q : b < 0 ∨ nI 5 < b
  · exact Or.inr ⟨q, m_swi_out q (by decide)⟩
  · obtain ⟨k, hk, e⟩ := i_row (x := b) (hi := 5) (n := 5) rfl ⟨Int32.not_lt.mp (fun a => q (Or.inl a)), Int32.not_lt.mp (fun a => q (Or.inr a))⟩
    exact Or.inl ⟨k, hk, e, m_swi_in (n := 5) hk (by decide) e⟩
theorem cz_led (R : cz_N s0 W h) (V : vz W) {a b : Int32} : k_ok (F11_led 200 a b h) (fz_I s0 W (sp_led W a b)) := by
  have h4 : wz_n W 4 ≤ 12 := V.c (k := 4) (by omega)
  unfold F11_led F11_led_0 sp_led
  refine k_g (nz_io200 R) ?_
  refine k_tp R (fun c1 => ?_) (fun c1 => k_s (by rw [if_neg c1]; exact ⟨_, rfl, R⟩))
  rw [if_pos c1]
  obtain ⟨r, hr, rfl⟩ := i_rowlt (by omega) c1
  rw [nI_clamp (by omega)]
  rcases swi6 (b := b) with ⟨k, hk, rfl, e⟩ | ⟨q, e⟩
  · rw [e]
    match k, hk with
    | 0, _ => exact k_t rfl (k_e (nz_gr200_4 R) (k_e (nz_gr223_10 R) (k_e (cz_g4_2 R rfl hr) (k_s ⟨_, h, rfl, rfl, R⟩))))
    | 1, _ => exact k_f (by decide) (k_t rfl (k_e (nz_gr200_4 R) (k_e (nz_gr223_10 R) (k_e (cz_g4_3 R rfl hr) (k_s ⟨_, h, rfl, rfl, R⟩)))))
    | 2, _ => exact k_f (by decide) (k_f (by decide) (k_t rfl (k_e (nz_gr200_4 R) (k_e (nz_gr223_10 R) (k_e (cz_g4_4 R rfl hr) (k_s ⟨_, h, rfl, rfl, R⟩))))))
    | 3, _ => exact k_f (by decide) (k_f (by decide) (k_f (by decide) (k_t rfl (k_e (nz_gr200_4 R) (k_e (cz_tonsAboard R V rfl hr) (k_s ⟨_, h, rfl, rfl, R⟩))))))
    | 4, _ => exact k_f (by decide) (k_f (by decide) (k_f (by decide) (k_f (by decide) (k_t rfl (k_e (nz_gr200_4 R) (k_e (nz_gr223_10 R) (k_e (cz_g4_5 R rfl hr) (k_s ⟨_, h, rfl, rfl, R⟩))))))))
    | 5, _ => exact k_f (by decide) (k_f (by decide) (k_f (by decide) (k_f (by decide) (k_f (by decide) (k_t rfl (k_e (nz_gr200_4 R) (k_e (nz_gr223_10 R) (k_e (cz_g4_6 R rfl hr) (k_s ⟨_, h, rfl, rfl, R⟩)))))))))
    | n + 6, hk => exact absurd hk (by omega)
  · rw [e]
    have hb : ∀ k, k ≤ 5 → ¬ b = nI k := by
      rintro k hk rfl
      rcases q with q | q
      · exact nI_pos (by omega) q
      · exact nI_nlt hk (by decide) q
    rw [if_neg (show ¬ b = 0 from hb 0 (by decide)), if_neg (show ¬ b = 1 from hb 1 (by decide)), if_neg (show ¬ b = 2 from hb 2 (by decide)), if_neg (show ¬ b = 3 from hb 3 (by decide)), if_neg (show ¬ b = 4 from hb 4 (by decide)), if_neg (show ¬ b = 5 from hb 5 (by decide))]
    exact k_s ⟨h, rfl, R⟩
theorem rz_led (R : rz_N s0 th W h) (V : vz W) {a b : Int32} : k_ok (F12_led 317 a b h) (hz_I s0 e04 W (sp_led W a b)) := by
  have h4 : wz_n W 4 ≤ 12 := V.c (k := 4) (by omega)
  unfold F12_led F12_led_0 sp_led
  refine k_g (rz_io R) ?_
  refine k_b (rz_th R) ?_
  intro h1 R1
  refine k_e (rz_noShip R1 V) (k_ww R1 _ rfl (fun c1 => ?_) (fun c1 h2 R2 => k_s (by rw [if_neg c1]; exact R2)))
  rw [if_pos c1]
  obtain ⟨r, hr, rfl⟩ := i_rowlt (by omega) c1
  rw [nI_clamp (by omega)]
  rcases swi6 (b := b) with ⟨k, hk, rfl, e⟩ | ⟨q, e⟩
  · rw [e]
    match k, hk with
    | 0, _ => exact k_t rfl (k_e (rz_i2 R1 rfl (by omega)) (k_s ⟨rfl, R1⟩))
    | 1, _ => exact k_f (by decide) (k_t rfl (k_e (rz_i3 R1 rfl (by omega)) (k_s ⟨rfl, R1⟩)))
    | 2, _ => exact k_f (by decide) (k_f (by decide) (k_t rfl (k_e (rz_i4 R1 rfl (by omega)) (k_s ⟨rfl, R1⟩))))
    | 3, _ => exact k_f (by decide) (k_f (by decide) (k_f (by decide) (k_t rfl (k_e (rz_tonsIn R1 V rfl hr) (k_s ⟨rfl, R1⟩)))))
    | 4, _ => exact k_f (by decide) (k_f (by decide) (k_f (by decide) (k_f (by decide) (k_t rfl (k_e (rz_i5 R1 rfl (by omega)) (k_s ⟨rfl, R1⟩))))))
    | 5, _ => exact k_f (by decide) (k_f (by decide) (k_f (by decide) (k_f (by decide) (k_f (by decide) (k_t rfl (k_e (rz_i6 R1 rfl (by omega)) (k_s ⟨rfl, R1⟩)))))))
    | n + 6, hk => exact absurd hk (by omega)
  · rw [e]
    have hb : ∀ k, k ≤ 5 → ¬ b = nI k := by
      rintro k hk rfl
      rcases q with q | q
      · exact nI_pos (by omega) q
      · exact nI_nlt hk (by decide) q
    rw [if_neg (show ¬ b = 0 from hb 0 (by decide)), if_neg (show ¬ b = 1 from hb 1 (by decide)), if_neg (show ¬ b = 2 from hb 2 (by decide)), if_neg (show ¬ b = 3 from hb 3 (by decide)), if_neg (show ¬ b = 4 from hb 4 (by decide)), if_neg (show ¬ b = 5 from hb 5 (by decide))]
    refine k_b (rz_th R1) ?_
    intro h2 R2
    exact k_s R2
theorem cz_check (R : cz_N s0 W h) (V : vz W) : F11_check 200 h = some (sp_chk W (sp_rws W)) := by
  have hn : wz_n W 8 ≤ 100 := V.c (k := 8) (by omega)
  have em : m_min 6 (nI (wz_n W 8)) = nI (sp_rws W) := nI_min (m := 6) (by omega) (by decide)
  have hs : sp_rws W ≤ wz_n W 8 := by unfold sp_rws; split <;> omega
  unfold F11_check F11_check_0
  rw [nz_io200 R, gz_s, nz_gr200_4 R, bz_s, nz_gr223_14 R, bz_s, cz_z8 R, bz_s, em]
  unfold F11_check_18
  have key : ∀ n N, n ≤ sp_rws W → n < N → m_wh (fun s => F11_check_18b 200 (nI (sp_rws W)) h s) N (nI (sp_rws W - n)) = some (sp_chk W n) := by
    intro n
    induction n with
    | zero =>
      intro N _ hN
      cases N with
      | zero => omega
      | succ N =>
        refine wh_r ?_
        unfold F11_check_18b
        rw [iz_t (nI_le (by omega) (by omega))]
        rfl
    | succ n ih =>
      intro N hle hN
      cases N with
      | zero => omega
      | succ N =>
        unfold sp_chk
        have e1 : nI (wz_n W 8) - nI (sp_rws W) + nI (sp_rws W - (n + 1)) = nI (wz_n W 8 - sp_rws W + (sp_rws W - (n + 1))) := by rw [nI_sub hs, nI_add]
        have hb : F11_check_18b 200 (nI (sp_rws W)) h (nI (sp_rws W - (n + 1))) = m_if (W 8 (wz_n W 8 - sp_rws W + (sp_rws W - (n + 1))) 3 = W 8 (wz_n W 8 - sp_rws W + (sp_rws W - (n + 1))) 4) (some (.inl (nI (sp_rws W - (n + 1)) + 1))) (some (.inr (nI (sp_rws W - (n + 1))))) := by
          unfold F11_check_18b
          rw [iz_f (nI_ge (by omega) (by omega)), nz_gr200_4 R, bz_s, nz_gr223_14 R, bz_s, cz_z8 R, bz_s, bz_s, nz_gr223_14 R, bz_s, cz_g8_2 R e1 (by omega), bz_s, bz_s, nz_gr223_14 R, bz_s, cz_g8_4 R e1 (by omega), bz_s]
        by_cases q : W 8 (wz_n W 8 - sp_rws W + (sp_rws W - (n + 1))) 3 = W 8 (wz_n W 8 - sp_rws W + (sp_rws W - (n + 1))) 4
        · rw [iz_t q] at hb
          rw [if_pos q]
          rw [← nI_succ, show sp_rws W - (n + 1) + 1 = sp_rws W - n by omega] at hb
          exact wh_l hb (ih N (by omega) (by omega))
        · rw [iz_f q] at hb
          rw [if_neg q]
          exact wh_r hb
  have := key (sp_rws W) m_N (Nat.le_refl _) (N_lt (by omega))
  rwa [Nat.sub_self] at this
theorem rz_check (R : rz_N s0 th W h) (V : vz W) : k_ok (F12_check 317 h) (fun z => ∃ h1, z = (sp_chk W (sp_rws W), h1) ∧ rz_N s0 0 W h1) := by
  have hc := V.cap (k := 8) (by omega)
  have hn : wz_n W 8 ≤ 100 := hc.2
  have em : m_min 6 (nI (wz_n W 8)) = nI (sp_rws W) := nI_min (m := 6) (by omega) (by decide)
  have hs : sp_rws W ≤ wz_n W 8 := by unfold sp_rws; split <;> omega
  unfold F12_check F12_check_0
  refine k_g (rz_io R) ?_
  refine k_b (rz_th R) ?_
  intro h1 R1
  unfold F12_check_7
  refine ⟨_, ?_, h1, rfl, R1⟩
  have key : ∀ n N, n ≤ sp_rws W → n < N → m_wh (fun s => F12_check_7b 317 h1 s) N (nI (sp_rws W - n)) = some (sp_chk W n, h1) := by
    intro n
    induction n with
    | zero =>
      intro N _ hN
      cases N with
      | zero => omega
      | succ N =>
        refine wh_r ?_
        unfold F12_check_7b
        rw [rz_gr1 R1, bz_s, rz_c8 R1, bz_s, show W 28 0 0 = _ from hc.1, em, iz_t (nI_le (by omega) (by omega))]
        rfl
    | succ n ih =>
      intro N hle hN
      cases N with
      | zero => omega
      | succ N =>
        have ha := rz_rowAt R1 V (r := sp_rws W - (n + 1)) (by omega)
        unfold sp_chk
        have hb : F12_check_7b 317 h1 (nI (sp_rws W - (n + 1))) = m_if (W 8 (wz_n W 8 - sp_rws W + (sp_rws W - (n + 1))) 3 = W 8 (wz_n W 8 - sp_rws W + (sp_rws W - (n + 1))) 4) (some (.inl (nI (sp_rws W - (n + 1)) + 1))) (some (.inr (nI (sp_rws W - (n + 1)), h1))) := by
          have g3 : m_ai h1 0 318 (nI (wz_ix 8 (wz_n W 8 - sp_rws W + (sp_rws W - (n + 1))) 0) + 3) = _ := rz_get R1 (ha.2.1 3) (ha.2.2 3 (by decide))
          have g4 : m_ai h1 0 318 (nI (wz_ix 8 (wz_n W 8 - sp_rws W + (sp_rws W - (n + 1))) 0) + 4) = _ := rz_get R1 (ha.2.1 4) (ha.2.2 4 (by decide))
          unfold F12_check_7b
          rw [rz_gr1 R1, bz_s, rz_c8 R1, bz_s, show W 28 0 0 = _ from hc.1, em, iz_f (nI_ge (by omega) (by omega)), bz_s, ha.1, bz_s, g3, bz_s, bz_s, bz_s, g4, bz_s]
        by_cases q : W 8 (wz_n W 8 - sp_rws W + (sp_rws W - (n + 1))) 3 = W 8 (wz_n W 8 - sp_rws W + (sp_rws W - (n + 1))) 4
        · rw [iz_t q] at hb
          rw [if_pos q]
          rw [← nI_succ, show sp_rws W - (n + 1) + 1 = sp_rws W - n by omega] at hb
          exact wh_l hb (ih N (by omega) (by omega))
        · rw [iz_f q] at hb
          rw [if_neg q]
          exact wh_r hb
  have := key (sp_rws W) m_N (Nat.le_refl _) (N_lt (by omega))
  rwa [Nat.sub_self] at this
theorem cz_over (R : cz_N s0 W h) (V : vz W) : k_ok (F11_over 200 h) (fun z => ∃ h1, z = ((sp_over W).1, h1) ∧ cz_N s0 (sp_over W).2 h1) := by
  have hn : wz_n W 2 ≤ 100 := V.c (k := 2) (by omega)
  unfold F11_over F11_over_0 sp_over
  refine k_g (nz_io200 R) (k_e (nz_gr200_4 R) (k_e (cz_i3 R) ?_))
  refine k_if (fun c => ?_) (fun c => k_s (by rw [if_neg c]; exact ⟨h, rfl, R⟩))
  rw [if_pos c]
  refine k_e (nz_gr200_4 R) (k_b (P := fun z => ∃ h1, z = ((sp_it sp_left (wz_n W 2) (0, W)).1, h1) ∧ cz_N s0 (wz_up (sp_it sp_left (wz_n W 2) (0, W)).2 14 0 3 1) h1) ?_ (by rintro _ ⟨h1, rfl, R1⟩; exact k_s ⟨h1, rfl, R1⟩))
  unfold F3_close F3_close_0 F3_close_4
  refine k_g (nz_io223 R) ?_
  have hnn : ∀ i, wz_n (sp_it sp_left i (0, W)).2 2 = wz_n W 2 := fun i => congrArg Int32.toNatClampNeg (sp_left_k (by decide) i)
  refine wh_i (n := wz_n W 2) (fun (i : Nat) (st : Int32 × Int32 × m_H) => st.1 = (sp_it sp_left i (0, W)).1 ∧ st.2.1 = nI i ∧ cz_N s0 (sp_it sp_left i (0, W)).2 st.2.2) _ ?_ ?_ m_N 0 _ (N_lt (by omega)) (Nat.zero_le _) ⟨rfl, rfl, R⟩
  · rintro i ⟨a, x, h1⟩ hi ⟨rfl, rfl, R1⟩
    dsimp only at R1
    unfold F3_close_4b
    dsimp only
    refine k_e (nz_gr223_8 R1) (k_e (cz_z2 R1) ?_)
    rw [hnn]
    refine k_f (nI_ge hi (by omega)) (k_e (cz_crates R1 (q := 3) rfl (by rw [hnn]; exact hi) rfl (by decide)) ?_)
    refine k_b (cz_move R1 (a := 3) (b := 8) rfl (by rw [hnn]; exact hi) rfl (by decide) rfl (by decide)) ?_
    intro h2 R2
    exact k_s ⟨rfl, (nI_succ i).symm, R2⟩
  · rintro ⟨a, x, h1⟩ ⟨rfl, rfl, R1⟩
    dsimp only at R1
    unfold F3_close_4b
    dsimp only
    refine k_e (nz_gr223_8 R1) (k_e (cz_z2 R1) ?_)
    rw [hnn]
    refine k_t (nI_le (Nat.le_refl _) (by omega)) ?_
    refine k_b (cz_p3 R1 (Or.inr rfl)) ?_
    intro h2 R2
    exact k_s ⟨h2, rfl, R2⟩
theorem rz_over (R : rz_N s0 th W h) (V : vz W) : k_ok (F12_over 317 h) (fun z => ∃ h1, z = ((sp_over W).1, h1) ∧ rz_N s0 0 (sp_over W).2 h1) := by
  have hc := V.cap (k := 2) (by omega)
  have hn : wz_n W 2 ≤ 100 := hc.2
  unfold F12_over F12_over_0 sp_over
  refine k_g (rz_io R) ?_
  refine k_b (rz_th R) ?_
  intro h1 R1
  refine k_e (k_ov R1) ?_
  rcases V.en with c | c
  · rw [if_neg (by rw [c]; decide), if_pos c]
    refine k_t rfl (k_e (rz_gr1 R1) ?_)
    refine k_b (rz_ws3 R1) ?_
    intro h2 R2
    unfold F12_over_25
    have hnn : ∀ i, (wz_up (sp_it sp_left i (0, W)).2 14 0 3 1) 22 0 0 = nI (wz_n W 2) := fun i => ((wz_up_k (by decide)).trans (sp_left_k (by decide) i)).trans hc.1
    refine wh_i (n := wz_n W 2) (fun (i : Nat) (st : Int32 × Int32 × m_H) => st.1 = (sp_it sp_left i (0, W)).1 ∧ st.2.1 = nI i ∧ rz_N s0 0 (wz_up (sp_it sp_left i (0, W)).2 14 0 3 1) st.2.2) _ ?_ ?_ m_N 0 _ (N_lt (by omega)) (Nat.zero_le _) ⟨rfl, rfl, R2⟩
    · rintro i ⟨a, x, h3⟩ hi ⟨rfl, rfl, R3⟩
      dsimp only at R3
      unfold F12_over_25b
      dsimp only
      refine k_e (rz_gr1 R3) (k_e (rz_c2 R3) ?_)
      rw [hnn]
      refine k_f (nI_ge hi (by omega)) (k_e (rz_o13 R3 rfl (by omega)) (k_e (rz_o13 R3 rfl (by omega)) ?_))
      rw [wz_up_k (show ¬ 2 = 14 by decide)]
      refine k_b (rz_moves R3 (a := 3) (b := 8) rfl (by omega) rfl (by decide) rfl (by decide)) ?_
      intro h4 R4
      rw [sp_mv_cm (show ¬ 14 = 2 by decide)] at R4
      exact k_s ⟨rfl, (nI_succ i).symm, R4⟩
    · rintro ⟨a, x, h3⟩ ⟨rfl, rfl, R3⟩
      dsimp only at R3
      unfold F12_over_25b
      dsimp only
      refine k_e (rz_gr1 R3) (k_e (rz_c2 R3) ?_)
      rw [hnn]
      exact k_t (nI_le (Nat.le_refl _) (by omega)) (k_s ⟨h3, rfl, R3⟩)
  · rw [if_pos c, if_neg (by rw [c]; decide)]
    exact k_f (by decide) (k_s ⟨h1, rfl, R1⟩)
end
