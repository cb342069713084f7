/-! ===== load, give ===== -/
def sp_fm (W : m_W) (s : Nat) : Nat := if W 4 s 2 = 0 then 1 else 3
abbrev sp_fits (W : m_W) (s t : Nat) : Prop := (W 4 s 2 = 0 ∧ (¬ W 2 t 2 = 0 ∧ W 2 t 3 = 0) ∧ (W 4 s 6 = 0 ∨ W 2 (W 4 s 7).toNatClampNeg 2 = W 2 t 2)) ∨ (¬ W 4 s 2 = 0 ∧ W 4 s 2 = 2 ∧ W 2 t 3 = 1 ∧ W 4 s 3 = W 2 t 2)
/-- where in ship s lot t is, or would be -/
def sp_sl (W : m_W) (s : Nat) (x : Int32) : Nat → Nat
  | 0 => (W 4 s 6).toNatClampNeg
  | n + 1 => if W 4 s (7 + 2 * ((W 4 s 6).toNatClampNeg - (n + 1))) = x then (W 4 s 6).toNatClampNeg - (n + 1) else sp_sl W s x n
def sp_slot (W : m_W) (s t : Nat) : Nat := sp_sl W s (nI t) (W 4 s 6).toNatClampNeg
theorem sp_sl_le {W : m_W} {s : Nat} {x : Int32} : ∀ n, sp_sl W s x n ≤ (W 4 s 6).toNatClampNeg
  | 0 => Nat.le_refl _
  | n + 1 => by
    unfold sp_sl
    split
    · omega
    · exact sp_sl_le n
abbrev sp_mayLoad (W : m_W) (s t : Nat) (c : Int32) : Prop := sp_fits W s t ∧ 1 ≤ c ∧ c ≤ W 2 t (10 + sp_fm W s) ∧ sp_slot W s t < 8 ∧ sp_tonsIn W s + c * W 0 (W 2 t 0).toNatClampNeg 0 ≤ W 4 s 0
def sp_put1 (W : m_W) (s t : Nat) (c : Int32) (j : Nat) : m_W := if W 4 s 6 = nI j then wz_up (wz_up (wz_up (sp_mv W t (sp_fm W s) 2 c) 4 s 6 (W 4 s 6 + 1)) 4 s (7 + 2 * j) (nI t)) 4 s (8 + 2 * j) 0 else sp_mv W t (sp_fm W s) 2 c
def sp_put (W : m_W) (s t : Nat) (c : Int32) : m_W := wz_up (sp_put1 W s t c (sp_slot W s t)) 4 s (8 + 2 * sp_slot W s t) (sp_put1 W s t c (sp_slot W s t) 4 s (8 + 2 * sp_slot W s t) + c)
def sp_load (W : m_W) (a b c : Int32) : (Int32 × Option m_W) ⊕ Nat :=
  if 0 ≤ a ∧ a < nI (wz_n W 4) then if 0 ≤ b ∧ b < nI (wz_n W 2) then if W 14 0 3 = 0 then if sp_mayLoad W a.toNatClampNeg b.toNatClampNeg c then .inl (1, some (sp_put W a.toNatClampNeg b.toNatClampNeg c)) else .inl (0, none) else .inr 3 else .inr 0 else .inr 0
section
variable {s0 : tz_S} {th : Int32} {W : m_W} {h : m_H}
theorem cz_slot (R : cz_N s0 W h) {s t : Nat} {x y : Int32} (hx : x = nI s) (hs : s < wz_n W 4) (hy : y = nI t) (h6 : W 4 s 6 = nI (W 4 s 6).toNatClampNeg) (h8 : (W 4 s 6).toNatClampNeg ≤ 8) : F3_slotFor 223 x y h = some (nI (sp_slot W s t)) := by
  subst hy
  unfold F3_slotFor F3_slotFor_0 F3_slotFor_19
  rw [nz_io223 R, gz_s, nz_gr223_10 R, bz_s, cz_g4_6 R hx hs, bz_s]
  unfold sp_slot
  obtain ⟨k, hk⟩ : ∃ k, (W 4 s 6).toNatClampNeg = k := ⟨_, rfl⟩
  rw [show m_min 8 (W 4 s 6) = nI k from by rw [h6, hk, show (8 : Int32) = nI 8 from rfl, nI_min (by omega) (by decide)]; congr 1; split <;> omega, hk]
  rw [hk] at h8
  have key : ∀ j N, j ≤ k → j < N → m_wh (fun z => F3_slotFor_19b 223 x (nI t) (nI k) h z) N (nI (k - j)) = some (nI (sp_sl W s (nI t) j)) := by
    intro j
    induction j with
    | zero =>
      intro N _ hN
      cases N with
      | zero => omega
      | succ N =>
        refine wh_r ?_
        unfold F3_slotFor_19b sp_sl
        rw [iz_t (nI_le (by omega) (by omega)), hk]
    | succ j ih =>
      intro N hj hN
      cases N with
      | zero => omega
      | succ N =>
        have hb : F3_slotFor_19b 223 x (nI t) (nI k) h (nI (k - (j + 1))) = m_if (W 4 s (7 + 2 * (k - (j + 1))) = nI t) (some (.inr (nI (k - (j + 1))))) (some (.inl (nI (k - (j + 1)) + 1))) := by
          unfold F3_slotFor_19b
          rw [iz_f (nI_ge (by omega) (by omega)), cz_cargoLot R hx hs rfl (by omega), bz_s]
        unfold sp_sl
        rw [hk]
        by_cases q : W 4 s (7 + 2 * (k - (j + 1))) = nI t
        · rw [iz_t q] at hb
          rw [if_pos q]
          exact wh_r hb
        · rw [iz_f q, ← nI_succ, show k - (j + 1) + 1 = k - j by omega] at hb
          rw [if_neg q]
          exact wh_l hb (ih N (by omega) (by omega))
  have := key k m_N (Nat.le_refl k) (N_lt (by omega))
  rw [Nat.sub_self] at this
  exact this
theorem rz_slot (R : rz_N s0 th W h) {s t : Nat} {x y : Int32} (hx : x = nI s) (hs : s < 12) (hy : y = nI t) (h6 : W 4 s 6 = nI (W 4 s 6).toNatClampNeg) (h8 : (W 4 s 6).toNatClampNeg ≤ 8) : F12_cargoOf 317 x y h = some (nI (sp_slot W s t)) := by
  subst hy
  unfold F12_cargoOf F12_cargoOf_0 F12_cargoOf_2
  rw [rz_io R, gz_s]
  unfold sp_slot
  obtain ⟨k, hk⟩ : ∃ k, (W 4 s 6).toNatClampNeg = k := ⟨_, rfl⟩
  rw [hk]
  rw [hk] at h6 h8
  have key : ∀ j N, j ≤ k → j < N → m_wh (fun z => F12_cargoOf_2b 317 x (nI t) h z) N (nI (k - j)) = some (nI (sp_sl W s (nI t) j)) := by
    intro j
    induction j with
    | zero =>
      intro N _ hN
      cases N with
      | zero => omega
      | succ N =>
        refine wh_r ?_
        unfold F12_cargoOf_2b sp_sl
        rw [rz_its R hx hs (y := 6) (c := 6) rfl (by decide), bz_s, h6, iz_t (nI_le (by omega) (by omega)), nI_clamp (by omega)]
        rfl
    | succ j ih =>
      intro N hj hN
      cases N with
      | zero => omega
      | succ N =>
        have hb : F12_cargoOf_2b 317 x (nI t) h (nI (k - (j + 1))) = m_if (W 4 s (7 + 2 * (k - (j + 1))) = nI t) (some (.inr (nI (k - (j + 1))))) (some (.inl (nI (k - (j + 1)) + 1))) := by
          unfold F12_cargoOf_2b
          rw [rz_its R hx hs (y := 6) (c := 6) rfl (by decide), bz_s, h6, iz_f (nI_ge (by omega) (by omega)), rz_its R hx hs (c := 7 + 2 * (k - (j + 1))) (show (7 : Int32) + 2 * nI (k - (j + 1)) = _ from by rw [show (2 : Int32) = nI 2 from rfl, nI_mul]; exact nI_add 7 _) (by omega), bz_s]
        unfold sp_sl
        rw [show (W 4 s 6).toNatClampNeg = k from by rw [h6, nI_clamp (by omega)]]
        by_cases q : W 4 s (7 + 2 * (k - (j + 1))) = nI t
        · rw [iz_t q] at hb
          rw [if_pos q]
          exact wh_r hb
        · rw [iz_f q, ← nI_succ, show k - (j + 1) + 1 = k - j by omega] at hb
          rw [if_neg q]
          exact wh_l hb (ih N (by omega) (by omega))
  have := key k m_N (Nat.le_refl k) (N_lt (by omega))
  rw [Nat.sub_self] at this
  exact this
theorem cz_fits (R : cz_N s0 W h) (V : vz W) {s t : Nat} (hs : s < wz_n W 4) (ht : t < wz_n W 2) : F3_fits 223 (nI s) (nI t) h = some (if sp_fits W s t then 1 else 0) := by
  unfold F3_fits F3_fits_0
  rw [nz_io223 R, gz_s, nz_gr223_10 R, bz_s, cz_g4_2 R rfl hs, bz_s, nz_gr223_8 R, bz_s, cz_g2_2 R rfl ht, bz_s]
  by_cases c2 : W 4 s 2 = 0
  · rw [iz_t c2, cz_isLent R rfl ht, bz_s]
    by_cases cl : ¬ W 2 t 2 = 0 ∧ W 2 t 3 = 0
    · rw [if_pos cl, iz_f (by decide), bz_s, cz_g4_6 R rfl hs, bz_s]
      by_cases c6 : W 4 s 6 = 0
      · rw [iz_t c6, if_pos (Or.inl ⟨c2, cl, Or.inl c6⟩)]
      · rw [iz_f c6, cz_landOf R V rfl hs c6, bz_s]
        by_cases c7 : W 2 (W 4 s 7).toNatClampNeg 2 = W 2 t 2
        · rw [iz_t c7, if_pos (Or.inl ⟨c2, cl, Or.inr c7⟩)]
        · rw [iz_f c7, if_neg (fun q => q.elim (fun q => q.2.2.elim c6 c7) (fun q => q.1 c2))]
    · rw [if_neg cl, iz_t rfl, if_neg (fun q => q.elim (fun q => cl q.2.1) (fun q => q.1 c2))]
  · rw [iz_f c2]
    by_cases c3 : W 4 s 2 = 2
    · rw [iz_t c3, cz_isBack R rfl ht, bz_s]
      by_cases cb : W 2 t 3 = 1
      · rw [if_pos cb, iz_f (by decide), bz_s, cz_g4_3 R rfl hs, bz_s]
        by_cases c4 : W 4 s 3 = W 2 t 2
        · rw [iz_t c4, if_pos (Or.inr ⟨c2, c3, cb, c4⟩)]
        · rw [iz_f c4, if_neg (fun q => q.elim (fun q => c2 q.1) (fun q => c4 q.2.2.2))]
      · rw [if_neg cb, iz_t rfl, if_neg (fun q => q.elim (fun q => c2 q.1) (fun q => cb q.2.2.1))]
    · rw [iz_f c3, if_neg (fun q => q.elim (fun q => c2 q.1) (fun q => c3 q.2.1))]
theorem cz_may17 (R : cz_N s0 W h) (V : vz W) {s t p : Nat} {q c : Int32} (hs : s < wz_n W 4) (ht : t < wz_n W 2) (hp : p = sp_fm W s) (hq : q = nI p) (hp9 : p < 9) : F3_mayLoad_17 223 (nI s) (nI t) c q h = some (if sp_mayLoad W s t c then 1 else 0) := by
  subst hp
  obtain ⟨e6, h6⟩ := V.has hs
  have hl : sp_slot W s t ≤ _ := @sp_sl_le W s (nI t) (W 4 s 6).toNatClampNeg
  unfold F3_mayLoad_17
  rw [cz_fits R V hs ht, bz_s]
  by_cases c1 : sp_fits W s t
  · rw [if_pos c1, iz_f (by decide)]
    by_cases c2 : c < 1
    · rw [iz_t c2, if_neg (fun x => Int32.not_le.mpr c2 x.2.1)]
    · rw [iz_f c2, cz_crates R rfl ht hq hp9, bz_s]
      by_cases c3 : W 2 t (10 + sp_fm W s) < c
      · rw [iz_t c3, if_neg (fun x => Int32.not_le.mpr c3 x.2.2.1)]
      · rw [iz_f c3, cz_slot R rfl hs rfl e6 h6, bz_s]
        by_cases c4 : sp_slot W s t < 8
        · rw [iz_t (show nI (sp_slot W s t) < 8 from nI_lt c4 (by decide)), cz_tonsAboard R V rfl hs, bz_s, cz_tonsOf R V rfl ht, bz_s, nz_gr223_10 R, bz_s, cz_g4_0 R rfl hs, bz_s]
          by_cases c5 : W 4 s 0 < sp_tonsIn W s + c * W 0 (W 2 t 0).toNatClampNeg 0
          · rw [iz_t c5, if_neg (fun x => Int32.not_le.mpr c5 x.2.2.2.2)]
          · rw [iz_f c5, if_pos ⟨c1, Int32.not_lt.mp c2, Int32.not_lt.mp c3, c4, Int32.not_lt.mp c5⟩]
        · rw [iz_f (show ¬ nI (sp_slot W s t) < 8 from nI_nlt (show 8 ≤ sp_slot W s t by omega) (by omega)), if_neg (fun x => c4 x.2.2.2.1)]
  · rw [if_neg c1, iz_t rfl, if_neg (fun x => c1 x.1)]
theorem cz_mayLoad (R : cz_N s0 W h) (V : vz W) {s t : Nat} {c : Int32} (hs : s < wz_n W 4) (ht : t < wz_n W 2) : F3_mayLoad 223 (nI s) (nI t) c h = some (if sp_mayLoad W s t c then 1 else 0) := by
  unfold F3_mayLoad F3_mayLoad_0
  rw [nz_io223 R, gz_s, nz_gr223_10 R, bz_s, cz_g4_2 R rfl hs, bz_s]
  by_cases c2 : W 4 s 2 = 0
  · rw [iz_t c2, cz_may17 R V (p := 1) (q := 1) hs ht (by unfold sp_fm; rw [if_pos c2]) rfl (by decide)]
  · rw [iz_f c2, cz_may17 R V (p := 3) (q := 3) hs ht (by unfold sp_fm; rw [if_neg c2]) rfl (by decide)]
theorem sp_sl_cong {W W' : m_W} {s : Nat} {x : Int32} (e : ∀ c, W' 4 s c = W 4 s c) : ∀ n, sp_sl W' s x n = sp_sl W s x n
  | 0 => by unfold sp_sl; rw [e]
  | n + 1 => by unfold sp_sl; rw [e, e, sp_sl_cong e n]
theorem sp_slot_cong {W W' : m_W} {s t : Nat} (e : ∀ c, W' 4 s c = W 4 s c) : sp_slot W' s t = sp_slot W s t := by
  unfold sp_slot
  rw [sp_sl_cong e, e]
theorem cz_put92 (R : cz_N s0 W h) {s j : Nat} {c : Int32} (hs : s < wz_n W 4) (hj : j < 8) : k_ok (F3_putAboard_92 223 (nI s) c (nI j) h) (cz_N s0 (wz_up W 4 s (8 + 2 * j) (W 4 s (8 + 2 * j) + c))) := by
  have e : ((7 : Int32) + 2 * nI j) + 1 = nI (8 + 2 * j) := by
    rw [show (2 : Int32) * nI j = nI (2 * j) from nI_mul 2 j, show (7 : Int32) + nI (2 * j) = nI (7 + 2 * j) from nI_add 7 _, show nI (7 + 2 * j) + 1 = nI (7 + 2 * j + 1) from nI_add _ 1]
    congr 1
    omega
  unfold F3_putAboard_92
  refine k_e (nz_gr223_10 R) (k_b (cz_raise R (k := 4) (c := 8 + 2 * j) (by decide) rfl rfl hs e (show 8 + 2 * j < 23 by omega)) ?_)
  intro h1 R1
  exact k_s R1
theorem cz_put20 (R : cz_N s0 W h) (V : vz W) {s t p : Nat} {q c : Int32} (hs : s < wz_n W 4) (ht : t < wz_n W 2) (hp : p = sp_fm W s) (hq : q = nI p) (hp9 : p < 9) (h8 : sp_slot W s t < 8) : k_ok (F3_putAboard_20 223 (nI s) (nI t) c q c (nI t) 223 h) (cz_N s0 (sp_put W s t c)) := by
  subst hp
  obtain ⟨e6, h6⟩ := V.has hs
  have m4 : ∀ c', sp_mv W t (sp_fm W s) 2 c 4 s c' = W 4 s c' := fun c' => sp_mv_k (by decide)
  unfold F3_putAboard_20 sp_put sp_put1
  refine k_b (cz_move R rfl ht hq hp9 rfl (by decide)) ?_
  intro h1 R1
  have hs1 : s < wz_n (sp_mv W t (sp_fm W s) 2 c) 4 := hs
  refine k_e (cz_slot R1 rfl hs1 (t := t) rfl (by rw [m4]; exact e6) (by rw [m4]; exact h6)) ?_
  rw [sp_slot_cong m4]
  obtain ⟨j, hj⟩ : ∃ j, sp_slot W s t = j := ⟨_, rfl⟩
  rw [hj] at h8 ⊢
  refine k_e (nz_gr223_10 R1) (k_e (cz_g4_6 R1 rfl hs1) ?_)
  rw [m4]
  have e7 : (7 : Int32) + 2 * nI j = nI (7 + 2 * j) := by
    rw [show (2 : Int32) * nI j = nI (2 * j) from nI_mul 2 j, show (7 : Int32) + nI (2 * j) = nI (7 + 2 * j) from nI_add 7 _]
  have e8 : ((7 : Int32) + 2 * nI j) + 1 = nI (8 + 2 * j) := by
    rw [e7, show nI (7 + 2 * j) + 1 = nI (7 + 2 * j + 1) from nI_add _ 1]
    congr 1
    omega
  refine k_if (fun q => ?_) (fun q => ?_)
  · rw [if_pos q.symm]
    refine k_e (nz_gr223_10 R1) (k_b (cz_raise R1 (k := 4) (c := 6) (by decide) rfl rfl hs1 rfl (by decide)) ?_)
    intro h2 R2
    rw [show wz_pi 4 6 = 6 from rfl, m4] at R2
    refine k_e (nz_gr223_10 R2) (k_b (cz_set R2 (k := 4) (c := 7 + 2 * j) (by decide) rfl rfl hs1 e7 (show 7 + 2 * j < 23 by omega)) ?_)
    intro h3 R3
    refine k_e (nz_gr223_10 R3) (k_b (cz_set R3 (k := 4) (c := 8 + 2 * j) (by decide) rfl rfl hs1 e8 (show 8 + 2 * j < 23 by omega)) ?_)
    intro h4 R4
    exact cz_put92 R4 hs1 h8
  · rw [if_neg (fun x => q x.symm)]
    exact cz_put92 R1 hs1 h8
theorem cz_load (R : cz_N s0 W h) (V : vz W) {a b c : Int32} : k_ok (F11_load 200 a b c h) (fz_D s0 W (sp_load W a b c)) := by
  have hn : wz_n W 4 ≤ 12 := V.c (k := 4) (by omega)
  have hn2 : wz_n W 2 ≤ 100 := V.c (k := 2) (by omega)
  unfold F11_load F11_load_0 sp_load
  refine k_g (nz_io200 R) ?_
  refine k_tp R (fun c1 => ?_) (fun c1 => k_s (by rw [if_neg c1]; exact ⟨_, rfl, R⟩))
  refine k_tt R (fun c2 => ?_) (fun c2 => k_s (by rw [if_pos c1, if_neg c2]; exact ⟨_, rfl, R⟩))
  refine k_te R (fun c3 => ?_) (fun c3 => k_s (by rw [if_pos c1, if_pos c2, if_neg c3]; exact ⟨_, rfl, R⟩))
  rw [if_pos c1, if_pos c2, if_pos c3]
  obtain ⟨s, hs, rfl⟩ := i_rowlt (by omega) c1
  obtain ⟨t, ht, rfl⟩ := i_rowlt (by omega) c2
  rw [nI_clamp (n := s) (by omega), nI_clamp (n := t) (by omega)]
  refine k_e (nz_gr200_4 R) (k_e (cz_mayLoad R V hs ht) ?_)
  by_cases c4 : sp_mayLoad W s t c
  · rw [if_pos c4, if_pos c4]
    refine k_f (by decide) (k_b (cz_rem R V) ?_)
    rintro h1 ⟨s1, B, R1⟩
    refine k_e (nz_gr200_4 R1) ?_
    refine k_b (P := cz_N s1 (sp_put W s t c)) ?_ ?_
    · unfold F3_putAboard F3_putAboard_0
      refine k_g (nz_io223 R1) (k_e (nz_gr223_10 R1) (k_e (cz_g4_2 R1 rfl hs) (k_if (fun q => ?_) (fun q => ?_))))
      · exact cz_put20 R1 V (p := 1) (q := 1) hs ht (by unfold sp_fm; rw [if_pos q]) rfl (by decide) c4.2.2.2.1
      · exact cz_put20 R1 V (p := 3) (q := 3) hs ht (by unfold sp_fm; rw [if_neg q]) rfl (by decide) c4.2.2.2.1
    · intro h2 R2
      exact k_s ⟨h2, rfl, B.E R2⟩
  · rw [if_neg c4, if_neg c4]
    exact k_t rfl (k_s ⟨h, rfl, R.C⟩)
/-! the reference -/
theorem rz_put300 (R : rz_N s0 th W h) {s t p j : Nat} {c : Int32} (hs : s < 12) (ht : t < 100) (hp : p < 9) (hj : j < 8) : k_ok (F12_load_300 317 (nI s) (nI t) c (nI p) (nI j) h) (fun z => z.1 = 1 ∧ rz_N s0 th (sp_mv (wz_up W 4 s (8 + 2 * j) (W 4 s (8 + 2 * j) + c)) t p 2 c) z.2) := by
  have e : ((7 : Int32) + 2 * nI j) + 1 = nI (8 + 2 * j) := by
    rw [show (2 : Int32) * nI j = nI (2 * j) from nI_mul 2 j, show (7 : Int32) + nI (2 * j) = nI (7 + 2 * j) from nI_add 7 _, show nI (7 + 2 * j) + 1 = nI (7 + 2 * j + 1) from nI_add _ 1]
    congr 1
    omega
  unfold F12_load_300
  refine k_e (rz_its R rfl hs e (by omega)) (k_b (rz_puts R rfl hs e (by omega)) ?_)
  intro h1 R1
  refine k_b (rz_moves R1 rfl ht rfl hp rfl (by decide)) ?_
  intro h2 R2
  exact k_s ⟨rfl, R2⟩
theorem rz_load200 (R : rz_N s0 0 W h) (V : vz W) {s t p : Nat} {c : Int32} (hs : s < wz_n W 4) (ht : t < wz_n W 2) (hp : p = sp_fm W s) (hp9 : p < 9) (f1 : sp_fits W s t) (f2 : 1 ≤ c) (f3 : c ≤ W 2 t (10 + p)) : k_ok (F12_load_200 317 (nI s) (nI t) c (nI p) h) (hz_D s0 e03 W (if sp_mayLoad W s t c then .inl (1, some (sp_put W s t c)) else .inl (0, none))) := by
  subst hp
  have hn : wz_n W 4 ≤ 12 := V.c (k := 4) (by omega)
  have hn2 : wz_n W 2 ≤ 100 := V.c (k := 2) (by omega)
  obtain ⟨e6, h6⟩ := V.has hs
  have hl : sp_slot W s t ≤ _ := @sp_sl_le W s (nI t) (W 4 s 6).toNatClampNeg
  have h0 := (V.row (k := 2) (by omega) ht).1
  obtain ⟨i, hi, ei⟩ := i_row (x := W 2 t 0) (n := 7) rfl h0
  unfold F12_load_200
  refine k_e (rz_slot R rfl (by omega) rfl e6 h6) ?_
  refine k_if (fun q => ?_) (fun q => ?_)
  · have : sp_slot W s t = 8 := nI_e (by omega) (by decide) q
    rw [if_neg (fun x => by have := x.2.2.2.1; omega)]
    exact k_s ⟨rfl, R.C⟩
  have h8 : sp_slot W s t < 8 := by
    have : ¬ sp_slot W s t = 8 := fun x => q (by rw [x]; rfl)
    omega
  refine k_e (rz_tonsIn R V rfl hs) (k_e (rz_o0 R rfl (by omega)) ?_)
  refine k_e (rz_sortOf R ei (by omega) (y := 0) (c := 0) rfl (by decide)) (k_e (rz_its R rfl (by omega) (y := 0) (c := 0) rfl (by decide)) ?_)
  refine k_if (fun q5 => ?_) (fun q5 => ?_)
  · rw [if_pos ⟨f1, f2, f3, h8, by rw [ei, nI_clamp (by omega)]; exact q5⟩]
    refine k_b (rz_deed R) ?_
    rintro h1 ⟨s1, B, R1⟩
    obtain ⟨j, hj⟩ : ∃ j, sp_slot W s t = j := ⟨_, rfl⟩
    unfold sp_put sp_put1
    rw [hj] at h8 ⊢
    have e7 : (7 : Int32) + 2 * nI j = nI (7 + 2 * j) := by
      rw [show (2 : Int32) * nI j = nI (2 * j) from nI_mul 2 j, show (7 : Int32) + nI (2 * j) = nI (7 + 2 * j) from nI_add 7 _]
    have e8 : ((7 : Int32) + 2 * nI j) + 1 = nI (8 + 2 * j) := by
      rw [e7, show nI (7 + 2 * j) + 1 = nI (7 + 2 * j + 1) from nI_add _ 1]
      congr 1
      omega
    refine k_e (rz_its R1 rfl (by omega) (y := 6) (c := 6) rfl (by decide)) (k_if (fun q6 => ?_) (fun q6 => ?_))
    · rw [if_pos q6.symm]
      refine k_b (rz_puts R1 rfl (by omega) e7 (by omega)) ?_
      intro h2 R2
      refine k_b (rz_puts R2 rfl (by omega) e8 (by omega)) ?_
      intro h3 R3
      refine k_b (rz_puts R3 rfl (by omega) (y := 6) (c := 6) rfl (by decide)) ?_
      intro h4 R4
      refine k_m (rz_put300 R4 (by omega) (by omega) hp9 h8) ?_
      rintro ⟨x, h5⟩ ⟨rfl, R5⟩
      refine ⟨rfl, B.E ?_⟩
      dsimp only at R5
      rw [sp_mv_cm (by decide), sp_mv_cm (by decide), sp_mv_cm (by decide), sp_mv_cm (by decide), wz_cc (c := 8 + 2 * j) (c' := 6) (by omega), wz_cc (c := 7 + 2 * j) (c' := 6) (by omega)] at R5
      rw [wz_up_c (by omega), wz_up_s] at R5
      rw [wz_up_s, ← q6]
      exact R5
    · rw [if_neg (fun x => q6 x.symm)]
      refine k_m (rz_put300 R1 (by omega) (by omega) hp9 h8) ?_
      rintro ⟨x, h5⟩ ⟨rfl, R5⟩
      refine ⟨rfl, B.E ?_⟩
      dsimp only at R5
      rw [sp_mv_cm (by decide)] at R5
      rw [sp_mv_k (by decide)]
      exact R5
  · rw [if_neg (fun x => q5 (by have := x.2.2.2.2; rw [ei, nI_clamp (by omega)] at this; exact this))]
    exact k_s ⟨rfl, R.C⟩
end
