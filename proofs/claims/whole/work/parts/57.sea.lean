/-! ===== what a deed answers; sail, load ===== -/
def tz_fo (s s' : tz_S) : Prop := (∀ a k, (a < 201 ∨ 283 ≤ a) → ¬ (a = 200 ∧ k = 9) → s'.1 a k = s.1 a k) ∧ s'.1 201 1 = s.1 201 1 ∧ (∀ a, a < 201 ∨ 283 ≤ a ∨ a = 202 → s'.2.1 a = s.2.1 a) ∧ (∀ a, a < 201 ∨ 283 ≤ a → s'.2.2.1 a = s.2.2.1 a ∧ s'.2.2.2.1 a = s.2.2.2.1 a) ∧ s'.2.2.2.2 = s.2.2.2.2
/-- something was done: W was remembered, W1 is now -/
def cz_E (s0 : tz_S) (W W1 : m_W) (h : m_H) : Prop := ∃ s1, tz_fo s0 s1 ∧ tz_HR s1 253 W ∧ s1.1 200 9 = 1 ∧ cz_N s1 W1 h
def tz_fc (s s' : tz_S) : Prop := s'.1 = s.1 ∧ (∀ a, ¬ (a = 212 ∨ a = 213) → s'.2.1 a = s.2.1 a) ∧ s'.2.2 = s.2.2
def cz_C (s0 : tz_S) (W : m_W) (h : m_H) : Prop := ∃ s1, tz_fc s0 s1 ∧ cz_N s1 W h
def fz_D (s0 : tz_S) (W : m_W) (p : (Int32 × Option m_W) ⊕ Nat) (z : (Int32 ⊕ Nat) × m_H) : Prop := match p with
  | .inl (v, some W1) => ∃ h', z = (.inl v, h') ∧ cz_E s0 W W1 h'
  | .inl (v, none) => ∃ h', z = (.inl v, h') ∧ cz_C s0 W h'
  | .inr E => ∃ h', z = (.inr E, m_junk h') ∧ cz_N s0 W h'
def tz_fp (s s' : tz_S) : Prop := (∀ a k, ¬ (a = 317 ∧ (k = 0 ∨ k = 5 ∨ k = 8 ∨ k = 9 ∨ k = 10 ∨ k = 11 ∨ k = 14 ∨ k = 23)) → s'.1 a k = s.1 a k) ∧ (∀ a, ¬ (a = 318 ∨ a = 320 ∨ 322 ≤ a ∧ a ≤ 331) → s'.2.1 a = s.2.1 a) ∧ (∀ a, ¬ (a = 323 ∨ a = 324 ∨ a = 332) → s'.2.2.1 a = s.2.2.1 a) ∧ s'.2.2.2 = s.2.2.2
def rz_E (s0 : tz_S) (th : Int32) (W W1 : m_W) (h : m_H) : Prop := ∃ s1, tz_fp s0 s1 ∧ tz_WR s1 320 W ∧ s1.1 317 5 = 1 ∧ rz_N s1 th W1 h
def tz_fcq (s s' : tz_S) : Prop := s'.1 = s.1 ∧ (∀ a, ¬ (a = 325 ∨ a = 326) → s'.2.1 a = s.2.1 a) ∧ s'.2.2 = s.2.2
def rz_C (s0 : tz_S) (th : Int32) (W : m_W) (h : m_H) : Prop := ∃ s1, tz_fcq s0 s1 ∧ rz_N s1 th W h
def hz_D (s0 : tz_S) (cd : Nat → Int32) (W : m_W) (p : (Int32 × Option m_W) ⊕ Nat) (z : Int32 × m_H) : Prop := match p with
  | .inl (v, some W1) => z.1 = v ∧ rz_E s0 0 W W1 z.2
  | .inl (v, none) => z.1 = v ∧ rz_C s0 0 W z.2
  | .inr E => rz_N s0 (cd E) W z.2
theorem cz_N.C {s0 : tz_S} {W : m_W} {h : m_H} (R : cz_N s0 W h) : cz_C s0 W h := ⟨s0, ⟨rfl, fun _ _ => rfl, rfl⟩, R⟩
theorem rz_N.C {s0 : tz_S} {th : Int32} {W : m_W} {h : m_H} (R : rz_N s0 th W h) : rz_C s0 th W h := ⟨s0, ⟨rfl, fun _ _ => rfl, rfl⟩, R⟩
theorem cz_B.E {s0 s1 : tz_S} {W W1 : m_W} {h : m_H} (B : cz_B s0 W s1) (R : cz_N s1 W1 h) : cz_E s0 W W1 h := by
  obtain ⟨⟨a, b, c, d, e⟩, f, g⟩ := B
  exact ⟨s1, ⟨a, b, fun x q => c x (by omega), d, e⟩, f, g, R⟩
theorem rz_B.E {s0 s1 : tz_S} {th : Int32} {W W1 : m_W} {h : m_H} (B : rz_B s0 W s1) (R : rz_N s1 th W1 h) : rz_E s0 th W W1 h := by
  obtain ⟨⟨a, b, c, d⟩, f, g⟩ := B
  exact ⟨s1, ⟨a, fun x q => b x (by omega), c, d⟩, f, g, R⟩
abbrev sp_maySail (W : m_W) (s : Nat) (b : Int32) : Prop := (W 4 s 2 = 0 ∧ ¬ b = 0 ∧ (W 4 s 6 = 0 ∨ W 2 (W 4 s 7).toNatClampNeg 2 = b)) ∨ (¬ W 4 s 2 = 0 ∧ W 4 s 2 = 2 ∧ b = 0)
def sp_sea1 (W : m_W) (s : Nat) (u : Int32) : m_W := wz_up (wz_up W 4 s 2 u) 4 s 4 (W 5 (W 4 s 3).toNatClampNeg 2)
def sp_sea (W : m_W) (s : Nat) (b : Int32) : m_W := if b = 0 then sp_sea1 W s 3 else sp_sea1 (wz_up W 4 s 3 b) s 1
def sp_sail (W : m_W) (a b : Int32) : (Int32 × Option m_W) ⊕ Nat :=
  if 0 ≤ a ∧ a < nI (wz_n W 4) then if 0 ≤ b ∧ b ≤ 5 then if W 14 0 3 = 0 then if sp_maySail W a.toNatClampNeg b then .inl (1, some (sp_sea W a.toNatClampNeg b)) else .inl (0, none) else .inr 3 else .inr 0 else .inr 0
section
variable {s0 : tz_S} {th : Int32} {W : m_W} {h : m_H}
theorem cz_landOf (R : cz_N s0 W h) (V : vz W) {s : Nat} {x : Int32} (hx : x = nI s) (hs : s < wz_n W 4) (hc : ¬ W 4 s 6 = 0) : F3_landOfCargo 223 x h = some (W 2 (W 4 s 7).toNatClampNeg 2) := by
  have hn : wz_n W 2 ≤ 100 := V.c (k := 2) (by omega)
  obtain ⟨e6, -⟩ := V.has hs
  have h6 : 0 < (W 4 s 6).toNatClampNeg := Nat.pos_of_ne_zero (fun q => hc (by rw [e6, q]; rfl))
  obtain ⟨t, ht, et⟩ := V.ship hs h6
  have et : W 4 s 7 = nI t := et
  unfold F3_landOfCargo F3_landOfCargo_0
  rw [nz_io223 R, gz_s, nz_gr223_8 R, bz_s, cz_cargoLot R (j := 0) (y := 0) hx hs rfl (by decide), bz_s, et, cz_g2_2 R rfl ht, bz_s, nI_clamp (by omega)]
theorem cz_maySail (R : cz_N s0 W h) (V : vz W) {s : Nat} {b : Int32} (hs : s < wz_n W 4) : F3_maySail 223 (nI s) b h = some (if sp_maySail W s b then 1 else 0) := by
  unfold F3_maySail F3_maySail_0
  rw [nz_io223 R, gz_s, nz_gr223_10 R, bz_s, cz_g4_2 R rfl hs, bz_s]
  by_cases c2 : W 4 s 2 = 0
  · rw [iz_t c2]
    by_cases cb : b = 0
    · rw [iz_t cb, if_neg (fun q => q.elim (fun q => q.2.1 cb) (fun q => q.1 c2))]
    · rw [iz_f cb, bz_s, cz_g4_6 R rfl hs, bz_s]
      by_cases c6 : W 4 s 6 = 0
      · rw [iz_t c6, if_pos (Or.inl ⟨c2, cb, Or.inl c6⟩)]
      · rw [iz_f c6, cz_landOf R V rfl hs c6, bz_s]
        by_cases cl : W 2 (W 4 s 7).toNatClampNeg 2 = b
        · rw [iz_t cl, if_pos (Or.inl ⟨c2, cb, Or.inr cl⟩)]
        · rw [iz_f cl, if_neg (fun q => q.elim (fun q => q.2.2.elim c6 cl) (fun q => q.1 c2))]
  · rw [iz_f c2]
    by_cases c3 : W 4 s 2 = 2
    · rw [iz_t c3]
      by_cases cb : b = 0
      · rw [iz_t cb, if_pos (Or.inr ⟨c2, c3, cb⟩)]
      · rw [iz_f cb, if_neg (fun q => q.elim (fun q => c2 q.1) (fun q => cb q.2.2))]
    · rw [iz_f c3, if_neg (fun q => q.elim (fun q => c2 q.1) (fun q => c3 q.2.1))]
theorem cz_sea1 (R : cz_N s0 W h) {s l : Nat} {u : Int32} (hs : s < wz_n W 4) (hl : W 4 s 3 = nI l) (h5 : wz_n W 5 = 6) (hl5 : l < 6) : k_ok (F3_putToSea_29 223 (nI s) u 2 (nI s) 233 h) (cz_N s0 (sp_sea1 W s u)) := by
  unfold F3_putToSea_29 sp_sea1
  refine k_b (cz_s4_2 R rfl hs) ?_
  intro h1 R1
  have hs1 : s < wz_n (wz_up W 4 s 2 u) 4 := hs
  refine k_e (nz_gr223_10 R1) (k_e (nz_gr223_11 R1) (k_e (nz_gr223_10 R1) (k_e (cz_g4_3 R1 rfl hs1) ?_)))
  rw [show wz_up W 4 s 2 u 4 s 3 = nI l from (wz_up_c (by decide)).trans hl, hl, nI_clamp (by omega)]
  refine k_e (cz_g5_2 R1 rfl (show l < wz_n W 5 by omega)) ?_
  rw [show wz_up W 4 s 2 u 5 l 2 = W 5 l 2 from wz_up_k (by decide)]
  refine k_b (cz_s4_4 R1 rfl hs1) ?_
  intro h2 R2
  exact k_s R2
theorem cz_sail (R : cz_N s0 W h) (V : vz W) {a b : Int32} : k_ok (F11_sail 200 a b h) (fz_D s0 W (sp_sail W a b)) := by
  have hn : wz_n W 4 ≤ 12 := V.c (k := 4) (by omega)
  unfold F11_sail F11_sail_0 sp_sail
  refine k_g (nz_io200 R) ?_
  refine k_tp R (fun c1 => ?_) (fun c1 => k_s (by rw [if_neg c1]; exact ⟨_, rfl, R⟩))
  refine k_tl (fun c2 => ?_) (fun c2 => k_s (by rw [if_pos c1, if_neg c2]; exact ⟨_, rfl, R⟩))
  refine k_te R (fun c3 => ?_) (fun c3 => k_s (by rw [if_pos c1, if_pos c2, if_neg c3]; exact ⟨_, rfl, R⟩))
  rw [if_pos c1, if_pos c2, if_pos c3]
  obtain ⟨s, hs, rfl⟩ := i_rowlt (by omega) c1
  rw [nI_clamp (by omega)]
  refine k_e (nz_gr200_4 R) (k_e (cz_maySail R V hs) ?_)
  by_cases c4 : sp_maySail W s b
  · rw [if_pos c4, if_pos c4]
    refine k_f (by decide) (k_b (cz_rem R V) ?_)
    rintro h1 ⟨s1, B, R1⟩
    refine k_e (nz_gr200_4 R1) ?_
    unfold F3_putToSea F3_putToSea_0 sp_sea
    have h3 := V.row (k := 4) (by omega) hs
    obtain ⟨l, hl, el⟩ := i_row (x := W 4 s 3) (n := 5) rfl h3.2.2.1
    by_cases cb : b = 0
    · rw [if_pos cb]
      refine k_b (P := cz_N s1 (sp_sea1 W s 3)) ?_ ?_
      · refine k_g (nz_io223 R1) (k_t cb ?_)
        unfold F3_putToSea_14
        exact k_e (nz_gr223_10 R1) (k_t cb (cz_sea1 R1 hs el V.n5 (by omega)))
      · intro h2 R2
        exact k_s ⟨h2, rfl, B.E R2⟩
    · rw [if_neg cb]
      obtain ⟨l, hl, rfl⟩ := i_row (n := 5) rfl c2
      refine k_b (P := cz_N s1 (sp_sea1 (wz_up W 4 s 3 (nI l)) s 1)) ?_ ?_
      · refine k_g (nz_io223 R1) (k_f cb (k_e (nz_gr223_10 R1) (k_b (cz_s4_3 R1 rfl hs) ?_)))
        intro h2 R2
        unfold F3_putToSea_14
        exact k_e (nz_gr223_10 R2) (k_f cb (cz_sea1 R2 hs wz_up_s V.n5 (by omega)))
      · intro h2 R2
        exact k_s ⟨h2, rfl, B.E R2⟩
  · rw [if_neg c4, if_neg c4]
    exact k_t rfl (k_s ⟨h, rfl, R.C⟩)
theorem rz_sea (R : rz_N s0 th W h) {s l : Nat} {u : Int32} (hs : s < 12) (hl : W 4 s 3 = nI l) (hl5 : l < 6) : k_ok (F12_sail_147 317 (nI s) u 2 (nI s) 317 h) (fun z => z.1 = 1 ∧ rz_N s0 th (sp_sea1 W s u) z.2) := by
  unfold F12_sail_147 sp_sea1
  refine k_b (rz_puts R rfl hs rfl (by decide)) ?_
  intro h1 R1
  refine k_e (rz_gr1 R1) (k_e (rz_its R1 rfl hs (y := 3) (c := 3) rfl (by decide)) ?_)
  rw [show wz_up W 4 s 2 u 4 s 3 = nI l from (wz_up_c (by decide)).trans hl, hl, nI_clamp (by omega)]
  refine k_e (rz_l5 R1 (c := 2) hl5 (by decide)).1 (k_e (rz_l5 R1 (c := 2) hl5 (by decide)).2 ?_)
  rw [show wz_up W 4 s 2 u 5 l 2 = W 5 l 2 from wz_up_k (by decide)]
  refine k_b (rz_puts R1 rfl hs rfl (by decide)) ?_
  intro h2 R2
  exact k_s ⟨rfl, R2⟩
theorem rz_sail (R : rz_N s0 th W h) (V : vz W) {a b : Int32} : k_ok (F12_sail 317 a b h) (hz_D s0 e03 W (sp_sail W a b)) := by
  have hn : wz_n W 4 ≤ 12 := V.c (k := 4) (by omega)
  have hn2 : wz_n W 2 ≤ 100 := V.c (k := 2) (by omega)
  unfold F12_sail F12_sail_0 sp_sail
  refine k_g (rz_io R) ?_
  refine k_b (rz_th R) ?_
  intro h1 R1
  refine k_e (rz_noShip R1 V) ?_
  by_cases c1 : 0 ≤ a ∧ a < nI (wz_n W 4)
  · rw [if_pos c1, if_pos c1]
    refine k_t rfl (k_e k_nl ?_)
    by_cases c2 : 0 ≤ b ∧ b ≤ 5
    · rw [if_pos c2, if_pos c2]
      refine k_t rfl ?_
      unfold F12_sail_26
      refine k_thr0 R1 (k_ovr R1 V (fun c3 => ?_) (fun c3 h2 R2 => k_s (by rw [if_neg c3]; exact R2)))
      rw [if_pos c3]
      obtain ⟨s, hs, rfl⟩ := i_rowlt (by omega) c1
      rw [nI_clamp (n := s) (by omega)]
      obtain ⟨l, hl, rfl⟩ := i_row (n := 5) rfl c2
      have h3 := V.row (k := 4) (by omega) hs
      obtain ⟨l0, hl0, el0⟩ := i_row (x := W 4 s 3) (n := 5) rfl h3.2.2.1
      have l0e : nI l ≤ 0 ↔ nI l = 0 := by
        constructor
        · intro q
          rcases Nat.eq_zero_or_pos l with z | z
          · rw [z]; rfl
          · exact absurd q (nI_ge z (by omega))
        · intro q
          rw [q]; decide
      have yes : sp_maySail W s (nI l) → k_ok (F12_sail_113 317 (nI s) (nI l) 1 h1) (hz_D s0 e03 W (if sp_maySail W s (nI l) then .inl (1, some (sp_sea W s (nI l))) else .inl (0, none))) := by
        intro y
        rw [if_pos y]
        unfold F12_sail_113
        refine k_f (by decide) (k_b (rz_deed R1) ?_)
        rintro h2 ⟨s1, B, R2⟩
        unfold sp_sea
        by_cases cb : nI l = 0
        · rw [if_pos cb]
          refine k_t (l0e.mpr cb) ?_
          unfold F12_sail_135
          refine k_t (l0e.mpr cb) (k_m (rz_sea R2 (by omega) el0 (by omega)) ?_)
          rintro ⟨x, h3⟩ ⟨rfl, R3⟩
          exact ⟨rfl, B.E R3⟩
        · rw [if_neg cb]
          refine k_f (fun q => cb (l0e.mp q)) ?_
          refine k_b (rz_puts R2 rfl (by omega) rfl (by decide)) ?_
          intro h3 R3
          unfold F12_sail_135
          refine k_f (fun q => cb (l0e.mp q)) (k_m (rz_sea R3 (by omega) wz_up_s (by omega)) ?_)
          rintro ⟨x, h3⟩ ⟨rfl, R3⟩
          exact ⟨rfl, B.E R3⟩
      have no : ¬ sp_maySail W s (nI l) → k_ok (F12_sail_113 317 (nI s) (nI l) 0 h1) (hz_D s0 e03 W (if sp_maySail W s (nI l) then .inl (1, some (sp_sea W s (nI l))) else .inl (0, none))) := by
        intro y
        rw [if_neg y]
        unfold F12_sail_113
        exact k_t rfl (k_s ⟨rfl, R1.C⟩)
      refine k_e (rz_its R1 rfl (by omega) (y := 2) (c := 2) rfl (by decide)) ?_
      refine k_if (fun q2 => ?_) (fun q2 => ?_)
      · refine k_if (fun qb => ?_) (fun qb => ?_)
        · exact no (fun q => q.elim (fun q => q.2.1 (l0e.mp qb)) (fun q => q.1 q2))
        · refine k_e (rz_its R1 rfl (by omega) (y := 6) (c := 6) rfl (by decide)) ?_
          refine k_if (fun q6 => yes (Or.inl ⟨q2, fun q => qb (l0e.mpr q), Or.inl q6⟩)) (fun q6 => ?_)
          obtain ⟨e6, -⟩ := V.has hs
          have h6 : 0 < (W 4 s 6).toNatClampNeg := Nat.pos_of_ne_zero (fun q => q6 (by rw [e6, q]; rfl))
          obtain ⟨t, ht, et⟩ := V.ship hs h6
          have et : W 4 s 7 = nI t := et
          refine k_e (rz_its R1 rfl (by omega) (y := 7) (c := 7) rfl (by decide)) (k_e (rz_o2 R1 (r := t) et (by omega)) ?_)
          have e7 : W 2 (W 4 s 7).toNatClampNeg 2 = W 2 t 2 := by rw [et, nI_clamp (by omega)]
          refine k_if (fun q7 => yes (Or.inl ⟨q2, fun q => qb (l0e.mpr q), Or.inr (e7.trans q7)⟩)) (fun q7 => no (fun q => q.elim (fun q => q.2.2.elim q6 (fun x => q7 (e7.symm.trans x))) (fun q => q.1 q2)))
      · refine k_e (rz_its R1 rfl (by omega) (y := 2) (c := 2) rfl (by decide)) ?_
        refine k_if (fun q3 => ?_) (fun q3 => no (fun q => q.elim (fun q => q2 q.1) (fun q => q3 q.2.1)))
        exact k_if (fun qb => yes (Or.inr ⟨q2, q3, qb⟩)) (fun qb => no (fun q => q.elim (fun q => q2 q.1) (fun q => qb q.2.2)))
    · rw [if_neg c2, if_neg c2]
      refine k_f (by decide) ?_
      unfold F12_sail_21 F12_sail_26
      exact k_thr R1 (fun h2 R2 => k_s R2)
  · rw [if_neg c1, if_neg c1]
    refine k_f (by decide) ?_
    unfold F12_sail_21 F12_sail_26
    exact k_thr R1 (fun h2 R2 => k_s R2)
end
