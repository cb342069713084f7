/-! ===== HULLS: the reference, around the search ===== -/
section
variable {s0 : tz_S} {th : Int32} {W : m_W} {h : m_H}
def hz_B (s0 : tz_S) (th : Int32) (W : m_W) (c : Nat) (D : Nat → Nat) (j : Nat) (h : m_H) : Prop := ∃ s, h = tz_H s ∧ tz_WR s 318 W ∧ s.1 317 0 = th ∧ tz_fq s0 s ∧ (∀ m, m < c → s.2.1 327 m = nI (D m)) ∧ ∀ l, l < j → s.2.1 330 l = 0
theorem hz_B.N {c j : Nat} {D : Nat → Nat} (B : hz_B s0 th W c D j h) : rz_N s0 th W h := by
  obtain ⟨s, e, a, b, c, -⟩ := B
  exact ⟨s, e, a, b, c⟩
theorem hz_B.p {c j : Nat} {D : Nat → Nat} (B : hz_B s0 th W c D j h) (hc : c < 6) {t : Nat} : k_ok (m_si h 0 327 (nI c) (nI t)) (hz_B s0 th W (c + 1) (hP D c t) j) := by
  obtain ⟨s, rfl, a, b, fr, c1, c2⟩ := B
  refine ⟨_, (tz_si sh_327 ⟨rfl, rfl⟩ (nI_in1 hc (by decide))).trans (by rw [nI_clamp (by omega)]; rfl), tz_ui s 327 (upd (s.2.1 327) c (nI t)), rfl, hz_WRi a (by decide), b, fr.trans (tz_fq.ui (by decide)), fun m hm => ?_, fun m hm => ?_⟩
  · rw [tz_ui_a]
    unfold hP
    by_cases z : m = c
    · subst z; rw [pk_us, if_pos rfl]
    · rw [pk_un z, if_neg z]; exact c1 m (by omega)
  · rw [tz_ui_n (by decide)]; exact c2 m hm
theorem hz_B.z {c j : Nat} {D : Nat → Nat} (B : hz_B s0 th W c D j h) (hj : j < 6) : k_ok (m_si h 0 330 (nI j) 0) (hz_B s0 th W c D (j + 1)) := by
  obtain ⟨s, rfl, a, b, fr, c1, c2⟩ := B
  refine ⟨_, (tz_si sh_330 ⟨rfl, rfl⟩ (nI_in1 hj (by decide))).trans (by rw [nI_clamp (by omega)]; rfl), tz_ui s 330 (upd (s.2.1 330) j 0), rfl, hz_WRi a (by decide), b, fr.trans (tz_fq.ui (by decide)), fun m hm => ?_, fun m hm => ?_⟩
  · rw [tz_ui_n (by decide)]; exact c1 m hm
  · rw [tz_ui_a]
    by_cases z : m = j
    · subst z; rw [pk_us]
    · rw [pk_un z]; exact c2 m (by omega)
theorem sp_hs_stop {i : Nat} (h6 : (sp_hs W i).1 = 6) : ∀ m, sp_hs W (i + m) = sp_hs W i
  | 0 => rfl
  | m + 1 => by
    show sp_h1 W (i + m) (sp_hs W (i + m)) = _
    rw [sp_hs_stop h6 m]
    unfold sp_h1
    rw [if_neg (fun x => by omega)]
theorem vz_hD (V : vz W) : hz_Qd W (sp_hk W) (sp_hH W) (sp_hR W) (sp_hD W) (sp_hL W) := by
  have hn : wz_n W 4 ≤ 12 := V.c (k := 4) (by omega)
  refine ⟨sp_hs_6 _, sp_hH_b V, sp_hR_b V, if_neg (fun q => absurd q.1 (by decide)), fun m hm => ⟨Nat.lt_of_lt_of_le (sp_hs_D (W := W) _ m hm) hn, ?_⟩, fun l h1 h6 => sp_hR_e V h6, fun l hl => ⟨rfl, ?_⟩⟩
  · exact (if_pos hm).symm
  · have r5 : W 5 l 1 ≤ 0 ∧ (0 ≤ W 5 l 3 ∧ W 5 l 3 ≤ 100000) ∧ -100 ≤ W 5 l 1 := V.r5 hl
    exact ⟨i_nn r5.2.1.1, Int32.le_iff_toInt_le.mp r5.2.1.2⟩
theorem rz_find {y : Int × (Nat → Nat)} (C : hz_R s0 th W (sp_hk W) (sp_hD W) (sp_hL W) (sp_hL W) (fun _ => 0) 0 (some y) h) {x : Int32} (k6 : sp_hk W ≤ 6) : ∀ j i N, j < N → i + j = sp_hk W → m_wh (fun s => F12_hulls_107b 317 x (nI (sp_hk W)) h s) N (nI i) = some (sp_fd (sp_hD W) x y.2 j i, h) := by
  have gb : ∀ m, m < sp_hk W → m_ai h 0 329 (nI m) = some (nI (y.2 m)) := by
    obtain ⟨s, rfl, a, b, c, c1, c2, c3, c4, c5⟩ := C
    intro m hm
    exact (tz_ai sh_329 ⟨rfl, rfl⟩ (nI_in1 (show m < 6 by omega) (by decide))).trans (by rw [nI_clamp (by omega), c5 y rfl m hm])
  intro j
  induction j with
  | zero =>
    intro i N hN hij
    obtain ⟨N, rfl⟩ : ∃ M, N = M + 1 := ⟨N - 1, by omega⟩
    unfold m_wh F12_hulls_107b
    rw [iz_t (nI_le (by omega) (by omega))]
    rfl
  | succ j ih =>
    intro i N hN hij
    obtain ⟨N, rfl⟩ : ∃ M, N = M + 1 := ⟨N - 1, by omega⟩
    have e : F12_hulls_107b 317 x (nI (sp_hk W)) h (nI i) = if nI (sp_hD W i) = x then some (.inr (nI (y.2 i), h)) else some (.inl (nI (i + 1))) := by
      unfold F12_hulls_107b
      rw [iz_f (nI_ge (by omega) (by omega)), rz_gr19 C.N, bz_s, C.at k6 (by omega), bz_s]
      by_cases z : nI (sp_hD W i) = x
      · rw [iz_t z, if_pos z, rz_gr21 C.N, bz_s, gb i (by omega), bz_s]
      · rw [iz_f z, if_neg z, nI_1]
    unfold m_wh sp_fd
    rw [e]
    by_cases z : nI (sp_hD W i) = x
    · rw [if_pos z, if_pos z]
    · rw [if_neg z, if_neg z]
      exact ih (i + 1) N (by omega) (by omega)
theorem rz_hulls57 (V : vz W) {x : Int32} (B : hz_B s0 th W (sp_hk W) (sp_hD W) 0 h) : k_ok (F12_hulls_57 317 x (nI (sp_hk W)) 0 h) (fun z => ∃ h1, z = (sp_hulls W x, h1) ∧ rz_N s0 th W h1) := by
  have k6 : sp_hk W ≤ 6 := sp_hs_6 _
  have qb := sp_hq_b V
  have hD := vz_hD V
  unfold F12_hulls_57
  refine wh_i (n := 6) (fun (l : Nat) (z : Int32 × m_H) => z.1 = nI l ∧ hz_B s0 th W (sp_hk W) (sp_hD W) l z.2) _ ?_ ?_ m_N 0 _ (N_lt (by decide)) (Nat.zero_le _) ⟨rfl, B⟩
  · rintro l ⟨y, h1⟩ hl6 ⟨e1, B1⟩
    dsimp only at e1 B1
    subst e1
    unfold F12_hulls_57b
    dsimp only
    refine k_f (i6f hl6) (k_e (rz_gr22 B1.N) (k_b (B1.z hl6) ?_))
    intro h2 B2
    exact k_s ⟨(nI_succ l).symm, B2⟩
  · rintro ⟨y, h1⟩ ⟨e1, B1⟩
    dsimp only at e1 B1
    subst e1
    obtain ⟨s, rfl, a, b, fr, c1, c2⟩ := B1
    have C0 : hz_R s0 th W (sp_hk W) (sp_hD W) (sp_hL W) (sp_hL W) (fun _ => 0) 0 none (tz_H (tz_uf s 317 23 (-1))) := ⟨tz_uf s 317 23 (-1), rfl, a, (tz_uf_n (by decide)).trans b, fr.trans (tz_fq.uf (by decide)), c1, fun l hl => by rw [show (tz_uf s 317 23 (-1)).2.1 330 l = s.2.1 330 l from rfl, c2 l hl, Int.sub_self]; rfl, fun m hm => absurd hm (Nat.not_lt_zero m), tz_uf_s, fun x e => by cases e⟩
    unfold F12_hulls_57b
    dsimp only
    refine k_t i6t (k_e pf_317_23 (k_b (rz_send V hD (sp_hk W) m_FD 0 (by show sp_hk W + 1 ≤ 60; omega) (Nat.zero_add _) (sp_hL W) 0 (fun _ => 0) none _ 0 (fun l hl => ?_) rfl ⟨by decide, by decide⟩ (fun z e => by cases e) C0) ?_))
    · have := (hD.2.2.2.2.2.2 l hl).2
      omega
    intro h2 C
    have C : hz_R s0 th W (sp_hk W) (sp_hD W) (sp_hL W) (sp_hL W) (fun _ => 0) 0 (sp_hq W) h2 := C
    obtain ⟨v, ev, hv⟩ := C.v
    unfold sp_hulls
    cases hq : sp_hq W with
    | none =>
      rw [hq] at hv
      have hv : v = -1 := hv
      subst hv
      exact k_if (fun q => k_e ev (k_s ⟨h2, rfl, C.N⟩)) (fun q => k_e ev (k_f (by decide) (k_e ev (k_s ⟨h2, rfl, C.N⟩))))
    | some y =>
      have b := qb y hq
      rw [hq] at hv C
      have hv : v.toInt = y.1 := hv
      unfold hBIG at b
      have ve : v = nI y.1.toNat := by
        apply Int32.toInt_inj.mp
        rw [hv, nI_toInt (by omega)]
        omega
      dsimp only
      refine k_if (fun q => k_e ev (k_s ⟨h2, by rw [if_pos q, ve], C.N⟩)) (fun q => k_e ev (k_t ?_ ?_))
      · rw [ve]
        exact nI_pos' (by omega)
      · rw [if_neg q]
        refine ⟨.inr (sp_fd (sp_hD W) x y.2 (sp_hk W) 0, h2), ?_, h2, rfl, C.N⟩
        unfold F12_hulls_107
        have e := rz_find C (x := x) k6 (sp_hk W) 0 m_N (N_lt (by omega)) (Nat.zero_add _)
        rw [show (0 : Int32) = nI 0 from rfl, e]
        rfl
theorem rz_hulls (R : rz_N s0 th W h) (V : vz W) {x : Int32} : k_ok (F12_hulls 317 x h) (fun z => ∃ h1, z = (sp_hulls W x, h1) ∧ rz_N s0 0 W h1) := by
  have hn : wz_n W 4 ≤ 12 := V.c (k := 4) (by omega)
  have hc := (V.cap (k := 4) (by omega)).1
  unfold F12_hulls F12_hulls_0
  refine k_g (rz_io R) (k_b (rz_th R) ?_)
  intro h0 R0
  unfold F12_hulls_9
  have B0 : hz_B s0 0 W 0 (fun _ => 0) 0 h0 := by
    obtain ⟨s, e, a, b, c⟩ := R0
    exact ⟨s, e, a, b, c, fun m hm => absurd hm (Nat.not_lt_zero m), fun m hm => absurd hm (Nat.not_lt_zero m)⟩
  have fin : ∀ h1, hz_B s0 0 W (sp_hk W) (sp_hD W) 0 h1 → k_ok ((F12_hulls_55 317 x (nI (sp_hk W)) h1).map (Sum.inr : Int32 × m_H → (Int32 × Int32 × m_H) ⊕ (Int32 × m_H))) (m_KK (fun _ => False) (fun z => ∃ h1, z = (sp_hulls W x, h1) ∧ rz_N s0 0 W h1)) := by
    intro h1 B1
    obtain ⟨z, e, hz⟩ := rz_hulls57 V (x := x) B1
    unfold F12_hulls_55
    exact ⟨.inr z, by rw [e]; rfl, hz⟩
  refine wh_i (n := wz_n W 4) (fun (i : Nat) (z : Int32 × Int32 × m_H) => z.1 = nI (sp_hs W i).1 ∧ z.2.1 = nI i ∧ hz_B s0 0 W (sp_hs W i).1 (sp_hs W i).2 0 z.2.2) _ ?_ ?_ m_N 0 _ (N_lt (by omega)) (Nat.zero_le _) ⟨rfl, rfl, B0⟩
  · rintro i ⟨c, y, h1⟩ hi ⟨q1, q2, B1⟩
    dsimp only at q1 q2 B1
    subst q1 q2
    have z6 := sp_hs_6 (W := W) i
    have es : sp_hs W (i + 1) = sp_h1 W i (sp_hs W i) := rfl
    have st := fun h6 => sp_hs_stop (W := W) (i := i) h6 (wz_n W 4 - i)
    rw [show i + (wz_n W 4 - i) = wz_n W 4 by omega] at st
    unfold F12_hulls_9b
    dsimp only
    refine k_e (rz_gr1 B1.N) (k_e (rz_c4 B1.N) ?_)
    rw [show W 24 0 0 = nI (wz_n W 4) from hc]
    refine k_f (nI_ge hi (by omega)) ?_
    by_cases c6 : (sp_hs W i).1 < 6
    case neg =>
      have st := st (by omega)
      have B2 : hz_B s0 0 W (sp_hk W) (sp_hD W) 0 h1 := by
        unfold sp_hk sp_hD
        rw [st]
        exact B1
      have ek : (sp_hs W i).1 = sp_hk W := by
        unfold sp_hk
        rw [st]
      rw [ek]
      obtain ⟨z, e, hz⟩ := fin h1 B2
      refine k_t ?_ ⟨z, e, ?_⟩
      · rw [← ek]
        exact nI_le (a := 6) (by omega) (by omega)
      · cases z with
        | inl z => exact hz.elim
        | inr z => exact hz
    refine k_f (i6f c6) (k_e (rz_i2 B1.N rfl (by omega)) ?_)
    rw [es]
    generalize sp_hs W i = z at B1 z6 c6
    obtain ⟨c, D⟩ := z
    dsimp only at B1 z6 c6
    refine k_if (fun c0 => ?_) (fun c0 => ?_)
    · have e : sp_h1 W i (c, D) = (c + 1, hP D c i) := if_pos ⟨c0, c6⟩
      rw [e]
      refine k_e (rz_gr19 B1.N) (k_b (B1.p c6) ?_)
      intro h2 B2
      exact k_s ⟨(nI_succ c).symm, (nI_succ i).symm, B2⟩
    · have e : sp_h1 W i (c, D) = (c, D) := if_neg (fun q => c0 q.1)
      rw [e]
      exact k_s ⟨rfl, (nI_succ i).symm, B1⟩
  · rintro ⟨c, y, h1⟩ ⟨q1, q2, B1⟩
    dsimp only at q1 q2 B1
    subst q1 q2
    unfold F12_hulls_9b
    dsimp only
    refine k_e (rz_gr1 B1.N) (k_e (rz_c4 B1.N) ?_)
    rw [show W 24 0 0 = nI (wz_n W 4) from hc]
    exact k_t (nI_le (Nat.le_refl _) (by omega)) (fin h1 B1)
end
