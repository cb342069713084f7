/-! ===== allot: the class's loop ===== -/
section
variable {s0 s1 : tz_S} {th : Int32} {W W1 : m_W} {h : m_H}
theorem cz_W.rm {P : Nat → Bool} {M : Nat → Int32} {r : Nat} (A : cz_W s1 P M) : cz_W (tz_ui s1 213 (upd (s1.2.1 213) r 0)) (sp_rm P r) M := by
  intro i hi
  rw [tz_ui_a, tz_ui_n (by decide)]
  unfold sp_rm
  by_cases q : i = r
  · subst q
    rw [pk_us, if_pos rfl]
    exact ⟨rfl, fun x => by cases x⟩
  · rw [pk_un q, if_neg q]
    exact A i hi
theorem cz_W.base {s2 : tz_S} {P : Nat → Bool} {M : Nat → Int32} (A : cz_W s1 P M) (B : tz_fd s1 s2) : cz_W s2 P M := by
  intro i hi
  rw [B.2.2.1 213 (by decide), B.2.2.1 212 (by decide)]
  exact A i hi
theorem cz_aStep (V : vz W) {x m : Int32} {P : Nat → Bool} {i r : Nat} (hn1 : wz_n W1 2 < 100) (V1 : vz W1) (O : sp_ok W1 x P) (pr : P r = true) (hs : ¬ sp_stock W1 x ≤ 0) (m0 : 0 ≤ m.toInt) (mb : m.toInt + (sp_stock W1 x).toInt ≤ 100000) {F : Nat → Int32} (hF : F = sp_lF W1 r (sp_min W1 x r))
    (E : sp_al x (sp_cM W) (59 - i) (m + sp_min W1 x r) (sp_rm P r) (sp_lend W1 r (sp_min W1 x r) (sp_owe W1 (sp_lF W1 r (sp_min W1 x r)))) = sp_alA W x) (hi : i < 60)
    (D : tz_fo s0 s1 ∧ tz_HR s1 253 W ∧ s1.1 200 9 = 1) (A : cz_W s1 (sp_rm P r) (sp_cM W)) (R : cz_N s1 (sp_lend W1 r (sp_min W1 x r) (sp_owe W1 F)) h) : cz_aI s0 W x (i + 1) (sp_stock W1 x - sp_min W1 x r, m + sp_min W1 x r, nI (i + 1), h) := by
  subst hF
  obtain ⟨a1, a2, a3, a4, a5⟩ := sp_step (owe := sp_owe W1 (sp_lF W1 r (sp_min W1 x r))) V1 O pr hs hn1
  obtain ⟨b1, b2, b3⟩ := sp_stock_i V1 (t := x)
  have em : (m + sp_min W1 x r).toInt = m.toInt + (sp_min W1 x r).toInt := i_add (by omega) (by omega)
  have es : sp_stock W1 x - sp_min W1 x r = sp_stock (sp_lend W1 r (sp_min W1 x r) (sp_owe W1 (sp_lF W1 r (sp_min W1 x r)))) x := by
    refine Int32.toInt_inj.mp ?_
    rw [a4, i_sub (by omega) (by omega)]
  refine ⟨sp_rm P r, _, s1, rfl, es, ?_, a3, a5, ?_, ?_, Or.inr ⟨?_, D⟩, A, R⟩
  · rw [show 60 - (i + 1) = 59 - i by omega]
    exact E
  · show 0 ≤ (m + sp_min W1 x r).toInt
    omega
  · show (m + sp_min W1 x r).toInt + _ ≤ 100000
    omega
  · intro y
    have y : (m + sp_min W1 x r) = 0 := y
    rw [y] at em
    have : (0 : Int32).toInt = 0 := rfl
    omega
theorem cz_aLoop (V : vz W) {x : Int32} {i : Nat} {z : Int32 × Int32 × Int32 × m_H} (hi : i < 60) (I : cz_aI s0 W x i z) : k_ok (F11_allot_34b 200 z) (m_KK (cz_aI s0 W x (i + 1)) (cz_aQ s0 W x)) := by
  obtain ⟨rest, m, k, h⟩ := z
  obtain ⟨P, W1, s1, q1, q2, E, V1, O, m0, mb, D, A, R⟩ := I
  dsimp only at q1 q2 E m0 mb D R
  subst q1 q2
  have hn3 : wz_n W1 3 ≤ 60 := V1.c (k := 3) (by omega)
  rw [show 60 - i = (59 - i) + 1 by omega, sp_al] at E
  unfold F11_allot_34b
  dsimp only
  refine k_f (show ¬ (60 : Int32) ≤ nI i from nI_ge hi (by decide)) (k_if (fun q => ?_) (fun q => ?_))
  · rw [if_pos (Or.inl q)] at E
    exact k_s (cz_aQ.of E D R)
  refine k_e (nz_gr200_4 R) (k_e (nz_gr223_8 R) (k_e (cz_full R (k := 2) (by decide) rfl) ?_))
  by_cases hn : wz_n W1 2 < 100
  case neg =>
    rw [if_pos (Or.inr hn)] at E
    rw [if_neg (show ¬ wz_n W1 2 < wz_cap 2 from hn)]
    exact k_f (by decide) (k_s (cz_aQ.of E D R))
  rw [if_neg (fun y => y.elim q (fun y => y hn))] at E
  rw [if_pos (show wz_n W1 2 < wz_cap 2 from hn)]
  refine k_t rfl (k_e (nz_gr200_2 R) (k_e (nz_gr200_4 R) (k_b (cz_next R A hn3 (fun j pj => (O j pj).1)) ?_)))
  rintro _ ⟨h1, rfl, hx⟩
  cases hb : sp_nx W1 (sp_cM W) P 60 with
  | none =>
    rw [hb] at hx E
    dsimp only at hx E
    subst hx
    exact k_t rfl (k_s (cz_aQ.of E D R))
  | some r =>
    rw [hb] at hx E
    dsimp only at hx E
    obtain ⟨hr60, pr⟩ := sp_nx_P 60 hb
    obtain ⟨o1, o2, o3⟩ := O r pr
    have D2 := D.ui (f := upd (s1.2.1 213) r 0)
    have A2 := A.rm (r := r)
    generalize tz_ui s1 213 (upd (s1.2.1 213) r 0) = s2 at hx D2 A2
    obtain ⟨l, t, el, hl1, hl, et, ht⟩ := V1.ask o1
    refine k_f (show ¬ nI r = -1 from fun e => absurd (show nI r < 0 by rw [e]; decide) (nI_pos (by omega))) (k_e (nz_gr200_4 hx) (k_e (cz_lack hx o1) (k_e (nz_gr200_2 hx) (k_e (nz_gr200_4 hx) ?_))))
    have hF : sp_fx W1 l t (sp_min W1 x r) 0 = sp_lF W1 r (sp_min W1 x r) := by
      unfold sp_lF
      rw [el, et, nI_clamp (n := l) (by omega), nI_clamp (n := t) (by omega)]
    refine k_b (cz_hear hx V1 (c := sp_min W1 x r) rfl o1 el hl et ht) ?_
    rintro h2 ⟨w, K, L⟩
    rw [hF] at K
    refine k_e (nz_gr200_2 K.N) (k_b (cz_why K L V1) ?_)
    rintro _ ⟨h3, rfl, K3⟩
    refine k_if (fun qw => ?_) (fun qw => ?_)
    · rw [if_pos qw] at E
      refine k_s ⟨sp_rm P r, W1, s2, (nI_succ i).symm, rfl, ?_, V1, fun j pj => O j (sp_rm_t pj).1, m0, mb, D2, A2, K3.N⟩
      rw [show 60 - (i + 1) = 59 - i by omega]
      exact E
    · rw [if_neg qw] at E
      refine k_if (fun qm => ?_) (fun qm => ?_)
      · refine k_b (cz_remK K3 V1) ?_
        rintro h4 ⟨s3, B, K4⟩
        have D3 : tz_fo s0 s3 ∧ tz_HR s3 253 W ∧ s3.1 200 9 = 1 := by
          rcases D2 with ⟨a, b, c⟩ | ⟨a, -⟩
          · subst b
            exact ⟨tz_fd.fo c B.1, B.2.1, B.2.2⟩
          · exact absurd qm a
        refine k_m (cz_alend K4.N K4 (L.base B) V1 o1 hn) ?_
        rintro _ ⟨h5, rfl, R5⟩
        exact cz_aStep V hn V1 O pr q m0 mb rfl E hi D3 (A2.base B.1) R5
      · have D3 : tz_fo s0 s2 ∧ tz_HR s2 253 W ∧ s2.1 200 9 = 1 := by
          rcases D2 with ⟨a, -⟩ | ⟨a, b⟩
          · exact absurd a qm
          · exact b
        refine k_m (cz_alend K3.N K3 L V1 o1 hn) ?_
        rintro _ ⟨h5, rfl, R5⟩
        exact cz_aStep V hn V1 O pr q m0 mb rfl E hi D3 A2 R5
theorem cz_allot (R : cz_N s0 W h) (V : vz W) {x : Int32} : k_ok (F11_allot 200 x h) (fz_D s0 W (sp_allot W x)) := by
  unfold F11_allot F11_allot_0 sp_allot
  refine k_g (nz_io200 R) ?_
  refine k_ts (fun c1 => ?_) (fun c1 => k_s (by rw [if_neg c1]; exact ⟨_, rfl, R⟩))
  refine k_te R (fun c2 => ?_) (fun c2 => k_s (by rw [if_pos c1, if_neg c2]; exact ⟨_, rfl, R⟩))
  rw [if_pos c1, if_pos c2]
  refine k_e (nz_gr200_2 R) (k_e (nz_gr200_4 R) (k_b (cz_call R V) ?_))
  rintro h1 ⟨s1, fc, R1, A⟩
  refine k_e (nz_gr200_4 R1) (k_e (cz_stock R1 V) ?_)
  unfold F11_allot_34
  obtain ⟨b1, b2, b3⟩ := sp_stock_i V (t := x)
  refine wh_i (n := 60) (cz_aI s0 W x) (cz_aQ s0 W x) (fun i z hi I => cz_aLoop V hi I) ?_ m_N 0 _ (N_lt (by decide)) (Nat.zero_le _) ⟨sp_cP W x, W, s1, rfl, rfl, rfl, V, fun i hi => sp_cP_iff.mp hi, (show (0 : Int) ≤ (0 : Int32).toInt by decide), ?_, Or.inl ⟨rfl, rfl, fc⟩, A, R1⟩
  · rintro ⟨rest, m, k, h2⟩ ⟨P, W1, s2, q1, q2, E, V1, O, m0, mb, D, A2, R2⟩
    dsimp only at q1 E D R2
    subst q1
    unfold F11_allot_34b
    dsimp only
    exact k_t (show (60 : Int32) ≤ nI 60 by decide) (k_s (cz_aQ.of E D R2))
  · have : (0 : Int32).toInt = 0 := rfl
    show (0 : Int32).toInt + (sp_stock W x).toInt ≤ 100000
    omega
end
