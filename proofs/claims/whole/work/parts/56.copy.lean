/-! ===== a house copied upon another; what is remembered ===== -/
def tz_fb (b : Nat) (s s' : tz_S) : Prop := (∀ a k, a < b ∨ b + 30 ≤ a → s'.1 a k = s.1 a k) ∧ (∀ a, a < b ∨ b + 30 ≤ a → s'.2.1 a = s.2.1 a) ∧ s'.2.2.1 = s.2.2.1 ∧ (∀ a, a < b ∨ b + 30 ≤ a → s'.2.2.2.1 a = s.2.2.2.1 a) ∧ s'.2.2.2.2 = s.2.2.2.2
theorem tz_fb.refl {b : Nat} {s : tz_S} : tz_fb b s s := ⟨fun _ _ _ => rfl, fun _ _ => rfl, rfl, fun _ _ => rfl, rfl⟩
theorem tz_fb.trans {b : Nat} {s s1 s2 : tz_S} (h : tz_fb b s s1) (h' : tz_fb b s1 s2) : tz_fb b s s2 :=
  ⟨fun a k q => (h'.1 a k q).trans (h.1 a k q), fun a q => (h'.2.1 a q).trans (h.2.1 a q), h'.2.2.1.trans h.2.2.1, fun a q => (h'.2.2.2.1 a q).trans (h.2.2.2.1 a q), h'.2.2.2.2.trans h.2.2.2.2⟩
theorem tz_fb.uf {b : Nat} {s : tz_S} {a k : Nat} {v : Int32} (h1 : b ≤ a) (h2 : a < b + 30) : tz_fb b s (tz_uf s a k v) :=
  ⟨fun x y q => if_neg (fun e => by omega), fun _ _ => rfl, rfl, fun _ _ => rfl, rfl⟩
theorem tz_fb.ui {b : Nat} {s : tz_S} {a : Nat} {f : Nat → Int32} (h1 : b ≤ a) (h2 : a < b + 30) : tz_fb b s (tz_ui s a f) :=
  ⟨fun x y q => rfl, fun x q => if_neg (fun e => by omega), rfl, fun _ _ => rfl, rfl⟩
theorem tz_fb.ua {b : Nat} {s : tz_S} {a : Nat} {f : Nat → Option Nat} (h1 : b ≤ a) (h2 : a < b + 30) : tz_fb b s (tz_ua s a f) :=
  ⟨fun x y q => rfl, fun x q => rfl, rfl, fun x q => if_neg (fun e => by omega), rfl⟩
def tz_hb (b : Nat) : Prop := b = 223 ∨ b = 253 ∨ b = 283
def tz_hl (b : Nat) : List (Option Nat) := [none, none, none, none, some (b + 1), none, some (b + 2), some (b + 4), some (b + 6), some (b + 8), some (b + 10), some (b + 12), some (b + 14), some (b + 16), some (b + 18), some (b + 20), some (b + 22), some (b + 24), some (b + 26), some (b + 28)]
theorem tz_shb {b : Nat} (hb : tz_hb b) : tz_sh b = some (.inr (3, tz_hl b)) := by
  rcases hb with rfl | rfl | rfl <;> rfl
theorem tz_sha {b : Nat} (hb : tz_hb b) : tz_sh (b + 1) = some (.inl (5, 10)) := by
  rcases hb with rfl | rfl | rfl <;> rfl
theorem tz_grb {b k r : Nat} {s : tz_S} (hb : tz_hb b) (hk : (tz_hl b)[k]? = some (some r)) (h1 : 2 ≤ r) (h2 : r < 1000) : m_gr (tz_H s) b 3 k = some r := tz_gr (tz_shb hb) hk (by
  unfold tz_fv
  split
  · next e => cases e
  · next e => cases e; omega
  · next e => cases e; omega
  · next e => cases e; rw [if_neg (by omega)]) rfl
theorem tz_hb_d {b1 b2 : Nat} (h1 : tz_hb b1) (h2 : tz_hb b2) (hn : ¬ b1 = b2) : b1 + 30 ≤ b2 ∨ b2 + 30 ≤ b1 := by
  rcases h1 with rfl | rfl | rfl <;> rcases h2 with rfl | rfl | rfl <;> omega
theorem tz_hb_r {b : Nat} (h : tz_hb b) : 223 ≤ b ∧ b ≤ 283 := by
  rcases h with rfl | rfl | rfl <;> omega
theorem tz_fb.off {b1 b2 : Nat} {s s' : tz_S} {W : m_W} (F : tz_fb b1 s s') (h1 : tz_hb b1) (h2 : tz_hb b2) (hn : ¬ b1 = b2) (H : tz_HR s b2 W) : tz_HR s' b2 W := by
  have d := tz_hb_d h1 h2 hn
  exact H.cong (fun a k q1 q2 => F.1 a k (by omega)) (fun a q1 q2 => F.2.1 a (by omega)) (F.2.2.2.1 _ (by omega)) (congrArg (fun x => x.2.1) F.2.2.2.2)
theorem tz_Ao_io {s : tz_S} {a : Nat} (h : tz_Ao s.2.2.2.2.2.1 a) : m_isO (tz_H s) 0 a = true := by
  obtain ⟨h1, fs, e⟩ := h
  unfold m_isO
  rw [tz_x h1, e]
  rfl
def tz_cpI (b1 : Nat) (W : m_W) (s : tz_S) (g : Nat → Int32) (aa : Nat → Nat → Option Nat) (k : Nat) (s1 : tz_S) : Prop := tz_fb b1 s s1 ∧ s1.1 b1 = g ∧ s1.2.2.2.1 = aa ∧ ∀ j, j < k → tz_R s1 (b1 + 2 + 2 * j) (b1 + 3 + 2 * j) (wz_wid j) (wz_n W j) (fun r c => W j r (wz_pi j c))
theorem tz_uf_s {s : tz_S} {a k : Nat} {v : Int32} : (tz_uf s a k v).1 a k = v := if_pos ⟨rfl, rfl⟩
theorem tz_uf_n {s : tz_S} {a k j : Nat} {v : Int32} (h : ¬ j = k) : (tz_uf s a k v).1 a j = s.1 a j := if_neg (fun q => h q.2)
section
variable {s : tz_S} {b1 b2 : Nat} {W : m_W} {g : Nat → Int32} {aa : Nat → Nat → Option Nat}
theorem tz_cp1 (h1 : tz_hb b1) (h2 : tz_hb b2) (hn : ¬ b1 = b2) (H : tz_HR s b2 W) {k v w : Nat} {s1 : tz_S} (hk : k < 14) (hv : v = b1 + 2 + 2 * k) (hw : w = b2 + 2 + 2 * k) (I : tz_cpI b1 W s g aa k s1) : k_ok (F8_copyFrom v w (tz_H s1)) (fun h => ∃ s2, h = tz_H s2 ∧ tz_cpI b1 W s g aa (k + 1) s2) := by
  subst hv hw
  have r1 := tz_hb_r h1
  have r2 := tz_hb_r h2
  have d := tz_hb_d h1 h2 hn
  obtain ⟨F, e1, e2, D⟩ := I
  obtain ⟨t1, t2, ⟨t3, t4, t5, t6, t7⟩, t8, t9⟩ := (F.off h1 h2 hn H).T h2 hk
  obtain ⟨u1, u2, u3⟩ := T_sh h1 k (List.mem_range.mpr hk)
  obtain ⟨n, en⟩ : ∃ n, wz_n W k = n := ⟨_, rfl⟩
  rw [en] at t8 t9
  have m1 : n * wz_wid k ≤ wz_cap k * wz_wid k := Nat.mul_le_mul_right _ t9
  have hc : (nI (n * wz_wid k)).toNatClampNeg = n * wz_wid k := nI_clamp (by omega)
  unfold F8_copyFrom F8_copyFrom_0
  refine k_g (tz_io u1) (k_e (T_n t1 t8) (k_e (T_w t1) ?_))
  rw [nI_mul]
  have g1 := nI_nlt m1 (show wz_cap k * wz_wid k < 2 ^ 31 by omega)
  refine k_f (nI_pos (by omega)) (k_e (T_ca u1 (by omega) (by omega)) (k_e (T_le u2) (k_f g1 (k_e (T_ca t1 (by omega) (by omega)) (k_e (T_le t2) (k_f g1 ?_))))))
  refine k_e (T_ca t1 (by omega) (by omega)) (k_e (T_ca u1 (by omega) (by omega)) (k_e (tz_cpy t2 u2 (nI_pos (by omega)) (by rw [hc]; exact m1) (by rw [hc]; exact m1)) ?_))
  refine k_e (T_n (ca := b2 + 3 + 2 * k) (f := fun r c => W k r (wz_pi k c)) (w := wz_wid k) (n := n) t1 ⟨t8.1, fun r c hr hc => (congrFun (tz_ui_n (s := s1) (by omega)) _).trans (t8.2 r c hr hc)⟩) (k_e (tz_pf u1 rfl rfl) (k_s ⟨_, rfl, ?_⟩))
  refine ⟨F.trans ((tz_fb.ui (by omega) (by omega)).trans (tz_fb.uf (by omega) (by omega))), ?_, e2, ?_⟩
  · rw [← e1]
    funext j
    exact if_neg (fun q => by omega)
  · intro j hj
    rcases Nat.lt_succ_iff_lt_or_eq.mp hj with q | q
    · obtain ⟨d1, d2⟩ := D j q
      refine ⟨(if_neg (fun q => by omega)).trans d1, fun r c hr hc => ?_⟩
      rw [← d2 r c hr hc]
      exact congrFun (tz_ui_n (s := s1) (by omega)) _
    · subst q
      rw [en]
      refine ⟨if_pos ⟨rfl, rfl⟩, fun r c hr hc' => ?_⟩
      have lt : r * wz_wid j + c < n * wz_wid j := by
        have := Nat.mul_le_mul_right (wz_wid j) (show r + 1 ≤ n by omega)
        rw [Nat.add_mul, Nat.one_mul] at this
        omega
      rw [← t8.2 r c hr hc']
      refine (congrFun (tz_ui_a (s := s1)) _).trans ?_
      unfold va_cpy
      rw [hc, if_pos ⟨by omega, by omega⟩]
      rw [Nat.sub_zero, Nat.zero_add]
theorem tz_copy (h1 : tz_hb b1) (h2 : tz_hb b2) (hn : ¬ b1 = b2) (H : tz_HR s b2 W) (he : W 14 0 3 = 0 ∨ W 14 0 3 = 1) : k_ok (F3_copyFrom b1 b2 (tz_H s)) (fun h => ∃ s', h = tz_H s' ∧ tz_fb b1 s s' ∧ tz_HR s' b1 W) := by
  have d := tz_hb_d h1 h2 hn
  have r1 := tz_hb_r h1
  have r2 := tz_hb_r h2
  obtain ⟨⟨f0, f1, f2, f3⟩, ⟨g1, g2, g3, g4, g5⟩, H3⟩ := id H
  unfold F3_copyFrom F3_copyFrom_0
  have sf : ∀ {s1 : tz_S} {j : Nat}, tz_fb b1 s s1 → (tz_hl b2)[j]? = some none → m_gi (tz_H s1) b2 3 j = some (s.1 b2 j) := fun F e => (tz_gi (tz_shb h2) e).trans (congrArg some (F.1 _ _ (by omega)))
  refine k_g (tz_io (tz_shb h1)) ?_
  refine k_e (sf tz_fb.refl rfl) (k_e (tz_pf (tz_shb h1) rfl rfl) ?_)
  have F1 : tz_fb b1 s (tz_uf s b1 0 (s.1 b2 0)) := tz_fb.uf (by omega) (by omega)
  refine k_e (sf F1 rfl) (k_e (tz_pf (tz_shb h1) rfl rfl) ?_)
  have F2 := F1.trans (tz_fb.uf (b := b1) (a := b1) (k := 1) (v := s.1 b2 1) (by omega) (by omega))
  refine k_e (sf F2 rfl) (k_e (tz_pf (tz_shb h1) rfl rfl) ?_)
  have F3 := F2.trans (tz_fb.uf (b := b1) (a := b1) (k := 2) (v := s.1 b2 2) (by omega) (by omega))
  refine k_e (sf F3 rfl) (k_e (tz_pf (tz_shb h1) rfl (by rw [f3]; rcases he with e | e <;> rw [e] <;> rfl)) ?_)
  have F4 := F3.trans (tz_fb.uf (b := b1) (a := b1) (k := 3) (v := s.1 b2 3) (by omega) (by omega))
  refine k_e (sf F4 rfl) (k_e (tz_pf (tz_shb h1) rfl rfl) ?_)
  have F5 := F4.trans (tz_fb.uf (b := b1) (a := b1) (k := 5) (v := s.1 b2 5) (by omega) (by omega))
  have E : ∀ j, j = 0 ∨ j = 1 ∨ j = 2 ∨ j = 3 ∨ j = 5 → (tz_uf (tz_uf (tz_uf (tz_uf (tz_uf s b1 0 (s.1 b2 0)) b1 1 (s.1 b2 1)) b1 2 (s.1 b2 2)) b1 3 (s.1 b2 3)) b1 5 (s.1 b2 5)).1 b1 j = s.1 b2 j := by
    rintro j (rfl | rfl | rfl | rfl | rfl)
    · rw [tz_uf_n (by decide), tz_uf_n (by decide), tz_uf_n (by decide), tz_uf_n (by decide), tz_uf_s]
    · rw [tz_uf_n (by decide), tz_uf_n (by decide), tz_uf_n (by decide), tz_uf_s]
    · rw [tz_uf_n (by decide), tz_uf_n (by decide), tz_uf_s]
    · rw [tz_uf_n (by decide), tz_uf_s]
    · rw [tz_uf_s]
  generalize tz_uf (tz_uf (tz_uf (tz_uf (tz_uf s b1 0 (s.1 b2 0)) b1 1 (s.1 b2 1)) b1 2 (s.1 b2 2)) b1 3 (s.1 b2 3)) b1 5 (s.1 b2 5) = s5 at F5 E
  unfold F3_copyFrom_42
  refine wh_i (n := 10) (fun (i : Nat) (z : Int32 × m_H) => z.1 = nI i ∧ ∃ s1, z.2 = tz_H s1 ∧ tz_fb b1 s s1 ∧ s1.1 b1 = s5.1 b1 ∧ ∀ j, j < i → s1.2.2.2.1 (b1 + 1) j = s.2.2.2.1 (b2 + 1) j) _ ?_ ?_ m_N 0 (0, tz_H s5) (N_lt (by decide)) (Nat.zero_le _) ⟨rfl, s5, rfl, F5, rfl, fun j hj => absurd hj (by omega)⟩
  · rintro i ⟨x, y⟩ hi ⟨q1, s1, q2, F, e1, D⟩
    dsimp only at q1 q2
    subst q1 q2
    unfold F3_copyFrom_42b
    refine k_e (tz_grb h1 rfl (by omega) (by omega)) (k_e (tz_len (tz_sha h1) rfl) (k_f (show ¬ nI 10 ≤ nI i from nI_ge hi (by decide)) ?_))
    refine k_e (tz_grb h2 rfl (by omega) (by omega)) (k_e (tz_len (tz_sha h2) rfl) (k_f (show ¬ nI 10 ≤ nI i from nI_ge hi (by decide)) ?_))
    have ci : (nI i).toNatClampNeg = i := nI_clamp (by omega)
    have aeq : s1.2.2.2.1 (b2 + 1) = s.2.2.2.1 (b2 + 1) := F.2.2.2.1 _ (by omega)
    refine k_e (tz_grb h1 rfl (by omega) (by omega)) (k_e (tz_grb h2 rfl (by omega) (by omega)) (k_e (tz_aq (tz_sha h2) (nI_in1 hi (by decide))) (k_e (tz_sq (tz_sha h1) (nI_in1 hi (by decide)) ?_) (k_s ⟨(Int32.ofNat_add i 1).symm, _, rfl, F.trans (tz_fb.ua (a := b1 + 1) (by omega) (by omega)), e1, ?_⟩))))
    · intro r hr
      rw [ci, aeq] at hr
      have := g5 i r hi hr
      rw [← show s1.2.2.2.2.2.1 = s.2.2.2.2.2.1 from congrArg (fun x => x.2.1) F.2.2.2.2] at this
      exact tz_Ao_io this
    · intro j hj
      show (if b1 + 1 = b1 + 1 then va_up (s1.2.2.2.1 (b1 + 1)) (nI i).toNatClampNeg (s1.2.2.2.1 (b2 + 1) (nI i).toNatClampNeg) else s1.2.2.2.1 (b1 + 1)) j = _
      rw [if_pos rfl, ci, aeq]
      unfold va_up
      by_cases q : j = i
      · rw [if_pos q, q]
      · rw [if_neg q, D j (by omega)]
  · rintro ⟨x, y⟩ ⟨q1, s1, q2, F, e1, D⟩
    dsimp only at q1 q2
    subst q1 q2
    unfold F3_copyFrom_42b
    refine k_e (tz_grb h1 rfl (by omega) (by omega)) (k_e (tz_len (tz_sha h1) rfl) (k_t (show nI 10 ≤ nI 10 by decide) ?_))
    suffices P : k_ok (F3_copyFrom_78 b1 b2 (tz_H s1)) (fun h => ∃ s', h = tz_H s' ∧ tz_fb b1 s s' ∧ tz_HR s' b1 W) by
      obtain ⟨x, e, hx⟩ := P
      exact ⟨.inr x, by rw [e]; rfl, hx⟩
    unfold F3_copyFrom_78
    have I : tz_cpI b1 W s (s1.1 b1) s1.2.2.2.1 0 s1 := ⟨F, rfl, rfl, fun j hj => absurd hj (by omega)⟩
    refine k_e (tz_grb h1 (k := 6) rfl (by omega) (by omega)) (k_e (tz_grb h2 (k := 6) rfl (by omega) (by omega)) (k_b (tz_cp1 h1 h2 hn H (k := 0) (by decide) rfl rfl I) ?_))
    clear I
    rintro _ ⟨s2, rfl, I⟩
    refine k_e (tz_grb h1 (k := 7) rfl (by omega) (by omega)) (k_e (tz_grb h2 (k := 7) rfl (by omega) (by omega)) (k_b (tz_cp1 h1 h2 hn H (k := 1) (by decide) rfl rfl I) ?_))
    clear I
    rintro _ ⟨s2, rfl, I⟩
    refine k_e (tz_grb h1 (k := 8) rfl (by omega) (by omega)) (k_e (tz_grb h2 (k := 8) rfl (by omega) (by omega)) (k_b (tz_cp1 h1 h2 hn H (k := 2) (by decide) rfl rfl I) ?_))
    clear I
    rintro _ ⟨s2, rfl, I⟩
    refine k_e (tz_grb h1 (k := 9) rfl (by omega) (by omega)) (k_e (tz_grb h2 (k := 9) rfl (by omega) (by omega)) (k_b (tz_cp1 h1 h2 hn H (k := 3) (by decide) rfl rfl I) ?_))
    clear I
    rintro _ ⟨s2, rfl, I⟩
    refine k_e (tz_grb h1 (k := 10) rfl (by omega) (by omega)) (k_e (tz_grb h2 (k := 10) rfl (by omega) (by omega)) (k_b (tz_cp1 h1 h2 hn H (k := 4) (by decide) rfl rfl I) ?_))
    clear I
    rintro _ ⟨s2, rfl, I⟩
    refine k_e (tz_grb h1 (k := 11) rfl (by omega) (by omega)) (k_e (tz_grb h2 (k := 11) rfl (by omega) (by omega)) (k_b (tz_cp1 h1 h2 hn H (k := 5) (by decide) rfl rfl I) ?_))
    clear I
    rintro _ ⟨s2, rfl, I⟩
    refine k_e (tz_grb h1 (k := 12) rfl (by omega) (by omega)) (k_e (tz_grb h2 (k := 12) rfl (by omega) (by omega)) (k_b (tz_cp1 h1 h2 hn H (k := 6) (by decide) rfl rfl I) ?_))
    clear I
    rintro _ ⟨s2, rfl, I⟩
    refine k_e (tz_grb h1 (k := 13) rfl (by omega) (by omega)) (k_e (tz_grb h2 (k := 13) rfl (by omega) (by omega)) (k_b (tz_cp1 h1 h2 hn H (k := 7) (by decide) rfl rfl I) ?_))
    clear I
    rintro _ ⟨s2, rfl, I⟩
    refine k_e (tz_grb h1 (k := 14) rfl (by omega) (by omega)) (k_e (tz_grb h2 (k := 14) rfl (by omega) (by omega)) (k_b (tz_cp1 h1 h2 hn H (k := 8) (by decide) rfl rfl I) ?_))
    clear I
    rintro _ ⟨s2, rfl, I⟩
    refine k_e (tz_grb h1 (k := 15) rfl (by omega) (by omega)) (k_e (tz_grb h2 (k := 15) rfl (by omega) (by omega)) (k_b (tz_cp1 h1 h2 hn H (k := 9) (by decide) rfl rfl I) ?_))
    clear I
    rintro _ ⟨s2, rfl, I⟩
    refine k_e (tz_grb h1 (k := 16) rfl (by omega) (by omega)) (k_e (tz_grb h2 (k := 16) rfl (by omega) (by omega)) (k_b (tz_cp1 h1 h2 hn H (k := 10) (by decide) rfl rfl I) ?_))
    clear I
    rintro _ ⟨s2, rfl, I⟩
    refine k_e (tz_grb h1 (k := 17) rfl (by omega) (by omega)) (k_e (tz_grb h2 (k := 17) rfl (by omega) (by omega)) (k_b (tz_cp1 h1 h2 hn H (k := 11) (by decide) rfl rfl I) ?_))
    clear I
    rintro _ ⟨s2, rfl, I⟩
    refine k_e (tz_grb h1 (k := 18) rfl (by omega) (by omega)) (k_e (tz_grb h2 (k := 18) rfl (by omega) (by omega)) (k_b (tz_cp1 h1 h2 hn H (k := 12) (by decide) rfl rfl I) ?_))
    clear I
    rintro _ ⟨s2, rfl, I⟩
    refine k_e (tz_grb h1 (k := 19) rfl (by omega) (by omega)) (k_e (tz_grb h2 (k := 19) rfl (by omega) (by omega)) (k_b (tz_cp1 h1 h2 hn H (k := 13) (by decide) rfl rfl I) ?_))
    clear I
    rintro _ ⟨s2, rfl, I⟩
    refine k_s ⟨_, rfl, I.1, ⟨?_, ⟨?_, g2, g3, ?_, ?_⟩, fun k hk => ⟨I.2.2.2 k hk, (H3 k hk).2⟩⟩⟩
    · rw [I.2.1, e1, E 0 (by decide), E 1 (by decide), E 2 (by decide), E 3 (by decide)]
      exact ⟨f0, f1, f2, f3⟩
    · rw [I.2.1, e1, E 5 (by decide)]
      exact g1
    · rw [I.2.2.1, show _ = s.2.2.2.2.2.1 from congrArg (fun x => x.2.1) I.1.2.2.2.2]
      intro i hi
      rw [D i (by omega)]
      exact g4 i hi
    · rw [I.2.2.1, show _ = s.2.2.2.2.2.1 from congrArg (fun x => x.2.1) I.1.2.2.2.2]
      intro i a hi
      rw [D i hi]
      exact g5 i a hi
end
/-- between two calls: all but the house of now, the house before, and that there is one -/
def tz_fd (s s' : tz_S) : Prop := (∀ a k, (a < 201 ∨ 283 ≤ a) → ¬ (a = 200 ∧ k = 9) → s'.1 a k = s.1 a k) ∧ s'.1 201 1 = s.1 201 1 ∧ (∀ a, a < 201 ∨ 283 ≤ a ∨ a = 202 ∨ a = 212 ∨ a = 213 → s'.2.1 a = s.2.1 a) ∧ (∀ a, a < 201 ∨ 283 ≤ a → s'.2.2.1 a = s.2.2.1 a ∧ s'.2.2.2.1 a = s.2.2.2.1 a) ∧ s'.2.2.2.2 = s.2.2.2.2
theorem tz_fd.of {s0 s s1 s2 : tz_S} (h : tz_fr s0 s) (h' : tz_fb 253 s s1) (h2 : s2 = tz_uf s1 200 9 1) : tz_fd s0 s2 := by
  subst h2
  refine ⟨fun a k q q1 => ?_, ?_, fun a q => ?_, fun a q => ⟨?_, ?_⟩, h'.2.2.2.2.trans h.2.2.2.2⟩
  · exact (if_neg q1).trans ((h'.1 a k (by omega)).trans (h.1 a k (by omega)))
  · exact (if_neg (t := (1 : Int32)) (show ¬ (201 = 200 ∧ 1 = 9) by decide)).trans ((h'.1 201 1 (by omega)).trans h.2.1)
  · exact (h'.2.1 a (by omega)).trans (h.2.2.1 a (by omega))
  · exact (congrFun h'.2.2.1 a).trans (h.2.2.2.1 a (by omega)).1
  · exact (h'.2.2.2.1 a (by omega)).trans (h.2.2.2.1 a (by omega)).2
/-- the base after what was was remembered -/
def cz_B (s0 : tz_S) (W : m_W) (s1 : tz_S) : Prop := tz_fd s0 s1 ∧ tz_HR s1 253 W ∧ s1.1 200 9 = 1
/-- something was done: W was remembered, W1 is now -/
def cz_D (s0 : tz_S) (W W1 : m_W) (h : m_H) : Prop := ∃ s1, cz_B s0 W s1 ∧ cz_N s1 W1 h
section
variable {s0 s : tz_S} {th : Int32} {W : m_W} {h : m_H} {F : Nat → Int32} {w : Option Nat}
theorem cz_rem0 (H : tz_HR s 223 W) (he : W 14 0 3 = 0 ∨ W 14 0 3 = 1) : k_ok (F11_remember 200 (tz_H s)) (fun h => ∃ s1, h = tz_H (tz_uf s1 200 9 1) ∧ tz_fb 253 s s1 ∧ tz_HR s1 253 W) := by
  unfold F11_remember F11_remember_0
  refine k_g io_200 (k_e gr_200_5 (k_e gr_200_4 (k_b (tz_copy (Or.inr (Or.inl rfl)) (Or.inl rfl) (by decide) H he) ?_)))
  rintro _ ⟨s1, rfl, F, H1⟩
  exact k_e (pf_200_9 (Or.inr rfl)) (k_s ⟨s1, rfl, F, H1⟩)
theorem cz_rem (R : cz_N s0 W h) (V : vz W) : k_ok (F11_remember 200 h) (fun h1 => ∃ s1, cz_B s0 W s1 ∧ cz_N s1 W h1) := by
  obtain ⟨s, rfl, H, fr⟩ := R
  obtain ⟨_, e, s1, rfl, F, H1⟩ := cz_rem0 H V.en
  refine ⟨_, e, _, ⟨tz_fd.of fr F rfl, ?_, tz_uf_s⟩, _, rfl, ?_, tz_fr.refl⟩
  · exact H1.cong (fun a k q _ => if_neg (fun x => by omega)) (fun _ _ _ => rfl) rfl rfl
  · exact (F.off (Or.inr (Or.inl rfl)) (Or.inl rfl) (by decide) H).cong (fun a k q _ => if_neg (fun x => by omega)) (fun _ _ _ => rfl) rfl rfl
theorem cz_remK (K : cz_K s0 W F w h) (V : vz W) : k_ok (F11_remember 200 h) (fun h1 => ∃ s1, cz_B s0 W s1 ∧ cz_K s1 W F w h1) := by
  obtain ⟨s, rfl, H, fr, hF, hw⟩ := K
  obtain ⟨_, e, s1, rfl, G, H1⟩ := cz_rem0 H V.en
  refine ⟨_, e, _, ⟨tz_fd.of fr G rfl, ?_, tz_uf_s⟩, _, rfl, ?_, tz_fr.refl, fun i hi => ?_, ?_⟩
  · exact H1.cong (fun a k q _ => if_neg (fun x => by omega)) (fun _ _ _ => rfl) rfl rfl
  · exact (G.off (Or.inr (Or.inl rfl)) (Or.inl rfl) (by decide) H).cong (fun a k q _ => if_neg (fun x => by omega)) (fun _ _ _ => rfl) rfl rfl
  · exact (congrFun (G.2.1 214 (by omega)) i).trans (hF i hi)
  · exact (congrFun (G.2.2.2.1 211 (by omega)) 0).trans hw
theorem cz_L.base {s1 : tz_S} (L : cz_L s0 W w) (B : cz_B s0 W s1) : cz_L s1 W w := by
  have e : s1.2.2.2.2.2.1 = s0.2.2.2.2.2.1 := congrArg (fun x => x.2.1) B.1.2.2.2.2
  unfold cz_L at L ⊢
  rw [e]
  exact L
/-- the reference -/
def tz_fe (s s' : tz_S) : Prop := (∀ a k, ¬ (a = 317 ∧ (k = 0 ∨ k = 5 ∨ k = 8 ∨ k = 9 ∨ k = 10 ∨ k = 11 ∨ k = 14 ∨ k = 23)) → s'.1 a k = s.1 a k) ∧ (∀ a, ¬ (a = 318 ∨ a = 320 ∨ 322 ≤ a ∧ a ≤ 331 ∧ ¬ (a = 325 ∨ a = 326)) → s'.2.1 a = s.2.1 a) ∧ (∀ a, ¬ (a = 323 ∨ a = 324 ∨ a = 332) → s'.2.2.1 a = s.2.2.1 a) ∧ s'.2.2.2 = s.2.2.2
def rz_B (s0 : tz_S) (W : m_W) (s1 : tz_S) : Prop := tz_fe s0 s1 ∧ tz_WR s1 320 W ∧ s1.1 317 5 = 1
def rz_D (s0 : tz_S) (th : Int32) (W W1 : m_W) (h : m_H) : Prop := ∃ s1, rz_B s0 W s1 ∧ rz_N s1 th W1 h
theorem rz_deed0 (H : tz_WR s 318 W) : k_ok (F12_deed 317 (tz_H s)) (fun h => ∃ s1, h = tz_H s1 ∧ tz_WR s1 320 W ∧ s1.1 317 5 = 1 ∧ (∀ a k, ¬ (a = 317 ∧ k = 5) → s1.1 a k = s.1 a k) ∧ (∀ a, ¬ a = 320 → s1.2.1 a = s.2.1 a) ∧ s1.2.2 = s.2.2) := by
  unfold F12_deed F12_deed_0 F12_deed_2
  refine k_g io_317 ?_
  refine wh_i (n := 36827) (fun (i : Nat) (z : Int32 × m_H) => z.1 = nI i ∧ ∃ s1, z.2 = tz_H s1 ∧ s1.1 = s.1 ∧ (∀ a, ¬ a = 320 → s1.2.1 a = s.2.1 a) ∧ s1.2.2 = s.2.2 ∧ ∀ j, j < i → s1.2.1 320 j = s.2.1 318 j) _ ?_ ?_ m_N 0 (0, tz_H s) (N_lt (by decide)) (Nat.zero_le _) ⟨rfl, s, rfl, rfl, fun _ _ => rfl, rfl, fun j hj => absurd hj (by omega)⟩
  · rintro i ⟨x, y⟩ hi ⟨q1, s1, q2, e1, e2, e3, D⟩
    dsimp only at q1 q2
    subst q1 q2
    unfold F12_deed_2b
    refine k_f (show ¬ nI 36827 ≤ nI i from nI_ge hi (by decide)) (k_e gr_317_3 (k_e gr_317_1 (k_e (tz_ai sh_318 ⟨rfl, rfl⟩ (nI_in1 (by omega) (by decide))) (k_e (tz_si sh_320 ⟨rfl, rfl⟩ (nI_in1 (by omega) (by decide))) (k_s ⟨(Int32.ofNat_add i 1).symm, _, rfl, e1, fun a q => (tz_ui_n (s := s1) q).trans (e2 a q), e3, ?_⟩)))))
    intro j hj
    rw [tz_ui_a, nI_clamp (by omega), e2 318 (by decide)]
    by_cases q : j = i
    · subst q
      rw [pk_us]
      rfl
    · rw [pk_un q, D j (by omega)]
  · rintro ⟨x, y⟩ ⟨q1, s1, q2, e1, e2, e3, D⟩
    dsimp only at q1 q2
    subst q1 q2
    unfold F12_deed_2b
    refine k_t (show nI 36827 ≤ nI 36827 by decide) (k_e (pf_317_5 (Or.inr rfl)) (k_s ⟨_, rfl, ?_, tz_uf_s, fun a k q => (if_neg q).trans (congrFun (congrFun e1 a) k), e2, e3⟩))
    intro k r c hv
    rw [show (tz_uf s1 317 5 1).2.1 = s1.2.1 from rfl, D _ (wz_ix_lt hv)]
    exact H k r c hv
theorem rz_deed (R : rz_N s0 th W h) : k_ok (F12_deed 317 h) (fun h1 => ∃ s1, rz_B s0 W s1 ∧ rz_N s1 th W h1) := by
  obtain ⟨s, rfl, H, ht, fr⟩ := R
  obtain ⟨_, e, s1, rfl, a1, a2, a3, a4, a5⟩ := rz_deed0 H
  refine ⟨_, e, s1, ⟨⟨fun a k q => ?_, fun a q => ?_, fun a q => ?_, ?_⟩, a1, a2⟩, s1, rfl, ?_, ?_, tz_fq.refl⟩
  · exact (a3 a k (fun x => q (by omega))).trans (fr.1 a k (fun x => q (by omega)))
  · exact (a4 a (fun x => q (by omega))).trans (fr.2.1 a (fun x => q (by omega)))
  · exact (congrFun (congrArg (fun x => x.1) a5) a).trans (fr.2.2.1 a q)
  · exact (congrArg (fun x => x.2) a5).trans fr.2.2.2
  · intro k r c hv
    rw [a4 318 (by decide)]
    exact H k r c hv
  · exact (a3 317 0 (by decide)).trans ht
theorem rz_deedK (K : rz_K s0 th W F h) : k_ok (F12_deed 317 h) (fun h1 => ∃ s1, rz_B s0 W s1 ∧ rz_K s1 th W F h1) := by
  obtain ⟨s, rfl, H, ht, fr, hF⟩ := K
  obtain ⟨_, e, s1, rfl, a1, a2, a3, a4, a5⟩ := rz_deed0 H
  refine ⟨_, e, s1, ⟨⟨fun a k q => ?_, fun a q => ?_, fun a q => ?_, ?_⟩, a1, a2⟩, s1, rfl, ?_, ?_, tz_fq.refl, fun i hi => ?_⟩
  · exact (a3 a k (fun x => q (by omega))).trans (fr.1 a k (fun x => q (by omega)))
  · exact (a4 a (fun x => q (by omega))).trans (fr.2.1 a (fun x => q (by omega)))
  · exact (congrFun (congrArg (fun x => x.1) a5) a).trans (fr.2.2.1 a q)
  · exact (congrArg (fun x => x.2) a5).trans fr.2.2.2
  · intro k r c hv
    rw [a4 318 (by decide)]
    exact H k r c hv
  · exact (a3 317 0 (by decide)).trans ht
  · exact (congrFun (congrFun (congrArg (fun x => x.1) a5) 323) i).trans (hF i hi)
end
