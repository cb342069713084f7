/-! ===== feed: both sides ===== -/
def t20 (T : Nat → Nat) (n : Nat) (f : Nat → Int32) (j : Nat) : Nat := if j < n then T j else byt (f ((j - n) / 4)) (24 - 8 * ((j - n) % 4))
def f5 (a b c d e : Int32) (k : Nat) : Int32 := if k = 0 then a else if k = 1 then b else if k = 2 then c else if k = 3 then d else e
section
variable {s s1 : tz_S} {T : Nat → Nat} {n : Nat} {w a b c d e : Int32}
theorem tad5 : ∀ j, j < n + 20 → tad (tad (tad (tad (tad T n a) (n + 4) b) (n + 8) c) (n + 12) d) (n + 16) e j = t20 T n (f5 a b c d e) j := by
  intro j hj
  unfold tad t20 f5
  by_cases h16 : j < n + 16
  · rw [if_pos h16]
    by_cases h12 : j < n + 12
    · rw [if_pos h12]
      by_cases h8 : j < n + 8
      · rw [if_pos h8]
        by_cases h4 : j < n + 4
        · rw [if_pos h4]
          by_cases h0 : j < n
          · rw [if_pos h0, if_pos h0]
          · rw [if_neg h0, if_neg h0, if_pos (by omega), show (j - n) % 4 = j - n by omega]
        · rw [if_neg h4, if_neg (by omega), if_neg (by omega), if_pos (by omega), show (j - n) % 4 = j - (n + 4) by omega]
      · rw [if_neg h8, if_neg (by omega), if_neg (by omega), if_neg (by omega), if_pos (by omega), show (j - n) % 4 = j - (n + 8) by omega]
    · rw [if_neg h12, if_neg (by omega), if_neg (by omega), if_neg (by omega), if_neg (by omega), if_pos (by omega), show (j - n) % 4 = j - (n + 12) by omega]
  · rw [if_neg h16, if_neg (by omega), if_neg (by omega), if_neg (by omega), if_neg (by omega), if_neg (by omega), show (j - n) % 4 = j - (n + 16) by omega]
theorem cz_feed (t : tpe s T n) (hn : n ≤ 400) : k_ok (F11_feed 200 a b c d e (tz_H s)) (fun z => ∃ s', z.2 = tz_H s' ∧ tfe s s' ∧ ((n + 20 ≤ 400 ∧ z.1 = nI (n + 20) ∧ tpe s' (t20 T n (f5 a b c d e)) (n + 20)) ∨ (¬ n + 20 ≤ 400 ∧ z.1 = -1 ∧ tpe s' T n))) := by
  unfold F11_feed F11_feed_0
  refine k_g io_200 (k_e gr_200_0 (k_e (gi_201_1.trans (congrArg some t.1)) ?_))
  by_cases q : n + 20 ≤ 400
  · refine k_t (show nI n ≤ 380 from nI_le (b := 380) (by omega) (by decide)) (k_e gr_200_0 (k_b (cz_put t (by omega)) ?_))
    rintro _ ⟨s1, rfl, g1, t1⟩
    refine k_e gr_200_0 (k_b (cz_put t1 (by omega)) ?_)
    rintro _ ⟨s2, rfl, g2, t2⟩
    refine k_e gr_200_0 (k_b (cz_put t2 (by omega)) ?_)
    rintro _ ⟨s3, rfl, g3, t3⟩
    refine k_e gr_200_0 (k_b (cz_put t3 (by omega)) ?_)
    rintro _ ⟨s4, rfl, g4, t4⟩
    refine k_e gr_200_0 (k_b (cz_put t4 (by omega)) ?_)
    rintro _ ⟨s5, rfl, g5, t5⟩
    refine k_e gr_200_0 (k_e (gi_201_1.trans (congrArg some t5.1)) (k_s ⟨s5, rfl, g1.trans (g2.trans (g3.trans (g4.trans g5))), Or.inl ⟨q, rfl, t5.1, fun j hj => ?_⟩⟩))
    rw [t5.2 j (by omega)]
    exact congrArg nI (tad5 j hj)
  · refine k_f (show ¬ nI n ≤ 380 from fun z => absurd z (Int32.not_le.mpr (nI_lt (a := 380) (by omega) (by omega)))) (k_s ⟨s, rfl, tfe.refl, Or.inr ⟨q, rfl, t⟩⟩)
theorem t20_lt {f : Nat → Int32} (hT : ∀ j, j < n → T j < 256) : ∀ j, j < n + 20 → t20 T n f j < 256 := fun j hj => by
  unfold t20
  by_cases q : j < n
  · rw [if_pos q]; exact hT j q
  · rw [if_neg q]; exact byt_lt _ _
end
/-! the reference -/
def rfe (s s' : tz_S) : Prop := (∀ a k, ¬ (a = 317 ∧ (k = 0 ∨ k = 7)) → s'.1 a k = s.1 a k) ∧ (∀ a, ¬ (a = 321 ∨ a = 322) → s'.2.1 a = s.2.1 a) ∧ s'.2.2 = s.2.2
def tpr (s : tz_S) (T : Nat → Nat) (n : Nat) : Prop := s.1 317 7 = nI n ∧ ∀ j, j < n → s.2.1 321 j = sgb (T j)
theorem fd_i : ∀ i ∈ List.range 20, m_dv (nI i) 4 = some (nI (i / 4)) ∧ m_rm (nI i) 4 = some (nI (i % 4)) := by decide +kernel
theorem fd_s : ∀ k ∈ List.range 4, ((((24 : Int32) - 8 * nI k) &&& 31).toBitVec.smod 32).toNat = 24 - 8 * k := by decide +kernel
section
variable {s s1 : tz_S} {T : Nat → Nat} {n : Nat} {w a b c d e : Int32}
theorem rfe.refl : rfe s s := ⟨fun _ _ _ => rfl, fun _ _ => rfl, rfl⟩
theorem rfe.trans {s2 : tz_S} (h : rfe s s1) (k : rfe s1 s2) : rfe s s2 := ⟨fun a j q => (k.1 a j q).trans (h.1 a j q), fun a q => (k.2.1 a q).trans (h.2.1 a q), k.2.2.trans h.2.2⟩
theorem rfe.ui {x : Nat} {f : Nat → Int32} (hx : x = 321 ∨ x = 322) : rfe s (tz_ui s x f) := ⟨fun _ _ _ => rfl, fun a q => tz_ui_n (fun z => q (z ▸ hx)), rfl⟩
theorem rfe.uf {k : Nat} {v : Int32} (hk : k = 0 ∨ k = 7) : rfe s (tz_uf s 317 k v) := ⟨fun a j q => if_neg (fun z : a = 317 ∧ j = k => q ⟨z.1, by rw [z.2]; exact hk⟩), fun _ _ => rfl, rfl⟩
theorem f_si {k : Nat} {v : Int32} (hk : k < 5) : m_si (tz_H s) 0 322 (nI k) v = some (tz_H (tz_ui s 322 (upd (s.2.1 322) k v))) := by
  have := tz_si (s := s) (x := v) sh_322 ⟨rfl, rfl⟩ (nI_in1 (show k < 5 by omega) (by decide))
  rw [nI_clamp (by omega)] at this
  exact this
theorem f_ai {k : Nat} (hk : k < 5) : m_ai (tz_H s) 0 322 (nI k) = some (s.2.1 322 k) := (tz_ai sh_322 ⟨rfl, rfl⟩ (nI_in1 (show k < 5 by omega) (by decide))).trans (by rw [nI_clamp (by omega)])
theorem rz_feed60 {f : Nat → Int32} (t : tpr s T n) (h0 : s.1 317 0 = 0) (hf : ∀ i, i < 5 → s.2.1 322 i = f i) (hn : n + 20 ≤ 400) : k_ok (F12_feed_60 317 0 (tz_H s)) (fun z => ∃ s', z.2 = tz_H s' ∧ rfe s s' ∧ s'.1 317 0 = 0 ∧ z.1 = nI (n + 20) ∧ tpr s' (t20 T n f) (n + 20)) := by
  unfold F12_feed_60
  refine wh_i (n := 20) (fun (k : Nat) (z : Int32 × m_H) => z.1 = nI k ∧ ∃ s', z.2 = tz_H s' ∧ rfe s s' ∧ s'.1 317 0 = 0 ∧ s'.1 317 7 = nI n ∧ (∀ i, i < 5 → s'.2.1 322 i = f i) ∧ ∀ j, j < n + k → s'.2.1 321 j = sgb (t20 T n f j)) _ ?_ ?_ m_N 0 _ (N_lt (by decide)) (Nat.zero_le _) ⟨rfl, s, rfl, rfe.refl, h0, t.1, hf, fun j hj => ?_⟩
  · rintro k ⟨x, h1⟩ hk ⟨q1, s1, q2, g, e0, e7, e5, ej⟩
    dsimp only at q1 q2
    subst q1 q2
    obtain ⟨d1, d2⟩ := fd_i k (List.mem_range.mpr hk)
    unfold F12_feed_60b
    dsimp only
    refine k_f (show ¬ (20 : Int32) ≤ nI k from nI_ge (b := 20) hk (by decide)) (k_e gr_317_6 (k_e (gi_317_7.trans (congrArg some e7)) (k_e gr_317_13 (k_e d1 (k_e (f_ai (by omega)) (k_e d2 ?_))))))
    rw [e5 (k / 4) (by omega), byt_b _ _ _ (fd_s (k % 4) (List.mem_range.mpr (by omega))) (by omega), nI_add]
    refine k_e (tz_si sh_321 ⟨rfl, rfl⟩ (nI_in1 (show n + k < 400 by omega) (by decide))) ?_
    rw [nI_clamp (by omega), nar_b _ (List.mem_range.mpr (byt_lt _ _)), nI_11]
    refine k_s ⟨rfl, _, rfl, g.trans (rfe.ui (Or.inl rfl)), e0, e7, fun i hi => by rw [tz_ui_n (by decide)]; exact e5 i hi, fun j hj => ?_⟩
    rw [tz_ui_a]
    by_cases q : j = n + k
    · subst q
      rw [pk_us]
      unfold t20
      rw [if_neg (by omega), Nat.add_sub_cancel_left]
    · rw [pk_un q]
      exact ej j (by omega)
  · rintro ⟨x, h1⟩ ⟨q1, s1, q2, g, e0, e7, e5, ej⟩
    dsimp only at q1 q2
    subst q1 q2
    unfold F12_feed_60b
    dsimp only
    refine k_t (by decide) (k_e (gi_317_7.trans (congrArg some e7)) ?_)
    rw [show nI n + 20 = nI (n + 20) from nI_add n 20]
    refine k_e pf_317_7 (k_e gi_317_7 (k_s ⟨_, rfl, g.trans (rfe.uf (Or.inr rfl)), (rg_uf (by decide)).trans e0, (by show (tz_uf s1 317 7 (nI (n + 20))).1 317 7 = _; exact tz_uf_s), tz_uf_s, ej⟩))
  · rw [t.2 j hj]
    unfold t20
    rw [if_pos (show j < n by omega)]
theorem rz_feed (t : tpr s T n) (hn : n ≤ 400) : k_ok (F12_feed 317 a b c d e (tz_H s)) (fun z => ∃ s', z.2 = tz_H s' ∧ rfe s s' ∧ s'.1 317 0 = 0 ∧ ((n + 20 ≤ 400 ∧ z.1 = nI (n + 20) ∧ tpr s' (t20 T n (f5 a b c d e)) (n + 20)) ∨ (¬ n + 20 ≤ 400 ∧ z.1 = -1 ∧ tpr s' T n))) := by
  unfold F12_feed F12_feed_0
  refine k_g io_317 (k_e pf_317_0 (k_e (gi_317_7.trans (congrArg some ((rg_uf (by decide)).trans t.1))) ?_))
  rw [show nI n + 20 = nI (n + 20) from nI_add n 20]
  by_cases q : n + 20 ≤ 400
  · refine k_t (show nI (n + 20) ≤ 400 from nI_le (b := 400) q (by decide)) (k_e gr_317_13 (k_e (f_si (k := 0) (by decide)) (k_e gr_317_13 (k_e (f_si (k := 1) (by decide)) (k_e gr_317_13 (k_e (f_si (k := 2) (by decide)) (k_e gr_317_13 (k_e (f_si (k := 3) (by decide)) (k_e gr_317_13 (k_e (f_si (k := 4) (by decide)) ?_))))))))))
    refine k_m (rz_feed60 (T := T) (n := n) (f := f5 a b c d e) ⟨show (tz_uf s 317 0 0).1 317 7 = nI n from (rg_uf (by decide)).trans t.1, fun j hj => ?_⟩ (show (tz_uf s 317 0 0).1 317 0 = 0 from tz_uf_s) (fun i hi => ?_) q) ?_
    · rw [tz_ui_n (by decide), tz_ui_n (by decide), tz_ui_n (by decide), tz_ui_n (by decide), tz_ui_n (by decide)]
      exact t.2 j hj
    · unfold f5
      match i, hi with
      | 0, _ => rfl
      | 1, _ => rfl
      | 2, _ => rfl
      | 3, _ => rfl
      | 4, _ => rfl
      | i + 5, hi => omega
    · rintro z ⟨s', e1, g, e0, e2, e3⟩
      exact ⟨s', e1, ((((((rfe.uf (Or.inl rfl)).trans (rfe.ui (Or.inr rfl))).trans (rfe.ui (Or.inr rfl))).trans (rfe.ui (Or.inr rfl))).trans (rfe.ui (Or.inr rfl))).trans (rfe.ui (Or.inr rfl))).trans g, e0, Or.inl ⟨q, e2, e3⟩⟩
  · exact k_f (fun z => absurd z (Int32.not_le.mpr (nI_lt (a := 400) (by omega) (by omega)))) (k_s ⟨_, rfl, rfe.uf (Or.inl rfl), tz_uf_s, Or.inr ⟨q, rfl, (rg_uf (by decide)).trans t.1, t.2⟩⟩)
end
