/-! ===== act: the reference copies a text to its row ===== -/
def sp_tw (W : m_W) (t i : Nat) (D : Nat → Int32) : m_W := fun k r c => if k = 17 ∧ r = t ∧ c < i then D c else W k r c
def sp_txr (W : m_W) (t : Nat) (x1 x2 : Int32) (D : Nat → Int32) : m_W := fun k r c => if k = 17 ∧ r = t then (if c = 0 then x1 else if c = 1 then x2 else D c) else W k r c
section
variable {s : tz_S} {W : m_W} {t : Nat} {x1 x2 : Int32} {h : m_H}
theorem wz_17 (t c : Nat) : wz_ix 17 t c = 28327 + 850 * t + c := by
  show 28327 + (850 * t + c) = _
  omega
theorem v_17 (ht : t < 10) {c : Nat} (hc : c < 850) : wz_v 17 t c := ⟨by decide, ht, hc⟩
theorem rt_at2 (t : Nat) : F12_textAt (nI t) h = some (nI (28327 + 850 * t)) := by
  unfold F12_textAt F12_textAt_0
  show some (nI 28327 + nI 850 * nI t) = _
  rw [nI_mul, nI_add]
theorem dru_WR {i : Nat} {v : Int32} {W1 : m_W} (H : tz_WR s 318 W) (ht : t < 10) (hi : i < 850) (hW : ∀ k r c, wz_v k r c → W1 k r c = if k = 17 ∧ r = t ∧ c = i then v else W k r c) : tz_WR (dru s (28327 + 850 * t + i) v) 318 W1 := by
  intro k r c hv
  rw [hW k r c hv]
  by_cases e : k = 17 ∧ r = t ∧ c = i
  · rw [if_pos e]
    obtain ⟨rfl, rfl, rfl⟩ := e
    rw [wz_17, dru_s]
  · rw [if_neg e, dru_n (fun z => e ?_)]
    · exact H k r c hv
    · rw [← wz_17] at z
      exact wz_inj hv (v_17 ht hi) z
theorem rz_copyt (H : tz_WR s 318 W) (ht : t < 10) : k_ok (F12_act_123 317 x1 x2 (nI t) 0 (tz_H s)) (fun z => ∃ s', z = (x2, tz_H s') ∧ tz_WR s' 318 (sp_txr W t x1 x2 (fun j => s.2.1 318 (36827 + j))) ∧ s'.1 = s.1 ∧ (∀ a, ¬ a = 318 → s'.2.1 a = s.2.1 a) ∧ s'.2.2 = s.2.2) := by
  have dr1 : ∀ (s : tz_S) x v, (dru s x v).1 = s.1 ∧ (dru s x v).2.2 = s.2.2 := fun _ _ _ => ⟨rfl, rfl⟩
  have dr2 : ∀ (s : tz_S) x v a, ¬ a = 318 → (dru s x v).2.1 a = s.2.1 a := fun s x v a q => tz_ui_n q
  unfold F12_act_123
  refine wh_i (n := 850) (fun (i : Nat) (z : Int32 × m_H) => z.1 = nI i ∧ ∃ s1, z.2 = tz_H s1 ∧ tz_WR s1 318 (sp_tw W t i (fun j => s.2.1 318 (36827 + j))) ∧ (∀ j, j < 850 → s1.2.1 318 (36827 + j) = s.2.1 318 (36827 + j)) ∧ s1.1 = s.1 ∧ (∀ a, ¬ a = 318 → s1.2.1 a = s.2.1 a) ∧ s1.2.2 = s.2.2) _ ?_ ?_ m_N 0 _ (N_lt (by decide)) (Nat.zero_le _) ⟨rfl, s, rfl, fun k r c hv => ?_, fun _ _ => rfl, rfl, fun _ _ => rfl, rfl⟩
  · rintro i ⟨x, h1⟩ hi ⟨q1, s1, q2, H1, hD, e1, e2, e3⟩
    dsimp only at q1 q2
    subst q1 q2
    unfold F12_act_123b
    dsimp only
    refine k_f (show ¬ (850 : Int32) ≤ nI i from nI_ge (b := 850) hi (by decide)) (k_e gr_317_1 (k_e (rt_at2 t) (k_e gr_317_1 (k_e rt_at ?_))))
    rw [nI_add, nI_add]
    refine k_e (dr_ai (by omega)) (k_e (dr_si (by omega)) ?_)
    rw [hD i hi, nI_11]
    refine k_s ⟨rfl, _, rfl, dru_WR H1 ht hi (fun k r c hv => ?_), fun j hj => ?_, e1, fun a q => (dr2 _ _ _ a q).trans (e2 a q), e3⟩
    · unfold sp_tw
      by_cases q : k = 17 ∧ r = t
      · obtain ⟨rfl, rfl⟩ := q
        by_cases q2 : c = i
        · subst q2
          rw [if_pos ⟨rfl, rfl, by omega⟩, if_pos ⟨rfl, rfl, rfl⟩]
        · rw [if_neg (show ¬ (17 = 17 ∧ r = r ∧ c = i) from fun z => q2 z.2.2)]
          by_cases q3 : c < i
          · rw [if_pos ⟨rfl, rfl, by omega⟩, if_pos ⟨rfl, rfl, q3⟩]
          · rw [if_neg (fun z => by omega), if_neg (fun z => q3 z.2.2)]
      · rw [if_neg (fun z => q ⟨z.1, z.2.1⟩), if_neg (fun z => q ⟨z.1, z.2.1⟩), if_neg (fun z => q ⟨z.1, z.2.1⟩)]
    · rw [dru_n (by omega)]
      exact hD j hj
  · rintro ⟨x, h1⟩ ⟨q1, s1, q2, H1, hD, e1, e2, e3⟩
    dsimp only at q1 q2
    subst q1 q2
    unfold F12_act_123b
    dsimp only
    refine k_t (by decide) (k_e gr_317_1 (k_e (rt_at2 t) ?_))
    rw [show 28327 + 850 * t = 28327 + 850 * t + 0 from rfl]
    refine k_e (dr_si (by omega)) (k_e gr_317_1 (k_e (rt_at2 t) ?_))
    rw [nI_11]
    refine k_e (dr_si (by omega)) (k_s ⟨_, rfl, dru_WR (W := sp_tw (fun k r c => if k = 17 ∧ r = t ∧ c = 0 then x1 else sp_tw W t 850 (fun j => s.2.1 318 (36827 + j)) k r c) t 0 (fun _ => 0)) (dru_WR H1 ht (by decide) (fun k r c hv => ?_)) ht (by decide) (fun k r c hv => ?_), e1, fun a q => (dr2 _ _ _ a q).trans ((dr2 _ _ _ a q).trans (e2 a q)), e3⟩)
    · unfold sp_tw
      rw [if_neg (show ¬ (k = 17 ∧ r = t ∧ c < 0) from fun z => by omega)]
    · unfold sp_txr sp_tw
      rw [if_neg (show ¬ (k = 17 ∧ r = t ∧ c < 0) from fun z => by omega)]
      dsimp only
      by_cases q : k = 17 ∧ r = t
      · obtain ⟨rfl, rfl⟩ := q
        have hc : c < 850 := hv.2.2
        rw [if_pos ⟨rfl, rfl⟩]
        by_cases c0 : c = 0
        · rw [if_pos c0, if_neg (fun z => by omega), if_pos ⟨rfl, rfl, c0⟩]
        · rw [if_neg c0]
          by_cases c1 : c = 1
          · rw [if_pos c1, if_pos ⟨rfl, rfl, c1⟩]
          · rw [if_neg c1, if_neg (fun z => c1 z.2.2), if_neg (fun z => c0 z.2.2), if_pos ⟨rfl, rfl, hc⟩]
      · rw [if_neg q, if_neg (fun z => q ⟨z.1, z.2.1⟩), if_neg (fun z => q ⟨z.1, z.2.1⟩), if_neg (fun z => q ⟨z.1, z.2.1⟩)]
  · unfold sp_tw
    rw [if_neg (show ¬ (k = 17 ∧ r = t ∧ c < 0) from fun z => by omega)]
    exact H k r c hv
end
