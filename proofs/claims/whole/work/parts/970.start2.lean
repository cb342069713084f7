/-! ===== the start: both sides in step ===== -/
/-- the world at the start -/
def W0 (k r c : Nat) : Int32 := if k = 0 ∧ r < 8 ∧ (c = 0 ∨ c = 3) then 1 else if k = 5 ∧ r < 6 ∧ c = 2 then 2 else if k = 20 ∧ r = 0 ∧ c = 0 then 8 else if k = 25 ∧ r = 0 ∧ c = 0 then 6 else if k = 26 ∧ r = 0 ∧ c = 0 then 48 else if k = 33 ∧ r = 0 ∧ c = 0 then 15 else 0
def W0n (k : Nat) : Nat := if k = 0 then 8 else if k = 5 then 6 else if k = 6 then 48 else if k = 13 then 15 else 0
theorem W0_n : ∀ k ∈ List.range 18, wz_n W0 k = W0n k ∧ W0 (20 + k) 0 0 = nI (W0n k) := by decide +kernel
theorem W0_nk {k : Nat} (h : k < 18) : wz_n W0 k = W0n k := (W0_n k (List.mem_range.mpr h)).1
theorem W0_z {k r c : Nat} (h0 : ¬ (k = 0 ∧ r < 8)) (h5 : ¬ (k = 5 ∧ r < 6)) (hk : k < 20) : W0 k r c = 0 := by
  unfold W0
  rw [if_neg (fun z => h0 ⟨z.1, z.2.1⟩), if_neg (fun z => h5 ⟨z.1, z.2.1⟩), if_neg (by omega), if_neg (by omega), if_neg (by omega), if_neg (by omega)]
theorem W0_0 {r c : Nat} (hr : r < 8) : W0 0 r c = if c = 0 ∨ c = 3 then 1 else 0 := by
  unfold W0
  by_cases h : c = 0 ∨ c = 3
  · rw [if_pos ⟨rfl, hr, h⟩, if_pos h]
  · rw [if_neg (fun z => h z.2.2), if_neg (by omega), if_neg (by omega), if_neg (by omega), if_neg (by omega), if_neg (by omega), if_neg h]
theorem W0_5 {r c : Nat} (hr : r < 6) : W0 5 r c = if c = 2 then 2 else 0 := by
  unfold W0
  by_cases h : c = 2
  · rw [if_neg (by omega), if_pos ⟨rfl, hr, h⟩, if_pos h]
  · rw [if_neg (by omega), if_neg (fun z => h z.2.2), if_neg (by omega), if_neg (by omega), if_neg (by omega), if_neg (by omega), if_neg h]
theorem vz_W0 : vz W0 := by
  have nk : ∀ k, k < 18 → wz_n W0 k = W0n k := fun k h => W0_nk h
  have n0 : ∀ k, k < 18 → ¬ k = 0 → ¬ k = 5 → ¬ k = 6 → ¬ k = 13 → wz_n W0 k = 0 := fun k h a b c d => by
    rw [nk k h]
    unfold W0n
    rw [if_neg a, if_neg b, if_neg c, if_neg d]
  have a0 : wz_n W0 0 = 8 := nk 0 (by decide)
  have a5 : wz_n W0 5 = 6 := nk 5 (by decide)
  have a6 : wz_n W0 6 = 48 := nk 6 (by decide)
  have a13 : wz_n W0 13 = 15 := nk 13 (by decide)
  have z14 : ∀ x, W0 14 0 x = 0 := fun x => W0_z (by omega) (by omega) (by omega)
  refine ⟨fun k hk => ?_, ⟨a0, a5, a6, a13⟩, fun k hk r c h1 h2 h3 => ?_, fun k hk r hr => ?_, ⟨?_, ?_, ?_, fun r hr => ?_, fun r hr => ?_, fun r hr => ?_⟩, fun s hs => ?_, fun t ht => ?_, fun t ht => ?_⟩
  · have e := (W0_n k (List.mem_range.mpr (by omega)))
    have c : ∀ k ∈ List.range 18, k < 14 ∨ k = 17 → W0n k ≤ wz_cap k := by decide +kernel
    rw [e.1]
    exact ⟨e.2, c k (List.mem_range.mpr (by omega)) hk⟩
  · refine W0_z (fun z => ?_) (fun z => ?_) (by omega)
    · rw [z.1, a0] at h1
      omega
    · rw [z.1, a5] at h1
      omega
  · by_cases k0 : k = 0
    · subst k0
      rw [a0] at hr
      show (0 ≤ W0 0 r 0 ∧ W0 0 r 0 ≤ 20) ∧ (0 ≤ W0 0 r 1 ∧ W0 0 r 1 ≤ 50) ∧ (0 ≤ W0 0 r 2 ∧ W0 0 r 2 ≤ 50) ∧ (0 ≤ W0 0 r 3 ∧ W0 0 r 3 ≤ 9)
      rw [W0_0 hr, W0_0 hr, W0_0 hr, W0_0 hr]
      decide
    by_cases k5 : k = 5
    · subst k5
      rw [a5] at hr
      show W0 5 r 1 ≤ 0 ∧ (0 ≤ W0 5 r 3 ∧ W0 5 r 3 ≤ 100000) ∧ -100 ≤ W0 5 r 1
      rw [W0_5 hr, W0_5 hr]
      decide
    by_cases k6 : k = 6
    · subst k6
      show 0 ≤ W0 6 r 0 ∧ W0 6 r 0 ≤ 1000
      rw [W0_z (by omega) (by omega) (by omega)]
      decide
    by_cases k13 : k = 13
    · subst k13
      show (0 ≤ W0 13 r 0 ∧ W0 13 r 0 ≤ 100000) ∧ (0 ≤ W0 13 r 1 ∧ W0 13 r 1 ≤ 100000) ∧ (0 ≤ W0 13 r 2 ∧ W0 13 r 2 ≤ 100000)
      rw [W0_z (by omega) (by omega) (by omega), W0_z (by omega) (by omega) (by omega), W0_z (by omega) (by omega) (by omega)]
      decide
    · rw [n0 k (by omega) k0 k5 k6 k13] at hr
      omega
  · rw [z14]; decide
  · exact Or.inl (z14 3)
  · rw [n0 10 (by decide) (by decide) (by decide) (by decide) (by decide)]
    exact z14 4
  · rw [n0 10 (by decide) (by decide) (by decide) (by decide) (by decide)] at hr
    omega
  · rw [n0 8 (by decide) (by decide) (by decide) (by decide) (by decide)] at hr
    omega
  · rw [W0_z (k := 6) (by omega) (by omega) (by omega), z14]
    decide
  · rw [n0 4 (by decide) (by decide) (by decide) (by decide) (by decide)] at hs
    omega
  · rw [n0 2 (by decide) (by decide) (by decide) (by decide) (by decide)] at ht
    omega
  · rw [n0 17 (by decide) (by decide) (by decide) (by decide) (by decide)] at ht
    omega
/-! the reference's cells, walked -/
def Q8 (f : Nat → Int32) (h : m_H) : Prop := m_c h 318 = some (.inl (0, 37677, .inl f)) ∧ m_gr h 317 9 1 = some 318
theorem mc_p {h : m_H} {a : Nat} {e x : m_E} (k : m_c h a = some x) : m_c (m_p h e) a = some x := by
  unfold m_c m_p at *
  split at k
  · cases k
  · next q =>
    rw [if_neg q]
    show (h.1 ++ [e])[a - 200]? = _
    rw [List.getElem?_append_left (List.getElem?_eq_some_iff.mp k).1]
    exact k
theorem mc_w {h : m_H} {a b : Nat} {e : m_E} (hb : 200 ≤ b) (ha : ¬ a = b) : m_c (m_w h b e) a = m_c h a := by
  unfold m_c m_w
  by_cases q : a < 200
  · rw [if_pos q, if_pos q]
  · rw [if_neg q, if_neg q]
    show (h.1.set (b - 200) e)[a - 200]? = _
    rw [List.getElem?_set, if_neg (by omega)]
theorem mc_s {h : m_H} {b : Nat} {e x : m_E} (k : m_c h b = some x) : m_c (m_w h b e) b = some e := by
  unfold m_c m_w at *
  split at k
  · cases k
  · next q =>
    rw [if_neg q]
    show (h.1.set (b - 200) e)[b - 200]? = _
    rw [List.getElem?_set, if_pos rfl, if_pos (List.getElem?_eq_some_iff.mp k).1]
theorem gr_c {h : m_H} {a ci k r : Nat} : m_gr h a ci k = some r ↔ ∃ vs, m_c h a = some (.inr (ci, vs)) ∧ vs[k]? = some (.ref r) := by
  unfold m_gr m_gf
  constructor
  · intro z
    cases e : m_c h a with
    | none => rw [e] at z; cases z
    | some x =>
      rw [e] at z
      rcases x with x | ⟨c, vs⟩
      · cases z
      · dsimp only at z
        by_cases q : c = ci
        · rw [if_pos q] at z
          subst q
          refine ⟨vs, rfl, ?_⟩
          cases ev : vs[k]? with
          | none => rw [ev] at z; cases z
          | some v =>
            rw [ev] at z
            cases v with
            | ref y => cases z; rfl
            | _ => cases z
        · rw [if_neg q] at z
          cases z
  · rintro ⟨vs, e, ev⟩
    rw [e]
    dsimp only
    rw [if_pos rfl, ev]
theorem Q8.nw {f : Nat → Int32} {h h' : m_H} {t : Nat} {n : Int32} (q : Q8 f h) (e : m_nw t n h = some h') : Q8 f h' := by
  unfold m_nw at e
  split at e
  · cases e
  · cases e
    obtain ⟨vs, k1, k2⟩ := gr_c.mp q.2
    exact ⟨mc_p q.1, gr_c.mpr ⟨vs, mc_p k1, k2⟩⟩
theorem pf_c {h h' : m_H} {a ci k : Nat} {v : Value} (e : m_pf m_ft h a ci k v = some h') : ∃ vs, m_c h a = some (.inr (ci, vs)) ∧ k < vs.length ∧ h' = m_w h a (.inr (ci, vs.set k v)) := by
  unfold m_pf at e
  split at e
  · next o eo =>
    split at e
    · next q =>
      cases e
      obtain ⟨c, vs⟩ := o
      obtain ⟨q1, q2, q3⟩ := q
      dsimp only at q1 q2
      subst q1
      exact ⟨vs, eo, q2, rfl⟩
    · cases e
  · cases e
theorem Q8.pf {f : Nat → Int32} {h h' : m_H} {k : Nat} {v : Value} (q : Q8 f h) (e : m_pf m_ft h 317 9 k v = some h') (hk : ¬ k = 1) : Q8 f h' := by
  obtain ⟨vs, k1, k2, rfl⟩ := pf_c e
  obtain ⟨vs', l1, l2⟩ := gr_c.mp q.2
  rw [k1] at l1
  cases l1
  refine ⟨(mc_w (by decide) (by decide)).trans q.1, gr_c.mpr ⟨_, mc_s k1, ?_⟩⟩
  rw [List.getElem?_set, if_neg hk]
  exact l2
theorem Q8.si {f : Nat → Int32} {h h' : m_H} {j v : Int32} (q : Q8 f h) (e : m_si h 0 318 j v = some h') : Q8 (upd f j.toNatClampNeg v) h' := by
  unfold m_si at e
  rw [q.1] at e
  dsimp only at e
  split at e
  · cases e
    obtain ⟨vs, l1, l2⟩ := gr_c.mp q.2
    exact ⟨mc_s q.1, gr_c.mpr ⟨vs, (mc_w (by decide) (by decide)).trans l1, l2⟩⟩
  · cases e
/-- the first writes of both loops -/
def WI (f : Nat → Int32) (i l : Nat) : Prop := ∀ k r c, wz_v k r c → f (wz_ix k r c) = if k = 0 ∧ r < i ∧ (c = 0 ∨ c = 3) then 1 else if k = 5 ∧ r < l ∧ c = 2 then 2 else 0
theorem wh_f {S X : Type} {body : S → Option (S ⊕ X)} {I : S → Prop} {Q : X → Prop} (hb : ∀ s t, I s → body s = some t → m_KK I Q t) : ∀ (N : Nat) (s : S) (x : X), I s → m_wh body N s = some x → Q x
  | 0, _, _, _, h => by cases h
  | N + 1, s, x, hI, h => by
    unfold m_wh at h
    cases e : body s with
    | none => rw [e] at h; cases h
    | some t =>
      rw [e] at h
      have k := hb s t hI e
      cases t with
      | inl s' => exact wh_f hb N s' x k h
      | inr y => cases h; exact k
theorem wi_up {f : Nat → Int32} {k0 r0 c0 k r c : Nat} {v : Int32} (hv0 : wz_v k0 r0 c0) (hv : wz_v k r c) : upd f (wz_ix k0 r0 c0) v (wz_ix k r c) = if k = k0 ∧ r = r0 ∧ c = c0 then v else f (wz_ix k r c) := by
  unfold upd
  by_cases q : k = k0 ∧ r = r0 ∧ c = c0
  · obtain ⟨rfl, rfl, rfl⟩ := q
    rw [if_pos rfl, if_pos ⟨rfl, rfl, rfl⟩]
  · rw [if_neg q, if_neg (fun z => q (wz_inj hv hv0 z))]
theorem ri_170 {h x : m_H} {f : Nat → Int32} (q : Q8 f h) (w : WI f 8 0) (e : F12_init_170 317 0 h = some x) : ∃ f, Q8 f x ∧ WI f 8 6 := by
  unfold F12_init_170 at e
  refine wh_f (I := fun s : Int32 × m_H => ∃ l f, s.1 = nI l ∧ l ≤ 6 ∧ Q8 f s.2 ∧ WI f 8 l) (Q := fun x => ∃ f, Q8 f x ∧ WI f 8 6) ?_ m_N _ x ⟨0, f, rfl, by decide, q, w⟩ e
  rintro ⟨y, h⟩ t ⟨l, f, rfl, hl, q, w⟩ e
  unfold F12_init_170b at e
  dsimp only at e q
  rcases m_ifd e with ⟨c1, e⟩ | ⟨c1, e⟩
  · cases e
    have : l = 6 := by
      rcases Nat.lt_or_ge l 6 with z | z
      · exact absurd c1 (nI_ge z (by decide))
      · omega
    subst this
    exact ⟨f, q, w⟩
  · have hl6 : l < 6 := by
      rcases Nat.lt_or_ge l 6 with z | z
      · exact z
      · exact absurd (nI_le (a := 6) z (by omega)) c1
    obtain ⟨v2, e2, e⟩ := m_bd e
    rw [q.2] at e2
    cases e2
    obtain ⟨h4, e4, e⟩ := m_bd e
    cases e
    have q4 := q.si e4
    have ej : ((37 + (4 * nI l)) + 2 : Int32) = nI (wz_ix 5 l 2) := by
      rw [show (4 : Int32) * nI l = nI (4 * l) from nI_mul 4 l, show (37 : Int32) + nI (4 * l) = nI (37 + 4 * l) from nI_add 37 _, show nI (37 + 4 * l) + 2 = nI (37 + 4 * l + 2) from nI_add _ 2]
      rfl
    rw [ej, nI_clamp (by show 37 + (4 * l + 2) < _; omega)] at q4
    have v5 : wz_v 5 l 2 := ⟨by decide, hl6, by decide⟩
    refine ⟨l + 1, _, (by rw [nI_succ]), by omega, q4, fun k r c hv => ?_⟩
    rw [wi_up v5 hv, w k r c hv]
    by_cases z : k = 5 ∧ r = l ∧ c = 2
    · rw [if_pos z, if_neg (by omega), if_pos (by omega)]
    · rw [if_neg z]
      by_cases z1 : k = 0 ∧ r < 8 ∧ (c = 0 ∨ c = 3)
      · rw [if_pos z1, if_pos z1]
      · rw [if_neg z1, if_neg z1]
        by_cases z2 : k = 5 ∧ r < l ∧ c = 2
        · rw [if_pos z2, if_pos (by omega)]
        · rw [if_neg z2, if_neg (by omega)]
theorem ri_132 {h x : m_H} {f : Nat → Int32} (q : Q8 f h) (w : WI f 0 0) (e : F12_init_132 317 0 h = some x) : ∃ f, Q8 f x ∧ WI f 8 6 := by
  unfold F12_init_132 at e
  refine wh_f (I := fun s : Int32 × m_H => ∃ i f, s.1 = nI i ∧ i ≤ 8 ∧ Q8 f s.2 ∧ WI f i 0) (Q := fun x => ∃ f, Q8 f x ∧ WI f 8 6) ?_ m_N _ x ⟨0, f, rfl, by decide, q, w⟩ e
  rintro ⟨y, h⟩ t ⟨i, f, rfl, hi, q, w⟩ e
  unfold F12_init_132b at e
  dsimp only at e q
  rcases m_ifd e with ⟨c1, e⟩ | ⟨c1, e⟩
  · have : i = 8 := by
      rcases Nat.lt_or_ge i 8 with z | z
      · exact absurd c1 (nI_ge z (by decide))
      · omega
    subst this
    cases e1 : F12_init_170 317 0 h with
    | none => rw [e1] at e; cases e
    | some y =>
      rw [e1] at e
      cases e
      exact ri_170 q w e1
  · have hi8 : i < 8 := by
      rcases Nat.lt_or_ge i 8 with z | z
      · exact z
      · exact absurd (nI_le (a := 8) z (by omega)) c1
    obtain ⟨v2, e2, e⟩ := m_bd e
    rw [q.2] at e2
    cases e2
    obtain ⟨h4, e4, e⟩ := m_bd e
    have q4 := q.si e4
    obtain ⟨v6, e6, e⟩ := m_bd e
    rw [q4.2] at e6
    cases e6
    obtain ⟨h8, e8, e⟩ := m_bd e
    cases e
    have q8 := q4.si e8
    have ej : (5 + (4 * nI i) : Int32) = nI (wz_ix 0 i 0) := by
      rw [show (4 : Int32) * nI i = nI (4 * i) from nI_mul 4 i, show (5 : Int32) + nI (4 * i) = nI (5 + 4 * i) from nI_add 5 _]
      rfl
    have ek : ((5 + (4 * nI i)) + 3 : Int32) = nI (wz_ix 0 i 3) := by
      rw [show (4 : Int32) * nI i = nI (4 * i) from nI_mul 4 i, show (5 : Int32) + nI (4 * i) = nI (5 + 4 * i) from nI_add 5 _, show nI (5 + 4 * i) + 3 = nI (5 + 4 * i + 3) from nI_add _ 3]
      rfl
    rw [ek, ej, nI_clamp (by show 5 + (4 * i + 0) < _; omega), nI_clamp (by show 5 + (4 * i + 3) < _; omega)] at q8
    have v0 : wz_v 0 i 0 := ⟨by decide, hi8, by decide⟩
    have v3 : wz_v 0 i 3 := ⟨by decide, hi8, by decide⟩
    refine ⟨i + 1, _, (by rw [nI_succ]), by omega, q8, fun k r c hv => ?_⟩
    rw [wi_up v3 hv, wi_up v0 hv, w k r c hv]
    by_cases z : k = 0 ∧ r = i ∧ c = 3
    · rw [if_pos z, if_pos (by omega)]
    · rw [if_neg z]
      by_cases z0 : k = 0 ∧ r = i ∧ c = 0
      · rw [if_pos z0, if_pos (by omega)]
      · rw [if_neg z0]
        by_cases z1 : k = 0 ∧ r < i ∧ (c = 0 ∨ c = 3)
        · rw [if_pos z1, if_pos (by omega)]
        · rw [if_neg z1, if_neg (show ¬ (k = 0 ∧ r < i + 1 ∧ (c = 0 ∨ c = 3)) by omega)]
