/-! ===== which lines hold ===== -/
def st_ok (g : Nat → Int64) : List Int64 → Prop
  | [] => True
  | x :: l => g l.length = x ∧ st_ok g l
theorem st_ok.cong {g g' : Nat → Int64} : ∀ {l : List Int64}, st_ok g l → (∀ j, j < l.length → g' j = g j) → st_ok g' l
  | [], _, _ => trivial
  | x :: l, h, hj => ⟨(hj _ (by simp)).trans h.1, h.2.cong fun j hh => hj j (by simp; omega)⟩
theorem st_ok.push {g : Nat → Int64} {l : List Int64} {x : Int64} (h : st_ok g l) : st_ok (vp_updL g l.length x) (x :: l) :=
  ⟨pk_uLs, h.cong fun j hj => pk_uLn (by omega)⟩
def sp_stp (F : Nat → Int32) (st n : Int32) (l : List Int64) : List Int64 :=
  if st = 100 then n.toInt64 :: l else if st < 100 then (F st.toNatClampNeg).toInt64 :: l else if st = 104 then (match l with
    | b :: r => (1 - b) :: r
    | [] => []) else match l with
    | b :: a :: r => (if st = 101 then a + b else if st = 102 then (if a < b then 1 else 0) else if st = 103 then (if b < a then 1 else 0) else if st = 105 then a * b else m_maxl a b) :: r
    | l => l
def ty_ok : List Bool → List Int64 → Prop
  | [], [] => True
  | t :: ts, x :: xs => (t = true → x = 0 ∨ x = 1) ∧ ty_ok ts xs
  | _, _ => False
theorem ty_ok.len : ∀ {ts : List Bool} {l : List Int64}, ty_ok ts l → ts.length = l.length
  | [], [], _ => rfl
  | t :: ts, x :: xs, h => by simp [h.2.len]
theorem sp_ty_inv {st n : Int32} {tl tl' : List Bool} (h : sp_ty st n tl = some tl') : (st = 100 ∧ (0 ≤ n ∧ n ≤ 99999) ∧ tl' = false :: tl) ∨ ((0 ≤ st ∧ st < 10) ∧ tl' = false :: tl) ∨ (∃ r, tl = false :: false :: r ∧ (st = 101 ∧ tl' = false :: r ∨ (st = 102 ∨ st = 103) ∧ tl' = true :: r)) ∨ (∃ r, tl = true :: true :: r ∧ (st = 105 ∨ st = 106) ∧ tl' = true :: r) ∨ ∃ r, tl = true :: r ∧ st = 104 ∧ tl' = true :: r := by
  unfold sp_ty at h
  split at h
  · next q =>
    split at h
    · next q2 => cases h; exact Or.inl ⟨q, q2, rfl⟩
    · cases h
  · split at h
    · next q => cases h; exact Or.inr (Or.inl ⟨q, rfl⟩)
    · split at h
      · next a b r =>
        split at h
        · next q =>
          split at h
          · next q2 => obtain ⟨rfl, rfl⟩ := q2; cases h; exact Or.inr (Or.inr (Or.inl ⟨r, rfl, Or.inl ⟨q, rfl⟩⟩))
          · cases h
        · split at h
          · next q =>
            split at h
            · next q2 => obtain ⟨rfl, rfl⟩ := q2; cases h; exact Or.inr (Or.inr (Or.inl ⟨r, rfl, Or.inr ⟨q, rfl⟩⟩))
            · cases h
          · split at h
            · next q =>
              split at h
              · next q2 => obtain ⟨rfl, rfl⟩ := q2; cases h; exact Or.inr (Or.inr (Or.inr (Or.inl ⟨r, rfl, q, rfl⟩)))
              · cases h
            · split at h
              · next q =>
                split at h
                · next q2 => subst q2; cases h; exact Or.inr (Or.inr (Or.inr (Or.inr ⟨b :: r, rfl, q, rfl⟩)))
                · cases h
              · cases h
      · next a =>
        split at h
        · next q =>
          split at h
          · next q2 => subst q2; cases h; exact Or.inr (Or.inr (Or.inr (Or.inr ⟨[], rfl, q, rfl⟩)))
          · cases h
        · cases h
      · cases h
/-- a step, by its kind, as both machines do it -/
theorem ty_cases {F : Nat → Int32} {st n : Int32} {tl tl' : List Bool} {l : List Int64} (h : sp_ty st n tl = some tl') (hl : ty_ok tl l) : ty_ok tl' (sp_stp F st n l) ∧ (
    (st = 100 ∧ (0 ≤ n ∧ n ≤ 99999) ∧ sp_stp F st n l = n.toInt64 :: l) ∨
    (∃ f, f < 10 ∧ st = nI f ∧ sp_stp F st n l = (F f).toInt64 :: l) ∨
    (st = 104 ∧ ∃ b r, l = b :: r ∧ (b = 0 ∨ b = 1) ∧ sp_stp F st n l = (1 - b) :: r) ∨
    (∃ b a r, l = b :: a :: r ∧ (st = 101 ∧ sp_stp F st n l = (a + b) :: r ∨ st = 102 ∧ sp_stp F st n l = (if a < b then 1 else 0) :: r ∨ st = 103 ∧ sp_stp F st n l = (if b < a then 1 else 0) :: r ∨
      st = 105 ∧ (a = 0 ∨ a = 1) ∧ (b = 0 ∨ b = 1) ∧ sp_stp F st n l = (a * b) :: r ∨ st = 106 ∧ (a = 0 ∨ a = 1) ∧ (b = 0 ∨ b = 1) ∧ sp_stp F st n l = m_maxl a b :: r))) := by
  rcases sp_ty_inv h with ⟨rfl, hn, rfl⟩ | ⟨hs, rfl⟩ | ⟨r, rfl, q⟩ | ⟨r, rfl, hs, rfl⟩ | ⟨r, rfl, rfl, rfl⟩
  · exact ⟨⟨(fun e => by cases e), hl⟩, Or.inl ⟨rfl, hn, rfl⟩⟩
  · obtain ⟨f, hf, rfl⟩ := i_rowlt (n := 10) (by decide) hs
    have e1 : ¬ nI f = 100 := fun e => by have := nI_e (m := 100) (by omega) (by decide) e; omega
    have e2 : nI f < 100 := nI_lt (b := 100) (by omega) (by decide)
    have e : sp_stp F (nI f) n l = (F f).toInt64 :: l := by
      unfold sp_stp
      rw [if_neg e1, if_pos e2, nI_clamp (by omega)]
    rw [e]
    exact ⟨⟨(fun e => by cases e), hl⟩, Or.inr (Or.inl ⟨f, hf, rfl, rfl⟩)⟩
  · match l, hl with
    | b :: a :: l, hl =>
      rcases q with ⟨rfl, rfl⟩ | ⟨rfl | rfl, rfl⟩
      · exact ⟨⟨(fun e => by cases e), hl.2.2⟩, Or.inr (Or.inr (Or.inr ⟨b, a, l, rfl, Or.inl ⟨rfl, rfl⟩⟩))⟩
      · refine ⟨⟨fun _ => ?_, hl.2.2⟩, Or.inr (Or.inr (Or.inr ⟨b, a, l, rfl, Or.inr (Or.inl ⟨rfl, rfl⟩)⟩))⟩
        show (if a < b then (1 : Int64) else 0) = 0 ∨ (if a < b then (1 : Int64) else 0) = 1
        split
        · exact Or.inr rfl
        · exact Or.inl rfl
      · refine ⟨⟨fun _ => ?_, hl.2.2⟩, Or.inr (Or.inr (Or.inr ⟨b, a, l, rfl, Or.inr (Or.inr (Or.inl ⟨rfl, rfl⟩))⟩))⟩
        show (if b < a then (1 : Int64) else 0) = 0 ∨ (if b < a then (1 : Int64) else 0) = 1
        split
        · exact Or.inr rfl
        · exact Or.inl rfl
  · match l, hl with
    | b :: a :: l, hl =>
      have hb := hl.1 rfl
      have ha := hl.2.1 rfl
      rcases hs with rfl | rfl
      · refine ⟨⟨fun _ => ?_, hl.2.2⟩, Or.inr (Or.inr (Or.inr ⟨b, a, l, rfl, Or.inr (Or.inr (Or.inr (Or.inl ⟨rfl, ha, hb, rfl⟩)))⟩))⟩
        show a * b = 0 ∨ a * b = 1
        rcases ha with rfl | rfl <;> rcases hb with rfl | rfl <;> decide
      · refine ⟨⟨fun _ => ?_, hl.2.2⟩, Or.inr (Or.inr (Or.inr ⟨b, a, l, rfl, Or.inr (Or.inr (Or.inr (Or.inr ⟨rfl, ha, hb, rfl⟩)))⟩))⟩
        show m_maxl a b = 0 ∨ m_maxl a b = 1
        rcases ha with rfl | rfl <;> rcases hb with rfl | rfl <;> decide
  · match l, hl with
    | b :: l, hl =>
      have hb := hl.1 rfl
      refine ⟨⟨fun _ => ?_, hl.2⟩, Or.inr (Or.inr (Or.inl ⟨rfl, b, l, rfl, hb, rfl⟩))⟩
      show 1 - b = 0 ∨ 1 - b = 1
      rcases hb with rfl | rfl <;> decide
def sp_run (F : Nat → Int32) (T : Nat → Int32) (s : Nat) : Nat → List Int64
  | 0 => []
  | n + 1 => sp_stp F (T (50 + 2 * (s + n))) (T (51 + 2 * (s + n))) (sp_run F T s n)
theorem sp_run_ok {F : Nat → Int32} {T : Nat → Int32} {s : Nat} : ∀ {n : Nat} {tl : List Bool}, sp_tys T s n = some tl → ty_ok tl (sp_run F T s n)
  | 0, _, h => by cases h; trivial
  | n + 1, tl, h => by
    unfold sp_tys at h
    split at h
    · next l e => exact (ty_cases h (sp_run_ok e)).1
    · cases h
theorem sp_run_len {F : Nat → Int32} {T : Nat → Int32} {s : Nat} : ∀ {n : Nat}, (sp_run F T s n).length ≤ n
  | 0 => Nat.le_refl 0
  | n + 1 => by
    have h := sp_run_len (F := F) (T := T) (s := s) (n := n)
    show (sp_stp F _ _ (sp_run F T s n)).length ≤ n + 1
    unfold sp_stp
    split
    · simp; omega
    · split
      · simp; omega
      · split
        · split
          · next e => rw [e] at h; simp at h ⊢; omega
          · simp
        · split
          · next e => rw [e] at h; simp at h ⊢; omega
          · omega
theorem sp_tys_pre {T : Nat → Int32} {s m : Nat} : ∀ {n : Nat} {tl : List Bool}, m ≤ n → sp_tys T s n = some tl → ∃ tl', sp_tys T s m = some tl'
  | 0, tl, hm, h => ⟨tl, by rw [show m = 0 by omega]; exact h⟩
  | n + 1, tl, hm, h => by
    by_cases q : m = n + 1
    · exact ⟨tl, by rw [q]; exact h⟩
    · unfold sp_tys at h
      split at h
      · next l e => exact sp_tys_pre (by omega) e
      · cases h
/-- line i of T holds -/
def sp_hold (F : Nat → Int32) (T : Nat → Int32) (i : Nat) : Prop := T (5 + 4 * i) ≤ T (4 + 4 * i) ∨ sp_run F T (T (4 + 4 * i)).toNatClampNeg ((T (5 + 4 * i)).toNatClampNeg - (T (4 + 4 * i)).toNatClampNeg) = [1]
theorem tz_HR.cong {s s' : tz_S} {b : Nat} {W : m_W} (H : tz_HR s b W) (h1 : ∀ a k, b ≤ a → a < b + 30 → s'.1 a k = s.1 a k) (h2 : ∀ a, b ≤ a → a < b + 30 → s'.2.1 a = s.2.1 a) (h3 : s'.2.2.2.1 (b + 1) = s.2.2.2.1 (b + 1)) (h4 : s'.2.2.2.2.2.1 = s.2.2.2.2.2.1) : tz_HR s' b W := by
  obtain ⟨⟨f1, f2, f3, f4⟩, ⟨g1, g2, g3, g4, g5⟩, h⟩ := H
  refine ⟨⟨?_, ?_, ?_, ?_⟩, ⟨?_, g2, g3, ?_, ?_⟩, ?_⟩
  · rw [h1 _ _ (by omega) (by omega)]; exact f1
  · rw [h1 _ _ (by omega) (by omega)]; exact f2
  · rw [h1 _ _ (by omega) (by omega)]; exact f3
  · rw [h1 _ _ (by omega) (by omega)]; exact f4
  · rw [h1 _ _ (by omega) (by omega)]; exact g1
  · rw [h3, h4]; exact g4
  · rw [h3, h4]; exact g5
  · intro k hk
    obtain ⟨⟨a1, a2⟩, a3, a4⟩ := h k hk
    refine ⟨⟨?_, fun r c hr hc => ?_⟩, a3, a4⟩
    · rw [h1 _ _ (by omega) (by omega)]; exact a1
    · rw [h2 _ (by omega) (by omega)]; exact a2 r c hr hc
def cz_S (s0 : tz_S) (W : m_W) (F : Nat → Int32) (w : Option Nat) (l : List Int64) (h : m_H) : Prop := ∃ s, h = tz_H s ∧ tz_HR s 223 W ∧ tz_fr s0 s ∧ (∀ i, i < 10 → s.2.1 214 i = F i) ∧ s.2.2.2.1 211 0 = w ∧ s.1 211 4 = nI l.length ∧ st_ok (s.2.2.1 215) l
def cz_K (s0 : tz_S) (W : m_W) (F : Nat → Int32) (w : Option Nat) (h : m_H) : Prop := ∃ s, h = tz_H s ∧ tz_HR s 223 W ∧ tz_fr s0 s ∧ (∀ i, i < 10 → s.2.1 214 i = F i) ∧ s.2.2.2.1 211 0 = w
section
variable {s0 : tz_S} {th : Int32} {W : m_W} {h : m_H} {F : Nat → Int32} {w : Option Nat} {l : List Int64}
theorem cz_S.K (S : cz_S s0 W F w l h) : cz_K s0 W F w h := by
  obtain ⟨s, a, b, c, d, e, -⟩ := S
  exact ⟨s, a, b, c, d, e⟩
theorem cz_K.N (S : cz_K s0 W F w h) : cz_N s0 W h := by
  obtain ⟨s, a, b, c, -⟩ := S
  exact ⟨s, a, b, c⟩
theorem cz_K.io (S : cz_K s0 W F w h) : m_isO h 2 211 = true := nz_io211 S.N
theorem cz_K.law (S : cz_K s0 W F w h) : m_go h 211 2 5 = some w := by
  obtain ⟨s, rfl, -, -, -, e⟩ := S
  rw [tz_gow, e]
theorem cz_K.act (S : cz_K s0 W F w h) {a : Nat} {T : Nat → Int32} (A : tz_Act s0.2.2.2.2.2.1 a T) : hz_Act h a T := by
  obtain ⟨s, rfl, -, fr, -⟩ := S
  refine ⟨s, rfl, ?_⟩
  rw [show s.2.2.2.2.2.1 = s0.2.2.2.2.2.1 from congrArg (fun x => x.2.1) fr.2.2.2.2]
  exact A
theorem cz_K.top0 (S : cz_K s0 W F w h) : k_ok (m_pf m_ft h 211 2 4 (.int 0)) (cz_S s0 W F w []) := by
  obtain ⟨s, rfl, H, fr, hF, e⟩ := S
  refine ⟨_, pf_211_4, _, rfl, H.cong (fun a k h1 h2 => if_neg (fun q => by omega)) (fun _ _ _ => rfl) rfl rfl, fr.trans (tz_fr.uf (by decide) (by decide) (by decide)), hF, e, ?_, trivial⟩
  show (if 211 = 211 ∧ 4 = 4 then (0 : Int32) else s.1 211 4) = nI 0
  exact if_pos ⟨rfl, rfl⟩
theorem cz_push (S : cz_S s0 W F w l h) (hl : l.length < 400) {x : Int64} : k_ok (F2_push 211 x h) (cz_S s0 W F w (x :: l)) := by
  have S' := S
  obtain ⟨s, rfl, H, fr, hF, e, ht, hst⟩ := S
  have g4 : m_gi (tz_H s) 211 2 4 = some (nI l.length) := by rw [gi_211_4, ht]
  unfold F2_push F2_push_0
  refine k_g io_211 (k_e g4 (k_f (nI_pos (by omega)) (k_e g4 (k_e gr_211_3 (k_e le_215 (k_f (show ¬ (nI 400 ≤ nI l.length) from nI_ge hl (by decide)) (k_e gr_211_3 (k_e g4 ?_))))))))
  refine k_e (tz_sl sh_215 (nI_in1 hl (by decide))) (k_e gi_211_4 (k_e pf_211_4 (k_s ?_)))
  rw [nI_clamp (by omega)]
  refine ⟨_, rfl, H.cong (fun a k h1 h2 => if_neg (fun q => by omega)) (fun _ _ _ => rfl) rfl rfl, fr.trans ((tz_fr.ul (by decide) (by decide)).trans (tz_fr.uf (by decide) (by decide) (by decide))), hF, e, ?_, ?_⟩
  · show (if 211 = 211 ∧ 4 = 4 then s.1 211 4 + 1 else s.1 211 4) = _
    rw [if_pos ⟨rfl, rfl⟩, ht, ← nI_succ]
    rfl
  · show st_ok (if 215 = 215 then _ else s.2.2.1 215) (x :: l)
    rw [if_pos rfl]
    exact hst.push
theorem cz_pop {x : Int64} (S : cz_S s0 W F w (x :: l) h) (hl : l.length < 400) : k_ok (F2_pop 211 h) (fun z => ∃ h1, z = (x, h1) ∧ cz_S s0 W F w l h1) := by
  obtain ⟨s, rfl, H, fr, hF, e, ht, hst⟩ := S
  have ht : s.1 211 4 = nI (l.length + 1) := ht
  have g4 : m_gi (tz_H s) 211 2 4 = some (nI (l.length + 1)) := by rw [gi_211_4, ht]
  unfold F2_pop F2_pop_0
  refine k_g io_211 (k_e g4 (k_f (nI_nle (by omega) (by omega)) (k_e g4 (k_e gr_211_3 (k_e le_215 (k_t (show nI (l.length + 1) ≤ nI 400 from nI_le (by omega) (by decide)) (k_e g4 (k_e pf_211_4 (k_e gr_211_3 (k_e gi_211_4 ?_))))))))))
  rw [show (tz_uf s 211 4 (nI (l.length + 1) - 1)).1 211 4 = nI l.length from (if_pos ⟨rfl, rfl⟩ : (if 211 = 211 ∧ 4 = 4 then nI (l.length + 1) - 1 else s.1 211 4) = _).trans (nI_pred _)]
  refine k_e (tz_al sh_215 (nI_in1 hl (by decide))) (k_s ?_)
  rw [nI_clamp (by omega)]
  refine ⟨_, congrArg (fun y => (y, _)) hst.1, _, rfl, H.cong (fun a k h1 h2 => if_neg (fun q => by omega)) (fun _ _ _ => rfl) rfl rfl, fr.trans (tz_fr.uf (by decide) (by decide) (by decide)), hF, e, ?_, hst.2⟩
  show (if 211 = 211 ∧ 4 = 4 then nI (l.length + 1) - 1 else s.1 211 4) = _
  rw [if_pos ⟨rfl, rfl⟩, nI_pred]
theorem lg0 {x : Int64} : (lg_cmp x 0 = 0) ↔ x = 0 := by
  unfold lg_cmp
  by_cases q : x > 0
  · rw [if_pos q]
    refine ⟨fun e => absurd e (by decide), fun e => ?_⟩
    rw [e] at q
    exact absurd q (by decide)
  · rw [if_neg q]
    by_cases q2 : x = 0
    · rw [if_pos q2]; exact ⟨fun _ => q2, fun _ => rfl⟩
    · rw [if_neg q2]; exact ⟨fun e => absurd e (by decide), fun e => absurd e q2⟩
theorem lg1 {x : Int64} : (lg_cmp x 1 = 0) ↔ x = 1 := by
  unfold lg_cmp
  by_cases q : x > 1
  · rw [if_pos q]
    refine ⟨fun e => absurd e (by decide), fun e => ?_⟩
    rw [e] at q
    exact absurd q (by decide)
  · rw [if_neg q]
    by_cases q2 : x = 1
    · rw [if_pos q2]; exact ⟨fun _ => q2, fun _ => rfl⟩
    · rw [if_neg q2]; exact ⟨fun e => absurd e (by decide), fun e => absurd e q2⟩
theorem lgl {x y : Int64} : (0 ≤ lg_cmp x y) ↔ ¬ x < y := by
  unfold lg_cmp
  by_cases q : x > y
  · rw [if_pos q]
    exact ⟨fun _ e => Int64.lt_irrefl (Int64.lt_trans q e), fun _ => by decide⟩
  · rw [if_neg q]
    by_cases q2 : x = y
    · rw [if_pos q2, q2]; exact ⟨fun _ => Int64.lt_irrefl, fun _ => by decide⟩
    · rw [if_neg q2]
      refine ⟨fun e => absurd e (by decide), fun e => absurd (Int64.le_antisymm (Int64.not_lt.mp q) (Int64.not_lt.mp e)) q2⟩
theorem lgg {x y : Int64} : (lg_cmp x y ≤ 0) ↔ ¬ y < x := by
  unfold lg_cmp
  by_cases q : x > y
  · rw [if_pos q]
    exact ⟨fun e => absurd e (by decide), fun e => absurd q e⟩
  · rw [if_neg q]
    refine ⟨fun _ => q, fun _ => ?_⟩
    by_cases q2 : x = y
    · rw [if_pos q2]; decide
    · rw [if_neg q2]; decide
theorem fact_en : ∀ f ∈ List.range 10, tz_en (nI f) 0 = -10 - nI f ∧ nI f < 100 ∧ -10 - nI f < 0 ∧ ¬ (-10 < -10 - nI f) ∧ ((-10) - (-10 - nI f)) = nI f := by decide +kernel
theorem tz_en_f {f : Nat} {n : Int32} (hf : f < 10) : tz_en (nI f) n = -10 - nI f := by
  have h := (fact_en f (List.mem_range.mpr hf)).1
  unfold tz_en at h ⊢
  have e1 : ¬ nI f = 100 := fun e => by have := nI_e (m := 100) (by omega) (by decide) e; omega
  rw [if_neg e1] at h ⊢
  exact h
theorem cz_follow (S : cz_S s0 W F w l h) (hl : l.length < 400) {st n : Int32} {tl tl' : List Bool} (hty : sp_ty st n tl = some tl') (hl2 : ty_ok tl l) : k_ok (F2_follow 211 (tz_en st n) h) (cz_S s0 W F w (sp_stp F st n l)) := by
  unfold F2_follow F2_follow_0
  refine k_g S.K.io ?_
  rcases (ty_cases (F := F) hty hl2).2 with ⟨rfl, hn, e⟩ | ⟨f, hf, rfl, e⟩ | ⟨rfl, b, r, rfl, hb, e⟩ | ⟨b, a, r, rfl, q⟩
  · rw [e, show tz_en 100 n = n from if_pos rfl]
    refine k_f (Int32.not_lt.mpr hn.1) ?_
    refine k_b (cz_push S hl) ?_
    intro h1 S1
    exact k_s S1
  · obtain ⟨-, -, h1, h2, h3⟩ := fact_en f (List.mem_range.mpr hf)
    rw [e, tz_en_f hf]
    refine k_t h1 (k_f h2 ?_)
    rw [h3]
    have hS := S
    obtain ⟨s, rfl, H, fr, hF, e5, ht, hst⟩ := S
    refine k_f (nI_pos (by omega)) (k_e gr_211_2 (k_e le_214 (k_f (show ¬ (nI 10 ≤ nI f) from nI_ge hf (by decide)) (k_e gr_211_2 (k_e (tz_ai sh_214 ⟨rfl, rfl⟩ (nI_in1 hf (by decide))) ?_)))))
    rw [nI_clamp (by omega), hF f hf]
    refine k_b (cz_push hS hl) ?_
    intro h1 S1
    exact k_s S1
  · rw [e, show tz_en 104 n = -4 from rfl]
    refine k_t (by decide) (k_t (by decide) (k_t rfl ?_))
    refine k_b (cz_pop S (by simp at hl; omega)) ?_
    rintro _ ⟨h1, rfl, S1⟩
    rcases hb with rfl | rfl
    · refine k_t (show lg_cmp (0 : Int64) 0 = 0 by decide) ?_
      refine k_b (cz_push S1 (by simp at hl; omega)) ?_
      intro h2 S2
      exact k_s S2
    · refine k_f (show ¬ lg_cmp (1 : Int64) 0 = 0 by decide) ?_
      refine k_b (cz_push S1 (by simp at hl; omega)) ?_
      intro h2 S2
      exact k_s S2
  · have hlen : r.length + 2 < 400 := by simpa using hl
    have key : ∀ (c : Int32) (x : Int64), c < 0 → -10 < c → ¬ c = -4 → (∀ h, F2_joined c a b h = some x) → k_ok (m_if (c < 0) (m_if (-10 < c) (m_if (c = -4) (m_b (F2_pop 211 h) fun z13 => m_if ((lg_cmp z13.1 0) = 0) (m_b (F2_push 211 1 z13.2) fun h18 => some h18) (m_b (F2_push 211 0 z13.2) fun h16 => some h16)) (m_b (F2_pop 211 h) fun z5 => m_b (F2_pop 211 z5.2) fun z7 => m_b (F2_joined c z7.1 z5.1 z7.2) fun v9 => m_b (F2_push 211 v9 z7.2) fun h11 => some h11)) (m_if (((-10) - c) < 0) (m_b (F2_push 211 0 h) fun h21 => some h21) (m_b (m_gr h 211 2 2) fun v22 => m_b (m_len h v22) fun v24 => m_if (v24 ≤ ((-10) - c)) (m_b (F2_push 211 0 h) fun h28 => some h28) (m_b (m_gr h 211 2 2) fun v29 => m_b (m_ai h 0 v29 ((-10) - c)) fun v31 => m_b (F2_push 211 (m_i2l v31) h) fun h34 => some h34)))) (m_b (F2_push 211 (m_i2l c) h) fun h36 => some h36)) (cz_S s0 W F w (x :: r)) := by
      intro c x h1 h2 h3 hj
      refine k_t h1 (k_t h2 (k_f h3 ?_))
      refine k_b (cz_pop S (by simp; omega)) ?_
      rintro _ ⟨g1, rfl, S1⟩
      refine k_b (cz_pop S1 (by omega)) ?_
      rintro _ ⟨g2, rfl, S2⟩
      refine k_e (hj g2) ?_
      refine k_b (cz_push S2 (by omega)) ?_
      intro g3 S3
      exact k_s S3
    rcases q with ⟨rfl, e⟩ | ⟨rfl, e⟩ | ⟨rfl, e⟩ | ⟨rfl, ha, hb, e⟩ | ⟨rfl, ha, hb, e⟩
    · rw [e]
      exact key (-1) _ (by decide) (by decide) (by decide) (fun _ => rfl)
    · rw [e]
      refine key (-2) _ (by decide) (by decide) (by decide) (fun _ => ?_)
      show m_if (0 ≤ lg_cmp a b) (some 0) (some 1) = _
      by_cases q : a < b
      · rw [iz_f (fun e => lgl.mp e q), if_pos q]
      · rw [iz_t (lgl.mpr q), if_neg q]
    · rw [e]
      refine key (-3) _ (by decide) (by decide) (by decide) (fun _ => ?_)
      show m_if (lg_cmp a b ≤ 0) (some 0) (some 1) = _
      by_cases q : b < a
      · rw [iz_f (fun e => lgg.mp e q), if_pos q]
      · rw [iz_t (lgg.mpr q), if_neg q]
    · rw [e]
      refine key (-5) _ (by decide) (by decide) (by decide) (fun _ => ?_)
      rcases ha with rfl | rfl <;> rcases hb with rfl | rfl <;> rfl
    · rw [e]
      refine key (-6) _ (by decide) (by decide) (by decide) (fun _ => ?_)
      rcases ha with rfl | rfl <;> rcases hb with rfl | rfl <;> rfl
end
