/-! ===== a text: how it reads, as mathematics; the class's reader, step by step ===== -/
abbrev gC : Type := List (Int32 × Int32)
abbrev gG : Type := (Nat × gC) ⊕ Nat
def gB (a : gG) (f : Nat → gC → gG) : gG := match a with
  | .inl z => f z.1 z.2
  | .inr e => .inr e
noncomputable def gPart (T : Nat → Nat) (n q : Nat) (c : gC) : gG := if lx_t T n q = 1 then .inl (lx_n T n q, c ++ [(100, lx_v T n q)]) else if lx_t T n q < 264 then .inr q else .inl (lx_n T n q, c ++ [(lx_t T n q - 264, 0)])
noncomputable def gLoop (T : Nat → Nat) (n : Nat) (sg op : Int32) (st : Nat → gC → gG) : Nat → Nat → gC → gG
  | 0, q, c => .inl (q, c)
  | f + 1, q, c => if lx_t T n q = sg then gB (st (lx_n T n q) c) (fun q' c' => gLoop T n sg op st f q' (c' ++ [(op, 0)])) else .inl (q, c)
noncomputable def gSum (T : Nat → Nat) (n q : Nat) (c : gC) : gG := gB (gPart T n q c) (gLoop T n 43 101 (gPart T n) 400)
noncomputable def gCmp (T : Nat → Nat) (n q : Nat) (c : gC) : gG := gB (gSum T n q c) (fun q' c' => if lx_t T n q' = 60 then gB (gSum T n (lx_n T n q') c') (fun q2 c2 => .inl (q2, c2 ++ [(102, 0)])) else if lx_t T n q' = 62 then gB (gSum T n (lx_n T n q') c') (fun q2 c2 => .inl (q2, c2 ++ [(103, 0)])) else .inr q')
noncomputable def gAll (T : Nat → Nat) (n : Nat) (A : Nat → gC → gG) (q : Nat) (c : gC) : gG := gB (A q c) (gLoop T n 262 105 A 400)
noncomputable def gCond (T : Nat → Nat) (n : Nat) (A : Nat → gC → gG) (q : Nat) (c : gC) : gG := gB (gAll T n A q c) (gLoop T n 261 106 (gAll T n A) 400)
noncomputable def gAtom (T : Nat → Nat) (n : Nat) : Nat → Nat → Nat → gC → gG
  | 0, _, _, _ => .inr 0
  | f + 1, d, q, c => if lx_t T n q = 40 then (if d = 6 then .inr q else gB (gCond T n (gAtom T n f (d + 1)) (lx_n T n q) c) (fun q' c' => if lx_t T n q' = 41 then .inl (lx_n T n q', c') else .inr q')) else if lx_t T n q = 263 then (if d = 6 then .inr q else gB (gAtom T n f (d + 1) (lx_n T n q) c) (fun q' c' => .inl (q', c' ++ [(104, 0)]))) else gCmp T n q c
/-- what a piece of reading gives: a place behind, not more code than bytes -/
def gP (T : Nat → Nat) (n q : Nat) (c : gC) (x : Nat) (r : gG) : Prop := match r with
  | .inl z => q + x ≤ z.1 ∧ z.1 ≤ n ∧ lx_p T n z.1 ∧ z.2.length + q ≤ c.length + z.1
  | .inr e => e ≤ n
section
variable {T : Nat → Nat} {n : Nat}
theorem lx_wn_c {q r : Nat} : ∀ j k, lx_wn T q r j k = 2 ∨ ∃ i, i < j ∧ lx_wn T q r j k = nI (256 + (k + i))
  | 0, k => Or.inl rfl
  | j + 1, k => by
    unfold lx_wn
    split
    · exact Or.inr ⟨0, by omega, rfl⟩
    · rcases lx_wn_c (q := q) (r := r) j (k + 1) with e | ⟨i, hi, e⟩
      · exact Or.inl e
      · exact Or.inr ⟨i + 1, by omega, by rw [e]; congr 1; omega⟩
theorem lx_t_c {q : Nat} (hT : ∀ j, j < n → T j < 256) : (∃ b, b < 256 ∧ lx_t T n q = nI b) ∨ ∃ k, k < 18 ∧ lx_t T n q = nI (256 + k) := by
  unfold lx_t
  split
  · exact Or.inl ⟨0, by decide, rfl⟩
  · next c =>
    split
    · split
      · exact Or.inl ⟨1, by decide, rfl⟩
      · exact Or.inl ⟨2, by decide, rfl⟩
    · split
      · rcases lx_wn_c (T := T) (q := q) (r := lx_e lx_l T n q) 18 0 with e | ⟨i, hi, e⟩
        · exact Or.inl ⟨2, by decide, e⟩
        · exact Or.inr ⟨i, hi, by rw [show lx_wd T q (lx_e lx_l T n q) = nI (256 + (0 + i)) from e, Nat.zero_add]⟩
      · split
        · exact Or.inl ⟨T q, hT q (by omega), rfl⟩
        · exact Or.inl ⟨2, by decide, rfl⟩
theorem lx_t_f {q : Nat} (hT : ∀ j, j < n → T j < 256) (h : ¬ lx_t T n q < 264) : ∃ k, k < 10 ∧ lx_t T n q = nI (264 + k) := by
  rcases lx_t_c (q := q) hT with ⟨b, hb, e⟩ | ⟨k, hk, e⟩
  · rw [e] at h
    exact absurd (nI_lt (b := 264) (by omega) (by decide)) h
  · rw [e] at h ⊢
    have k8 : 8 ≤ k := by
      rcases Nat.lt_or_ge k 8 with a | a
      · exact absurd (nI_lt (b := 264) (by omega) (by decide)) h
      · exact a
    exact ⟨k - 8, by omega, by congr 1; omega⟩
theorem lx_t_0 {q : Nat} (h : n ≤ q) : lx_t T n q = 0 := if_pos h
theorem lx_t_n {q : Nat} (h : ¬ lx_t T n q = 0) : q < n := by
  rcases Nat.lt_or_ge q n with a | a
  · exact a
  · exact absurd (lx_t_0 a) h
theorem gP_b {q q0 x y : Nat} {c c0 : gC} {a : gG} {f : Nat → gC → gG} (h : gP T n q0 c0 x a) (k : ∀ q' c', q0 + x ≤ q' → q' ≤ n → lx_p T n q' → c'.length + q0 ≤ c0.length + q' → gP T n q c y (f q' c')) : gP T n q c y (gB a f) := by
  cases a with
  | inl z => exact k z.1 z.2 h.1 h.2.1 h.2.2.1 h.2.2.2
  | inr e => exact h
theorem gP_part {q : Nat} {c : gC} (hq : q ≤ n) : gP T n q c 1 (gPart T n q c) := by
  unfold gPart
  have nx : ¬ lx_t T n q = 0 → ∀ z : Int32 × Int32, gP T n q c 1 (.inl (lx_n T n q, c ++ [z])) := by
    intro h z
    have l := lx_n_lt (T := T) (lx_t_n h)
    refine ⟨by omega, l.2, lx_p_n hq, ?_⟩
    rw [List.length_append]
    show c.length + 1 + q ≤ _
    omega
  split
  · next e => exact nx (by rw [e]; decide) _
  · split
    · exact hq
    · next e => exact nx (fun z => e (by rw [z]; decide)) _
theorem gP_loop {sg op : Int32} {st : Nat → gC → gG} (hs : ¬ sg = 0) (h : ∀ q c, q ≤ n → gP T n q c 0 (st q c)) : ∀ f q c, q ≤ n → lx_p T n q → gP T n q c 0 (gLoop T n sg op st f q c)
  | 0, q, c, hq, hp => ⟨by show q + 0 ≤ q; omega, hq, hp, Nat.le_refl _⟩
  | f + 1, q, c, hq, hp => by
    unfold gLoop
    split
    · next e =>
      have l := lx_n_lt (T := T) (lx_t_n (T := T) (n := n) (q := q) (by rw [e]; exact hs))
      have h1 := h (lx_n T n q) c l.2
      cases hst : st (lx_n T n q) c with
      | inr e => rw [hst] at h1; exact h1
      | inl z =>
        rw [hst] at h1
        obtain ⟨a1, a2, a3, a4⟩ := h1
        have ih := gP_loop (op := op) hs h f z.1 (z.2 ++ [(op, 0)]) a2 a3
        have len : (z.2 ++ [(op, (0 : Int32))]).length = z.2.length + 1 := by rw [List.length_append]; rfl
        show gP T n q c 0 (gLoop T n sg op st f z.1 (z.2 ++ [(op, 0)]))
        cases hl : gLoop T n sg op st f z.1 (z.2 ++ [(op, 0)]) with
        | inr e => rw [hl] at ih; exact ih
        | inl y =>
          rw [hl] at ih
          obtain ⟨b1, b2, b3, b4⟩ := ih
          rw [len] at b4
          exact ⟨by omega, b2, b3, by omega⟩
    · exact ⟨by show q + 0 ≤ q; omega, hq, hp, Nat.le_refl _⟩
theorem gP_w {q x y : Nat} {c : gC} {r : gG} (h : gP T n q c x r) (hy : y ≤ x) : gP T n q c y r := by
  cases r with
  | inl z => exact ⟨by have := h.1; omega, h.2⟩
  | inr e => exact h
/-- one behind the other -/
theorem gP_t {q q' x y : Nat} {c c' : gC} {r : gG} (h : q + x ≤ q') (hl : c'.length + q ≤ c.length + q') (k : gP T n q' c' y r) : gP T n q c (x + y) r := by
  cases r with
  | inl z => exact ⟨by have := k.1; omega, k.2.1, k.2.2.1, by have := k.2.2.2; omega⟩
  | inr e => exact k
theorem gP_sum {q : Nat} {c : gC} (hq : q ≤ n) : gP T n q c 1 (gSum T n q c) :=
  gP_b (gP_part hq) (fun q' c' h1 h2 h3 h4 => gP_t h1 h4 (gP_loop (by decide) (fun q c h => gP_w (gP_part h) (Nat.zero_le _)) 400 q' c' h2 h3))
theorem gP_em {q q' x : Nat} {c c' : gC} {z : Int32 × Int32} (h1 : q + x ≤ q') (h2 : q' ≤ n) (h3 : lx_p T n q') (h4 : c'.length + 1 + q ≤ c.length + q') : gP T n q c x (.inl (q', c' ++ [z])) := by
  refine ⟨h1, h2, h3, ?_⟩
  rw [List.length_append]
  exact h4
theorem gP_cmp {q : Nat} {c : gC} (hq : q ≤ n) : gP T n q c 1 (gCmp T n q c) := by
  refine gP_b (gP_sum hq) (fun q' c' h1 h2 h3 h4 => ?_)
  have go : ¬ lx_t T n q' = 0 → ∀ z : Int32 × Int32, gP T n q c 1 (gB (gSum T n (lx_n T n q') c') (fun q2 c2 => .inl (q2, c2 ++ [z]))) := by
    intro e z
    have l := lx_n_lt (T := T) (lx_t_n e)
    exact gP_b (gP_sum l.2) (fun q2 c2 a1 a2 a3 a4 => gP_em (by omega) a2 a3 (by omega))
  show gP T n q c 1 (if lx_t T n q' = 60 then gB (gSum T n (lx_n T n q') c') (fun q2 c2 => .inl (q2, c2 ++ [(102, 0)])) else if lx_t T n q' = 62 then gB (gSum T n (lx_n T n q') c') (fun q2 c2 => .inl (q2, c2 ++ [(103, 0)])) else .inr q')
  by_cases e1 : lx_t T n q' = 60
  · rw [if_pos e1]
    exact go (by rw [e1]; decide) _
  · rw [if_neg e1]
    by_cases e2 : lx_t T n q' = 62
    · rw [if_pos e2]
      exact go (by rw [e2]; decide) _
    · rw [if_neg e2]
      exact h2
theorem gP_all {A : Nat → gC → gG} (hA : ∀ q c, q ≤ n → gP T n q c 1 (A q c)) {q : Nat} {c : gC} (hq : q ≤ n) : gP T n q c 1 (gAll T n A q c) :=
  gP_b (hA q c hq) (fun q' c' h1 h2 h3 h4 => gP_t h1 h4 (gP_loop (by decide) (fun q c h => gP_w (hA q c h) (Nat.zero_le _)) 400 q' c' h2 h3))
theorem gP_cond {A : Nat → gC → gG} (hA : ∀ q c, q ≤ n → gP T n q c 1 (A q c)) {q : Nat} {c : gC} (hq : q ≤ n) : gP T n q c 1 (gCond T n A q c) :=
  gP_b (gP_all hA hq) (fun q' c' h1 h2 h3 h4 => gP_t h1 h4 (gP_loop (by decide) (fun q c h => gP_w (gP_all hA h) (Nat.zero_le _)) 400 q' c' h2 h3))
theorem gP_atom : ∀ f d q c, q ≤ n → gP T n q c 1 (gAtom T n f d q c)
  | 0, d, q, c, hq => Nat.zero_le _
  | f + 1, d, q, c, hq => by
    unfold gAtom
    by_cases e1 : lx_t T n q = 40
    · rw [if_pos e1]
      have l := lx_n_lt (T := T) (lx_t_n (T := T) (n := n) (q := q) (by rw [e1]; decide))
      by_cases d6 : d = 6
      · rw [if_pos d6]; exact hq
      · rw [if_neg d6]
        refine gP_b (gP_cond (gP_atom f (d + 1)) l.2) (fun q' c' h1 h2 h3 h4 => ?_)
        show gP T n q c 1 (if lx_t T n q' = 41 then .inl (lx_n T n q', c') else .inr q')
        by_cases e2 : lx_t T n q' = 41
        · rw [if_pos e2]
          have l2 := lx_n_lt (T := T) (lx_t_n (T := T) (n := n) (q := q') (by rw [e2]; decide))
          exact ⟨by omega, l2.2, lx_p_n h2, by show c'.length + q ≤ _; omega⟩
        · rw [if_neg e2]
          exact h2
    · rw [if_neg e1]
      by_cases e3 : lx_t T n q = 263
      · rw [if_pos e3]
        have l := lx_n_lt (T := T) (lx_t_n (T := T) (n := n) (q := q) (by rw [e3]; decide))
        by_cases d6 : d = 6
        · rw [if_pos d6]; exact hq
        · rw [if_neg d6]
          exact gP_b (gP_atom f (d + 1) (lx_n T n q) c l.2) (fun q' c' h1 h2 h3 h4 => gP_em (by omega) h2 h3 (by omega))
      · rw [if_neg e3]
        exact gP_cmp hq
end
