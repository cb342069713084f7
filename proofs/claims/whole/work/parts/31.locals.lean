/-! ===== m_: locals that are not read don't matter ===== -/
def m_nd (lv : m_L) : Prop := lv.Pairwise (fun a b => ¬ a.1 = b.1)
def m_lle (lv lv' : m_L) : Prop := ∀ i v, m_at i lv = some v → m_at i lv' = some v
theorem m_at_mem {i : Nat} {v : Value} : ∀ {lv : m_L}, m_at i lv = some v → (i, v) ∈ lv := by
  intro lv h
  unfold m_at at h
  obtain ⟨q, h1, rfl⟩ := Option.map_eq_some_iff.mp h
  have h2 := List.mem_of_find?_eq_some h1
  have h3 := List.find?_some h1
  have h3 : q.1 = i := by simpa using h3
  subst h3
  exact h2
theorem m_at_cons {i : Nat} {q : Nat × Value} {lv : m_L} : m_at i (q :: lv) = if q.1 = i then some q.2 else m_at i lv := by
  unfold m_at
  rw [List.find?_cons]
  by_cases h : q.1 = i
  · simp [h]
  · have : (q.1 == i) = false := by simpa using h
    rw [this, if_neg h]
theorem m_at_nd {i : Nat} {v : Value} : ∀ {lv : m_L}, m_nd lv → (i, v) ∈ lv → m_at i lv = some v
  | [], _, h => by cases h
  | q :: lv, hn, h => by
    unfold m_nd at hn
    rw [List.pairwise_cons] at hn
    rw [m_at_cons]
    rcases List.mem_cons.mp h with h | h
    · subst h
      rw [if_pos rfl]
    · rw [if_neg (hn.1 _ h)]
      exact m_at_nd hn.2 h
theorem m_at_flt {i : Nat} {v : Value} {p : Nat × Value → Bool} : ∀ {lv : m_L}, m_at i lv = some v → p (i, v) = true → m_at i (lv.filter p) = some v
  | [], h, _ => h
  | q :: lv, h, hp => by
    rw [m_at_cons] at h
    split at h
    · next e =>
      obtain ⟨a, b⟩ := q
      cases h
      cases e
      rw [List.filter_cons_of_pos hp, m_at_cons, if_pos rfl]
    · next e =>
      have h1 := m_at_flt (p := p) h hp
      by_cases hq : p q = true
      · rw [List.filter_cons_of_pos hq, m_at_cons, if_neg e]
        exact h1
      · rw [List.filter_cons_of_neg hq]
        exact h1
theorem m_lle_flt {lv lv' : m_L} {i : Nat} {v : Value} {p : Nat × Value → Bool} (hn : m_nd lv) (h : m_lle lv lv') (hp : ∀ q, p q = true → ¬ q.1 = i) : m_lle ((i, v) :: lv.filter p) ((i, v) :: lv'.filter p) ∧ m_nd ((i, v) :: lv.filter p) := by
  refine ⟨fun j w hj => ?_, ?_⟩
  · rw [m_at_cons] at hj ⊢
    split at hj
    · next e => rw [if_pos e]; exact hj
    · next e =>
      rw [if_neg e]
      have h1 := m_at_mem hj
      obtain ⟨h2, h3⟩ := List.mem_filter.mp h1
      exact m_at_flt (h _ _ (m_at_nd hn h2)) h3
  · unfold m_nd
    rw [List.pairwise_cons]
    refine ⟨fun q hq e => hp q (List.mem_filter.mp hq).2 e.symm, ?_⟩
    exact List.Pairwise.filter p hn
theorem m_lle_sv {lv lv' : m_L} (i : Nat) (v : Value) (hn : m_nd lv) (h : m_lle lv lv') : m_lle (m_sv i v lv) (m_sv i v lv') ∧ m_nd (m_sv i v lv) :=
  m_lle_flt hn h fun q hq => by
    simp only [Bool.and_eq_true, Bool.not_eq_true', beq_eq_false_iff_ne] at hq
    exact hq.1
theorem m_lle_sw {lv lv' : m_L} (i : Nat) (v : Value) (hn : m_nd lv) (h : m_lle lv lv') : m_lle (m_sw i v lv) (m_sw i v lv') ∧ m_nd (m_sw i v lv) :=
  m_lle_flt hn h fun q hq => by
    simp only [Bool.and_eq_true, Bool.not_eq_true', beq_eq_false_iff_ne] at hq
    exact hq.1
def m_lw (lv' : m_L) (o : Option (m_L × List Value × m_H)) (z : m_L × List Value × m_H) : Prop := ∃ w, o = some w ∧ m_lle z.1 w.1 ∧ m_nd z.1 ∧ w.2 = z.2
theorem m_lw_map {α : Type} {lv lv' : m_L} {x : Option α} {f g : α → m_L × List Value × m_H} {z : m_L × List Value × m_H} (hn : m_nd lv) (hl : m_lle lv lv') (h : x.map f = some z) (hf : ∀ a, (f a).1 = lv) (hg : ∀ a, (g a).1 = lv') (h2 : ∀ a, (g a).2 = (f a).2) : m_lw lv' (x.map g) z := by
  obtain ⟨a, h1, rfl⟩ := Option.map_eq_some_iff.mp h
  exact ⟨g a, by rw [h1]; rfl, by rw [hf, hg]; exact hl, by rw [hf]; exact hn, h2 a⟩
theorem m_lw_some {lv lv' : m_L} {y : List Value × m_H} {z : m_L × List Value × m_H} (hn : m_nd lv) (hl : m_lle lv lv') (h : some (lv, y) = some z) : m_lw lv' (some (lv', y)) z := by
  cases h
  exact ⟨_, rfl, hl, hn, rfl⟩
theorem m_lw_ld {lv lv' : m_L} {st : List Value} {hp : m_H} {z : m_L × List Value × m_H} (ld : m_L → Option (List Value)) (hld : ∀ y, ld lv = some y → ld lv' = some y) (hn : m_nd lv) (hl : m_lle lv lv') (h : (ld lv).map (fun z => (lv, z, hp)) = some z) : m_lw lv' ((ld lv').map (fun z => (lv', z, hp))) z := by
  obtain ⟨a, h1, rfl⟩ := Option.map_eq_some_iff.mp h
  exact ⟨(lv', a, hp), by rw [hld a h1]; rfl, hl, hn, rfl⟩
theorem m_ldi_w {i : Nat} {lv lv' : m_L} {st y : List Value} (hl : m_lle lv lv') (h : m_ldi i lv st = some y) : m_ldi i lv' st = some y := by
  unfold m_ldi at h ⊢
  split at h
  · next e => rw [hl _ _ e]; exact h
  · cases h
theorem m_ldl_w {i : Nat} {lv lv' : m_L} {st y : List Value} (hl : m_lle lv lv') (h : m_ldl i lv st = some y) : m_ldl i lv' st = some y := by
  unfold m_ldl at h ⊢
  split at h
  · next e => rw [hl _ _ e]; exact h
  · cases h
theorem m_lda_w {i : Nat} {lv lv' : m_L} {st y : List Value} (hl : m_lle lv lv') (h : m_lda i lv st = some y) : m_lda i lv' st = some y := by
  unfold m_lda at h ⊢
  split at h
  · next e => rw [hl _ _ e]; exact h
  · next e => rw [hl _ _ e]; exact h
  · cases h
theorem m_lw_st {lv lv' : m_L} {st : List Value} {hp : m_H} {z : m_L × List Value × m_H} (sto : m_L → Option (m_L × List Value)) (hs : ∀ y, sto lv = some y → ∃ y', sto lv' = some y' ∧ m_lle y.1 y'.1 ∧ m_nd y.1 ∧ y'.2 = y.2) (h : (sto lv).map (fun z => (z.1, z.2, hp)) = some z) : m_lw lv' ((sto lv').map (fun z => (z.1, z.2, hp))) z := by
  obtain ⟨a, h1, rfl⟩ := Option.map_eq_some_iff.mp h
  obtain ⟨b, h2, h3, h4, h5⟩ := hs a h1
  exact ⟨(b.1, b.2, hp), by rw [h2]; rfl, h3, h4, by rw [h5]⟩
theorem m_sti_w {i nL : Nat} {lv lv' : m_L} {st : List Value} (hn : m_nd lv) (hl : m_lle lv lv') : ∀ y, m_sti i nL lv st = some y → ∃ y', m_sti i nL lv' st = some y' ∧ m_lle y.1 y'.1 ∧ m_nd y.1 ∧ y'.2 = y.2 := by
  intro y h
  unfold m_sti at h ⊢
  split at h
  · split at h
    · next hi =>
      cases h
      rw [if_pos hi]
      exact ⟨_, rfl, (m_lle_sv _ _ hn hl).1, (m_lle_sv _ _ hn hl).2, rfl⟩
    · cases h
  · cases h
theorem m_stl_w {i nL : Nat} {lv lv' : m_L} {st : List Value} (hn : m_nd lv) (hl : m_lle lv lv') : ∀ y, m_stl i nL lv st = some y → ∃ y', m_stl i nL lv' st = some y' ∧ m_lle y.1 y'.1 ∧ m_nd y.1 ∧ y'.2 = y.2 := by
  intro y h
  unfold m_stl at h ⊢
  split at h
  · split at h
    · next hi =>
      cases h
      rw [if_pos hi]
      exact ⟨_, rfl, (m_lle_sw _ _ hn hl).1, (m_lle_sw _ _ hn hl).2, rfl⟩
    · cases h
  · cases h
theorem m_sta_w {i nL : Nat} {lv lv' : m_L} {st : List Value} (hn : m_nd lv) (hl : m_lle lv lv') : ∀ y, m_sta i nL lv st = some y → ∃ y', m_sta i nL lv' st = some y' ∧ m_lle y.1 y'.1 ∧ m_nd y.1 ∧ y'.2 = y.2 := by
  intro y h
  unfold m_sta at h ⊢
  split at h
  all_goals first
    | (cases h; done)
    | (split at h
       · next hi =>
         cases h
         rw [if_pos hi]
         exact ⟨_, rfl, (m_lle_sv _ _ hn hl).1, (m_lle_sv _ _ hn hl).2, rfl⟩
       · cases h)
theorem m_step_w {xs : Nat → Int32} {L : Nat} {q : m_Q} {nL : Nat} {ins : Instr} {lv lv' : m_L} {st : List Value} {hp : m_H} {z : m_L × List Value × m_H} (hn : m_nd lv) (hl : m_lle lv lv') (h : m_step m_ft m_fn xs L q nL ins lv st hp = some z) : m_lw lv' (m_step m_ft m_fn xs L q nL ins lv' st hp) z := by
  unfold m_step at h ⊢
  split at h
  all_goals try dsimp only
  all_goals first
    | exact m_lw_some hn hl h
    | exact m_lw_map hn hl h (fun _ => rfl) (fun _ => rfl) (fun _ => rfl)
    | exact m_lw_ld (st := st) (fun lv => m_ldi _ lv st) (fun y hy => m_ldi_w hl hy) hn hl h
    | exact m_lw_ld (st := st) (fun lv => m_ldl _ lv st) (fun y hy => m_ldl_w hl hy) hn hl h
    | exact m_lw_ld (st := st) (fun lv => m_lda _ lv st) (fun y hy => m_lda_w hl hy) hn hl h
    | exact m_lw_st (st := st) (fun lv => m_sti _ _ lv st) (m_sti_w hn hl) h
    | exact m_lw_st (st := st) (fun lv => m_stl _ _ lv st) (m_stl_w hn hl) h
    | exact m_lw_st (st := st) (fun lv => m_sta _ _ lv st) (m_sta_w hn hl) h
    | (cases h; done)
    | (split at h
       · next x e =>
         split at h
         · next hi =>
           cases h
           rw [hl _ _ e]
           dsimp only
           rw [if_pos hi]
           exact ⟨_, rfl, (m_lle_sv _ _ hn hl).1, (m_lle_sv _ _ hn hl).2, rfl⟩
         · cases h
       · cases h)
    | ((repeat' split at h)
       all_goals first
         | (cases h; done)
         | exact m_lw_some hn hl h
         | exact m_lw_map hn hl h (fun _ => rfl) (fun _ => rfl) (fun _ => rfl)
         | (simp only [*, if_true, if_false]; exact m_lw_some hn hl h)
         | (simp only [*, if_true, if_false]; exact m_lw_map hn hl h (fun _ => rfl) (fun _ => rfl) (fun _ => rfl)))
theorem m_step_ex {xs : Nat → Int32} {L : Nat} {q : m_Q} {nL pc : Nat} {ret : Option FieldType} {ins : Instr} {lv : m_L} {st : List Value} {hp : m_H} {z : m_L × List Value × m_H} (h : m_step m_ft m_fn xs L q nL ins lv st hp = some z) : m_jump ins pc st = none ∧ m_ret ret ins st = none ∧ m_ncall m_sls q ins st hp = none ∧ m_call m_P q ins st hp = none := by
  cases ins <;> first
    | exact ⟨rfl, rfl, rfl, rfl⟩
    | (exfalso; cases h; done)
theorem m_run_w {xs : Nat → Int32} {L : Nat} : ∀ {n d i pc : Nat} {lv lv' : m_L} {st : List Value} {hp : m_H} {r : m_O × m_H}, m_nd lv → m_lle lv lv' → m_run m_ft m_fn m_sls xs L m_P n d i pc lv st hp = some r → m_run m_ft m_fn m_sls xs L m_P n d i pc lv' st hp = some r
  | 0, _, _, _, _, _, _, _, _, _, _, h => by unfold m_run at h; cases h
  | n + 1, d, i, pc, lv, lv', st, hp, r, hn, hl, e => by
    unfold m_run at e
    unfold m_run
    split at e
    · cases e
    · next ins len h1 =>
      try rw [h1]
      try dsimp only
      split at e
      · next E h2 => (try rw [h2]); (try dsimp only); exact e
      · next h2 =>
        try rw [h2]
        try dsimp only
        split at e
        · next z h3 =>
          obtain ⟨w, h4, h5, h6, h7⟩ := m_step_w hn hl h3
          rw [h4]
          dsimp only
          rw [h7]
          exact m_run_w h6 h5 e
        · next h3 =>
          have h4 : m_step m_ft m_fn xs L (m_P i).2.1 (m_P i).2.2.1 ins lv' st hp = none ∨ ∃ w, m_step m_ft m_fn xs L (m_P i).2.1 (m_P i).2.2.1 ins lv' st hp = some w := by
            cases m_step m_ft m_fn xs L (m_P i).2.1 (m_P i).2.2.1 ins lv' st hp with
            | none => exact Or.inl rfl
            | some w => exact Or.inr ⟨w, rfl⟩
          rcases h4 with h4 | ⟨w, h4⟩
          · rw [h4]
            try dsimp only
            split at e
            · next h5 => (try rw [h5]); (try dsimp only); exact m_run_w hn hl e
            · next h5 =>
              try rw [h5]
              try dsimp only
              split at e
              · next h6 => (try rw [h6]); (try dsimp only); exact e
              · next h6 =>
                try rw [h6]
                try dsimp only
                split at e
                · next h7 =>
                  try rw [h7]
                  try dsimp only
                  split at e
                  · next hd => (try rw [if_pos hd]); exact m_run_w hn hl e
                  · cases e
                · next h7 =>
                  try rw [h7]
                  try dsimp only
                  split at e
                  · next h8 =>
                    try rw [h8]
                    try dsimp only
                    split at e
                    · next h9 => (try rw [h9]); (try dsimp only); exact m_run_w hn hl e
                    · next h9 =>
                      try rw [h9]
                      try dsimp only
                      split at e
                      · next h10 => (try rw [h10]); (try dsimp only); exact m_run_w hn hl e
                      · next h10 => (try rw [h10]); (try dsimp only); exact e
                    · cases e
                  · cases e
          · exfalso
            obtain ⟨g1, g2, g3, g4⟩ := m_step_ex (pc := pc) (ret := (m_P i).2.2.2.2.1) h4
            rw [g1] at e
            dsimp only at e
            rw [g2] at e
            dsimp only at e
            rw [g3] at e
            dsimp only at e
            rw [g4] at e
            cases d <;> cases e
def m_ndb : List Nat → Bool
  | [] => true
  | k :: l => l.all (fun j => !(Nat.beq k j)) && m_ndb l
theorem m_ndb_ok : ∀ {lv : m_L}, m_ndb (lv.map (fun q => q.1)) = true → m_nd lv
  | [], _ => List.Pairwise.nil
  | q :: lv, h => by
    rw [List.map_cons] at h
    unfold m_ndb at h
    rw [Bool.and_eq_true] at h
    unfold m_nd
    rw [List.pairwise_cons]
    refine ⟨fun a ha e => ?_, m_ndb_ok h.2⟩
    have := List.all_eq_true.mp h.1 a.1 (List.mem_map.mpr ⟨a, ha, rfl⟩)
    rw [e] at this
    simp at this
def m_Sb (lv' : m_L) : m_L → Prop
  | [] => True
  | q :: l => m_at q.1 lv' = some q.2 ∧ m_Sb lv' l
theorem m_Sb_ok {lv' : m_L} : ∀ {lv : m_L}, m_Sb lv' lv → ∀ q ∈ lv, m_at q.1 lv' = some q.2
  | [], _, _, h => by cases h
  | x :: l, h, q, hq => by
    rcases List.mem_cons.mp hq with rfl | hq
    · exact h.1
    · exact m_Sb_ok h.2 q hq
theorem r_lv {xs : Nat → Int32} {L D i pc : Nat} {lv lv' : m_L} {st : List Value} {hp : m_H} {r : m_O × m_H} (k : m_Rn xs L D i pc lv st hp r) (hn : m_ndb (lv.map (fun q => q.1)) = true) (hs : m_Sb lv' lv) : m_Rn xs L D i pc lv' st hp r := by
  obtain ⟨n, k⟩ := k
  exact ⟨n, fun d hd => m_run_w (m_ndb_ok hn) (fun j v hj => m_Sb_ok hs (j, v) (m_at_mem hj)) (k d hd)⟩
