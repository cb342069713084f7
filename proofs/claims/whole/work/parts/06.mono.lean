/-! ===== m_: the heap never gets smaller ===== -/
def m_G (h h' : m_H) : Prop := m_cells h ≤ m_cells h' ∧ m_slots h ≤ m_slots h'
theorem m_G.rf {h : m_H} : m_G h h := ⟨Nat.le_refl _, Nat.le_refl _⟩
theorem m_G.tr {a b c : m_H} (h : m_G a b) (h2 : m_G b c) : m_G a c := ⟨Nat.le_trans h.1 h2.1, Nat.le_trans h.2 h2.2⟩
theorem m_G.p {h : m_H} {e : m_E} : m_G h (m_p h e) := ⟨by rw [m_cells_p]; omega, by rw [m_slots_p]; omega⟩
theorem m_G.junk {h : m_H} : m_G h (m_junk h) := ⟨by simp [m_cells, m_junk], by simp [m_slots, m_junk]⟩
theorem m_G.w {hp : m_H} {r : Nat} {e0 e : m_E} (h : m_c hp r = some e0) (hs : m_sz e = m_sz e0) : m_G hp (m_w hp r e) := ⟨by rw [m_cells_w]; exact Nat.le_refl _, by rw [m_slots_w h hs]; exact Nat.le_refl _⟩
theorem m_pf_g {ft : Nat → Nat → FieldType} {hp h : m_H} {r ci k : Nat} {v : Value} (e : m_pf ft hp r ci k v = some h) : m_G hp h := by
  unfold m_pf at e
  split at e
  · next o ho =>
    split at e
    · next hc =>
      cases e
      exact m_G.w ho (by simp [m_sz])
    · cases e
  · cases e
theorem m_si_g {hp h : m_H} {t r : Nat} {i x : Int32} (e : m_si hp t r i x = some h) : m_G hp h := by
  unfold m_si at e
  split at e
  · next ho =>
    split at e
    · cases e
      exact m_G.w ho rfl
    · cases e
  · cases e
theorem m_sl_g {hp h : m_H} {r : Nat} {i : Int32} {x : Int64} (e : m_sl hp r i x = some h) : m_G hp h := by
  unfold m_sl at e
  split at e
  · next ho =>
    split at e
    · cases e
      exact m_G.w ho rfl
    · cases e
  · cases e
theorem m_sq_g {hp h : m_H} {r : Nat} {i : Int32} {x : Option Nat} (e : m_sq hp r i x = some h) : m_G hp h := by
  unfold m_sq at e
  split at e
  · next ho =>
    split at e
    · cases e
      exact m_G.w ho rfl
    · cases e
  · cases e
theorem m_map_g {α : Type} {x : Option α} {f : α → m_L × List Value × m_H} {z : m_L × List Value × m_H} {hp : m_H} (e : x.map f = some z) (hf : ∀ y, x = some y → m_G hp (f y).2.2) : m_G hp z.2.2 := by
  cases x with
  | none => cases e
  | some y => cases e; exact hf y rfl
theorem m_step_g {ft : Nat → Nat → FieldType} {fn : Nat → Nat} {xs : Nat → Int32} {L : Nat} {q : m_Q} {nL : Nat} {ins : Instr} {lv : m_L} {st : List Value} {hp : m_H} {z : m_L × List Value × m_H} (e : m_step ft fn xs L q nL ins lv st hp = some z) : m_G hp z.2.2 := by
  unfold m_step at e
  split at e
  all_goals first
    | (cases e; exact m_G.rf)
    | (exact m_map_g e (fun y _ => m_G.rf))
    | skip
  all_goals (repeat' split at e)
  all_goals first
    | (cases e; exact m_G.rf)
    | (cases e; exact m_G.p)
    | (cases e; done)
    | (exact m_map_g e (fun y _ => m_G.rf))
    | (exact m_map_g e (fun y hy => m_pf_g hy))
    | (exact m_map_g e (fun y hy => m_si_g hy))
    | (exact m_map_g e (fun y hy => m_sl_g hy))
    | (exact m_map_g e (fun y hy => m_sq_g hy))
    | (next hy => cases e; exact m_si_g hy)
theorem m_cpy_g {hp h : m_H} {a0 a : Nat} {sp dp n : Int32} (e : m_cpy hp a0 a sp dp n = some h) : m_G hp h := by
  unfold m_cpy at e
  split at e
  · next ho =>
    split at e
    · cases e
      exact m_G.w ho rfl
    · cases e
  · cases e
theorem m_cof_g {hp h : m_H} {a : Nat} {n : Int32} (e : m_cof hp a n = some h) : m_G hp h := by
  unfold m_cof at e
  split at e
  · split at e
    · cases e
    · cases e
      exact m_G.p
  · cases e
theorem m_mapn_g {x : Option m_H} {f : m_H → List Value × m_H} {z : List Value × m_H} {hp : m_H} (e : x.map f = some z) (hf : ∀ y, x = some y → m_G hp (f y).2) : m_G hp z.2 := by
  cases x with
  | none => cases e
  | some y => cases e; exact hf y rfl
theorem m_nat_g {sl : Nat → List Int32} {code : Nat} {st : List Value} {hp : m_H} {z : List Value × m_H} (e : m_nat sl code st hp = some z) : m_G hp z.2 := by
  unfold m_nat at e
  split at e
  · unfold m_n0 at e; split at e <;> first | (cases e; done) | (cases e; exact m_G.rf)
  · unfold m_n1 at e; split at e <;> first | (cases e; done) | (cases e; exact m_G.rf)
  · unfold m_n2 at e; split at e <;> first | (cases e; done) | (cases e; exact m_G.rf)
  · unfold m_n3 at e; split at e <;> first | (cases e; done) | (cases e; exact m_G.rf)
  · unfold m_n4 at e; split at e <;> first | (exact m_mapn_g e (fun y hy => m_cpy_g hy)) | (cases e; done)
  · unfold m_n5 at e; split at e <;> first | (exact m_mapn_g e (fun y hy => m_cof_g hy)) | (cases e; done)
  · unfold m_n6 at e; (repeat' split at e) <;> first | (cases e; done) | (cases e; exact m_G.rf)
  · unfold m_n7 at e; (repeat' split at e) <;> first | (cases e; done) | (cases e; exact m_G.rf)
  · cases e
theorem m_ncall_g {sl : Nat → List Int32} {q : m_Q} {ins : Instr} {st : List Value} {hp : m_H} {z : List Value × m_H} (e : m_ncall sl q ins st hp = some z) : m_G hp z.2 := by
  unfold m_ncall at e
  split at e
  all_goals (repeat' split at e)
  all_goals first
    | (cases e; done)
    | exact m_nat_g e
theorem m_run_g {ft : Nat → Nat → FieldType} {fn : Nat → Nat} {sl : Nat → List Int32} {xs : Nat → Int32} {L : Nat} {P : Nat → m_I} : ∀ {n d i pc : Nat} {lv : m_L} {st : List Value} {hp : m_H} {z : m_O × m_H}, m_run ft fn sl xs L P n d i pc lv st hp = some z → m_G hp z.2
  | 0, _, _, _, _, _, _, _, e => by unfold m_run at e; cases e
  | n + 1, d, i, pc, lv, st, hp, z, e => by
    unfold m_run at e
    split at e
    · cases e
    · split at e
      · split at e
        · cases e; exact m_G.junk
        · cases e
      · split at e
        · next h => exact (m_step_g h).tr (m_run_g e)
        · split at e
          · exact m_run_g e
          · split at e
            · cases e; exact m_G.rf
            · split at e
              · next h =>
                split at e
                · exact (m_ncall_g h).tr (m_run_g e)
                · cases e
              · split at e
                · split at e
                  · next h => exact (m_run_g h).tr (m_run_g e)
                  · next h =>
                    split at e
                    · exact (m_run_g h).tr (m_run_g e)
                    · cases e; exact m_run_g h
                  · cases e
                · cases e
