/-! ===== a text: its lines are well made ===== -/
def gSl (c : gC) (a b : Nat) : Prop := a = b ∨ ∃ k1 k2 k3 : gC, c = k1 ++ (k2 ++ k3) ∧ k1.length = a ∧ k2.length = b - a ∧ tyL k2 [] = some [true]
def gYok (c : gC) (Y : gY) : Prop := ∃ e : Nat → Nat, e 0 = 0 ∧ e Y.1 = c.length ∧ ∀ i, i < Y.1 → (∃ k, k ≤ 3 ∧ (Y.2 i).1 = nI k) ∧ (∃ v, v ≤ 99999 ∧ (Y.2 i).2.1 = nI v) ∧ (Y.2 i).2.2 = nI (e (i + 1)) ∧ e i ≤ e (i + 1) ∧ e (i + 1) ≤ c.length ∧ gSl c (e i) (e (i + 1))
section
variable {T : Nat → Nat} {n q : Nat} {c : gC} {Y : gY}
theorem gSl_app {a b : Nat} {k : gC} (h : gSl c a b) : gSl (c ++ k) a b := by
  rcases h with h | ⟨k1, k2, k3, e, l1, l2, t⟩
  · exact Or.inl h
  · exact Or.inr ⟨k1, k2, k3 ++ k, by rw [e, List.append_assoc, List.append_assoc], l1, l2, t⟩
theorem gYok_add (h : gYok c Y) {k : gC} {kd v : Int32} (hk : ∃ j, j ≤ 3 ∧ kd = nI j) (hv : ∃ j, j ≤ 99999 ∧ v = nI j) (ht : k = [] ∨ tyL k [] = some [true]) : gYok (c ++ k) (gY_add Y kd v (nI (c ++ k).length)) := by
  obtain ⟨e, e0, en, h⟩ := h
  have len : (c ++ k).length = c.length + k.length := List.length_append
  refine ⟨fun i => if i ≤ Y.1 then e i else (c ++ k).length, ?_, ?_, fun i hi => ?_⟩
  · show (if 0 ≤ Y.1 then e 0 else _) = 0
    rw [if_pos (Nat.zero_le _), e0]
  · show (if Y.1 + 1 ≤ Y.1 then _ else (c ++ k).length) = _
    rw [if_neg (by omega)]
  · have hi : i < Y.1 + 1 := hi
    unfold gY_add
    dsimp only
    by_cases w : i = Y.1
    · subst w
      rw [if_pos rfl, if_pos (Nat.le_refl _), if_neg (show ¬ Y.1 + 1 ≤ Y.1 by omega), en]
      refine ⟨hk, hv, rfl, by omega, Nat.le_refl _, ?_⟩
      rcases ht with rfl | t
      · exact Or.inl (by rw [List.append_nil])
      · exact Or.inr ⟨c, k, [], by rw [List.append_nil], rfl, by omega, t⟩
    · obtain ⟨a1, a2, a3, a4, a5, a6⟩ := h i (by omega)
      rw [if_neg w, if_pos (show i ≤ Y.1 by omega), if_pos (show i + 1 ≤ Y.1 by omega)]
      exact ⟨a1, a2, a3, a4, by omega, gSl_app a6⟩
theorem gTail_ty (hT : ∀ j, j < n → T j < 256) {z : Nat × gC} (e : gTail T n q c = .inl z) : ∃ k, z.2 = c ++ k ∧ (k = [] ∨ tyL k [] = some [true]) := by
  unfold gTail at e
  split at e
  · obtain ⟨k, f, g⟩ := gTy_cond hT (gTy_atom hT m_FD 0) _ _ z e
    exact ⟨k, f, Or.inr (g [])⟩
  · cases e
    exact ⟨[], (List.append_nil c).symm, Or.inl rfl⟩
theorem gHead_ok (hT : ∀ j, j < n → T j < 256) {z : Int32 × Int32 × Nat} (e : gHead T n q = .inl z) : (∃ j, j ≤ 3 ∧ z.1 = nI j) ∧ ∃ j, j ≤ 99999 ∧ z.2.1 = nI j := by
  by_cases h : ∀ k, k < 4 → ¬ lx_t T n q = nI (256 + k)
  · rw [gHead_no hT h] at e
    cases e
  · obtain ⟨k, hk⟩ := Classical.not_forall.mp h
    obtain ⟨h4, t⟩ := Classical.not_imp.mp hk
    have t := Classical.not_not.mp t
    rw [gHead_k h4 t] at e
    split at e
    · split at e
      · next t1 =>
        split at e
        · cases e
        · cases e
          obtain ⟨v, hv, ev⟩ := lx_v_b t1
          exact ⟨⟨k, by omega, rfl⟩, v, hv, ev⟩
      · cases e
    · cases e
      exact ⟨⟨k, by omega, rfl⟩, 0, by omega, rfl⟩
theorem gLine_ok (hT : ∀ j, j < n → T j < 256) (h : gYok c Y) {z : Nat × gC × gY} (e : gLine T n q c Y = .inl z) : gYok z.2.1 z.2.2 := by
  unfold gLine at e
  cases e1 : gHead T n q with
  | inr x => rw [e1] at e; cases e
  | inl y =>
    rw [e1] at e
    have e : gEnd y.1 y.2.1 Y (gTail T n y.2.2 c) = .inl z := e
    obtain ⟨hk, hv⟩ := gHead_ok hT e1
    cases e2 : gTail T n y.2.2 c with
    | inr x => rw [e2] at e; cases e
    | inl w =>
      rw [e2] at e
      obtain ⟨k, f, t⟩ := gTail_ty hT e2
      cases e
      show gYok w.2 (gY_add Y y.1 y.2.1 (nI w.2.length))
      rw [f]
      exact gYok_add h hk hv t
theorem gRead_ok (hT : ∀ j, j < n → T j < 256) : ∀ f q c Y, gYok c Y → ∀ z : Nat × gC × gY, gRead T n f q c Y = .inl z → gYok z.2.1 z.2.2
  | 0, q, c, Y, h, z, e => by cases e
  | f + 1, q, c, Y, h, z, e => by
    unfold gRead at e
    split at e
    · cases e
      exact h
    · cases e1 : gLine T n q c Y with
      | inr x => rw [e1] at e; cases e
      | inl y =>
        rw [e1] at e
        have h1 := gLine_ok hT h e1
        dsimp only at e
        split at e
        · cases e
          exact h1
        · split at e
          · split at e
            · cases e
            · split at e
              · cases e
              · exact gRead_ok hT f _ _ _ h1 z e
          · cases e
theorem gText_ok (hT : ∀ j, j < n → T j < 256) {z : Nat × gC × gY} (e : gText T n = .inl z) : gYok z.2.1 z.2.2 :=
  gRead_ok hT 12 _ _ _ ⟨fun _ => 0, rfl, rfl, fun i hi => absurd hi (Nat.not_lt_zero i)⟩ z e
end
