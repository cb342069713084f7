/-! ===== a text: as a row of the house ===== -/
def tx_R (R : Nat → Int32) (c : gC) (Y : gY) : Prop := R 1 = nI Y.1 ∧ (∀ j, j < Y.1 → R (2 + 4 * j) = (Y.2 j).1 ∧ R (3 + 4 * j) = (Y.2 j).2.1 ∧ R (4 + 4 * j) = (if j = 0 then 0 else (Y.2 (j - 1)).2.2) ∧ R (5 + 4 * j) = (Y.2 j).2.2) ∧ ∀ j, j < c.length → R (50 + 2 * j) = (c.getD j (0, 0)).1 ∧ R (51 + 2 * j) = (c.getD j (0, 0)).2
theorem tyL_ap2 : ∀ (c c' : gC) (l : List Bool), tyL (c ++ c') l = match tyL c l with
    | some l' => tyL c' l'
    | none => none
  | [], c', l => rfl
  | z :: c, c', l => by
    show (match sp_ty z.1 z.2 l with
      | some l' => tyL (c ++ c') l'
      | none => none) = (match (match sp_ty z.1 z.2 l with
      | some l' => tyL c l'
      | none => none) with
      | some l' => tyL c' l'
      | none => none)
    cases sp_ty z.1 z.2 l with
    | none => rfl
    | some m => exact tyL_ap2 c c' m
section
variable {R : Nat → Int32} {c k1 k2 k3 : gC} {Y : gY} {T : Nat → Nat} {n q : Nat}
theorem gSl_get {j : Nat} (e : c = k1 ++ (k2 ++ k3)) (hj : j < k2.length) : c.getD (k1.length + j) (0, 0) = k2.getD j (0, 0) := by
  rw [e, List.getD_eq_getElem?_getD, List.getD_eq_getElem?_getD, List.getElem?_append_right (Nat.le_add_right _ _), Nat.add_sub_cancel_left, List.getElem?_append_left hj]
theorem gSl_tys (h : tx_R R c Y) (e : c = k1 ++ (k2 ++ k3)) : ∀ j, j ≤ k2.length → sp_tys R k1.length j = tyL (k2.take j) []
  | 0, _ => rfl
  | j + 1, hj => by
    have len : c.length = k1.length + (k2.length + k3.length) := by rw [e, List.length_append, List.length_append]
    have ih := gSl_tys h e j (by omega)
    have g := h.2.2 (k1.length + j) (by omega)
    rw [gSl_get e (by omega)] at g
    have tk : k2.take (j + 1) = k2.take j ++ [k2.getD j (0, 0)] := by
      rw [List.take_succ_eq_append_getElem (by omega), List.getD_eq_getElem?_getD, List.getElem?_eq_getElem (by omega)]
      rfl
    rw [tk, tyL_ap2]
    unfold sp_tys
    rw [ih]
    cases e1 : tyL (k2.take j) [] with
    | none => rfl
    | some l =>
      dsimp only
      rw [g.1, g.2]
      unfold tyL
      cases e2 : sp_ty (k2.getD j (0, 0)).1 (k2.getD j (0, 0)).2 l with
      | none => rfl
      | some l' => rfl
theorem tx_vz (h : tx_R R c Y) (h0 : 0 ≤ R 0 ∧ R 0 ≤ 500) (hy : Y.1 ≤ 12) (hc : c.length ≤ 400) (ok : gYok c Y) : vz_text R := by
  obtain ⟨e, e0, en, ok⟩ := ok
  refine ⟨h0, Y.1, hy, h.1, e, e0, by omega, fun i hi => ?_⟩
  obtain ⟨⟨k, hk, ek⟩, ⟨v, hv, ev⟩, e3, l1, l2, sl⟩ := ok i hi
  obtain ⟨r1, r2, r3, r4⟩ := h.2.1 i hi
  refine ⟨?_, ?_, ?_, r4.trans e3, l1, ?_⟩
  · rw [r1, ek]
    exact ⟨Int32.not_lt.mp (nI_pos (by omega)), nI_le (b := 3) hk (by decide)⟩
  · rw [r2, ev]
    exact ⟨Int32.not_lt.mp (nI_pos (by omega)), nI_le (b := 99999) hv (by decide)⟩
  · rw [r3]
    by_cases z : i = 0
    · rw [if_pos z, z, e0]
      rfl
    · rw [if_neg z, (ok (i - 1) (by omega)).2.2.1, show i - 1 + 1 = i by omega]
  · rcases sl with sl | ⟨k1, k2, k3, f, f1, f2, t⟩
    · exact Or.inl sl
    · right
      have := gSl_tys h f k2.length (Nat.le_refl _)
      rw [List.take_of_length_le (Nat.le_refl _), t, f1, f2] at this
      exact this
theorem gRead_fit : ∀ f q c Y, q ≤ n → c.length ≤ q → Y.1 + f ≤ 12 → ∀ z : Nat × gC × gY, gRead T n f q c Y = .inl z → z.2.1.length ≤ z.1 ∧ z.2.2.1 ≤ 12
  | 0, q, c, Y, hq, hl, hy, z, e => by cases e
  | f + 1, q, c, Y, hq, hl, hy, z, e => by
    unfold gRead at e
    split at e
    · cases e
      exact ⟨hl, by show Y.1 ≤ 12; omega⟩
    · have ft := gLine_fit (T := T) (n := n) (c := c) (Y := Y) hq hl
      cases e1 : gLine T n q c Y with
      | inr x => rw [e1] at e; cases e
      | inl y =>
        rw [e1] at e ft
        dsimp only at e ft
        split at e
        · cases e
          exact ⟨ft.1, by have := ft.2; omega⟩
        · split at e
          · next t1 t2 =>
            have l := lx_n_lt (T := T) (lx_t_n (T := T) (n := n) (q := y.1) t1)
            split at e
            · cases e
            · split at e
              · cases e
              · have f1 := ft.1
                have f2 := ft.2
                exact gRead_fit f _ _ _ l.2 (by omega) (by omega) z e
          · cases e
end
