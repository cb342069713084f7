/-! ===== a text: its code is well made ===== -/
def tyL : gC → List Bool → Option (List Bool)
  | [], l => some l
  | z :: c, l => match sp_ty z.1 z.2 l with
    | some l' => tyL c l'
    | none => none
def gTy (b : Bool) (c : gC) (r : gG) : Prop := ∀ z, r = .inl z → ∃ k, z.2 = c ++ k ∧ ∀ l, tyL k l = some (b :: l)
def gTl (b : Bool) (c : gC) (r : gG) : Prop := ∀ z, r = .inl z → ∃ k, z.2 = c ++ k ∧ ∀ l, tyL k (b :: l) = some (b :: l)
theorem tyL_app : ∀ (c c' : gC) (l l' : List Bool), tyL c l = some l' → tyL (c ++ c') l = tyL c' l'
  | [], c', l, l', h => by cases h; rfl
  | z :: c, c', l, l', h => by
    unfold tyL at h
    show (match sp_ty z.1 z.2 l with
      | some l' => tyL (c ++ c') l'
      | none => none) = _
    cases e : sp_ty z.1 z.2 l with
    | none => rw [e] at h; cases h
    | some m =>
      rw [e] at h
      exact tyL_app c c' m l' h
theorem tyL_1 {st nm : Int32} {l l' : List Bool} (h : sp_ty st nm l = some l') : tyL [(st, nm)] l = some l' := by
  unfold tyL
  rw [show sp_ty (st, nm).1 (st, nm).2 l = some l' from h]
  rfl
theorem ty_101 {l : List Bool} : sp_ty 101 0 (false :: false :: l) = some (false :: l) := rfl
theorem ty_102 {l : List Bool} : sp_ty 102 0 (false :: false :: l) = some (true :: l) := rfl
theorem ty_103 {l : List Bool} : sp_ty 103 0 (false :: false :: l) = some (true :: l) := rfl
theorem ty_105 {l : List Bool} : sp_ty 105 0 (true :: true :: l) = some (true :: l) := rfl
theorem ty_106 {l : List Bool} : sp_ty 106 0 (true :: true :: l) = some (true :: l) := rfl
theorem ty_104 {l : List Bool} : sp_ty 104 0 (true :: l) = some (true :: l) := by
  cases l with
  | nil => rfl
  | cons b l => rfl
theorem ty_fa : ∀ k ∈ List.range 10, (0 : Int32) ≤ nI (264 + k) - 264 ∧ nI (264 + k) - 264 < 10 ∧ ¬ nI (264 + k) - 264 = 100 := by decide +kernel
section
variable {T : Nat → Nat} {n : Nat} {b : Bool} {a : gG} {c : gC} {st : Nat → gC → gG} {sg op : Int32}
theorem gTy_l (hT : ∀ j, j < n → T j < 256) (h : ∀ q c, gTy b c (st q c)) (ho : ∀ l, sp_ty op 0 (b :: b :: l) = some (b :: l)) : ∀ f q c, gTl b c (gLoop T n sg op st f q c)
  | 0, q, c => fun z e => by
    cases e
    exact ⟨[], (List.append_nil c).symm, fun l => rfl⟩
  | f + 1, q, c => fun z e => by
    unfold gLoop at e
    split at e
    · cases e1 : st (lx_n T n q) c with
      | inr x => rw [e1, gB_r] at e; cases e
      | inl y =>
        rw [e1] at e
        have e : gLoop T n sg op st f y.1 (y.2 ++ [(op, 0)]) = .inl z := e
        obtain ⟨k1, f1, g1⟩ := h _ _ y e1
        obtain ⟨k2, f2, g2⟩ := gTy_l hT h ho f y.1 (y.2 ++ [(op, 0)]) z e
        refine ⟨k1 ++ ([(op, 0)] ++ k2), ?_, fun l => ?_⟩
        · rw [f2, f1, List.append_assoc, List.append_assoc]
        · rw [tyL_app k1 _ _ _ (g1 (b :: l)), tyL_app _ _ _ _ (tyL_1 (ho l)), g2 l]
    · cases e
      exact ⟨[], (List.append_nil c).symm, fun l => rfl⟩
theorem gTy_bl {f : Nat → gC → gG} (h : gTy b c a) (k : ∀ q' c', gTl b c' (f q' c')) : gTy b c (gB a f) := fun z e => by
  cases e1 : a with
  | inr x => rw [e1, gB_r] at e; cases e
  | inl y =>
    rw [e1] at e
    obtain ⟨k1, f1, g1⟩ := h y e1
    obtain ⟨k2, f2, g2⟩ := k y.1 y.2 z e
    exact ⟨k1 ++ k2, by rw [f2, f1, List.append_assoc], fun l => by rw [tyL_app k1 _ _ _ (g1 l), g2 l]⟩
theorem gTy_part (hT : ∀ j, j < n → T j < 256) (q : Nat) (c : gC) : gTy false c (gPart T n q c) := fun z e => by
  unfold gPart at e
  split at e
  · next t =>
    cases e
    obtain ⟨v, hv, ev⟩ := lx_v_b t
    refine ⟨_, rfl, fun l => tyL_1 ?_⟩
    unfold sp_ty
    rw [if_pos rfl, ev, if_pos ⟨Int32.not_lt.mp (nI_pos (by omega)), nI_le (b := 99999) hv (by decide)⟩]
  · split at e
    · cases e
    · next t1 t2 =>
      cases e
      obtain ⟨k, hk, ek⟩ := lx_t_f hT t2
      obtain ⟨a1, a2, a3⟩ := ty_fa k (List.mem_range.mpr hk)
      refine ⟨_, rfl, fun l => tyL_1 ?_⟩
      unfold sp_ty
      rw [ek, if_neg a3, if_pos ⟨a1, a2⟩]
theorem gTy_sum (hT : ∀ j, j < n → T j < 256) (q : Nat) (c : gC) : gTy false c (gSum T n q c) :=
  gTy_bl (gTy_part hT q c) (fun q' c' => gTy_l hT (gTy_part hT) (fun l => ty_101) 400 q' c')
theorem gTy_cmp (hT : ∀ j, j < n → T j < 256) (q : Nat) (c : gC) : gTy true c (gCmp T n q c) := fun z e => by
  unfold gCmp at e
  cases e1 : gSum T n q c with
  | inr x => rw [e1, gB_r] at e; cases e
  | inl y =>
    rw [e1] at e
    obtain ⟨k1, f1, g1⟩ := gTy_sum hT q c y e1
    have two : ∀ op : Int32, (∀ l, sp_ty op 0 (false :: false :: l) = some (true :: l)) → gB (gSum T n (lx_n T n y.1) y.2) (fun q2 c2 => .inl (q2, c2 ++ [(op, 0)])) = .inl z → ∃ k, z.2 = c ++ k ∧ ∀ l, tyL k l = some (true :: l) := by
      intro op ho e
      cases e2 : gSum T n (lx_n T n y.1) y.2 with
      | inr x => rw [e2, gB_r] at e; cases e
      | inl w =>
        rw [e2] at e
        obtain ⟨k2, f2, g2⟩ := gTy_sum hT _ _ w e2
        cases e
        refine ⟨k1 ++ (k2 ++ [(op, 0)]), ?_, fun l => ?_⟩
        · show w.2 ++ _ = _
          rw [f2, f1, List.append_assoc, List.append_assoc]
        · rw [tyL_app k1 _ _ _ (g1 l), tyL_app k2 _ _ _ (g2 (false :: l)), tyL_1 (ho l)]
    have e : (if lx_t T n y.1 = 60 then gB (gSum T n (lx_n T n y.1) y.2) (fun q2 c2 => .inl (q2, c2 ++ [(102, 0)])) else if lx_t T n y.1 = 62 then gB (gSum T n (lx_n T n y.1) y.2) (fun q2 c2 => .inl (q2, c2 ++ [(103, 0)])) else .inr y.1) = .inl z := e
    split at e
    · exact two 102 (fun l => ty_102) e
    · split at e
      · exact two 103 (fun l => ty_103) e
      · cases e
theorem gTy_all {A : Nat → gC → gG} (hT : ∀ j, j < n → T j < 256) (h : ∀ q c, gTy true c (A q c)) (q : Nat) (c : gC) : gTy true c (gAll T n A q c) :=
  gTy_bl (h q c) (fun q' c' => gTy_l hT h (fun l => ty_105) 400 q' c')
theorem gTy_cond {A : Nat → gC → gG} (hT : ∀ j, j < n → T j < 256) (h : ∀ q c, gTy true c (A q c)) (q : Nat) (c : gC) : gTy true c (gCond T n A q c) :=
  gTy_bl (gTy_all hT h q c) (fun q' c' => gTy_l hT (gTy_all hT h) (fun l => ty_106) 400 q' c')
theorem gTy_atom (hT : ∀ j, j < n → T j < 256) : ∀ f d q c, gTy true c (gAtom T n f d q c)
  | 0, d, q, c => fun z e => by cases e
  | f + 1, d, q, c => fun z e => by
    unfold gAtom at e
    split at e
    · split at e
      · cases e
      · cases e1 : gCond T n (gAtom T n f (d + 1)) (lx_n T n q) c with
        | inr x => rw [e1, gB_r] at e; cases e
        | inl y =>
          rw [e1] at e
          have e : (if lx_t T n y.1 = 41 then .inl (lx_n T n y.1, y.2) else .inr y.1 : gG) = .inl z := e
          obtain ⟨k1, f1, g1⟩ := gTy_cond hT (gTy_atom hT f (d + 1)) _ _ y e1
          split at e
          · cases e
            exact ⟨k1, f1, g1⟩
          · cases e
    · split at e
      · split at e
        · cases e
        · cases e1 : gAtom T n f (d + 1) (lx_n T n q) c with
          | inr x => rw [e1, gB_r] at e; cases e
          | inl y =>
            rw [e1] at e
            obtain ⟨k1, f1, g1⟩ := gTy_atom hT f (d + 1) _ _ y e1
            cases e
            refine ⟨k1 ++ [(104, 0)], ?_, fun l => ?_⟩
            · show y.2 ++ _ = _
              rw [f1, List.append_assoc]
            · rw [tyL_app k1 _ _ _ (g1 l), tyL_1 ty_104]
      · exact gTy_cmp hT q c z e
end
