/-! ===== m_: arrays of references, new cells ===== -/
theorem m_isO_c {hp : m_H} {ci r : Nat} (h : m_isO hp ci r = true) : ∃ fs, m_c hp r = some (.inr (ci, fs)) := by
  unfold m_isO at h
  split at h
  · next o ho =>
    have : o.1 = ci := by simpa using h
    exact ⟨o.2, by rw [ho, ← this]⟩
  · cases h
theorem m_df_V {ad : Nat → Option Nat} (ty : FieldType) : m_V ad (m_df ty) (m_df ty) := by
  unfold m_df
  split <;> exact rfl
theorem m_Vs_df {ad : Nat → Option Nat} (f : Nat → FieldType) : ∀ l : List Nat, m_Vs ad (l.map (fun k => m_df (f k))) (l.map (fun k => m_df (f k)))
  | [] => trivial
  | _ :: l => ⟨m_df_V _, m_Vs_df f l⟩
section MM
variable {p : Program} {l : Launch} {e : Env} {R : Room} {s : State} {m : MethodId} {args : Array Value} {below : List Frame} {meth : Method} {c : Code} {H : Heap} {locs : List Loc} {cells slots : Nat} {Q : State → Prop}
variable {cc : ByteArray} {pc nL : Nat} {ls : Array Slot} {own : String} {lv : m_L} {st vs : List Value}
variable {dC : Nat → ClassId} {dI : Nat → Nat → Nat} {tys : List (ClassId × FieldType)} {ex : Nat → Nat} {sl : Nat → List Int32} {B0 L c0 s0 : Nat} {xs : Nat → Int32} {strs : List (String × Nat × String × Nat)} {ws0 ws : va_W} {hp : m_H}
theorem m_h_sq {r : Nat} {i : Int32} {x : Option Nat} {hp' : m_H} (hC : m_Cx p s m args c cc nL own) (hW : m_Wo s dC dI tys ex sl B0 L xs strs) (hd : decode cc pc = .ok (.aastore, 1)) (hl : m_Rl (m_ad ex ws) nL lv ls) (hv : m_Vs (m_ad ex ws) (va_rf x :: .int i :: .ref r :: st) vs) (hh : m_Rh s dC dI tys ex B0 c0 s0 ws0 hp H locs cells slots ws) (h : m_sq hp r i x = some hp')
    (kk : m_Kh p l e R s m args below meth c Q dC dI tys ex B0 c0 s0 ws0 nL (pc + 1) lv st hp') : W p l e R s m args below meth c H locs cells slots Q (F0 m pc ls vs) := by
  obtain ⟨hx, hb, -, hown, hts, hnt⟩ := hC
  obtain ⟨w, v1, rfl, hw, hv1⟩ := hv.hd
  obtain ⟨w2, v2, rfl, hw2, hv2⟩ := hv1.hd
  cases hw2
  obtain ⟨w3, v3, rfl, ⟨a, ha, rfl⟩, hv3⟩ := hv2.hd
  unfold m_sq at h
  split at h
  · next t' n f ho =>
    split at h
    · next hcnd =>
      cases h
      obtain ⟨rfl, hin, hel⟩ := hcnd
      obtain ⟨a', e', h1, h2, cA, g, rfl, h3, h4⟩ := hh.1.c ho
      cases Option.some.inj (ha.symm.trans h1)
      have fin : ∀ (y : Option Nat), m_Or (m_ad ex ws) x y → ∀ (H1 : Heap) (locs1 : List Loc), va_P (dC, dI) m_cl (ws.set (r - 200) (a, .inl (cA, n, .inr (.inr (.inr (.inr (va_up g i.toNatClampNeg y))))))) H1 → va_D (fun q => B0 ≤ q) (ws.set (r - 200) (a, .inl (cA, n, .inr (.inr (.inr (.inr (va_up g i.toNatClampNeg y))))))) → va_S (fun q => B0 ≤ q) s.heap H1 locs1 → W p l e R s m args below meth c H1 locs1 cells slots Q (F0 m (pc + 1) ls v3) := by
        intro y hy H1 locs1 hP hD hS
        have hR := hh.w (e := .inl (5, n, .inr (.inr (.inr (.inr (va_up f i.toNatClampNeg x)))))) ho rfl h2 ⟨cA, va_up g i.toNatClampNeg y, rfl, h3, fun j => by
          unfold va_up
          by_cases hj : j = i.toNatClampNeg
          · simp only [hj, if_true]; exact hy
          · simp only [hj, if_false]; exact h4 j⟩ hP hD hS
        have e1 := m_ad_set (ex := ex) (e := .inl (cA, n, .inr (.inr (.inr (.inr (va_up g i.toNatClampNeg y)))))) h2
        exact kk ls v3 H1 locs1 cells slots _ (by rw [e1]; exact hl) (by rw [e1]; exact hv3) hR
      cases x with
      | none =>
        cases hw
        exact va_astqN (C := "LendHouse$Act") hx hb hW.1 hh.2.1 hh.2.2.1 hh.2.2.2.1 (r - 200) 5 h2 h3 (m_in_vp hin) hd (fin none rfl)
      | some k =>
        obtain ⟨b, hb1, rfl⟩ := hw
        obtain ⟨fs, hk⟩ := m_isO_c (hel k rfl)
        obtain ⟨b', e'', g1, g2, fs', rfl, g3⟩ := hh.1.c hk
        cases Option.some.inj (hb1.symm.trans g1)
        exact va_astq (r := (RX0, TX0, 6)) hx hb hW.1 hh.2.1 hh.2.2.1 hh.2.2.2.1 (r - 200) 5 (k - 200) 0 h2 h3 g2 rfl (m_in_vp hin) hd (fin (some b) ⟨b, hb1, rfl⟩)
    · cases h
  · cases h
/-- a cell was made: the heap behind -/
theorem m_Rh.mkc {a : Nat} {x : m_E} {e' : va_E} {H1 : Heap} {n : Nat} (hh : m_Rh s dC dI tys ex B0 c0 s0 ws0 hp H locs cells slots ws) (hs : m_sz x = n) (he : m_Er (m_ad ex (ws ++ [(a, e')])) tys x e')
    (hP : va_P (dC, dI) m_cl (ws ++ [(a, e')]) H1) (hD : va_D (fun q => B0 ≤ q) (ws ++ [(a, e')])) (hS : va_S (fun q => B0 ≤ q) s.heap H1 locs) :
    m_Rh s dC dI tys ex B0 c0 s0 ws0 (m_p hp x) H1 locs (cells + 1) (slots + n) (ws ++ [(a, e')]) := by
  obtain ⟨q1, -, -, -, q5, q6, q7⟩ := hh
  exact ⟨q1.p he, hP, hD, hS, by rw [m_cells_p]; omega, by rw [m_slots_p]; omega, q7.tr m_ad_push⟩
theorem m_h_new {ci k : Nat} (hC : m_Cx p s m args c cc nL own) (hW : m_Wo s dC dI tys ex sl B0 L xs strs) (hd : decode cc pc = .ok (.new k, 3)) (hq : ∃ r, m_cl[ci]? = some r ∧ Cond.classLink own k r.1 ∈ m_Ts)
    (hl : m_Rl (m_ad ex ws) nL lv ls) (hv : m_Vs (m_ad ex ws) st vs) (hh : m_Rh s dC dI tys ex B0 c0 s0 ws0 hp H locs cells slots ws) (hr : m_cells (m_p hp (m_no m_ft m_fn ci)) ≤ R.cells + c0 ∧ m_slots (m_p hp (m_no m_ft m_fn ci)) ≤ R.slots + s0)
    (kk : m_Kh p l e R s m args below meth c Q dC dI tys ex B0 c0 s0 ws0 nL (pc + 3) lv (.ref (m_id hp) :: st) (m_p hp (m_no m_ft m_fn ci))) : W p l e R s m args below meth c H locs cells slots Q (F0 m pc ls vs) := by
  obtain ⟨hx, hb, -, hown, hts, hnt⟩ := hC
  obtain ⟨r, hr1, hlk⟩ := hq
  obtain ⟨g1, g2, g3, g4, g5, g6, g7, g8⟩ := m_cl_ok _ _ hr1
  have hsz : m_sz (m_no m_ft m_fn ci) = r.2.2 := by simp [m_sz, m_no, g2]
  obtain ⟨hr2, hr3⟩ := hr
  rw [m_cells_p] at hr2
  rw [m_slots_p, hsz] at hr3
  have hc5 := hh.2.2.2.2.1
  have hc6 := hh.2.2.2.2.2.1
  refine va_new (ci := ci) (fs := (List.range (m_fn ci)).map (fun k => m_df (m_ft ci k))) (C := r.1) (T := r.2.1) (N := r.2.2) hx hb hts g1 (m_ft ci) g3 hown (hts _ hlk) (hts _ g5) (hts _ g6) hW.1 hh.2.1 hh.2.2.1 hh.2.2.2.1 (fun q hq => Nat.le_trans hW.2.2.2.1 hq) hr1 (fun j hj => ?_) (by omega) (by omega) hd fun q H1 hP hD hS => ?_
  · rw [g7 j hj]
    rw [g2] at hj
    simp [vp_V, List.getD, hj]
  · have hR := hh.mkc (x := m_no m_ft m_fn ci) (e' := .inr (ci, (List.range (m_fn ci)).map (fun k => m_df (m_ft ci k)))) (a := q) hsz ⟨_, rfl, m_Vs_df _ _⟩ hP hD hS
    exact kk ls _ H1 locs _ _ _ (hl.le m_ad_push) ⟨⟨q, m_ad_new hh.1 q _, rfl⟩, hv.le m_ad_push⟩ hR
theorem m_tof_ty {a : ArrayType} {t : Nat} (h : m_tof a = some t) : newarray.typeOf a = m_ty t ∧ t < 5 := by
  cases a <;> first | (cases h; exact ⟨rfl, by decide⟩) | cases h
theorem m_tys_one (hW : m_Wo s dC dI tys ex sl B0 L xs strs) {t : Nat} (ht : t < 6) {cA : ClassId} (h : va_K (dC, dI) m_cl (tys ++ [(cA, m_ty t)]) s) : tys[t]? = some (cA, m_ty t) := by
  obtain ⟨c2, h2⟩ := hW.2.2.2.2.1 t ht
  have k1 := (hW.1.2 t _ h2).2
  have k2 := (h.2 tys.length (cA, m_ty t) (by simp)).2
  have e : c2 = cA := by
    match t, ht with
    | 0, _ => exact Option.some.inj (k1.symm.trans k2)
    | 1, _ => exact Option.some.inj (k1.symm.trans k2)
    | 2, _ => exact Option.some.inj (k1.symm.trans k2)
    | 3, _ => exact Option.some.inj (k1.symm.trans k2)
    | 4, _ => exact Option.some.inj (k1.symm.trans k2)
    | 5, _ =>
      obtain ⟨_, _, _, _, _, k3⟩ := k1
      obtain ⟨_, _, _, _, _, k4⟩ := k2
      exact Option.some.inj (k3.symm.trans k4)
    | n + 6, h => omega
  rw [h2, e]
theorem m_h_newa {a : ArrayType} {t : Nat} {n : Int32} (hC : m_Cx p s m args c cc nL own) (hW : m_Wo s dC dI tys ex sl B0 L xs strs) (hd : decode cc pc = .ok (.newarray a, 2)) (ht : m_tof a = some t) (hq : Cond.arrayClass (m_ty t) ∈ m_Ts) (hn : ¬ (n < 0 ∨ 60000000 < n.toNatClampNeg))
    (hl : m_Rl (m_ad ex ws) nL lv ls) (hv : m_Vs (m_ad ex ws) (.int n :: st) vs) (hh : m_Rh s dC dI tys ex B0 c0 s0 ws0 hp H locs cells slots ws) (hr : m_cells (m_p hp (m_na t n.toNatClampNeg)) ≤ R.cells + c0 ∧ m_slots (m_p hp (m_na t n.toNatClampNeg)) ≤ R.slots + s0)
    (kk : m_Kh p l e R s m args below meth c Q dC dI tys ex B0 c0 s0 ws0 nL (pc + 2) lv (.ref (m_id hp) :: st) (m_p hp (m_na t n.toNatClampNeg))) : W p l e R s m args below meth c H locs cells slots Q (F0 m pc ls vs) := by
  obtain ⟨hx, hb, -, hown, hts, hnt⟩ := hC
  obtain ⟨w, v1, rfl, hw, hv1⟩ := hv.hd
  cases hw
  obtain ⟨hty, ht5⟩ := m_tof_ty ht
  have hn0 : ¬ n < 0 := fun h => hn (Or.inl h)
  have hn1 : n.toNatClampNeg ≤ 60000000 := Nat.not_lt.mp fun h => hn (Or.inr h)
  have hsz : m_sz (m_na t n.toNatClampNeg) = n.toNatClampNeg := by
    match t, ht5 with
    | 0, _ => rfl
    | 1, _ => rfl
    | 2, _ => rfl
    | 3, _ => rfl
    | 4, _ => rfl
    | k + 5, h => omega
  obtain ⟨hr2, hr3⟩ := hr
  rw [m_cells_p] at hr2
  rw [m_slots_p, hsz] at hr3
  have hc5 := hh.2.2.2.2.1
  have hc6 := hh.2.2.2.2.2.1
  have hby : n.toNatClampNeg * componentBytes (m_ty t) ≤ 536870912 := by
    have : componentBytes (m_ty t) ≤ 8 := by
      match t, ht5 with
      | 0, _ => decide
      | 1, _ => decide
      | 2, _ => decide
      | 3, _ => decide
      | 4, _ => decide
      | k + 5, h => omega
    calc n.toNatClampNeg * componentBytes (m_ty t) ≤ 60000000 * 8 := Nat.mul_le_mul hn1 this
      _ ≤ 536870912 := by decide
  obtain ⟨a0, ha0, hEr⟩ : ∃ a0 : vp_A, (∀ cA : ClassId, vp_cell cA a0 = arrV cA n.toNatClampNeg (fun _ => defaultValue (m_ty t))) ∧ ∀ (ad : Nat → Option Nat) (cA : ClassId), tys[t]? = some (cA, m_ty t) → m_Er ad tys (m_na t n.toNatClampNeg) (.inl (cA, a0)) := by
    match t, ht5 with
    | 0, _ => exact ⟨(n.toNatClampNeg, .inl (fun _ => 0)), fun _ => rfl, fun _ cA h => ⟨cA, rfl, h⟩⟩
    | 1, _ => exact ⟨(n.toNatClampNeg, .inr (.inl (fun _ => 0))), fun _ => rfl, fun _ cA h => ⟨cA, rfl, h⟩⟩
    | 2, _ => exact ⟨(n.toNatClampNeg, .inl (fun _ => 0)), fun _ => rfl, fun _ cA h => ⟨cA, rfl, h⟩⟩
    | 3, _ => exact ⟨(n.toNatClampNeg, .inl (fun _ => 0)), fun _ => rfl, fun _ cA h => ⟨cA, rfl, h⟩⟩
    | 4, _ => exact ⟨(n.toNatClampNeg, .inl (fun _ => 0)), fun _ => rfl, fun _ cA h => ⟨cA, rfl, h⟩⟩
    | k + 5, h => omega
  refine va_newa (ty := m_ty t) (a0 := a0) hx hb (by rw [hty]; exact hts _ hq) hty hW.1 hh.2.1 hh.2.2.1 hh.2.2.2.1 (fun q hq => Nat.le_trans hW.2.2.2.1 hq) ha0 hn0 rfl hby (by omega) (by omega) hd fun q cA H1 hK hP hD hS => ?_
  have hcA := m_tys_one hW (by omega) hK
  have hR := hh.mkc (x := m_na t n.toNatClampNeg) (e' := .inl (cA, a0)) (a := q) hsz (hEr _ cA hcA) hP hD hS
  exact kk ls _ H1 locs _ _ _ (hl.le m_ad_push) ⟨⟨q, m_ad_new hh.1 q _, rfl⟩, hv1.le m_ad_push⟩ hR
theorem m_h_newq {k : Nat} {n : Int32} (hC : m_Cx p s m args c cc nL own) (hW : m_Wo s dC dI tys ex sl B0 L xs strs) (hd : decode cc pc = .ok (.anewarray k, 3)) (hq : Cond.classLink own k "LendHouse$Act" ∈ m_Ts) (hn : ¬ (n < 0 ∨ 60000000 < n.toNatClampNeg))
    (hl : m_Rl (m_ad ex ws) nL lv ls) (hv : m_Vs (m_ad ex ws) (.int n :: st) vs) (hh : m_Rh s dC dI tys ex B0 c0 s0 ws0 hp H locs cells slots ws) (hr : m_cells (m_p hp (m_na 5 n.toNatClampNeg)) ≤ R.cells + c0 ∧ m_slots (m_p hp (m_na 5 n.toNatClampNeg)) ≤ R.slots + s0)
    (kk : m_Kh p l e R s m args below meth c Q dC dI tys ex B0 c0 s0 ws0 nL (pc + 3) lv (.ref (m_id hp) :: st) (m_p hp (m_na 5 n.toNatClampNeg))) : W p l e R s m args below meth c H locs cells slots Q (F0 m pc ls vs) := by
  obtain ⟨hx, hb, -, hown, hts, hnt⟩ := hC
  obtain ⟨w, v1, rfl, hw, hv1⟩ := hv.hd
  cases hw
  have hn0 : ¬ n < 0 := fun h => hn (Or.inl h)
  have hn1 : n.toNatClampNeg ≤ 60000000 := Nat.not_lt.mp fun h => hn (Or.inr h)
  obtain ⟨hr2, hr3⟩ := hr
  rw [m_cells_p] at hr2
  rw [m_slots_p, show m_sz (m_na 5 n.toNatClampNeg) = n.toNatClampNeg from rfl] at hr3
  have hc5 := hh.2.2.2.2.1
  have hc6 := hh.2.2.2.2.2.1
  refine va_newq (C := "LendHouse$Act") hx hb hown (hts _ hq) hW.2.2.2.2.2.1 hW.1 hh.2.1 hh.2.2.1 hh.2.2.2.1 (fun q hq => Nat.le_trans hW.2.2.2.1 hq) hn0 rfl (Nat.le_trans (Nat.mul_le_mul_right 4 hn1) (by decide)) (by omega) (by omega) hd fun q cA H1 hK hP hD hS => ?_
  have hcA := m_tys_one hW (t := 5) (by decide) hK
  have hR := hh.mkc (x := m_na 5 n.toNatClampNeg) (a := q) rfl ⟨cA, _, rfl, hcA, fun j => rfl⟩ hP hD hS
  exact kk ls _ H1 locs _ _ _ (hl.le m_ad_push) ⟨⟨q, m_ad_new hh.1 q _, rfl⟩, hv1.le m_ad_push⟩ hR
end MM
