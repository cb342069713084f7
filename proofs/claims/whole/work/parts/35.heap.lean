/-! ===== t_: the heap behind the constructors, as a function of what it holds: int fields, int arrays, long arrays, arrays of ACTS, the law, the BOOKS' arrays, what was made since ===== -/
abbrev tz_S : Type := (Nat → Nat → Int32) × (Nat → Nat → Int32) × (Nat → Nat → Int64) × (Nat → Nat → Option Nat) × (Nat → Nat) × List m_E × Nat × Nat
abbrev tz_K : Type := (Nat × Nat) ⊕ (Nat × List (Option Nat))
def tz_T : List tz_K := [
  .inr (8, [some 201, some 206, some 211, some 216, some 223, some 253, some 283, some 313, some 315, none, none, none]),
  .inr (7, [some 202, none, none, none, some 203, some 204, some 205, none]),
  .inl (4, 400),
  .inl (0, 401),
  .inl (0, 401),
  .inl (0, 401),
  .inr (5, [some 201, none, none, none, some 208, some 209, some 210, none, some 207, none]),
  .inl (0, 400),
  .inl (0, 12),
  .inl (0, 12),
  .inl (0, 12),
  .inr (2, [some 212, some 213, some 214, some 215, none, some 0]),
  .inl (0, 60),
  .inl (3, 60),
  .inl (0, 10),
  .inl (1, 400),
  .inr (4, [some 217, some 218, some 219, some 220, some 221, some 222, none, none]),
  .inl (0, 6),
  .inl (0, 6),
  .inl (0, 6),
  .inl (0, 6),
  .inl (0, 6),
  .inl (0, 6),
  .inr (3, [none, none, none, none, some 224, none, some 225, some 227, some 229, some 231, some 233, some 235, some 237, some 239, some 241, some 243, some 245, some 247, some 249, some 251]),
  .inl (5, 10),
  .inr (6, [some 1004, some 226, none]),
  .inl (0, 32),
  .inr (6, [some 1003, some 228, none]),
  .inl (0, 300),
  .inr (6, [some 1021, some 230, none]),
  .inl (0, 2100),
  .inr (6, [some 1005, some 232, none]),
  .inl (0, 300),
  .inr (6, [some 1023, some 234, none]),
  .inl (0, 276),
  .inr (6, [some 1004, some 236, none]),
  .inl (0, 24),
  .inr (6, [some 1003, some 238, none]),
  .inl (0, 144),
  .inr (6, [some 1003, some 240, none]),
  .inl (0, 300),
  .inr (6, [some 1005, some 242, none]),
  .inl (0, 500),
  .inr (6, [some 1003, some 244, none]),
  .inl (0, 180),
  .inr (6, [some 1006, some 246, none]),
  .inl (0, 60),
  .inr (6, [some 1002, some 248, none]),
  .inl (0, 18),
  .inr (6, [some 1004, some 250, none]),
  .inl (0, 32),
  .inr (6, [some 1003, some 252, none]),
  .inl (0, 45),
  .inr (3, [none, none, none, none, some 254, none, some 255, some 257, some 259, some 261, some 263, some 265, some 267, some 269, some 271, some 273, some 275, some 277, some 279, some 281]),
  .inl (5, 10),
  .inr (6, [some 1004, some 256, none]),
  .inl (0, 32),
  .inr (6, [some 1003, some 258, none]),
  .inl (0, 300),
  .inr (6, [some 1021, some 260, none]),
  .inl (0, 2100),
  .inr (6, [some 1005, some 262, none]),
  .inl (0, 300),
  .inr (6, [some 1023, some 264, none]),
  .inl (0, 276),
  .inr (6, [some 1004, some 266, none]),
  .inl (0, 24),
  .inr (6, [some 1003, some 268, none]),
  .inl (0, 144),
  .inr (6, [some 1003, some 270, none]),
  .inl (0, 300),
  .inr (6, [some 1005, some 272, none]),
  .inl (0, 500),
  .inr (6, [some 1003, some 274, none]),
  .inl (0, 180),
  .inr (6, [some 1006, some 276, none]),
  .inl (0, 60),
  .inr (6, [some 1002, some 278, none]),
  .inl (0, 18),
  .inr (6, [some 1004, some 280, none]),
  .inl (0, 32),
  .inr (6, [some 1003, some 282, none]),
  .inl (0, 45),
  .inr (3, [none, none, none, none, some 284, none, some 285, some 287, some 289, some 291, some 293, some 295, some 297, some 299, some 301, some 303, some 305, some 307, some 309, some 311]),
  .inl (5, 10),
  .inr (6, [some 1004, some 286, none]),
  .inl (0, 32),
  .inr (6, [some 1003, some 288, none]),
  .inl (0, 300),
  .inr (6, [some 1021, some 290, none]),
  .inl (0, 2100),
  .inr (6, [some 1005, some 292, none]),
  .inl (0, 300),
  .inr (6, [some 1023, some 294, none]),
  .inl (0, 276),
  .inr (6, [some 1004, some 296, none]),
  .inl (0, 24),
  .inr (6, [some 1003, some 298, none]),
  .inl (0, 144),
  .inr (6, [some 1003, some 300, none]),
  .inl (0, 300),
  .inr (6, [some 1005, some 302, none]),
  .inl (0, 500),
  .inr (6, [some 1003, some 304, none]),
  .inl (0, 180),
  .inr (6, [some 1006, some 306, none]),
  .inl (0, 60),
  .inr (6, [some 1002, some 308, none]),
  .inl (0, 18),
  .inr (6, [some 1004, some 310, none]),
  .inl (0, 32),
  .inr (6, [some 1003, some 312, none]),
  .inl (0, 45),
  .inr (1, [some 1]),
  .inl (0, 768),
  .inr (1, [some 1]),
  .inl (0, 768),
  .inr (9, [none, some 318, some 319, some 320, none, none, some 321, none, none, none, none, none, none, some 322, none, some 323, some 324, some 325, some 326, some 327, some 328, some 329, some 330, none, some 331, some 332]),
  .inl (0, 37677),
  .inl (0, 36827),
  .inl (0, 36827),
  .inl (2, 400),
  .inl (0, 5),
  .inl (1, 10),
  .inl (1, 400),
  .inl (0, 60),
  .inl (3, 60),
  .inl (0, 6),
  .inl (0, 6),
  .inl (0, 6),
  .inl (0, 6),
  .inl (0, 8),
  .inl (1, 6),
  .inl (1, 1)]
def tz_sh (a : Nat) : Option tz_K := if a < 200 then none else tz_T[a - 200]?
def tz_fv (s : tz_S) (a k : Nat) (o : Option Nat) : Value := match o with
  | none => .int (s.1 a k)
  | some 0 => va_rf (s.2.2.2.1 a 0)
  | some 1 => .ref (s.2.2.2.2.1 a)
  | some r => if 1000 ≤ r then .int (Int32.ofNat (r - 1000)) else .ref r
def tz_ce (s : tz_S) (a : Nat) (sh : tz_K) : m_E := match sh with
  | .inl (1, n) => .inl (1, n, .inr (.inl (s.2.2.1 a)))
  | .inl (5, n) => .inl (5, n, .inr (.inr (.inr (.inr (s.2.2.2.1 a)))))
  | .inl (t, n) => .inl (t, n, .inl (s.2.1 a))
  | .inr (ci, fs) => .inr (ci, fs.mapIdx (fun k o => tz_fv s a k o))
def tz_H (s : tz_S) : m_H := (tz_T.mapIdx (fun i sh => tz_ce s (200 + i) sh) ++ s.2.2.2.2.2.1, s.2.2.2.2.2.2)
def tz_uf (s : tz_S) (a k : Nat) (v : Int32) : tz_S := (fun x y => if x = a ∧ y = k then v else s.1 x y, s.2)
def tz_ui (s : tz_S) (a : Nat) (f : Nat → Int32) : tz_S := (s.1, fun x => if x = a then f else s.2.1 x, s.2.2)
def tz_ul (s : tz_S) (a : Nat) (f : Nat → Int64) : tz_S := (s.1, s.2.1, fun x => if x = a then f else s.2.2.1 x, s.2.2.2)
def tz_ua (s : tz_S) (a : Nat) (f : Nat → Option Nat) : tz_S := (s.1, s.2.1, s.2.2.1, fun x => if x = a then f else s.2.2.2.1 x, s.2.2.2.2)
def tz_uw (s : tz_S) (w : Option Nat) : tz_S := tz_ua s 211 (fun _ => w)
def tz_ub (s : tz_S) (a r : Nat) : tz_S := (s.1, s.2.1, s.2.2.1, s.2.2.2.1, fun x => if x = a then r else s.2.2.2.2.1 x, s.2.2.2.2.2)
def tz_ux (s : tz_S) (l : List m_E) : tz_S := (s.1, s.2.1, s.2.2.1, s.2.2.2.1, s.2.2.2.2.1, l, s.2.2.2.2.2.2)
def tz_uj (s : tz_S) (j : Nat × Nat) : tz_S := (s.1, s.2.1, s.2.2.1, s.2.2.2.1, s.2.2.2.2.1, s.2.2.2.2.2.1, j)
theorem tz_T_len : tz_T.length = 134 := by decide +kernel
theorem tz_sh_lt {a : Nat} {sh : tz_K} (h : tz_sh a = some sh) : 200 ≤ a ∧ a < 334 ∧ tz_T[a - 200]? = some sh := by
  unfold tz_sh at h
  split at h
  · cases h
  · next ha =>
    have hl := (List.getElem?_eq_some_iff.mp h).1
    rw [tz_T_len] at hl
    exact ⟨by omega, by omega, h⟩
theorem tz_c {s : tz_S} {a : Nat} {sh : tz_K} (h : tz_sh a = some sh) : m_c (tz_H s) a = some (tz_ce s a sh) := by
  obtain ⟨h1, h2, h3⟩ := tz_sh_lt h
  unfold m_c tz_H
  rw [if_neg (by omega)]
  dsimp only
  rw [List.getElem?_append_left (by rw [List.length_mapIdx, tz_T_len]; omega), List.getElem?_mapIdx, h3, show 200 + (a - 200) = a by omega]
  rfl
theorem tz_x {s : tz_S} {a : Nat} (h : 334 ≤ a) : m_c (tz_H s) a = s.2.2.2.2.2.1[a - 334]? := by
  unfold m_c tz_H
  rw [if_neg (by omega)]
  dsimp only
  rw [List.getElem?_append_right (by rw [List.length_mapIdx, tz_T_len]; omega), List.length_mapIdx, tz_T_len, show a - 200 - 134 = a - 334 by omega]
theorem tz_set {T : List tz_K} {f g : Nat → tz_K → m_E} {i : Nat} {sh : tz_K} (h : T[i]? = some sh) (hn : ∀ j sh', j ≠ i → g j sh' = f j sh') : (T.mapIdx f).set i (g i sh) = T.mapIdx g := by
  apply List.ext_getElem?
  intro j
  rw [List.getElem?_set, List.getElem?_mapIdx, List.getElem?_mapIdx]
  by_cases hi : i = j
  · subst hi
    rw [if_pos rfl, if_pos (by rw [List.length_mapIdx]; exact (List.getElem?_eq_some_iff.mp h).1), h]
    rfl
  · rw [if_neg hi]
    cases T[j]? with
    | none => rfl
    | some sh' => exact congrArg some (hn j sh' (fun e => hi e.symm)).symm
theorem tz_w {s s' : tz_S} {a : Nat} {sh : tz_K} (h : tz_sh a = some sh) (hn : ∀ b sh', b ≠ a → tz_ce s' b sh' = tz_ce s b sh') (hx : s'.2.2.2.2.2 = s.2.2.2.2.2) : m_w (tz_H s) a (tz_ce s' a sh) = tz_H s' := by
  obtain ⟨h1, h2, h3⟩ := tz_sh_lt h
  have e := tz_set (f := fun i sh => tz_ce s (200 + i) sh) (g := fun i sh => tz_ce s' (200 + i) sh) h3 (fun j sh' hj => hn (200 + j) sh' (by omega))
  rw [show 200 + (a - 200) = a by omega] at e
  unfold m_w tz_H
  dsimp only
  rw [List.set_append_left _ _ (by rw [List.length_mapIdx, tz_T_len]; omega), e, hx]
theorem tz_w_x {s : tz_S} {a : Nat} {e : m_E} (h : 334 ≤ a) : m_w (tz_H s) a e = tz_H (tz_ux s (s.2.2.2.2.2.1.set (a - 334) e)) := by
  unfold m_w tz_H
  refine Prod.ext ?_ rfl
  dsimp only
  rw [List.set_append_right _ _ (by rw [List.length_mapIdx, tz_T_len]; omega), List.length_mapIdx, tz_T_len, show a - 200 - 134 = a - 334 by omega]
  rfl
theorem tz_p {s : tz_S} {e : m_E} : m_p (tz_H s) e = tz_H (tz_ux s (s.2.2.2.2.2.1 ++ [e])) := by
  unfold m_p tz_H
  refine Prod.ext ?_ rfl
  dsimp only
  rw [List.append_assoc]
  rfl
theorem tz_id {s : tz_S} : m_id (tz_H s) = 334 + s.2.2.2.2.2.1.length := by
  unfold m_id tz_H
  dsimp only
  rw [List.length_append, List.length_mapIdx, tz_T_len]
  omega
theorem tz_junk {s : tz_S} : m_junk (tz_H s) = tz_H (tz_uj s (s.2.2.2.2.2.2.1 + 1, s.2.2.2.2.2.2.2 + 6)) := rfl
theorem tz_io {s : tz_S} {a ci : Nat} {fs : List (Option Nat)} (h : tz_sh a = some (.inr (ci, fs))) : m_isO (tz_H s) ci a = true := by
  unfold m_isO
  rw [tz_c h]
  show (ci == ci) = true
  exact beq_self_eq_true ci
theorem tz_gf {s : tz_S} {a ci k : Nat} {fs : List (Option Nat)} {o : Option Nat} (h : tz_sh a = some (.inr (ci, fs))) (hk : fs[k]? = some o) : m_gf (tz_H s) a ci k = some (tz_fv s a k o) := by
  unfold m_gf
  rw [tz_c h]
  show (if ci = ci then (fs.mapIdx (fun k o => tz_fv s a k o))[k]? else none) = _
  rw [if_pos rfl, List.getElem?_mapIdx, hk]
  rfl
theorem tz_gi {s : tz_S} {a ci k : Nat} {fs : List (Option Nat)} (h : tz_sh a = some (.inr (ci, fs))) (hk : fs[k]? = some none) : m_gi (tz_H s) a ci k = some (s.1 a k) := by
  unfold m_gi
  rw [tz_gf h hk]
  rfl
theorem tz_gc {s : tz_S} {a ci k r : Nat} {v : Int32} {fs : List (Option Nat)} (h : tz_sh a = some (.inr (ci, fs))) (hk : fs[k]? = some (some r)) (h1 : tz_fv s a k (some r) = .int v) (_h2 : r = r) : m_gi (tz_H s) a ci k = some v := by
  unfold m_gi
  rw [tz_gf h hk, h1]
theorem tz_gr {s : tz_S} {a ci k r : Nat} {fs : List (Option Nat)} (h : tz_sh a = some (.inr (ci, fs))) (hk : fs[k]? = some (some r)) (h1 : tz_fv s a k (some r) = .ref r) (_h2 : r = r) : m_gr (tz_H s) a ci k = some r := by
  unfold m_gr
  rw [tz_gf h hk, h1]
theorem tz_pfg {s s' : tz_S} {a ci k : Nat} {fs : List (Option Nat)} {o : Option Nat} {v : Value} (h : tz_sh a = some (.inr (ci, fs))) (hk : fs[k]? = some o) (hv : m_ok (m_ft ci k) v = true)
    (hn : ∀ b sh', b ≠ a → tz_ce s' b sh' = tz_ce s b sh') (hx : s'.2.2.2.2.2 = s.2.2.2.2.2) (h1 : tz_fv s' a k o = v) (h2 : ∀ j o', j ≠ k → fs[j]? = some o' → tz_fv s' a j o' = tz_fv s a j o') : m_pf m_ft (tz_H s) a ci k v = some (tz_H s') := by
  have hl := (List.getElem?_eq_some_iff.mp hk).1
  unfold m_pf
  rw [tz_c h]
  show (if ci = ci ∧ k < (fs.mapIdx (fun k o => tz_fv s a k o)).length ∧ m_ok (m_ft ci k) v = true then some (m_w (tz_H s) a (.inr (ci, (fs.mapIdx (fun k o => tz_fv s a k o)).set k v))) else none) = _
  rw [if_pos ⟨rfl, by rw [List.length_mapIdx]; exact hl, hv⟩, ← tz_w (s := s) (s' := s') h hn hx]
  have e : (fs.mapIdx (fun k o => tz_fv s a k o)).set k v = fs.mapIdx (fun k o => tz_fv s' a k o) := by
    apply List.ext_getElem?
    intro i
    rw [List.getElem?_set, List.getElem?_mapIdx, List.getElem?_mapIdx]
    by_cases hi : k = i
    · subst hi
      rw [if_pos rfl, if_pos (by rw [List.length_mapIdx]; exact hl), hk]
      exact congrArg some h1.symm
    · rw [if_neg hi]
      cases h3 : fs[i]? with
      | none => rfl
      | some o' =>
        exact congrArg some (h2 i o' (fun e => hi e.symm) h3).symm
  rw [e]
  rfl
theorem tz_fv_uf {s : tz_S} {a k b j : Nat} {v : Int32} (o : Option Nat) (h : ¬ (b = a ∧ j = k)) : tz_fv (tz_uf s a k v) b j o = tz_fv s b j o := by
  unfold tz_fv
  split
  · show Value.int (if b = a ∧ j = k then v else s.1 b j) = _
    rw [if_neg h]
  · rfl
  · rfl
  · rfl
theorem tz_ce_uf {s : tz_S} {a k : Nat} {v : Int32} (b : Nat) (sh : tz_K) (h : b ≠ a) : tz_ce (tz_uf s a k v) b sh = tz_ce s b sh := by
  unfold tz_ce
  split
  · rfl
  · rfl
  · rfl
  · rw [show (fun k' o => tz_fv (tz_uf s a k v) b k' o) = (fun k' o => tz_fv s b k' o) from funext fun k' => funext fun o => tz_fv_uf o (fun q => h q.1)]
theorem tz_pf {s : tz_S} {a ci k : Nat} {v : Int32} {fs : List (Option Nat)} (h : tz_sh a = some (.inr (ci, fs))) (hk : fs[k]? = some none) (hv : m_ok (m_ft ci k) (.int v) = true) : m_pf m_ft (tz_H s) a ci k (.int v) = some (tz_H (tz_uf s a k v)) :=
  tz_pfg h hk hv (fun b sh' hb => tz_ce_uf b sh' hb) rfl (by show Value.int (if a = a ∧ k = k then v else s.1 a k) = _; rw [if_pos ⟨rfl, rfl⟩]) (fun j o' hj _ => tz_fv_uf o' (fun q => hj q.2))
theorem tz_fv_ua {s : tz_S} {a b j : Nat} {f : Nat → Option Nat} (o : Option Nat) (h : ¬ b = a) : tz_fv (tz_ua s a f) b j o = tz_fv s b j o := by
  unfold tz_fv
  split
  · rfl
  · show va_rf ((if b = a then f else s.2.2.2.1 b) 0) = _
    rw [if_neg h]
  · rfl
  · rfl
theorem tz_ce_ua {s : tz_S} {a : Nat} {f : Nat → Option Nat} (b : Nat) (sh : tz_K) (h : b ≠ a) : tz_ce (tz_ua s a f) b sh = tz_ce s b sh := by
  unfold tz_ce
  split
  · rfl
  · show (Sum.inl (5, _, Sum.inr (Sum.inr (Sum.inr (Sum.inr (if b = a then f else s.2.2.2.1 b))))) : m_E) = _
    rw [if_neg h]
  · rfl
  · rw [show (fun k' o => tz_fv (tz_ua s a f) b k' o) = (fun k' o => tz_fv s b k' o) from funext fun k' => funext fun o => tz_fv_ua o h]
theorem tz_pfw {s : tz_S} {w : Option Nat} : m_pf m_ft (tz_H s) 211 2 5 (va_rf w) = some (tz_H (tz_uw s w)) := by
  have h0 : tz_sh 211 = some (.inr (2, [some 212, some 213, some 214, some 215, none, some 0])) := rfl
  refine tz_pfg (o := some 0) h0 rfl (by cases w <;> rfl) (fun b sh' hb => tz_ce_ua b sh' hb) rfl rfl ?_
  intro j o' hj h
  match j, hj with
  | 0, _ => cases h; rfl
  | 1, _ => cases h; rfl
  | 2, _ => cases h; rfl
  | 3, _ => cases h; rfl
  | 4, _ => cases h; rfl
  | 5, hj => exact absurd rfl hj
  | n + 6, _ => cases h
theorem tz_gow {s : tz_S} : m_go (tz_H s) 211 2 5 = some (s.2.2.2.1 211 0) := by
  have h0 : tz_sh 211 = some (.inr (2, [some 212, some 213, some 214, some 215, none, some 0])) := rfl
  unfold m_go
  rw [tz_gf (k := 5) (o := some 0) h0 rfl]
  rw [show tz_fv s 211 5 (some 0) = va_rf (s.2.2.2.1 211 0) from rfl]
  cases s.2.2.2.1 211 0 <;> rfl
theorem tz_ce_i {s : tz_S} {a t n : Nat} (h : Nat.beq t 1 = false ∧ Nat.beq t 5 = false) : tz_ce s a (.inl (t, n)) = .inl (t, n, .inl (s.2.1 a)) := by
  unfold tz_ce
  split
  · next e => cases e; cases h.1
  · next e => cases e; cases h.2
  · next e => cases e; rfl
  · next e => cases e
theorem tz_len {s : tz_S} {a t n : Nat} (h : tz_sh a = some (.inl (t, n))) (ht : Nat.blt t 6 = true) : m_len (tz_H s) a = some (Int32.ofNat n) := by
  have ht' : t < 6 := Nat.le_of_ble_eq_true ht
  unfold m_len
  rw [tz_c h]
  have e : ∃ f, tz_ce s a (.inl (t, n)) = .inl (t, n, f) := by
    unfold tz_ce
    split
    · next e => cases e; exact ⟨_, rfl⟩
    · next e => cases e; exact ⟨_, rfl⟩
    · next e => cases e; exact ⟨_, rfl⟩
    · next e => cases e
  obtain ⟨f, e⟩ := e
  rw [e]
  show (if t < 6 then _ else _) = _
  rw [if_pos ht']
theorem tz_ai {s : tz_S} {a t n : Nat} {j : Int32} (h : tz_sh a = some (.inl (t, n))) (ht : Nat.beq t 1 = false ∧ Nat.beq t 5 = false) (hj : m_in j n = true) : m_ai (tz_H s) t a j = some (s.2.1 a j.toNatClampNeg) := by
  unfold m_ai
  rw [tz_c h, tz_ce_i ht]
  show (if t = t ∧ m_in j n = true then _ else _) = _
  rw [if_pos ⟨rfl, hj⟩]
theorem tz_ce_ui {s : tz_S} {a : Nat} {f : Nat → Int32} (b : Nat) (sh : tz_K) (h : b ≠ a) : tz_ce (tz_ui s a f) b sh = tz_ce s b sh := by
  unfold tz_ce
  split
  · rfl
  · rfl
  · show (Sum.inl (_, _, Sum.inl (if b = a then f else s.2.1 b)) : m_E) = _
    rw [if_neg h]
  · rfl
theorem tz_si {s : tz_S} {a t n : Nat} {j x : Int32} (h : tz_sh a = some (.inl (t, n))) (ht : Nat.beq t 1 = false ∧ Nat.beq t 5 = false) (hj : m_in j n = true) : m_si (tz_H s) t a j x = some (tz_H (tz_ui s a (upd (s.2.1 a) j.toNatClampNeg (vp_nar (m_ty t) x)))) := by
  unfold m_si
  rw [tz_c h, tz_ce_i ht]
  show (if t = t ∧ m_in j n = true then _ else _) = _
  rw [if_pos ⟨rfl, hj⟩, ← tz_w (s := s) (s' := tz_ui s a (upd (s.2.1 a) j.toNatClampNeg (vp_nar (m_ty t) x))) h (fun b sh' hb => tz_ce_ui b sh' hb) rfl, tz_ce_i ht]
  show _ = some (m_w (tz_H s) a (Sum.inl (t, n, Sum.inl (if a = a then _ else s.2.1 a))))
  rw [if_pos rfl]
theorem tz_al {s : tz_S} {a n : Nat} {j : Int32} (h : tz_sh a = some (.inl (1, n))) (hj : m_in j n = true) : m_al (tz_H s) a j = some (s.2.2.1 a j.toNatClampNeg) := by
  unfold m_al
  rw [tz_c h]
  show (if 1 = 1 ∧ m_in j n = true then _ else _) = _
  rw [if_pos ⟨rfl, hj⟩]
theorem tz_ce_ul {s : tz_S} {a : Nat} {f : Nat → Int64} (b : Nat) (sh : tz_K) (h : b ≠ a) : tz_ce (tz_ul s a f) b sh = tz_ce s b sh := by
  unfold tz_ce
  split
  · show (Sum.inl (1, _, Sum.inr (Sum.inl (if b = a then f else s.2.2.1 b))) : m_E) = _
    rw [if_neg h]
  · rfl
  · rfl
  · rfl
theorem tz_sl {s : tz_S} {a n : Nat} {j : Int32} {x : Int64} (h : tz_sh a = some (.inl (1, n))) (hj : m_in j n = true) : m_sl (tz_H s) a j x = some (tz_H (tz_ul s a (vp_updL (s.2.2.1 a) j.toNatClampNeg x))) := by
  unfold m_sl
  rw [tz_c h]
  show (if 1 = 1 ∧ m_in j n = true then _ else _) = _
  rw [if_pos ⟨rfl, hj⟩, ← tz_w (s := s) (s' := tz_ul s a (vp_updL (s.2.2.1 a) j.toNatClampNeg x)) h (fun b sh' hb => tz_ce_ul b sh' hb) rfl]
  show _ = some (m_w (tz_H s) a (Sum.inl (1, n, Sum.inr (Sum.inl (if a = a then _ else s.2.2.1 a)))))
  rw [if_pos rfl]
theorem tz_aq {s : tz_S} {a n : Nat} {j : Int32} (h : tz_sh a = some (.inl (5, n))) (hj : m_in j n = true) : m_aq (tz_H s) a j = some (s.2.2.2.1 a j.toNatClampNeg) := by
  unfold m_aq
  rw [tz_c h]
  show (if 5 = 5 ∧ m_in j n = true then _ else _) = _
  rw [if_pos ⟨rfl, hj⟩]
theorem tz_sq {s : tz_S} {a n : Nat} {j : Int32} {x : Option Nat} (h : tz_sh a = some (.inl (5, n))) (hj : m_in j n = true) (hx : ∀ r, x = some r → m_isO (tz_H s) 0 r = true) : m_sq (tz_H s) a j x = some (tz_H (tz_ua s a (va_up (s.2.2.2.1 a) j.toNatClampNeg x))) := by
  unfold m_sq
  rw [tz_c h]
  show (if 5 = 5 ∧ m_in j n = true ∧ (∀ r, x = some r → m_isO (tz_H s) 0 r = true) then _ else _) = _
  rw [if_pos ⟨rfl, hj, hx⟩, ← tz_w (s := s) (s' := tz_ua s a (va_up (s.2.2.2.1 a) j.toNatClampNeg x)) h (fun b sh' hb => tz_ce_ua b sh' hb) rfl]
  show _ = some (m_w (tz_H s) a (Sum.inl (5, n, Sum.inr (Sum.inr (Sum.inr (Sum.inr (if a = a then _ else s.2.2.2.1 a)))))))
  rw [if_pos rfl]
theorem tz_cpy {s : tz_S} {a0 a n0 n1 : Nat} {n : Int32} (h0 : tz_sh a0 = some (.inl (0, n0))) (h : tz_sh a = some (.inl (0, n1))) (hn : ¬ n < 0) (h1 : n.toNatClampNeg ≤ n0) (h2 : n.toNatClampNeg ≤ n1) : m_cpy (tz_H s) a0 a 0 0 n = some (tz_H (tz_ui s a (va_cpy (s.2.1 a0) (s.2.1 a) 0 0 n.toNatClampNeg))) := by
  have z0 : ¬ (0 : Int32) < 0 := by decide
  have z1 : (0 : Int32).toNatClampNeg = 0 := rfl
  unfold m_cpy
  rw [tz_c h0, tz_c h]
  show (if ¬ (0 : Int32) < 0 ∧ ¬ (0 : Int32) < 0 ∧ ¬ n < 0 ∧ (0 : Int32).toNatClampNeg + n.toNatClampNeg ≤ n0 ∧ (0 : Int32).toNatClampNeg + n.toNatClampNeg ≤ n1 then _ else _) = _
  rw [if_pos ⟨z0, z0, hn, by rw [z1]; omega, by rw [z1]; omega⟩, ← tz_w (s := s) (s' := tz_ui s a (va_cpy (s.2.1 a0) (s.2.1 a) 0 0 n.toNatClampNeg)) h (fun b sh' hb => tz_ce_ui b sh' hb) rfl]
  show _ = some (m_w (tz_H s) a (Sum.inl (0, n1, Sum.inl (if a = a then _ else s.2.1 a))))
  rw [if_pos rfl, z1]
/-! steps of the functions -/
def k_ok {α : Type} (o : Option α) (P : α → Prop) : Prop := ∃ x, o = some x ∧ P x
theorem k_b {α β : Type} {o : Option α} {f : α → Option β} {P : α → Prop} {Q : β → Prop} (h : k_ok o P) (k : ∀ x, P x → k_ok (f x) Q) : k_ok (m_b o f) Q := by
  obtain ⟨x, e, hx⟩ := h
  rw [e]
  exact k x hx
theorem k_e {α β : Type} {o : Option α} {f : α → Option β} {x : α} {Q : β → Prop} (h : o = some x) (k : k_ok (f x) Q) : k_ok (m_b o f) Q := by
  rw [h]
  exact k
theorem k_s {α : Type} {x : α} {P : α → Prop} (h : P x) : k_ok (some x) P := ⟨x, rfl, h⟩
theorem k_m {α : Type} {o : Option α} {P Q : α → Prop} (h : k_ok o P) (k : ∀ x, P x → Q x) : k_ok o Q := by
  obtain ⟨x, e, hx⟩ := h
  exact ⟨x, e, k x hx⟩
theorem k_if {β : Type} {c : Prop} [Decidable c] {a b : Option β} {Q : β → Prop} (k1 : c → k_ok a Q) (k2 : ¬ c → k_ok b Q) : k_ok (m_if c a b) Q := by
  unfold m_if
  split
  · next h => exact k1 h
  · next h => exact k2 h
theorem k_t {β : Type} {c : Prop} [Decidable c] {a b : Option β} {Q : β → Prop} (h : c) (k : k_ok a Q) : k_ok (m_if c a b) Q := k_if (fun _ => k) (fun q => absurd h q)
theorem k_f {β : Type} {c : Prop} [Decidable c] {a b : Option β} {Q : β → Prop} (h : ¬ c) (k : k_ok b Q) : k_ok (m_if c a b) Q := k_if (fun q => absurd q h) (fun _ => k)
theorem k_g {β : Type} {c : Bool} {o : Option β} {Q : β → Prop} (h : c = true) (k : k_ok o Q) : k_ok (m_gd c o) Q := by
  rw [h]
  exact k
theorem bz_s {α β : Type} {x : α} {f : α → Option β} : m_b (some x) f = f x := rfl
theorem gz_s {β : Type} {o : Option β} : m_gd true o = o := rfl
theorem iz_t {β : Type} {c : Prop} [Decidable c] {a b : Option β} (h : c) : m_if c a b = a := if_pos h
theorem iz_f {β : Type} {c : Prop} [Decidable c] {a b : Option β} (h : ¬ c) : m_if c a b = b := if_neg h
/-- a loop whose states are known -/
theorem wh_s {S X : Type} {body : S → Option (S ⊕ X)} (st : Nat → S) (x : X) : ∀ (n m N : Nat), n - m < N → m ≤ n → (∀ i, m ≤ i → i < n → body (st i) = some (.inl (st (i + 1)))) → body (st n) = some (.inr x) → m_wh body N (st m) = some x
  | n, m, 0, h, _, _, _ => absurd h (Nat.not_lt_zero _)
  | n, m, N + 1, h, hm, hb, he => by
    unfold m_wh
    by_cases q : m = n
    · subst q
      rw [he]
    · rw [hb m (Nat.le_refl _) (by omega)]
      exact wh_s st x n (m + 1) N (by omega) (by omega) (fun i h1 h2 => hb i (by omega) h2) he
/-- a loop with an invariant -/
theorem wh_i {S X : Type} {body : S → Option (S ⊕ X)} {n : Nat} (I : Nat → S → Prop) (Q : X → Prop) (hb : ∀ i s, i < n → I i s → k_ok (body s) (m_KK (I (i + 1)) Q)) (he : ∀ s, I n s → k_ok (body s) (m_KK (fun _ => False) Q)) : ∀ (N m : Nat) (s : S), n - m < N → m ≤ n → I m s → k_ok (m_wh body N s) Q
  | 0, m, s, h, _, _ => absurd h (Nat.not_lt_zero _)
  | N + 1, m, s, h, hm, hi => by
    unfold m_wh
    by_cases q : m = n
    · subst q
      obtain ⟨t, e, ht⟩ := he s hi
      rw [e]
      cases t with
      | inl s' => exact ht.elim
      | inr x => exact ⟨x, rfl, ht⟩
    · obtain ⟨t, e, ht⟩ := hb m s (by omega) hi
      rw [e]
      cases t with
      | inl s' => exact wh_i I Q hb he N (m + 1) s' (by omega) (by omega) ht
      | inr x => exact ⟨x, rfl, ht⟩
theorem N_lt {n : Nat} (h : n < 1000000) : n < m_N := Nat.lt_of_lt_of_le h (Nat.le_of_ble_eq_true rfl)
def sp_it {α : Type} (f : Nat → α → α) : Nat → α → α
  | 0, a => a
  | n + 1, a => f n (sp_it f n a)
/-- counters -/
theorem nI_in1 {c N : Nat} (h : c < N) (hN : N < 2 ^ 31) : m_in (nI c) N = true := by
  unfold m_in
  have h1 := nI_pos (n := c) (by omega)
  have h2 := nI_clamp (n := c) (by omega)
  simp only [h1, h2, decide_false, Bool.not_false, Bool.true_and, decide_eq_true_eq]
  exact h
theorem sh_200 : tz_sh 200 = some (.inr (8, [some 201, some 206, some 211, some 216, some 223, some 253, some 283, some 313, some 315, none, none, none])) := rfl
theorem io_200 {s : tz_S} : m_isO (tz_H s) 8 200 = true := tz_io sh_200
theorem gr_200_0 {s : tz_S} : m_gr (tz_H s) 200 8 0 = some 201 := tz_gr sh_200 rfl rfl rfl
theorem gr_200_1 {s : tz_S} : m_gr (tz_H s) 200 8 1 = some 206 := tz_gr sh_200 rfl rfl rfl
theorem gr_200_2 {s : tz_S} : m_gr (tz_H s) 200 8 2 = some 211 := tz_gr sh_200 rfl rfl rfl
theorem gr_200_3 {s : tz_S} : m_gr (tz_H s) 200 8 3 = some 216 := tz_gr sh_200 rfl rfl rfl
theorem gr_200_4 {s : tz_S} : m_gr (tz_H s) 200 8 4 = some 223 := tz_gr sh_200 rfl rfl rfl
theorem gr_200_5 {s : tz_S} : m_gr (tz_H s) 200 8 5 = some 253 := tz_gr sh_200 rfl rfl rfl
theorem gr_200_6 {s : tz_S} : m_gr (tz_H s) 200 8 6 = some 283 := tz_gr sh_200 rfl rfl rfl
theorem gr_200_7 {s : tz_S} : m_gr (tz_H s) 200 8 7 = some 313 := tz_gr sh_200 rfl rfl rfl
theorem gr_200_8 {s : tz_S} : m_gr (tz_H s) 200 8 8 = some 315 := tz_gr sh_200 rfl rfl rfl
theorem gi_200_9 {s : tz_S} : m_gi (tz_H s) 200 8 9 = some (s.1 200 9) := tz_gi sh_200 rfl
theorem pf_200_9 {s : tz_S} {v : Int32} (h : v = 0 ∨ v = 1) : m_pf m_ft (tz_H s) 200 8 9 (.int v) = some (tz_H (tz_uf s 200 9 v)) := tz_pf sh_200 rfl (by rcases h with rfl | rfl <;> rfl)
theorem gi_200_10 {s : tz_S} : m_gi (tz_H s) 200 8 10 = some (s.1 200 10) := tz_gi sh_200 rfl
theorem pf_200_10 {s : tz_S} {v : Int32} (h : v = 0 ∨ v = 1) : m_pf m_ft (tz_H s) 200 8 10 (.int v) = some (tz_H (tz_uf s 200 10 v)) := tz_pf sh_200 rfl (by rcases h with rfl | rfl <;> rfl)
theorem gi_200_11 {s : tz_S} : m_gi (tz_H s) 200 8 11 = some (s.1 200 11) := tz_gi sh_200 rfl
theorem pf_200_11 {s : tz_S} {v : Int32} : m_pf m_ft (tz_H s) 200 8 11 (.int v) = some (tz_H (tz_uf s 200 11 v)) := tz_pf sh_200 rfl rfl
theorem sh_201 : tz_sh 201 = some (.inr (7, [some 202, none, none, none, some 203, some 204, some 205, none])) := rfl
theorem io_201 {s : tz_S} : m_isO (tz_H s) 7 201 = true := tz_io sh_201
theorem gr_201_0 {s : tz_S} : m_gr (tz_H s) 201 7 0 = some 202 := tz_gr sh_201 rfl rfl rfl
theorem gi_201_1 {s : tz_S} : m_gi (tz_H s) 201 7 1 = some (s.1 201 1) := tz_gi sh_201 rfl
theorem pf_201_1 {s : tz_S} {v : Int32} : m_pf m_ft (tz_H s) 201 7 1 (.int v) = some (tz_H (tz_uf s 201 1 v)) := tz_pf sh_201 rfl rfl
theorem gi_201_2 {s : tz_S} : m_gi (tz_H s) 201 7 2 = some (s.1 201 2) := tz_gi sh_201 rfl
theorem pf_201_2 {s : tz_S} {v : Int32} : m_pf m_ft (tz_H s) 201 7 2 (.int v) = some (tz_H (tz_uf s 201 2 v)) := tz_pf sh_201 rfl rfl
theorem gi_201_3 {s : tz_S} : m_gi (tz_H s) 201 7 3 = some (s.1 201 3) := tz_gi sh_201 rfl
theorem pf_201_3 {s : tz_S} {v : Int32} : m_pf m_ft (tz_H s) 201 7 3 (.int v) = some (tz_H (tz_uf s 201 3 v)) := tz_pf sh_201 rfl rfl
theorem gr_201_4 {s : tz_S} : m_gr (tz_H s) 201 7 4 = some 203 := tz_gr sh_201 rfl rfl rfl
theorem gr_201_5 {s : tz_S} : m_gr (tz_H s) 201 7 5 = some 204 := tz_gr sh_201 rfl rfl rfl
theorem gr_201_6 {s : tz_S} : m_gr (tz_H s) 201 7 6 = some 205 := tz_gr sh_201 rfl rfl rfl
theorem gi_201_7 {s : tz_S} : m_gi (tz_H s) 201 7 7 = some (s.1 201 7) := tz_gi sh_201 rfl
theorem pf_201_7 {s : tz_S} {v : Int32} : m_pf m_ft (tz_H s) 201 7 7 (.int v) = some (tz_H (tz_uf s 201 7 v)) := tz_pf sh_201 rfl rfl
theorem sh_202 : tz_sh 202 = some (.inl (4, 400)) := rfl
theorem le_202 {s : tz_S} : m_len (tz_H s) 202 = some 400 := tz_len sh_202 rfl
theorem sh_203 : tz_sh 203 = some (.inl (0, 401)) := rfl
theorem le_203 {s : tz_S} : m_len (tz_H s) 203 = some 401 := tz_len sh_203 rfl
theorem sh_204 : tz_sh 204 = some (.inl (0, 401)) := rfl
theorem le_204 {s : tz_S} : m_len (tz_H s) 204 = some 401 := tz_len sh_204 rfl
theorem sh_205 : tz_sh 205 = some (.inl (0, 401)) := rfl
theorem le_205 {s : tz_S} : m_len (tz_H s) 205 = some 401 := tz_len sh_205 rfl
theorem sh_206 : tz_sh 206 = some (.inr (5, [some 201, none, none, none, some 208, some 209, some 210, none, some 207, none])) := rfl
theorem io_206 {s : tz_S} : m_isO (tz_H s) 5 206 = true := tz_io sh_206
theorem gr_206_0 {s : tz_S} : m_gr (tz_H s) 206 5 0 = some 201 := tz_gr sh_206 rfl rfl rfl
theorem gi_206_1 {s : tz_S} : m_gi (tz_H s) 206 5 1 = some (s.1 206 1) := tz_gi sh_206 rfl
theorem pf_206_1 {s : tz_S} {v : Int32} : m_pf m_ft (tz_H s) 206 5 1 (.int v) = some (tz_H (tz_uf s 206 1 v)) := tz_pf sh_206 rfl rfl
theorem gi_206_2 {s : tz_S} : m_gi (tz_H s) 206 5 2 = some (s.1 206 2) := tz_gi sh_206 rfl
theorem pf_206_2 {s : tz_S} {v : Int32} : m_pf m_ft (tz_H s) 206 5 2 (.int v) = some (tz_H (tz_uf s 206 2 v)) := tz_pf sh_206 rfl rfl
theorem gi_206_3 {s : tz_S} : m_gi (tz_H s) 206 5 3 = some (s.1 206 3) := tz_gi sh_206 rfl
theorem pf_206_3 {s : tz_S} {v : Int32} : m_pf m_ft (tz_H s) 206 5 3 (.int v) = some (tz_H (tz_uf s 206 3 v)) := tz_pf sh_206 rfl rfl
theorem gr_206_4 {s : tz_S} : m_gr (tz_H s) 206 5 4 = some 208 := tz_gr sh_206 rfl rfl rfl
theorem gr_206_5 {s : tz_S} : m_gr (tz_H s) 206 5 5 = some 209 := tz_gr sh_206 rfl rfl rfl
theorem gr_206_6 {s : tz_S} : m_gr (tz_H s) 206 5 6 = some 210 := tz_gr sh_206 rfl rfl rfl
theorem gi_206_7 {s : tz_S} : m_gi (tz_H s) 206 5 7 = some (s.1 206 7) := tz_gi sh_206 rfl
theorem pf_206_7 {s : tz_S} {v : Int32} : m_pf m_ft (tz_H s) 206 5 7 (.int v) = some (tz_H (tz_uf s 206 7 v)) := tz_pf sh_206 rfl rfl
theorem gr_206_8 {s : tz_S} : m_gr (tz_H s) 206 5 8 = some 207 := tz_gr sh_206 rfl rfl rfl
theorem gi_206_9 {s : tz_S} : m_gi (tz_H s) 206 5 9 = some (s.1 206 9) := tz_gi sh_206 rfl
theorem pf_206_9 {s : tz_S} {v : Int32} : m_pf m_ft (tz_H s) 206 5 9 (.int v) = some (tz_H (tz_uf s 206 9 v)) := tz_pf sh_206 rfl rfl
theorem sh_207 : tz_sh 207 = some (.inl (0, 400)) := rfl
theorem le_207 {s : tz_S} : m_len (tz_H s) 207 = some 400 := tz_len sh_207 rfl
theorem sh_208 : tz_sh 208 = some (.inl (0, 12)) := rfl
theorem le_208 {s : tz_S} : m_len (tz_H s) 208 = some 12 := tz_len sh_208 rfl
theorem sh_209 : tz_sh 209 = some (.inl (0, 12)) := rfl
theorem le_209 {s : tz_S} : m_len (tz_H s) 209 = some 12 := tz_len sh_209 rfl
theorem sh_210 : tz_sh 210 = some (.inl (0, 12)) := rfl
theorem le_210 {s : tz_S} : m_len (tz_H s) 210 = some 12 := tz_len sh_210 rfl
theorem sh_211 : tz_sh 211 = some (.inr (2, [some 212, some 213, some 214, some 215, none, some 0])) := rfl
theorem io_211 {s : tz_S} : m_isO (tz_H s) 2 211 = true := tz_io sh_211
theorem gr_211_0 {s : tz_S} : m_gr (tz_H s) 211 2 0 = some 212 := tz_gr sh_211 rfl rfl rfl
theorem gr_211_1 {s : tz_S} : m_gr (tz_H s) 211 2 1 = some 213 := tz_gr sh_211 rfl rfl rfl
theorem gr_211_2 {s : tz_S} : m_gr (tz_H s) 211 2 2 = some 214 := tz_gr sh_211 rfl rfl rfl
theorem gr_211_3 {s : tz_S} : m_gr (tz_H s) 211 2 3 = some 215 := tz_gr sh_211 rfl rfl rfl
theorem gi_211_4 {s : tz_S} : m_gi (tz_H s) 211 2 4 = some (s.1 211 4) := tz_gi sh_211 rfl
theorem pf_211_4 {s : tz_S} {v : Int32} : m_pf m_ft (tz_H s) 211 2 4 (.int v) = some (tz_H (tz_uf s 211 4 v)) := tz_pf sh_211 rfl rfl
theorem sh_212 : tz_sh 212 = some (.inl (0, 60)) := rfl
theorem le_212 {s : tz_S} : m_len (tz_H s) 212 = some 60 := tz_len sh_212 rfl
theorem sh_213 : tz_sh 213 = some (.inl (3, 60)) := rfl
theorem le_213 {s : tz_S} : m_len (tz_H s) 213 = some 60 := tz_len sh_213 rfl
theorem sh_214 : tz_sh 214 = some (.inl (0, 10)) := rfl
theorem le_214 {s : tz_S} : m_len (tz_H s) 214 = some 10 := tz_len sh_214 rfl
theorem sh_215 : tz_sh 215 = some (.inl (1, 400)) := rfl
theorem le_215 {s : tz_S} : m_len (tz_H s) 215 = some 400 := tz_len sh_215 rfl
theorem sh_216 : tz_sh 216 = some (.inr (4, [some 217, some 218, some 219, some 220, some 221, some 222, none, none])) := rfl
theorem io_216 {s : tz_S} : m_isO (tz_H s) 4 216 = true := tz_io sh_216
theorem gr_216_0 {s : tz_S} : m_gr (tz_H s) 216 4 0 = some 217 := tz_gr sh_216 rfl rfl rfl
theorem gr_216_1 {s : tz_S} : m_gr (tz_H s) 216 4 1 = some 218 := tz_gr sh_216 rfl rfl rfl
theorem gr_216_2 {s : tz_S} : m_gr (tz_H s) 216 4 2 = some 219 := tz_gr sh_216 rfl rfl rfl
theorem gr_216_3 {s : tz_S} : m_gr (tz_H s) 216 4 3 = some 220 := tz_gr sh_216 rfl rfl rfl
theorem gr_216_4 {s : tz_S} : m_gr (tz_H s) 216 4 4 = some 221 := tz_gr sh_216 rfl rfl rfl
theorem gr_216_5 {s : tz_S} : m_gr (tz_H s) 216 4 5 = some 222 := tz_gr sh_216 rfl rfl rfl
theorem gi_216_6 {s : tz_S} : m_gi (tz_H s) 216 4 6 = some (s.1 216 6) := tz_gi sh_216 rfl
theorem pf_216_6 {s : tz_S} {v : Int32} : m_pf m_ft (tz_H s) 216 4 6 (.int v) = some (tz_H (tz_uf s 216 6 v)) := tz_pf sh_216 rfl rfl
theorem gi_216_7 {s : tz_S} : m_gi (tz_H s) 216 4 7 = some (s.1 216 7) := tz_gi sh_216 rfl
theorem pf_216_7 {s : tz_S} {v : Int32} : m_pf m_ft (tz_H s) 216 4 7 (.int v) = some (tz_H (tz_uf s 216 7 v)) := tz_pf sh_216 rfl rfl
theorem sh_217 : tz_sh 217 = some (.inl (0, 6)) := rfl
theorem le_217 {s : tz_S} : m_len (tz_H s) 217 = some 6 := tz_len sh_217 rfl
theorem sh_218 : tz_sh 218 = some (.inl (0, 6)) := rfl
theorem le_218 {s : tz_S} : m_len (tz_H s) 218 = some 6 := tz_len sh_218 rfl
theorem sh_219 : tz_sh 219 = some (.inl (0, 6)) := rfl
theorem le_219 {s : tz_S} : m_len (tz_H s) 219 = some 6 := tz_len sh_219 rfl
theorem sh_220 : tz_sh 220 = some (.inl (0, 6)) := rfl
theorem le_220 {s : tz_S} : m_len (tz_H s) 220 = some 6 := tz_len sh_220 rfl
theorem sh_221 : tz_sh 221 = some (.inl (0, 6)) := rfl
theorem le_221 {s : tz_S} : m_len (tz_H s) 221 = some 6 := tz_len sh_221 rfl
theorem sh_222 : tz_sh 222 = some (.inl (0, 6)) := rfl
theorem le_222 {s : tz_S} : m_len (tz_H s) 222 = some 6 := tz_len sh_222 rfl
theorem sh_223 : tz_sh 223 = some (.inr (3, [none, none, none, none, some 224, none, some 225, some 227, some 229, some 231, some 233, some 235, some 237, some 239, some 241, some 243, some 245, some 247, some 249, some 251])) := rfl
theorem io_223 {s : tz_S} : m_isO (tz_H s) 3 223 = true := tz_io sh_223
theorem gi_223_0 {s : tz_S} : m_gi (tz_H s) 223 3 0 = some (s.1 223 0) := tz_gi sh_223 rfl
theorem pf_223_0 {s : tz_S} {v : Int32} : m_pf m_ft (tz_H s) 223 3 0 (.int v) = some (tz_H (tz_uf s 223 0 v)) := tz_pf sh_223 rfl rfl
theorem gi_223_1 {s : tz_S} : m_gi (tz_H s) 223 3 1 = some (s.1 223 1) := tz_gi sh_223 rfl
theorem pf_223_1 {s : tz_S} {v : Int32} : m_pf m_ft (tz_H s) 223 3 1 (.int v) = some (tz_H (tz_uf s 223 1 v)) := tz_pf sh_223 rfl rfl
theorem gi_223_2 {s : tz_S} : m_gi (tz_H s) 223 3 2 = some (s.1 223 2) := tz_gi sh_223 rfl
theorem pf_223_2 {s : tz_S} {v : Int32} : m_pf m_ft (tz_H s) 223 3 2 (.int v) = some (tz_H (tz_uf s 223 2 v)) := tz_pf sh_223 rfl rfl
theorem gi_223_3 {s : tz_S} : m_gi (tz_H s) 223 3 3 = some (s.1 223 3) := tz_gi sh_223 rfl
theorem pf_223_3 {s : tz_S} {v : Int32} (h : v = 0 ∨ v = 1) : m_pf m_ft (tz_H s) 223 3 3 (.int v) = some (tz_H (tz_uf s 223 3 v)) := tz_pf sh_223 rfl (by rcases h with rfl | rfl <;> rfl)
theorem gr_223_4 {s : tz_S} : m_gr (tz_H s) 223 3 4 = some 224 := tz_gr sh_223 rfl rfl rfl
theorem gi_223_5 {s : tz_S} : m_gi (tz_H s) 223 3 5 = some (s.1 223 5) := tz_gi sh_223 rfl
theorem pf_223_5 {s : tz_S} {v : Int32} : m_pf m_ft (tz_H s) 223 3 5 (.int v) = some (tz_H (tz_uf s 223 5 v)) := tz_pf sh_223 rfl rfl
theorem gr_223_6 {s : tz_S} : m_gr (tz_H s) 223 3 6 = some 225 := tz_gr sh_223 rfl rfl rfl
theorem gr_223_7 {s : tz_S} : m_gr (tz_H s) 223 3 7 = some 227 := tz_gr sh_223 rfl rfl rfl
theorem gr_223_8 {s : tz_S} : m_gr (tz_H s) 223 3 8 = some 229 := tz_gr sh_223 rfl rfl rfl
theorem gr_223_9 {s : tz_S} : m_gr (tz_H s) 223 3 9 = some 231 := tz_gr sh_223 rfl rfl rfl
theorem gr_223_10 {s : tz_S} : m_gr (tz_H s) 223 3 10 = some 233 := tz_gr sh_223 rfl rfl rfl
theorem gr_223_11 {s : tz_S} : m_gr (tz_H s) 223 3 11 = some 235 := tz_gr sh_223 rfl rfl rfl
theorem gr_223_12 {s : tz_S} : m_gr (tz_H s) 223 3 12 = some 237 := tz_gr sh_223 rfl rfl rfl
theorem gr_223_13 {s : tz_S} : m_gr (tz_H s) 223 3 13 = some 239 := tz_gr sh_223 rfl rfl rfl
theorem gr_223_14 {s : tz_S} : m_gr (tz_H s) 223 3 14 = some 241 := tz_gr sh_223 rfl rfl rfl
theorem gr_223_15 {s : tz_S} : m_gr (tz_H s) 223 3 15 = some 243 := tz_gr sh_223 rfl rfl rfl
theorem gr_223_16 {s : tz_S} : m_gr (tz_H s) 223 3 16 = some 245 := tz_gr sh_223 rfl rfl rfl
theorem gr_223_17 {s : tz_S} : m_gr (tz_H s) 223 3 17 = some 247 := tz_gr sh_223 rfl rfl rfl
theorem gr_223_18 {s : tz_S} : m_gr (tz_H s) 223 3 18 = some 249 := tz_gr sh_223 rfl rfl rfl
theorem gr_223_19 {s : tz_S} : m_gr (tz_H s) 223 3 19 = some 251 := tz_gr sh_223 rfl rfl rfl
theorem sh_224 : tz_sh 224 = some (.inl (5, 10)) := rfl
theorem le_224 {s : tz_S} : m_len (tz_H s) 224 = some 10 := tz_len sh_224 rfl
theorem sh_225 : tz_sh 225 = some (.inr (6, [some 1004, some 226, none])) := rfl
theorem io_225 {s : tz_S} : m_isO (tz_H s) 6 225 = true := tz_io sh_225
theorem gi_225_0 {s : tz_S} : m_gi (tz_H s) 225 6 0 = some 4 := tz_gc sh_225 rfl rfl rfl
theorem gr_225_1 {s : tz_S} : m_gr (tz_H s) 225 6 1 = some 226 := tz_gr sh_225 rfl rfl rfl
theorem gi_225_2 {s : tz_S} : m_gi (tz_H s) 225 6 2 = some (s.1 225 2) := tz_gi sh_225 rfl
theorem pf_225_2 {s : tz_S} {v : Int32} : m_pf m_ft (tz_H s) 225 6 2 (.int v) = some (tz_H (tz_uf s 225 2 v)) := tz_pf sh_225 rfl rfl
theorem sh_226 : tz_sh 226 = some (.inl (0, 32)) := rfl
theorem le_226 {s : tz_S} : m_len (tz_H s) 226 = some 32 := tz_len sh_226 rfl
theorem sh_227 : tz_sh 227 = some (.inr (6, [some 1003, some 228, none])) := rfl
theorem io_227 {s : tz_S} : m_isO (tz_H s) 6 227 = true := tz_io sh_227
theorem gi_227_0 {s : tz_S} : m_gi (tz_H s) 227 6 0 = some 3 := tz_gc sh_227 rfl rfl rfl
theorem gr_227_1 {s : tz_S} : m_gr (tz_H s) 227 6 1 = some 228 := tz_gr sh_227 rfl rfl rfl
theorem gi_227_2 {s : tz_S} : m_gi (tz_H s) 227 6 2 = some (s.1 227 2) := tz_gi sh_227 rfl
theorem pf_227_2 {s : tz_S} {v : Int32} : m_pf m_ft (tz_H s) 227 6 2 (.int v) = some (tz_H (tz_uf s 227 2 v)) := tz_pf sh_227 rfl rfl
theorem sh_228 : tz_sh 228 = some (.inl (0, 300)) := rfl
theorem le_228 {s : tz_S} : m_len (tz_H s) 228 = some 300 := tz_len sh_228 rfl
theorem sh_229 : tz_sh 229 = some (.inr (6, [some 1021, some 230, none])) := rfl
theorem io_229 {s : tz_S} : m_isO (tz_H s) 6 229 = true := tz_io sh_229
theorem gi_229_0 {s : tz_S} : m_gi (tz_H s) 229 6 0 = some 21 := tz_gc sh_229 rfl rfl rfl
theorem gr_229_1 {s : tz_S} : m_gr (tz_H s) 229 6 1 = some 230 := tz_gr sh_229 rfl rfl rfl
theorem gi_229_2 {s : tz_S} : m_gi (tz_H s) 229 6 2 = some (s.1 229 2) := tz_gi sh_229 rfl
theorem pf_229_2 {s : tz_S} {v : Int32} : m_pf m_ft (tz_H s) 229 6 2 (.int v) = some (tz_H (tz_uf s 229 2 v)) := tz_pf sh_229 rfl rfl
theorem sh_230 : tz_sh 230 = some (.inl (0, 2100)) := rfl
theorem le_230 {s : tz_S} : m_len (tz_H s) 230 = some 2100 := tz_len sh_230 rfl
theorem sh_231 : tz_sh 231 = some (.inr (6, [some 1005, some 232, none])) := rfl
theorem io_231 {s : tz_S} : m_isO (tz_H s) 6 231 = true := tz_io sh_231
theorem gi_231_0 {s : tz_S} : m_gi (tz_H s) 231 6 0 = some 5 := tz_gc sh_231 rfl rfl rfl
theorem gr_231_1 {s : tz_S} : m_gr (tz_H s) 231 6 1 = some 232 := tz_gr sh_231 rfl rfl rfl
theorem gi_231_2 {s : tz_S} : m_gi (tz_H s) 231 6 2 = some (s.1 231 2) := tz_gi sh_231 rfl
theorem pf_231_2 {s : tz_S} {v : Int32} : m_pf m_ft (tz_H s) 231 6 2 (.int v) = some (tz_H (tz_uf s 231 2 v)) := tz_pf sh_231 rfl rfl
theorem sh_232 : tz_sh 232 = some (.inl (0, 300)) := rfl
theorem le_232 {s : tz_S} : m_len (tz_H s) 232 = some 300 := tz_len sh_232 rfl
theorem sh_233 : tz_sh 233 = some (.inr (6, [some 1023, some 234, none])) := rfl
theorem io_233 {s : tz_S} : m_isO (tz_H s) 6 233 = true := tz_io sh_233
theorem gi_233_0 {s : tz_S} : m_gi (tz_H s) 233 6 0 = some 23 := tz_gc sh_233 rfl rfl rfl
theorem gr_233_1 {s : tz_S} : m_gr (tz_H s) 233 6 1 = some 234 := tz_gr sh_233 rfl rfl rfl
theorem gi_233_2 {s : tz_S} : m_gi (tz_H s) 233 6 2 = some (s.1 233 2) := tz_gi sh_233 rfl
theorem pf_233_2 {s : tz_S} {v : Int32} : m_pf m_ft (tz_H s) 233 6 2 (.int v) = some (tz_H (tz_uf s 233 2 v)) := tz_pf sh_233 rfl rfl
theorem sh_234 : tz_sh 234 = some (.inl (0, 276)) := rfl
theorem le_234 {s : tz_S} : m_len (tz_H s) 234 = some 276 := tz_len sh_234 rfl
theorem sh_235 : tz_sh 235 = some (.inr (6, [some 1004, some 236, none])) := rfl
theorem io_235 {s : tz_S} : m_isO (tz_H s) 6 235 = true := tz_io sh_235
theorem gi_235_0 {s : tz_S} : m_gi (tz_H s) 235 6 0 = some 4 := tz_gc sh_235 rfl rfl rfl
theorem gr_235_1 {s : tz_S} : m_gr (tz_H s) 235 6 1 = some 236 := tz_gr sh_235 rfl rfl rfl
theorem gi_235_2 {s : tz_S} : m_gi (tz_H s) 235 6 2 = some (s.1 235 2) := tz_gi sh_235 rfl
theorem pf_235_2 {s : tz_S} {v : Int32} : m_pf m_ft (tz_H s) 235 6 2 (.int v) = some (tz_H (tz_uf s 235 2 v)) := tz_pf sh_235 rfl rfl
theorem sh_236 : tz_sh 236 = some (.inl (0, 24)) := rfl
theorem le_236 {s : tz_S} : m_len (tz_H s) 236 = some 24 := tz_len sh_236 rfl
theorem sh_237 : tz_sh 237 = some (.inr (6, [some 1003, some 238, none])) := rfl
theorem io_237 {s : tz_S} : m_isO (tz_H s) 6 237 = true := tz_io sh_237
theorem gi_237_0 {s : tz_S} : m_gi (tz_H s) 237 6 0 = some 3 := tz_gc sh_237 rfl rfl rfl
theorem gr_237_1 {s : tz_S} : m_gr (tz_H s) 237 6 1 = some 238 := tz_gr sh_237 rfl rfl rfl
theorem gi_237_2 {s : tz_S} : m_gi (tz_H s) 237 6 2 = some (s.1 237 2) := tz_gi sh_237 rfl
theorem pf_237_2 {s : tz_S} {v : Int32} : m_pf m_ft (tz_H s) 237 6 2 (.int v) = some (tz_H (tz_uf s 237 2 v)) := tz_pf sh_237 rfl rfl
theorem sh_238 : tz_sh 238 = some (.inl (0, 144)) := rfl
theorem le_238 {s : tz_S} : m_len (tz_H s) 238 = some 144 := tz_len sh_238 rfl
theorem sh_239 : tz_sh 239 = some (.inr (6, [some 1003, some 240, none])) := rfl
theorem io_239 {s : tz_S} : m_isO (tz_H s) 6 239 = true := tz_io sh_239
theorem gi_239_0 {s : tz_S} : m_gi (tz_H s) 239 6 0 = some 3 := tz_gc sh_239 rfl rfl rfl
theorem gr_239_1 {s : tz_S} : m_gr (tz_H s) 239 6 1 = some 240 := tz_gr sh_239 rfl rfl rfl
theorem gi_239_2 {s : tz_S} : m_gi (tz_H s) 239 6 2 = some (s.1 239 2) := tz_gi sh_239 rfl
theorem pf_239_2 {s : tz_S} {v : Int32} : m_pf m_ft (tz_H s) 239 6 2 (.int v) = some (tz_H (tz_uf s 239 2 v)) := tz_pf sh_239 rfl rfl
theorem sh_240 : tz_sh 240 = some (.inl (0, 300)) := rfl
theorem le_240 {s : tz_S} : m_len (tz_H s) 240 = some 300 := tz_len sh_240 rfl
theorem sh_241 : tz_sh 241 = some (.inr (6, [some 1005, some 242, none])) := rfl
theorem io_241 {s : tz_S} : m_isO (tz_H s) 6 241 = true := tz_io sh_241
theorem gi_241_0 {s : tz_S} : m_gi (tz_H s) 241 6 0 = some 5 := tz_gc sh_241 rfl rfl rfl
theorem gr_241_1 {s : tz_S} : m_gr (tz_H s) 241 6 1 = some 242 := tz_gr sh_241 rfl rfl rfl
theorem gi_241_2 {s : tz_S} : m_gi (tz_H s) 241 6 2 = some (s.1 241 2) := tz_gi sh_241 rfl
theorem pf_241_2 {s : tz_S} {v : Int32} : m_pf m_ft (tz_H s) 241 6 2 (.int v) = some (tz_H (tz_uf s 241 2 v)) := tz_pf sh_241 rfl rfl
theorem sh_242 : tz_sh 242 = some (.inl (0, 500)) := rfl
theorem le_242 {s : tz_S} : m_len (tz_H s) 242 = some 500 := tz_len sh_242 rfl
theorem sh_243 : tz_sh 243 = some (.inr (6, [some 1003, some 244, none])) := rfl
theorem io_243 {s : tz_S} : m_isO (tz_H s) 6 243 = true := tz_io sh_243
theorem gi_243_0 {s : tz_S} : m_gi (tz_H s) 243 6 0 = some 3 := tz_gc sh_243 rfl rfl rfl
theorem gr_243_1 {s : tz_S} : m_gr (tz_H s) 243 6 1 = some 244 := tz_gr sh_243 rfl rfl rfl
theorem gi_243_2 {s : tz_S} : m_gi (tz_H s) 243 6 2 = some (s.1 243 2) := tz_gi sh_243 rfl
theorem pf_243_2 {s : tz_S} {v : Int32} : m_pf m_ft (tz_H s) 243 6 2 (.int v) = some (tz_H (tz_uf s 243 2 v)) := tz_pf sh_243 rfl rfl
theorem sh_244 : tz_sh 244 = some (.inl (0, 180)) := rfl
theorem le_244 {s : tz_S} : m_len (tz_H s) 244 = some 180 := tz_len sh_244 rfl
theorem sh_245 : tz_sh 245 = some (.inr (6, [some 1006, some 246, none])) := rfl
theorem io_245 {s : tz_S} : m_isO (tz_H s) 6 245 = true := tz_io sh_245
theorem gi_245_0 {s : tz_S} : m_gi (tz_H s) 245 6 0 = some 6 := tz_gc sh_245 rfl rfl rfl
theorem gr_245_1 {s : tz_S} : m_gr (tz_H s) 245 6 1 = some 246 := tz_gr sh_245 rfl rfl rfl
theorem gi_245_2 {s : tz_S} : m_gi (tz_H s) 245 6 2 = some (s.1 245 2) := tz_gi sh_245 rfl
theorem pf_245_2 {s : tz_S} {v : Int32} : m_pf m_ft (tz_H s) 245 6 2 (.int v) = some (tz_H (tz_uf s 245 2 v)) := tz_pf sh_245 rfl rfl
theorem sh_246 : tz_sh 246 = some (.inl (0, 60)) := rfl
theorem le_246 {s : tz_S} : m_len (tz_H s) 246 = some 60 := tz_len sh_246 rfl
theorem sh_247 : tz_sh 247 = some (.inr (6, [some 1002, some 248, none])) := rfl
theorem io_247 {s : tz_S} : m_isO (tz_H s) 6 247 = true := tz_io sh_247
theorem gi_247_0 {s : tz_S} : m_gi (tz_H s) 247 6 0 = some 2 := tz_gc sh_247 rfl rfl rfl
theorem gr_247_1 {s : tz_S} : m_gr (tz_H s) 247 6 1 = some 248 := tz_gr sh_247 rfl rfl rfl
theorem gi_247_2 {s : tz_S} : m_gi (tz_H s) 247 6 2 = some (s.1 247 2) := tz_gi sh_247 rfl
theorem pf_247_2 {s : tz_S} {v : Int32} : m_pf m_ft (tz_H s) 247 6 2 (.int v) = some (tz_H (tz_uf s 247 2 v)) := tz_pf sh_247 rfl rfl
theorem sh_248 : tz_sh 248 = some (.inl (0, 18)) := rfl
theorem le_248 {s : tz_S} : m_len (tz_H s) 248 = some 18 := tz_len sh_248 rfl
theorem sh_249 : tz_sh 249 = some (.inr (6, [some 1004, some 250, none])) := rfl
theorem io_249 {s : tz_S} : m_isO (tz_H s) 6 249 = true := tz_io sh_249
theorem gi_249_0 {s : tz_S} : m_gi (tz_H s) 249 6 0 = some 4 := tz_gc sh_249 rfl rfl rfl
theorem gr_249_1 {s : tz_S} : m_gr (tz_H s) 249 6 1 = some 250 := tz_gr sh_249 rfl rfl rfl
theorem gi_249_2 {s : tz_S} : m_gi (tz_H s) 249 6 2 = some (s.1 249 2) := tz_gi sh_249 rfl
theorem pf_249_2 {s : tz_S} {v : Int32} : m_pf m_ft (tz_H s) 249 6 2 (.int v) = some (tz_H (tz_uf s 249 2 v)) := tz_pf sh_249 rfl rfl
theorem sh_250 : tz_sh 250 = some (.inl (0, 32)) := rfl
theorem le_250 {s : tz_S} : m_len (tz_H s) 250 = some 32 := tz_len sh_250 rfl
theorem sh_251 : tz_sh 251 = some (.inr (6, [some 1003, some 252, none])) := rfl
theorem io_251 {s : tz_S} : m_isO (tz_H s) 6 251 = true := tz_io sh_251
theorem gi_251_0 {s : tz_S} : m_gi (tz_H s) 251 6 0 = some 3 := tz_gc sh_251 rfl rfl rfl
theorem gr_251_1 {s : tz_S} : m_gr (tz_H s) 251 6 1 = some 252 := tz_gr sh_251 rfl rfl rfl
theorem gi_251_2 {s : tz_S} : m_gi (tz_H s) 251 6 2 = some (s.1 251 2) := tz_gi sh_251 rfl
theorem pf_251_2 {s : tz_S} {v : Int32} : m_pf m_ft (tz_H s) 251 6 2 (.int v) = some (tz_H (tz_uf s 251 2 v)) := tz_pf sh_251 rfl rfl
theorem sh_252 : tz_sh 252 = some (.inl (0, 45)) := rfl
theorem le_252 {s : tz_S} : m_len (tz_H s) 252 = some 45 := tz_len sh_252 rfl
theorem sh_253 : tz_sh 253 = some (.inr (3, [none, none, none, none, some 254, none, some 255, some 257, some 259, some 261, some 263, some 265, some 267, some 269, some 271, some 273, some 275, some 277, some 279, some 281])) := rfl
theorem io_253 {s : tz_S} : m_isO (tz_H s) 3 253 = true := tz_io sh_253
theorem gi_253_0 {s : tz_S} : m_gi (tz_H s) 253 3 0 = some (s.1 253 0) := tz_gi sh_253 rfl
theorem pf_253_0 {s : tz_S} {v : Int32} : m_pf m_ft (tz_H s) 253 3 0 (.int v) = some (tz_H (tz_uf s 253 0 v)) := tz_pf sh_253 rfl rfl
theorem gi_253_1 {s : tz_S} : m_gi (tz_H s) 253 3 1 = some (s.1 253 1) := tz_gi sh_253 rfl
theorem pf_253_1 {s : tz_S} {v : Int32} : m_pf m_ft (tz_H s) 253 3 1 (.int v) = some (tz_H (tz_uf s 253 1 v)) := tz_pf sh_253 rfl rfl
theorem gi_253_2 {s : tz_S} : m_gi (tz_H s) 253 3 2 = some (s.1 253 2) := tz_gi sh_253 rfl
theorem pf_253_2 {s : tz_S} {v : Int32} : m_pf m_ft (tz_H s) 253 3 2 (.int v) = some (tz_H (tz_uf s 253 2 v)) := tz_pf sh_253 rfl rfl
theorem gi_253_3 {s : tz_S} : m_gi (tz_H s) 253 3 3 = some (s.1 253 3) := tz_gi sh_253 rfl
theorem pf_253_3 {s : tz_S} {v : Int32} (h : v = 0 ∨ v = 1) : m_pf m_ft (tz_H s) 253 3 3 (.int v) = some (tz_H (tz_uf s 253 3 v)) := tz_pf sh_253 rfl (by rcases h with rfl | rfl <;> rfl)
theorem gr_253_4 {s : tz_S} : m_gr (tz_H s) 253 3 4 = some 254 := tz_gr sh_253 rfl rfl rfl
theorem gi_253_5 {s : tz_S} : m_gi (tz_H s) 253 3 5 = some (s.1 253 5) := tz_gi sh_253 rfl
theorem pf_253_5 {s : tz_S} {v : Int32} : m_pf m_ft (tz_H s) 253 3 5 (.int v) = some (tz_H (tz_uf s 253 5 v)) := tz_pf sh_253 rfl rfl
theorem gr_253_6 {s : tz_S} : m_gr (tz_H s) 253 3 6 = some 255 := tz_gr sh_253 rfl rfl rfl
theorem gr_253_7 {s : tz_S} : m_gr (tz_H s) 253 3 7 = some 257 := tz_gr sh_253 rfl rfl rfl
theorem gr_253_8 {s : tz_S} : m_gr (tz_H s) 253 3 8 = some 259 := tz_gr sh_253 rfl rfl rfl
theorem gr_253_9 {s : tz_S} : m_gr (tz_H s) 253 3 9 = some 261 := tz_gr sh_253 rfl rfl rfl
theorem gr_253_10 {s : tz_S} : m_gr (tz_H s) 253 3 10 = some 263 := tz_gr sh_253 rfl rfl rfl
theorem gr_253_11 {s : tz_S} : m_gr (tz_H s) 253 3 11 = some 265 := tz_gr sh_253 rfl rfl rfl
theorem gr_253_12 {s : tz_S} : m_gr (tz_H s) 253 3 12 = some 267 := tz_gr sh_253 rfl rfl rfl
theorem gr_253_13 {s : tz_S} : m_gr (tz_H s) 253 3 13 = some 269 := tz_gr sh_253 rfl rfl rfl
theorem gr_253_14 {s : tz_S} : m_gr (tz_H s) 253 3 14 = some 271 := tz_gr sh_253 rfl rfl rfl
theorem gr_253_15 {s : tz_S} : m_gr (tz_H s) 253 3 15 = some 273 := tz_gr sh_253 rfl rfl rfl
theorem gr_253_16 {s : tz_S} : m_gr (tz_H s) 253 3 16 = some 275 := tz_gr sh_253 rfl rfl rfl
theorem gr_253_17 {s : tz_S} : m_gr (tz_H s) 253 3 17 = some 277 := tz_gr sh_253 rfl rfl rfl
theorem gr_253_18 {s : tz_S} : m_gr (tz_H s) 253 3 18 = some 279 := tz_gr sh_253 rfl rfl rfl
theorem gr_253_19 {s : tz_S} : m_gr (tz_H s) 253 3 19 = some 281 := tz_gr sh_253 rfl rfl rfl
theorem sh_254 : tz_sh 254 = some (.inl (5, 10)) := rfl
theorem le_254 {s : tz_S} : m_len (tz_H s) 254 = some 10 := tz_len sh_254 rfl
theorem sh_255 : tz_sh 255 = some (.inr (6, [some 1004, some 256, none])) := rfl
theorem io_255 {s : tz_S} : m_isO (tz_H s) 6 255 = true := tz_io sh_255
theorem gi_255_0 {s : tz_S} : m_gi (tz_H s) 255 6 0 = some 4 := tz_gc sh_255 rfl rfl rfl
theorem gr_255_1 {s : tz_S} : m_gr (tz_H s) 255 6 1 = some 256 := tz_gr sh_255 rfl rfl rfl
theorem gi_255_2 {s : tz_S} : m_gi (tz_H s) 255 6 2 = some (s.1 255 2) := tz_gi sh_255 rfl
theorem pf_255_2 {s : tz_S} {v : Int32} : m_pf m_ft (tz_H s) 255 6 2 (.int v) = some (tz_H (tz_uf s 255 2 v)) := tz_pf sh_255 rfl rfl
theorem sh_256 : tz_sh 256 = some (.inl (0, 32)) := rfl
theorem le_256 {s : tz_S} : m_len (tz_H s) 256 = some 32 := tz_len sh_256 rfl
theorem sh_257 : tz_sh 257 = some (.inr (6, [some 1003, some 258, none])) := rfl
theorem io_257 {s : tz_S} : m_isO (tz_H s) 6 257 = true := tz_io sh_257
theorem gi_257_0 {s : tz_S} : m_gi (tz_H s) 257 6 0 = some 3 := tz_gc sh_257 rfl rfl rfl
theorem gr_257_1 {s : tz_S} : m_gr (tz_H s) 257 6 1 = some 258 := tz_gr sh_257 rfl rfl rfl
theorem gi_257_2 {s : tz_S} : m_gi (tz_H s) 257 6 2 = some (s.1 257 2) := tz_gi sh_257 rfl
theorem pf_257_2 {s : tz_S} {v : Int32} : m_pf m_ft (tz_H s) 257 6 2 (.int v) = some (tz_H (tz_uf s 257 2 v)) := tz_pf sh_257 rfl rfl
theorem sh_258 : tz_sh 258 = some (.inl (0, 300)) := rfl
theorem le_258 {s : tz_S} : m_len (tz_H s) 258 = some 300 := tz_len sh_258 rfl
theorem sh_259 : tz_sh 259 = some (.inr (6, [some 1021, some 260, none])) := rfl
theorem io_259 {s : tz_S} : m_isO (tz_H s) 6 259 = true := tz_io sh_259
theorem gi_259_0 {s : tz_S} : m_gi (tz_H s) 259 6 0 = some 21 := tz_gc sh_259 rfl rfl rfl
theorem gr_259_1 {s : tz_S} : m_gr (tz_H s) 259 6 1 = some 260 := tz_gr sh_259 rfl rfl rfl
theorem gi_259_2 {s : tz_S} : m_gi (tz_H s) 259 6 2 = some (s.1 259 2) := tz_gi sh_259 rfl
theorem pf_259_2 {s : tz_S} {v : Int32} : m_pf m_ft (tz_H s) 259 6 2 (.int v) = some (tz_H (tz_uf s 259 2 v)) := tz_pf sh_259 rfl rfl
theorem sh_260 : tz_sh 260 = some (.inl (0, 2100)) := rfl
theorem le_260 {s : tz_S} : m_len (tz_H s) 260 = some 2100 := tz_len sh_260 rfl
theorem sh_261 : tz_sh 261 = some (.inr (6, [some 1005, some 262, none])) := rfl
theorem io_261 {s : tz_S} : m_isO (tz_H s) 6 261 = true := tz_io sh_261
theorem gi_261_0 {s : tz_S} : m_gi (tz_H s) 261 6 0 = some 5 := tz_gc sh_261 rfl rfl rfl
theorem gr_261_1 {s : tz_S} : m_gr (tz_H s) 261 6 1 = some 262 := tz_gr sh_261 rfl rfl rfl
theorem gi_261_2 {s : tz_S} : m_gi (tz_H s) 261 6 2 = some (s.1 261 2) := tz_gi sh_261 rfl
theorem pf_261_2 {s : tz_S} {v : Int32} : m_pf m_ft (tz_H s) 261 6 2 (.int v) = some (tz_H (tz_uf s 261 2 v)) := tz_pf sh_261 rfl rfl
theorem sh_262 : tz_sh 262 = some (.inl (0, 300)) := rfl
theorem le_262 {s : tz_S} : m_len (tz_H s) 262 = some 300 := tz_len sh_262 rfl
theorem sh_263 : tz_sh 263 = some (.inr (6, [some 1023, some 264, none])) := rfl
theorem io_263 {s : tz_S} : m_isO (tz_H s) 6 263 = true := tz_io sh_263
theorem gi_263_0 {s : tz_S} : m_gi (tz_H s) 263 6 0 = some 23 := tz_gc sh_263 rfl rfl rfl
theorem gr_263_1 {s : tz_S} : m_gr (tz_H s) 263 6 1 = some 264 := tz_gr sh_263 rfl rfl rfl
theorem gi_263_2 {s : tz_S} : m_gi (tz_H s) 263 6 2 = some (s.1 263 2) := tz_gi sh_263 rfl
theorem pf_263_2 {s : tz_S} {v : Int32} : m_pf m_ft (tz_H s) 263 6 2 (.int v) = some (tz_H (tz_uf s 263 2 v)) := tz_pf sh_263 rfl rfl
theorem sh_264 : tz_sh 264 = some (.inl (0, 276)) := rfl
theorem le_264 {s : tz_S} : m_len (tz_H s) 264 = some 276 := tz_len sh_264 rfl
theorem sh_265 : tz_sh 265 = some (.inr (6, [some 1004, some 266, none])) := rfl
theorem io_265 {s : tz_S} : m_isO (tz_H s) 6 265 = true := tz_io sh_265
theorem gi_265_0 {s : tz_S} : m_gi (tz_H s) 265 6 0 = some 4 := tz_gc sh_265 rfl rfl rfl
theorem gr_265_1 {s : tz_S} : m_gr (tz_H s) 265 6 1 = some 266 := tz_gr sh_265 rfl rfl rfl
theorem gi_265_2 {s : tz_S} : m_gi (tz_H s) 265 6 2 = some (s.1 265 2) := tz_gi sh_265 rfl
theorem pf_265_2 {s : tz_S} {v : Int32} : m_pf m_ft (tz_H s) 265 6 2 (.int v) = some (tz_H (tz_uf s 265 2 v)) := tz_pf sh_265 rfl rfl
theorem sh_266 : tz_sh 266 = some (.inl (0, 24)) := rfl
theorem le_266 {s : tz_S} : m_len (tz_H s) 266 = some 24 := tz_len sh_266 rfl
theorem sh_267 : tz_sh 267 = some (.inr (6, [some 1003, some 268, none])) := rfl
theorem io_267 {s : tz_S} : m_isO (tz_H s) 6 267 = true := tz_io sh_267
theorem gi_267_0 {s : tz_S} : m_gi (tz_H s) 267 6 0 = some 3 := tz_gc sh_267 rfl rfl rfl
theorem gr_267_1 {s : tz_S} : m_gr (tz_H s) 267 6 1 = some 268 := tz_gr sh_267 rfl rfl rfl
theorem gi_267_2 {s : tz_S} : m_gi (tz_H s) 267 6 2 = some (s.1 267 2) := tz_gi sh_267 rfl
theorem pf_267_2 {s : tz_S} {v : Int32} : m_pf m_ft (tz_H s) 267 6 2 (.int v) = some (tz_H (tz_uf s 267 2 v)) := tz_pf sh_267 rfl rfl
theorem sh_268 : tz_sh 268 = some (.inl (0, 144)) := rfl
theorem le_268 {s : tz_S} : m_len (tz_H s) 268 = some 144 := tz_len sh_268 rfl
theorem sh_269 : tz_sh 269 = some (.inr (6, [some 1003, some 270, none])) := rfl
theorem io_269 {s : tz_S} : m_isO (tz_H s) 6 269 = true := tz_io sh_269
theorem gi_269_0 {s : tz_S} : m_gi (tz_H s) 269 6 0 = some 3 := tz_gc sh_269 rfl rfl rfl
theorem gr_269_1 {s : tz_S} : m_gr (tz_H s) 269 6 1 = some 270 := tz_gr sh_269 rfl rfl rfl
theorem gi_269_2 {s : tz_S} : m_gi (tz_H s) 269 6 2 = some (s.1 269 2) := tz_gi sh_269 rfl
theorem pf_269_2 {s : tz_S} {v : Int32} : m_pf m_ft (tz_H s) 269 6 2 (.int v) = some (tz_H (tz_uf s 269 2 v)) := tz_pf sh_269 rfl rfl
theorem sh_270 : tz_sh 270 = some (.inl (0, 300)) := rfl
theorem le_270 {s : tz_S} : m_len (tz_H s) 270 = some 300 := tz_len sh_270 rfl
theorem sh_271 : tz_sh 271 = some (.inr (6, [some 1005, some 272, none])) := rfl
theorem io_271 {s : tz_S} : m_isO (tz_H s) 6 271 = true := tz_io sh_271
theorem gi_271_0 {s : tz_S} : m_gi (tz_H s) 271 6 0 = some 5 := tz_gc sh_271 rfl rfl rfl
theorem gr_271_1 {s : tz_S} : m_gr (tz_H s) 271 6 1 = some 272 := tz_gr sh_271 rfl rfl rfl
theorem gi_271_2 {s : tz_S} : m_gi (tz_H s) 271 6 2 = some (s.1 271 2) := tz_gi sh_271 rfl
theorem pf_271_2 {s : tz_S} {v : Int32} : m_pf m_ft (tz_H s) 271 6 2 (.int v) = some (tz_H (tz_uf s 271 2 v)) := tz_pf sh_271 rfl rfl
theorem sh_272 : tz_sh 272 = some (.inl (0, 500)) := rfl
theorem le_272 {s : tz_S} : m_len (tz_H s) 272 = some 500 := tz_len sh_272 rfl
theorem sh_273 : tz_sh 273 = some (.inr (6, [some 1003, some 274, none])) := rfl
theorem io_273 {s : tz_S} : m_isO (tz_H s) 6 273 = true := tz_io sh_273
theorem gi_273_0 {s : tz_S} : m_gi (tz_H s) 273 6 0 = some 3 := tz_gc sh_273 rfl rfl rfl
theorem gr_273_1 {s : tz_S} : m_gr (tz_H s) 273 6 1 = some 274 := tz_gr sh_273 rfl rfl rfl
theorem gi_273_2 {s : tz_S} : m_gi (tz_H s) 273 6 2 = some (s.1 273 2) := tz_gi sh_273 rfl
theorem pf_273_2 {s : tz_S} {v : Int32} : m_pf m_ft (tz_H s) 273 6 2 (.int v) = some (tz_H (tz_uf s 273 2 v)) := tz_pf sh_273 rfl rfl
theorem sh_274 : tz_sh 274 = some (.inl (0, 180)) := rfl
theorem le_274 {s : tz_S} : m_len (tz_H s) 274 = some 180 := tz_len sh_274 rfl
theorem sh_275 : tz_sh 275 = some (.inr (6, [some 1006, some 276, none])) := rfl
theorem io_275 {s : tz_S} : m_isO (tz_H s) 6 275 = true := tz_io sh_275
theorem gi_275_0 {s : tz_S} : m_gi (tz_H s) 275 6 0 = some 6 := tz_gc sh_275 rfl rfl rfl
theorem gr_275_1 {s : tz_S} : m_gr (tz_H s) 275 6 1 = some 276 := tz_gr sh_275 rfl rfl rfl
theorem gi_275_2 {s : tz_S} : m_gi (tz_H s) 275 6 2 = some (s.1 275 2) := tz_gi sh_275 rfl
theorem pf_275_2 {s : tz_S} {v : Int32} : m_pf m_ft (tz_H s) 275 6 2 (.int v) = some (tz_H (tz_uf s 275 2 v)) := tz_pf sh_275 rfl rfl
theorem sh_276 : tz_sh 276 = some (.inl (0, 60)) := rfl
theorem le_276 {s : tz_S} : m_len (tz_H s) 276 = some 60 := tz_len sh_276 rfl
theorem sh_277 : tz_sh 277 = some (.inr (6, [some 1002, some 278, none])) := rfl
theorem io_277 {s : tz_S} : m_isO (tz_H s) 6 277 = true := tz_io sh_277
theorem gi_277_0 {s : tz_S} : m_gi (tz_H s) 277 6 0 = some 2 := tz_gc sh_277 rfl rfl rfl
theorem gr_277_1 {s : tz_S} : m_gr (tz_H s) 277 6 1 = some 278 := tz_gr sh_277 rfl rfl rfl
theorem gi_277_2 {s : tz_S} : m_gi (tz_H s) 277 6 2 = some (s.1 277 2) := tz_gi sh_277 rfl
theorem pf_277_2 {s : tz_S} {v : Int32} : m_pf m_ft (tz_H s) 277 6 2 (.int v) = some (tz_H (tz_uf s 277 2 v)) := tz_pf sh_277 rfl rfl
theorem sh_278 : tz_sh 278 = some (.inl (0, 18)) := rfl
theorem le_278 {s : tz_S} : m_len (tz_H s) 278 = some 18 := tz_len sh_278 rfl
theorem sh_279 : tz_sh 279 = some (.inr (6, [some 1004, some 280, none])) := rfl
theorem io_279 {s : tz_S} : m_isO (tz_H s) 6 279 = true := tz_io sh_279
theorem gi_279_0 {s : tz_S} : m_gi (tz_H s) 279 6 0 = some 4 := tz_gc sh_279 rfl rfl rfl
theorem gr_279_1 {s : tz_S} : m_gr (tz_H s) 279 6 1 = some 280 := tz_gr sh_279 rfl rfl rfl
theorem gi_279_2 {s : tz_S} : m_gi (tz_H s) 279 6 2 = some (s.1 279 2) := tz_gi sh_279 rfl
theorem pf_279_2 {s : tz_S} {v : Int32} : m_pf m_ft (tz_H s) 279 6 2 (.int v) = some (tz_H (tz_uf s 279 2 v)) := tz_pf sh_279 rfl rfl
theorem sh_280 : tz_sh 280 = some (.inl (0, 32)) := rfl
theorem le_280 {s : tz_S} : m_len (tz_H s) 280 = some 32 := tz_len sh_280 rfl
theorem sh_281 : tz_sh 281 = some (.inr (6, [some 1003, some 282, none])) := rfl
theorem io_281 {s : tz_S} : m_isO (tz_H s) 6 281 = true := tz_io sh_281
theorem gi_281_0 {s : tz_S} : m_gi (tz_H s) 281 6 0 = some 3 := tz_gc sh_281 rfl rfl rfl
theorem gr_281_1 {s : tz_S} : m_gr (tz_H s) 281 6 1 = some 282 := tz_gr sh_281 rfl rfl rfl
theorem gi_281_2 {s : tz_S} : m_gi (tz_H s) 281 6 2 = some (s.1 281 2) := tz_gi sh_281 rfl
theorem pf_281_2 {s : tz_S} {v : Int32} : m_pf m_ft (tz_H s) 281 6 2 (.int v) = some (tz_H (tz_uf s 281 2 v)) := tz_pf sh_281 rfl rfl
theorem sh_282 : tz_sh 282 = some (.inl (0, 45)) := rfl
theorem le_282 {s : tz_S} : m_len (tz_H s) 282 = some 45 := tz_len sh_282 rfl
theorem sh_283 : tz_sh 283 = some (.inr (3, [none, none, none, none, some 284, none, some 285, some 287, some 289, some 291, some 293, some 295, some 297, some 299, some 301, some 303, some 305, some 307, some 309, some 311])) := rfl
theorem io_283 {s : tz_S} : m_isO (tz_H s) 3 283 = true := tz_io sh_283
theorem gi_283_0 {s : tz_S} : m_gi (tz_H s) 283 3 0 = some (s.1 283 0) := tz_gi sh_283 rfl
theorem pf_283_0 {s : tz_S} {v : Int32} : m_pf m_ft (tz_H s) 283 3 0 (.int v) = some (tz_H (tz_uf s 283 0 v)) := tz_pf sh_283 rfl rfl
theorem gi_283_1 {s : tz_S} : m_gi (tz_H s) 283 3 1 = some (s.1 283 1) := tz_gi sh_283 rfl
theorem pf_283_1 {s : tz_S} {v : Int32} : m_pf m_ft (tz_H s) 283 3 1 (.int v) = some (tz_H (tz_uf s 283 1 v)) := tz_pf sh_283 rfl rfl
theorem gi_283_2 {s : tz_S} : m_gi (tz_H s) 283 3 2 = some (s.1 283 2) := tz_gi sh_283 rfl
theorem pf_283_2 {s : tz_S} {v : Int32} : m_pf m_ft (tz_H s) 283 3 2 (.int v) = some (tz_H (tz_uf s 283 2 v)) := tz_pf sh_283 rfl rfl
theorem gi_283_3 {s : tz_S} : m_gi (tz_H s) 283 3 3 = some (s.1 283 3) := tz_gi sh_283 rfl
theorem pf_283_3 {s : tz_S} {v : Int32} (h : v = 0 ∨ v = 1) : m_pf m_ft (tz_H s) 283 3 3 (.int v) = some (tz_H (tz_uf s 283 3 v)) := tz_pf sh_283 rfl (by rcases h with rfl | rfl <;> rfl)
theorem gr_283_4 {s : tz_S} : m_gr (tz_H s) 283 3 4 = some 284 := tz_gr sh_283 rfl rfl rfl
theorem gi_283_5 {s : tz_S} : m_gi (tz_H s) 283 3 5 = some (s.1 283 5) := tz_gi sh_283 rfl
theorem pf_283_5 {s : tz_S} {v : Int32} : m_pf m_ft (tz_H s) 283 3 5 (.int v) = some (tz_H (tz_uf s 283 5 v)) := tz_pf sh_283 rfl rfl
theorem gr_283_6 {s : tz_S} : m_gr (tz_H s) 283 3 6 = some 285 := tz_gr sh_283 rfl rfl rfl
theorem gr_283_7 {s : tz_S} : m_gr (tz_H s) 283 3 7 = some 287 := tz_gr sh_283 rfl rfl rfl
theorem gr_283_8 {s : tz_S} : m_gr (tz_H s) 283 3 8 = some 289 := tz_gr sh_283 rfl rfl rfl
theorem gr_283_9 {s : tz_S} : m_gr (tz_H s) 283 3 9 = some 291 := tz_gr sh_283 rfl rfl rfl
theorem gr_283_10 {s : tz_S} : m_gr (tz_H s) 283 3 10 = some 293 := tz_gr sh_283 rfl rfl rfl
theorem gr_283_11 {s : tz_S} : m_gr (tz_H s) 283 3 11 = some 295 := tz_gr sh_283 rfl rfl rfl
theorem gr_283_12 {s : tz_S} : m_gr (tz_H s) 283 3 12 = some 297 := tz_gr sh_283 rfl rfl rfl
theorem gr_283_13 {s : tz_S} : m_gr (tz_H s) 283 3 13 = some 299 := tz_gr sh_283 rfl rfl rfl
theorem gr_283_14 {s : tz_S} : m_gr (tz_H s) 283 3 14 = some 301 := tz_gr sh_283 rfl rfl rfl
theorem gr_283_15 {s : tz_S} : m_gr (tz_H s) 283 3 15 = some 303 := tz_gr sh_283 rfl rfl rfl
theorem gr_283_16 {s : tz_S} : m_gr (tz_H s) 283 3 16 = some 305 := tz_gr sh_283 rfl rfl rfl
theorem gr_283_17 {s : tz_S} : m_gr (tz_H s) 283 3 17 = some 307 := tz_gr sh_283 rfl rfl rfl
theorem gr_283_18 {s : tz_S} : m_gr (tz_H s) 283 3 18 = some 309 := tz_gr sh_283 rfl rfl rfl
theorem gr_283_19 {s : tz_S} : m_gr (tz_H s) 283 3 19 = some 311 := tz_gr sh_283 rfl rfl rfl
theorem sh_284 : tz_sh 284 = some (.inl (5, 10)) := rfl
theorem le_284 {s : tz_S} : m_len (tz_H s) 284 = some 10 := tz_len sh_284 rfl
theorem sh_285 : tz_sh 285 = some (.inr (6, [some 1004, some 286, none])) := rfl
theorem io_285 {s : tz_S} : m_isO (tz_H s) 6 285 = true := tz_io sh_285
theorem gi_285_0 {s : tz_S} : m_gi (tz_H s) 285 6 0 = some 4 := tz_gc sh_285 rfl rfl rfl
theorem gr_285_1 {s : tz_S} : m_gr (tz_H s) 285 6 1 = some 286 := tz_gr sh_285 rfl rfl rfl
theorem gi_285_2 {s : tz_S} : m_gi (tz_H s) 285 6 2 = some (s.1 285 2) := tz_gi sh_285 rfl
theorem pf_285_2 {s : tz_S} {v : Int32} : m_pf m_ft (tz_H s) 285 6 2 (.int v) = some (tz_H (tz_uf s 285 2 v)) := tz_pf sh_285 rfl rfl
theorem sh_286 : tz_sh 286 = some (.inl (0, 32)) := rfl
theorem le_286 {s : tz_S} : m_len (tz_H s) 286 = some 32 := tz_len sh_286 rfl
theorem sh_287 : tz_sh 287 = some (.inr (6, [some 1003, some 288, none])) := rfl
theorem io_287 {s : tz_S} : m_isO (tz_H s) 6 287 = true := tz_io sh_287
theorem gi_287_0 {s : tz_S} : m_gi (tz_H s) 287 6 0 = some 3 := tz_gc sh_287 rfl rfl rfl
theorem gr_287_1 {s : tz_S} : m_gr (tz_H s) 287 6 1 = some 288 := tz_gr sh_287 rfl rfl rfl
theorem gi_287_2 {s : tz_S} : m_gi (tz_H s) 287 6 2 = some (s.1 287 2) := tz_gi sh_287 rfl
theorem pf_287_2 {s : tz_S} {v : Int32} : m_pf m_ft (tz_H s) 287 6 2 (.int v) = some (tz_H (tz_uf s 287 2 v)) := tz_pf sh_287 rfl rfl
theorem sh_288 : tz_sh 288 = some (.inl (0, 300)) := rfl
theorem le_288 {s : tz_S} : m_len (tz_H s) 288 = some 300 := tz_len sh_288 rfl
theorem sh_289 : tz_sh 289 = some (.inr (6, [some 1021, some 290, none])) := rfl
theorem io_289 {s : tz_S} : m_isO (tz_H s) 6 289 = true := tz_io sh_289
theorem gi_289_0 {s : tz_S} : m_gi (tz_H s) 289 6 0 = some 21 := tz_gc sh_289 rfl rfl rfl
theorem gr_289_1 {s : tz_S} : m_gr (tz_H s) 289 6 1 = some 290 := tz_gr sh_289 rfl rfl rfl
theorem gi_289_2 {s : tz_S} : m_gi (tz_H s) 289 6 2 = some (s.1 289 2) := tz_gi sh_289 rfl
theorem pf_289_2 {s : tz_S} {v : Int32} : m_pf m_ft (tz_H s) 289 6 2 (.int v) = some (tz_H (tz_uf s 289 2 v)) := tz_pf sh_289 rfl rfl
theorem sh_290 : tz_sh 290 = some (.inl (0, 2100)) := rfl
theorem le_290 {s : tz_S} : m_len (tz_H s) 290 = some 2100 := tz_len sh_290 rfl
theorem sh_291 : tz_sh 291 = some (.inr (6, [some 1005, some 292, none])) := rfl
theorem io_291 {s : tz_S} : m_isO (tz_H s) 6 291 = true := tz_io sh_291
theorem gi_291_0 {s : tz_S} : m_gi (tz_H s) 291 6 0 = some 5 := tz_gc sh_291 rfl rfl rfl
theorem gr_291_1 {s : tz_S} : m_gr (tz_H s) 291 6 1 = some 292 := tz_gr sh_291 rfl rfl rfl
theorem gi_291_2 {s : tz_S} : m_gi (tz_H s) 291 6 2 = some (s.1 291 2) := tz_gi sh_291 rfl
theorem pf_291_2 {s : tz_S} {v : Int32} : m_pf m_ft (tz_H s) 291 6 2 (.int v) = some (tz_H (tz_uf s 291 2 v)) := tz_pf sh_291 rfl rfl
theorem sh_292 : tz_sh 292 = some (.inl (0, 300)) := rfl
theorem le_292 {s : tz_S} : m_len (tz_H s) 292 = some 300 := tz_len sh_292 rfl
theorem sh_293 : tz_sh 293 = some (.inr (6, [some 1023, some 294, none])) := rfl
theorem io_293 {s : tz_S} : m_isO (tz_H s) 6 293 = true := tz_io sh_293
theorem gi_293_0 {s : tz_S} : m_gi (tz_H s) 293 6 0 = some 23 := tz_gc sh_293 rfl rfl rfl
theorem gr_293_1 {s : tz_S} : m_gr (tz_H s) 293 6 1 = some 294 := tz_gr sh_293 rfl rfl rfl
theorem gi_293_2 {s : tz_S} : m_gi (tz_H s) 293 6 2 = some (s.1 293 2) := tz_gi sh_293 rfl
theorem pf_293_2 {s : tz_S} {v : Int32} : m_pf m_ft (tz_H s) 293 6 2 (.int v) = some (tz_H (tz_uf s 293 2 v)) := tz_pf sh_293 rfl rfl
theorem sh_294 : tz_sh 294 = some (.inl (0, 276)) := rfl
theorem le_294 {s : tz_S} : m_len (tz_H s) 294 = some 276 := tz_len sh_294 rfl
theorem sh_295 : tz_sh 295 = some (.inr (6, [some 1004, some 296, none])) := rfl
theorem io_295 {s : tz_S} : m_isO (tz_H s) 6 295 = true := tz_io sh_295
theorem gi_295_0 {s : tz_S} : m_gi (tz_H s) 295 6 0 = some 4 := tz_gc sh_295 rfl rfl rfl
theorem gr_295_1 {s : tz_S} : m_gr (tz_H s) 295 6 1 = some 296 := tz_gr sh_295 rfl rfl rfl
theorem gi_295_2 {s : tz_S} : m_gi (tz_H s) 295 6 2 = some (s.1 295 2) := tz_gi sh_295 rfl
theorem pf_295_2 {s : tz_S} {v : Int32} : m_pf m_ft (tz_H s) 295 6 2 (.int v) = some (tz_H (tz_uf s 295 2 v)) := tz_pf sh_295 rfl rfl
theorem sh_296 : tz_sh 296 = some (.inl (0, 24)) := rfl
theorem le_296 {s : tz_S} : m_len (tz_H s) 296 = some 24 := tz_len sh_296 rfl
theorem sh_297 : tz_sh 297 = some (.inr (6, [some 1003, some 298, none])) := rfl
theorem io_297 {s : tz_S} : m_isO (tz_H s) 6 297 = true := tz_io sh_297
theorem gi_297_0 {s : tz_S} : m_gi (tz_H s) 297 6 0 = some 3 := tz_gc sh_297 rfl rfl rfl
theorem gr_297_1 {s : tz_S} : m_gr (tz_H s) 297 6 1 = some 298 := tz_gr sh_297 rfl rfl rfl
theorem gi_297_2 {s : tz_S} : m_gi (tz_H s) 297 6 2 = some (s.1 297 2) := tz_gi sh_297 rfl
theorem pf_297_2 {s : tz_S} {v : Int32} : m_pf m_ft (tz_H s) 297 6 2 (.int v) = some (tz_H (tz_uf s 297 2 v)) := tz_pf sh_297 rfl rfl
theorem sh_298 : tz_sh 298 = some (.inl (0, 144)) := rfl
theorem le_298 {s : tz_S} : m_len (tz_H s) 298 = some 144 := tz_len sh_298 rfl
theorem sh_299 : tz_sh 299 = some (.inr (6, [some 1003, some 300, none])) := rfl
theorem io_299 {s : tz_S} : m_isO (tz_H s) 6 299 = true := tz_io sh_299
theorem gi_299_0 {s : tz_S} : m_gi (tz_H s) 299 6 0 = some 3 := tz_gc sh_299 rfl rfl rfl
theorem gr_299_1 {s : tz_S} : m_gr (tz_H s) 299 6 1 = some 300 := tz_gr sh_299 rfl rfl rfl
theorem gi_299_2 {s : tz_S} : m_gi (tz_H s) 299 6 2 = some (s.1 299 2) := tz_gi sh_299 rfl
theorem pf_299_2 {s : tz_S} {v : Int32} : m_pf m_ft (tz_H s) 299 6 2 (.int v) = some (tz_H (tz_uf s 299 2 v)) := tz_pf sh_299 rfl rfl
theorem sh_300 : tz_sh 300 = some (.inl (0, 300)) := rfl
theorem le_300 {s : tz_S} : m_len (tz_H s) 300 = some 300 := tz_len sh_300 rfl
theorem sh_301 : tz_sh 301 = some (.inr (6, [some 1005, some 302, none])) := rfl
theorem io_301 {s : tz_S} : m_isO (tz_H s) 6 301 = true := tz_io sh_301
theorem gi_301_0 {s : tz_S} : m_gi (tz_H s) 301 6 0 = some 5 := tz_gc sh_301 rfl rfl rfl
theorem gr_301_1 {s : tz_S} : m_gr (tz_H s) 301 6 1 = some 302 := tz_gr sh_301 rfl rfl rfl
theorem gi_301_2 {s : tz_S} : m_gi (tz_H s) 301 6 2 = some (s.1 301 2) := tz_gi sh_301 rfl
theorem pf_301_2 {s : tz_S} {v : Int32} : m_pf m_ft (tz_H s) 301 6 2 (.int v) = some (tz_H (tz_uf s 301 2 v)) := tz_pf sh_301 rfl rfl
theorem sh_302 : tz_sh 302 = some (.inl (0, 500)) := rfl
theorem le_302 {s : tz_S} : m_len (tz_H s) 302 = some 500 := tz_len sh_302 rfl
theorem sh_303 : tz_sh 303 = some (.inr (6, [some 1003, some 304, none])) := rfl
theorem io_303 {s : tz_S} : m_isO (tz_H s) 6 303 = true := tz_io sh_303
theorem gi_303_0 {s : tz_S} : m_gi (tz_H s) 303 6 0 = some 3 := tz_gc sh_303 rfl rfl rfl
theorem gr_303_1 {s : tz_S} : m_gr (tz_H s) 303 6 1 = some 304 := tz_gr sh_303 rfl rfl rfl
theorem gi_303_2 {s : tz_S} : m_gi (tz_H s) 303 6 2 = some (s.1 303 2) := tz_gi sh_303 rfl
theorem pf_303_2 {s : tz_S} {v : Int32} : m_pf m_ft (tz_H s) 303 6 2 (.int v) = some (tz_H (tz_uf s 303 2 v)) := tz_pf sh_303 rfl rfl
theorem sh_304 : tz_sh 304 = some (.inl (0, 180)) := rfl
theorem le_304 {s : tz_S} : m_len (tz_H s) 304 = some 180 := tz_len sh_304 rfl
theorem sh_305 : tz_sh 305 = some (.inr (6, [some 1006, some 306, none])) := rfl
theorem io_305 {s : tz_S} : m_isO (tz_H s) 6 305 = true := tz_io sh_305
theorem gi_305_0 {s : tz_S} : m_gi (tz_H s) 305 6 0 = some 6 := tz_gc sh_305 rfl rfl rfl
theorem gr_305_1 {s : tz_S} : m_gr (tz_H s) 305 6 1 = some 306 := tz_gr sh_305 rfl rfl rfl
theorem gi_305_2 {s : tz_S} : m_gi (tz_H s) 305 6 2 = some (s.1 305 2) := tz_gi sh_305 rfl
theorem pf_305_2 {s : tz_S} {v : Int32} : m_pf m_ft (tz_H s) 305 6 2 (.int v) = some (tz_H (tz_uf s 305 2 v)) := tz_pf sh_305 rfl rfl
theorem sh_306 : tz_sh 306 = some (.inl (0, 60)) := rfl
theorem le_306 {s : tz_S} : m_len (tz_H s) 306 = some 60 := tz_len sh_306 rfl
theorem sh_307 : tz_sh 307 = some (.inr (6, [some 1002, some 308, none])) := rfl
theorem io_307 {s : tz_S} : m_isO (tz_H s) 6 307 = true := tz_io sh_307
theorem gi_307_0 {s : tz_S} : m_gi (tz_H s) 307 6 0 = some 2 := tz_gc sh_307 rfl rfl rfl
theorem gr_307_1 {s : tz_S} : m_gr (tz_H s) 307 6 1 = some 308 := tz_gr sh_307 rfl rfl rfl
theorem gi_307_2 {s : tz_S} : m_gi (tz_H s) 307 6 2 = some (s.1 307 2) := tz_gi sh_307 rfl
theorem pf_307_2 {s : tz_S} {v : Int32} : m_pf m_ft (tz_H s) 307 6 2 (.int v) = some (tz_H (tz_uf s 307 2 v)) := tz_pf sh_307 rfl rfl
theorem sh_308 : tz_sh 308 = some (.inl (0, 18)) := rfl
theorem le_308 {s : tz_S} : m_len (tz_H s) 308 = some 18 := tz_len sh_308 rfl
theorem sh_309 : tz_sh 309 = some (.inr (6, [some 1004, some 310, none])) := rfl
theorem io_309 {s : tz_S} : m_isO (tz_H s) 6 309 = true := tz_io sh_309
theorem gi_309_0 {s : tz_S} : m_gi (tz_H s) 309 6 0 = some 4 := tz_gc sh_309 rfl rfl rfl
theorem gr_309_1 {s : tz_S} : m_gr (tz_H s) 309 6 1 = some 310 := tz_gr sh_309 rfl rfl rfl
theorem gi_309_2 {s : tz_S} : m_gi (tz_H s) 309 6 2 = some (s.1 309 2) := tz_gi sh_309 rfl
theorem pf_309_2 {s : tz_S} {v : Int32} : m_pf m_ft (tz_H s) 309 6 2 (.int v) = some (tz_H (tz_uf s 309 2 v)) := tz_pf sh_309 rfl rfl
theorem sh_310 : tz_sh 310 = some (.inl (0, 32)) := rfl
theorem le_310 {s : tz_S} : m_len (tz_H s) 310 = some 32 := tz_len sh_310 rfl
theorem sh_311 : tz_sh 311 = some (.inr (6, [some 1003, some 312, none])) := rfl
theorem io_311 {s : tz_S} : m_isO (tz_H s) 6 311 = true := tz_io sh_311
theorem gi_311_0 {s : tz_S} : m_gi (tz_H s) 311 6 0 = some 3 := tz_gc sh_311 rfl rfl rfl
theorem gr_311_1 {s : tz_S} : m_gr (tz_H s) 311 6 1 = some 312 := tz_gr sh_311 rfl rfl rfl
theorem gi_311_2 {s : tz_S} : m_gi (tz_H s) 311 6 2 = some (s.1 311 2) := tz_gi sh_311 rfl
theorem pf_311_2 {s : tz_S} {v : Int32} : m_pf m_ft (tz_H s) 311 6 2 (.int v) = some (tz_H (tz_uf s 311 2 v)) := tz_pf sh_311 rfl rfl
theorem sh_312 : tz_sh 312 = some (.inl (0, 45)) := rfl
theorem le_312 {s : tz_S} : m_len (tz_H s) 312 = some 45 := tz_len sh_312 rfl
theorem sh_313 : tz_sh 313 = some (.inr (1, [some 1])) := rfl
theorem io_313 {s : tz_S} : m_isO (tz_H s) 1 313 = true := tz_io sh_313
theorem sh_314 : tz_sh 314 = some (.inl (0, 768)) := rfl
theorem le_314 {s : tz_S} : m_len (tz_H s) 314 = some 768 := tz_len sh_314 rfl
theorem sh_315 : tz_sh 315 = some (.inr (1, [some 1])) := rfl
theorem io_315 {s : tz_S} : m_isO (tz_H s) 1 315 = true := tz_io sh_315
theorem sh_316 : tz_sh 316 = some (.inl (0, 768)) := rfl
theorem le_316 {s : tz_S} : m_len (tz_H s) 316 = some 768 := tz_len sh_316 rfl
theorem sh_317 : tz_sh 317 = some (.inr (9, [none, some 318, some 319, some 320, none, none, some 321, none, none, none, none, none, none, some 322, none, some 323, some 324, some 325, some 326, some 327, some 328, some 329, some 330, none, some 331, some 332])) := rfl
theorem io_317 {s : tz_S} : m_isO (tz_H s) 9 317 = true := tz_io sh_317
theorem gi_317_0 {s : tz_S} : m_gi (tz_H s) 317 9 0 = some (s.1 317 0) := tz_gi sh_317 rfl
theorem pf_317_0 {s : tz_S} {v : Int32} : m_pf m_ft (tz_H s) 317 9 0 (.int v) = some (tz_H (tz_uf s 317 0 v)) := tz_pf sh_317 rfl rfl
theorem gr_317_1 {s : tz_S} : m_gr (tz_H s) 317 9 1 = some 318 := tz_gr sh_317 rfl rfl rfl
theorem gr_317_2 {s : tz_S} : m_gr (tz_H s) 317 9 2 = some 319 := tz_gr sh_317 rfl rfl rfl
theorem gr_317_3 {s : tz_S} : m_gr (tz_H s) 317 9 3 = some 320 := tz_gr sh_317 rfl rfl rfl
theorem gi_317_4 {s : tz_S} : m_gi (tz_H s) 317 9 4 = some (s.1 317 4) := tz_gi sh_317 rfl
theorem pf_317_4 {s : tz_S} {v : Int32} (h : v = 0 ∨ v = 1) : m_pf m_ft (tz_H s) 317 9 4 (.int v) = some (tz_H (tz_uf s 317 4 v)) := tz_pf sh_317 rfl (by rcases h with rfl | rfl <;> rfl)
theorem gi_317_5 {s : tz_S} : m_gi (tz_H s) 317 9 5 = some (s.1 317 5) := tz_gi sh_317 rfl
theorem pf_317_5 {s : tz_S} {v : Int32} (h : v = 0 ∨ v = 1) : m_pf m_ft (tz_H s) 317 9 5 (.int v) = some (tz_H (tz_uf s 317 5 v)) := tz_pf sh_317 rfl (by rcases h with rfl | rfl <;> rfl)
theorem gr_317_6 {s : tz_S} : m_gr (tz_H s) 317 9 6 = some 321 := tz_gr sh_317 rfl rfl rfl
theorem gi_317_7 {s : tz_S} : m_gi (tz_H s) 317 9 7 = some (s.1 317 7) := tz_gi sh_317 rfl
theorem pf_317_7 {s : tz_S} {v : Int32} : m_pf m_ft (tz_H s) 317 9 7 (.int v) = some (tz_H (tz_uf s 317 7 v)) := tz_pf sh_317 rfl rfl
theorem gi_317_8 {s : tz_S} : m_gi (tz_H s) 317 9 8 = some (s.1 317 8) := tz_gi sh_317 rfl
theorem pf_317_8 {s : tz_S} {v : Int32} : m_pf m_ft (tz_H s) 317 9 8 (.int v) = some (tz_H (tz_uf s 317 8 v)) := tz_pf sh_317 rfl rfl
theorem gi_317_9 {s : tz_S} : m_gi (tz_H s) 317 9 9 = some (s.1 317 9) := tz_gi sh_317 rfl
theorem pf_317_9 {s : tz_S} {v : Int32} : m_pf m_ft (tz_H s) 317 9 9 (.int v) = some (tz_H (tz_uf s 317 9 v)) := tz_pf sh_317 rfl rfl
theorem gi_317_10 {s : tz_S} : m_gi (tz_H s) 317 9 10 = some (s.1 317 10) := tz_gi sh_317 rfl
theorem pf_317_10 {s : tz_S} {v : Int32} : m_pf m_ft (tz_H s) 317 9 10 (.int v) = some (tz_H (tz_uf s 317 10 v)) := tz_pf sh_317 rfl rfl
theorem gi_317_11 {s : tz_S} : m_gi (tz_H s) 317 9 11 = some (s.1 317 11) := tz_gi sh_317 rfl
theorem pf_317_11 {s : tz_S} {v : Int32} : m_pf m_ft (tz_H s) 317 9 11 (.int v) = some (tz_H (tz_uf s 317 11 v)) := tz_pf sh_317 rfl rfl
theorem gi_317_12 {s : tz_S} : m_gi (tz_H s) 317 9 12 = some (s.1 317 12) := tz_gi sh_317 rfl
theorem pf_317_12 {s : tz_S} {v : Int32} : m_pf m_ft (tz_H s) 317 9 12 (.int v) = some (tz_H (tz_uf s 317 12 v)) := tz_pf sh_317 rfl rfl
theorem gr_317_13 {s : tz_S} : m_gr (tz_H s) 317 9 13 = some 322 := tz_gr sh_317 rfl rfl rfl
theorem gi_317_14 {s : tz_S} : m_gi (tz_H s) 317 9 14 = some (s.1 317 14) := tz_gi sh_317 rfl
theorem pf_317_14 {s : tz_S} {v : Int32} : m_pf m_ft (tz_H s) 317 9 14 (.int v) = some (tz_H (tz_uf s 317 14 v)) := tz_pf sh_317 rfl rfl
theorem gr_317_15 {s : tz_S} : m_gr (tz_H s) 317 9 15 = some 323 := tz_gr sh_317 rfl rfl rfl
theorem gr_317_16 {s : tz_S} : m_gr (tz_H s) 317 9 16 = some 324 := tz_gr sh_317 rfl rfl rfl
theorem gr_317_17 {s : tz_S} : m_gr (tz_H s) 317 9 17 = some 325 := tz_gr sh_317 rfl rfl rfl
theorem gr_317_18 {s : tz_S} : m_gr (tz_H s) 317 9 18 = some 326 := tz_gr sh_317 rfl rfl rfl
theorem gr_317_19 {s : tz_S} : m_gr (tz_H s) 317 9 19 = some 327 := tz_gr sh_317 rfl rfl rfl
theorem gr_317_20 {s : tz_S} : m_gr (tz_H s) 317 9 20 = some 328 := tz_gr sh_317 rfl rfl rfl
theorem gr_317_21 {s : tz_S} : m_gr (tz_H s) 317 9 21 = some 329 := tz_gr sh_317 rfl rfl rfl
theorem gr_317_22 {s : tz_S} : m_gr (tz_H s) 317 9 22 = some 330 := tz_gr sh_317 rfl rfl rfl
theorem gi_317_23 {s : tz_S} : m_gi (tz_H s) 317 9 23 = some (s.1 317 23) := tz_gi sh_317 rfl
theorem pf_317_23 {s : tz_S} {v : Int32} : m_pf m_ft (tz_H s) 317 9 23 (.int v) = some (tz_H (tz_uf s 317 23 v)) := tz_pf sh_317 rfl rfl
theorem gr_317_24 {s : tz_S} : m_gr (tz_H s) 317 9 24 = some 331 := tz_gr sh_317 rfl rfl rfl
theorem gr_317_25 {s : tz_S} : m_gr (tz_H s) 317 9 25 = some 332 := tz_gr sh_317 rfl rfl rfl
theorem sh_318 : tz_sh 318 = some (.inl (0, 37677)) := rfl
theorem le_318 {s : tz_S} : m_len (tz_H s) 318 = some 37677 := tz_len sh_318 rfl
theorem sh_319 : tz_sh 319 = some (.inl (0, 36827)) := rfl
theorem le_319 {s : tz_S} : m_len (tz_H s) 319 = some 36827 := tz_len sh_319 rfl
theorem sh_320 : tz_sh 320 = some (.inl (0, 36827)) := rfl
theorem le_320 {s : tz_S} : m_len (tz_H s) 320 = some 36827 := tz_len sh_320 rfl
theorem sh_321 : tz_sh 321 = some (.inl (2, 400)) := rfl
theorem le_321 {s : tz_S} : m_len (tz_H s) 321 = some 400 := tz_len sh_321 rfl
theorem sh_322 : tz_sh 322 = some (.inl (0, 5)) := rfl
theorem le_322 {s : tz_S} : m_len (tz_H s) 322 = some 5 := tz_len sh_322 rfl
theorem sh_323 : tz_sh 323 = some (.inl (1, 10)) := rfl
theorem le_323 {s : tz_S} : m_len (tz_H s) 323 = some 10 := tz_len sh_323 rfl
theorem sh_324 : tz_sh 324 = some (.inl (1, 400)) := rfl
theorem le_324 {s : tz_S} : m_len (tz_H s) 324 = some 400 := tz_len sh_324 rfl
theorem sh_325 : tz_sh 325 = some (.inl (0, 60)) := rfl
theorem le_325 {s : tz_S} : m_len (tz_H s) 325 = some 60 := tz_len sh_325 rfl
theorem sh_326 : tz_sh 326 = some (.inl (3, 60)) := rfl
theorem le_326 {s : tz_S} : m_len (tz_H s) 326 = some 60 := tz_len sh_326 rfl
theorem sh_327 : tz_sh 327 = some (.inl (0, 6)) := rfl
theorem le_327 {s : tz_S} : m_len (tz_H s) 327 = some 6 := tz_len sh_327 rfl
theorem sh_328 : tz_sh 328 = some (.inl (0, 6)) := rfl
theorem le_328 {s : tz_S} : m_len (tz_H s) 328 = some 6 := tz_len sh_328 rfl
theorem sh_329 : tz_sh 329 = some (.inl (0, 6)) := rfl
theorem le_329 {s : tz_S} : m_len (tz_H s) 329 = some 6 := tz_len sh_329 rfl
theorem sh_330 : tz_sh 330 = some (.inl (0, 6)) := rfl
theorem le_330 {s : tz_S} : m_len (tz_H s) 330 = some 6 := tz_len sh_330 rfl
theorem sh_331 : tz_sh 331 = some (.inl (0, 8)) := rfl
theorem le_331 {s : tz_S} : m_len (tz_H s) 331 = some 8 := tz_len sh_331 rfl
theorem sh_332 : tz_sh 332 = some (.inl (1, 6)) := rfl
theorem le_332 {s : tz_S} : m_len (tz_H s) 332 = some 6 := tz_len sh_332 rfl
theorem sh_333 : tz_sh 333 = some (.inl (1, 1)) := rfl
theorem le_333 {s : tz_S} : m_len (tz_H s) 333 = some 1 := tz_len sh_333 rfl
