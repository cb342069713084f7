/-! ===== the BOOKS: their arrays, room for more ===== -/
def m_sm (e : m_E) : Prop := match e with
  | .inl a => a.2.1 ≤ 400
  | .inr _ => True
def tz_xs (x y : List m_E) : Prop := ∀ (i : Nat) (e : m_E), m_sm e → x[i]? = some e → y[i]? = some e
theorem tz_xs.refl {x : List m_E} : tz_xs x x := fun _ _ _ h => h
theorem tz_xs.trans {x y z : List m_E} (a : tz_xs x y) (b : tz_xs y z) : tz_xs x z := fun i e h1 h2 => b i e h1 (a i e h1 h2)
theorem tz_xs.Ar {x y : List m_E} (h : tz_xs x y) {a n : Nat} {f : Nat → Int32} (hn : n ≤ 400) (A : tz_Ar x a n f) : tz_Ar y a n f := ⟨A.1, h _ _ hn A.2⟩
theorem tz_xs.Act {x y : List m_E} (h : tz_xs x y) {a : Nat} {T : Nat → Int32} (A : tz_Act x a T) : tz_Act y a T := by
  obtain ⟨a1, a2, a3, a4, n, m, f1, f2, f3, f4, h1, h2, h3, h4, h5, h6, h7, h8, h9, h10⟩ := A
  exact ⟨a1, a2, a3, a4, n, m, f1, f2, f3, f4, h1, h _ _ trivial h2, h.Ar (by omega) h3, h.Ar (by omega) h4, h.Ar (by omega) h5, h.Ar h9 h6, h7, h8, h9, h10⟩
theorem tz_xs.Ao {x y : List m_E} (h : tz_xs x y) {a : Nat} (A : tz_Ao x a) : tz_Ao y a := by
  obtain ⟨h1, fs, h2⟩ := A
  exact ⟨h1, fs, h _ _ trivial h2⟩
theorem tz_HR.congx {s s' : tz_S} {b : Nat} {W : m_W} (H : tz_HR s b W) (h1 : ∀ a k, b ≤ a → a < b + 30 → s'.1 a k = s.1 a k) (h2 : ∀ a, b ≤ a → a < b + 30 → s'.2.1 a = s.2.1 a) (h3 : s'.2.2.2.1 (b + 1) = s.2.2.2.1 (b + 1)) (h4 : tz_xs s.2.2.2.2.2.1 s'.2.2.2.2.2.1) : tz_HR s' b W := by
  obtain ⟨⟨f1, f2, f3, f4⟩, ⟨g1, g2, g3, g4, g5⟩, h⟩ := H
  refine ⟨⟨?_, ?_, ?_, ?_⟩, ⟨?_, g2, g3, ?_, ?_⟩, ?_⟩
  · rw [h1 _ _ (by omega) (by omega)]; exact f1
  · rw [h1 _ _ (by omega) (by omega)]; exact f2
  · rw [h1 _ _ (by omega) (by omega)]; exact f3
  · rw [h1 _ _ (by omega) (by omega)]; exact f4
  · rw [h1 _ _ (by omega) (by omega)]; exact g1
  · rw [h3]
    intro i hi
    obtain ⟨a, e, A⟩ := g4 i hi
    exact ⟨a, e, h4.Act A⟩
  · rw [h3]
    exact fun i a hi e => h4.Ao (g5 i a hi e)
  · intro k hk
    obtain ⟨⟨a1, a2⟩, a3, a4⟩ := h k hk
    refine ⟨⟨?_, fun r c hr hc => ?_⟩, a3, a4⟩
    · rw [h1 _ _ (by omega) (by omega)]; exact a1
    · rw [h2 _ (by omega) (by omega)]; exact a2 r c hr hc
/-- an array of the BOOKS -/
def bz_A (s : tz_S) (a n : Nat) (f : Nat → Int32) : Prop := ((a = 314 ∨ a = 316) ∧ n = 768 ∧ s.2.1 a = f) ∨ (tz_Ar s.2.2.2.2.2.1 a n f ∧ 768 ≤ n)
def rm_s (s : tz_S) : Nat := (s.2.2.2.2.2.1.map m_sz).sum + s.2.2.2.2.2.2.2
def rm_c (s : tz_S) : Nat := s.2.2.2.2.2.1.length + s.2.2.2.2.2.2.1
def rm_p (n : Nat) : Nat := if n < 24048 then 2 * n else 72144
/-- one array's contents changed -/
def tz_fk (a : Nat) (s s' : tz_S) : Prop := s'.1 = s.1 ∧ (∀ x, ¬ (x = a ∧ (x = 314 ∨ x = 316)) → s'.2.1 x = s.2.1 x) ∧ s'.2.2.1 = s.2.2.1 ∧ s'.2.2.2.1 = s.2.2.2.1 ∧ s'.2.2.2.2.1 = s.2.2.2.2.1 ∧ (∀ i, ¬ i + 334 = a → s'.2.2.2.2.2.1[i]? = s.2.2.2.2.2.1[i]?) ∧ s'.2.2.2.2.2.1.map m_sz = s.2.2.2.2.2.1.map m_sz ∧ s'.2.2.2.2.2.2 = s.2.2.2.2.2.2
theorem tz_fk.refl {a : Nat} {s : tz_S} : tz_fk a s s := ⟨rfl, fun _ _ => rfl, rfl, rfl, rfl, fun _ _ => rfl, rfl, rfl⟩
theorem tz_fk.trans {a : Nat} {s s1 s2 : tz_S} (h : tz_fk a s s1) (k : tz_fk a s1 s2) : tz_fk a s s2 := by
  obtain ⟨a1, a2, a3, a4, a5, a6, a7, a8⟩ := h
  obtain ⟨b1, b2, b3, b4, b5, b6, b7, b8⟩ := k
  exact ⟨b1.trans a1, fun x q => (b2 x q).trans (a2 x q), b3.trans a3, b4.trans a4, b5.trans a5, fun i q => (b6 i q).trans (a6 i q), b7.trans a7, b8.trans a8⟩
theorem bz_A.ge {s : tz_S} {a n : Nat} {f : Nat → Int32} (A : bz_A s a n f) : 768 ≤ n := by
  rcases A with ⟨-, rfl, -⟩ | ⟨-, h⟩
  · exact Nat.le_refl _
  · exact h
theorem bz_A.ad {s : tz_S} {a n : Nat} {f : Nat → Int32} (A : bz_A s a n f) : a = 314 ∨ a = 316 ∨ 334 ≤ a ∧ a < 334 + s.2.2.2.2.2.1.length := by
  rcases A with ⟨h, -⟩ | ⟨⟨h1, h2⟩, -⟩
  · omega
  · have := (List.getElem?_eq_some_iff.mp h2).1
    omega
theorem bz_A.c {s : tz_S} {a n : Nat} {f : Nat → Int32} (A : bz_A s a n f) : m_c (tz_H s) a = some (.inl (0, n, .inl f)) := by
  rcases A with ⟨h1, rfl, rfl⟩ | ⟨⟨h1, h2⟩, -⟩
  · rcases h1 with rfl | rfl
    · exact (tz_c sh_314).trans (congrArg some (tz_ce_i ⟨rfl, rfl⟩))
    · exact (tz_c sh_316).trans (congrArg some (tz_ce_i ⟨rfl, rfl⟩))
  · rw [tz_x h1, h2]
theorem bz_A.len {s : tz_S} {a n : Nat} {f : Nat → Int32} (A : bz_A s a n f) : m_len (tz_H s) a = some (nI n) := by
  unfold m_len
  rw [A.c]
  exact if_pos (show 0 < 6 by decide)
theorem bz_A.ai {s : tz_S} {a n j : Nat} {f : Nat → Int32} (A : bz_A s a n f) (hj : j < n) (hn : n ≤ 24048) : m_ai (tz_H s) 0 a (nI j) = some (f j) := by
  unfold m_ai
  rw [A.c]
  show (if 0 = 0 ∧ m_in _ n = true then _ else _) = _
  rw [if_pos ⟨rfl, nI_in1 (by omega) (by omega)⟩, nI_clamp (by omega)]
theorem bz_A.si {s : tz_S} {a n j : Nat} {f : Nat → Int32} {v : Int32} (A : bz_A s a n f) (hj : j < n) (hn : n ≤ 24048) : k_ok (m_si (tz_H s) 0 a (nI j) v) (fun h => ∃ s', h = tz_H s' ∧ bz_A s' a n (upd f j v) ∧ tz_fk a s s') := by
  rcases id A with ⟨h1, rfl, rfl⟩ | ⟨⟨h1, h2⟩, h3⟩
  · have sh : tz_sh a = some (.inl (0, 768)) := by rcases h1 with rfl | rfl <;> rfl
    refine ⟨_, tz_si sh ⟨rfl, rfl⟩ (nI_in1 hj (by decide)), _, rfl, Or.inl ⟨h1, rfl, ?_⟩, rfl, fun x q => ?_, rfl, rfl, rfl, fun _ _ => rfl, rfl, rfl⟩
    · rw [tz_ui_a, nI_clamp (by omega)]
      rfl
    · exact tz_ui_n (fun y => q ⟨y, by omega⟩)
  · have hl := (List.getElem?_eq_some_iff.mp h2).1
    have e : m_si (tz_H s) 0 a (nI j) v = some (m_w (tz_H s) a (.inl (0, n, .inl (upd f j v)))) := by
      unfold m_si
      rw [A.c]
      show (if 0 = 0 ∧ m_in _ n = true then _ else _) = _
      rw [if_pos ⟨rfl, nI_in1 (by omega) (by omega)⟩, nI_clamp (by omega)]
      rfl
    refine ⟨_, e, _, tz_w_x h1, Or.inr ⟨⟨h1, ?_⟩, h3⟩, rfl, fun x q => rfl, rfl, rfl, rfl, fun i q => ?_, ?_, rfl⟩
    · show (s.2.2.2.2.2.1.set (a - 334) _)[a - 334]? = _
      rw [List.getElem?_set, if_pos rfl, if_pos hl]
    · show (s.2.2.2.2.2.1.set (a - 334) _)[i]? = _
      rw [List.getElem?_set, if_neg (by omega)]
    · show (s.2.2.2.2.2.1.set (a - 334) _).map m_sz = _
      apply List.ext_getElem?
      intro i
      rw [List.getElem?_map, List.getElem?_map, List.getElem?_set]
      by_cases q : a - 334 = i
      · subst q
        rw [if_pos rfl, if_pos hl, h2]
        rfl
      · rw [if_neg q]
theorem tz_fk.xs {s s' : tz_S} {a n : Nat} {f : Nat → Int32} (A : bz_A s a n f) (F : tz_fk a s s') : tz_xs s.2.2.2.2.2.1 s'.2.2.2.2.2.1 := by
  intro i e h1 h2
  have g : ¬ i + 334 = a := by
    rintro rfl
    rcases A with ⟨h, -⟩ | ⟨⟨h3, h4⟩, h5⟩
    · omega
    · rw [show i + 334 - 334 = i by omega, h2] at h4
      have h4 := Option.some.inj h4
      subst h4
      have h1 : n ≤ 400 := h1
      omega
  rw [F.2.2.2.2.2.1 i g]
  exact h2
theorem bz_A.off {s s' : tz_S} {a x n m : Nat} {f g : Nat → Int32} (A : bz_A s x m g) (F : tz_fk a s s') (h : ¬ x = a) : bz_A s' x m g := by
  rcases A with ⟨h1, h2, h3⟩ | ⟨⟨h1, h2⟩, h3⟩
  · exact Or.inl ⟨h1, h2, (F.2.1 x (fun q => h q.1)).trans h3⟩
  · refine Or.inr ⟨⟨h1, ?_⟩, h3⟩
    rw [F.2.2.2.2.2.1 _ (by omega)]
    exact h2
def tz_bo (b o : Nat) : Prop := (b = 313 ∧ o = 315) ∨ (b = 315 ∧ o = 313)
/-- the BOOKS' arrays: how long, what is in them -/
def bz_Z (s : tz_S) (b o n m : Nat) (f g : Nat → Int32) : Prop := bz_A s (s.2.2.2.2.1 b) n f ∧ bz_A s (s.2.2.2.2.1 o) m g ∧ ¬ s.2.2.2.2.1 b = s.2.2.2.2.1 o ∧ n ≤ 24048 ∧ m ≤ 24048
/-- what is left as it was, the BOOKS b apart -/
def tz_fm (b : Nat) (s s' : tz_S) : Prop := s'.1 = s.1 ∧ (∀ x, ¬ x = 314 → ¬ x = 316 → s'.2.1 x = s.2.1 x) ∧ s'.2.2.1 = s.2.2.1 ∧ s'.2.2.2.1 = s.2.2.2.1 ∧ (∀ x, ¬ x = b → s'.2.2.2.2.1 x = s.2.2.2.2.1 x) ∧ tz_xs s.2.2.2.2.2.1 s'.2.2.2.2.2.1 ∧ s'.2.2.2.2.2.2 = s.2.2.2.2.2.2
theorem tz_fm.refl {b : Nat} {s : tz_S} : tz_fm b s s := ⟨rfl, fun _ _ _ => rfl, rfl, rfl, fun _ _ => rfl, tz_xs.refl, rfl⟩
theorem tz_fm.trans {b : Nat} {s s1 s2 : tz_S} (h : tz_fm b s s1) (k : tz_fm b s1 s2) : tz_fm b s s2 := by
  obtain ⟨a1, a2, a3, a4, a5, a6, a7⟩ := h
  obtain ⟨b1, b2, b3, b4, b5, b6, b7⟩ := k
  exact ⟨b1.trans a1, fun x q r => (b2 x q r).trans (a2 x q r), b3.trans a3, b4.trans a4, fun x q => (b5 x q).trans (a5 x q), a6.trans b6, b7.trans a7⟩
theorem tz_fk.fm {s s' : tz_S} {a b n : Nat} {f : Nat → Int32} (A : bz_A s a n f) (F : tz_fk a s s') : tz_fm b s s' :=
  ⟨F.1, fun x q r => F.2.1 x (fun y => by omega), F.2.2.1, F.2.2.2.1, fun x _ => congrFun F.2.2.2.2.1 x, F.xs A, F.2.2.2.2.2.2.2⟩
theorem bz_Z.si {s : tz_S} {b o n m j : Nat} {f g : Nat → Int32} {v : Int32} (Z : bz_Z s b o n m f g) (hj : j < n) : k_ok (m_si (tz_H s) 0 (s.2.2.2.2.1 b) (nI j) v) (fun h => ∃ s', h = tz_H s' ∧ bz_Z s' b o n m (upd f j v) g ∧ tz_fm b s s' ∧ rm_s s' = rm_s s ∧ rm_c s' = rm_c s) := by
  obtain ⟨A, B, hne, hn, hm⟩ := Z
  obtain ⟨h, e, s', rfl, A', F⟩ := A.si (v := v) hj hn
  have er : s'.2.2.2.2.1 = s.2.2.2.2.1 := F.2.2.2.2.1
  refine ⟨_, e, s', rfl, ⟨by rw [er]; exact A', by rw [er]; exact B.off (n := n) (f := f) F (fun q => hne q.symm), by rw [er]; exact hne, hn, hm⟩, F.fm A, ?_, ?_⟩
  · unfold rm_s
    rw [F.2.2.2.2.2.2.1, F.2.2.2.2.2.2.2]
  · unfold rm_c
    rw [F.2.2.2.2.2.2.2, ← List.length_map (f := m_sz), F.2.2.2.2.2.2.1, List.length_map]
theorem tz_grB {s : tz_S} {b : Nat} (hb : b = 313 ∨ b = 315) : m_gr (tz_H s) b 1 0 = some (s.2.2.2.2.1 b) := by
  have sh : tz_sh b = some (.inr (1, [some 1])) := by rcases hb with rfl | rfl <;> rfl
  unfold m_gr
  rw [tz_gf sh (k := 0) (o := some 1) rfl]
  rfl
theorem tz_ioB {s : tz_S} {b : Nat} (hb : b = 313 ∨ b = 315) : m_isO (tz_H s) 1 b = true := by
  rcases hb with rfl | rfl
  · exact io_313
  · exact io_315
theorem tz_fv_ub {s : tz_S} {a b j r : Nat} (o : Option Nat) (h : ¬ b = a) : tz_fv (tz_ub s a r) b j o = tz_fv s b j o := by
  unfold tz_fv
  split
  · rfl
  · rfl
  · show Value.ref (if b = a then r else s.2.2.2.2.1 b) = _
    rw [if_neg h]
  · rfl
theorem tz_ce_ub {s : tz_S} {a r : Nat} (b : Nat) (sh : tz_K) (h : b ≠ a) : tz_ce (tz_ub s a r) b sh = tz_ce s b sh := by
  unfold tz_ce
  split
  · rfl
  · rfl
  · rfl
  · rw [show (fun k' o => tz_fv (tz_ub s a r) b k' o) = (fun k' o => tz_fv s b k' o) from funext fun k' => funext fun o => tz_fv_ub o h]
theorem tz_pfB {s : tz_S} {b r : Nat} (hb : b = 313 ∨ b = 315) : m_pf m_ft (tz_H s) b 1 0 (.ref r) = some (tz_H (tz_ub s b r)) := by
  have sh : tz_sh b = some (.inr (1, [some 1])) := by rcases hb with rfl | rfl <;> rfl
  refine tz_pfg (o := some 1) sh rfl rfl (fun b' sh' hb' => tz_ce_ub b' sh' hb') rfl ?_ ?_
  · show Value.ref (if b = b then r else s.2.2.2.2.1 b) = _
    rw [if_pos rfl]
  · intro j o' hj h
    match j, hj with
    | 0, hj => exact absurd rfl hj
    | n + 1, _ => cases h
theorem i_max {a b : Int32} : (m_max a b).toInt = if a.toInt < b.toInt then b.toInt else a.toInt := by
  unfold m_max
  by_cases q : a < b
  · rw [if_pos q, if_pos (Int32.lt_iff_toInt_lt.mp q)]
  · rw [if_neg q, if_neg (fun y => q (Int32.lt_iff_toInt_lt.mpr y))]
theorem i_min2 {a b : Int32} : (m_min a b).toInt = if b.toInt < a.toInt then b.toInt else a.toInt := by
  unfold m_min
  by_cases q : b < a
  · rw [if_pos q, if_pos (Int32.lt_iff_toInt_lt.mp q)]
  · rw [if_neg q, if_neg (fun y => q (Int32.lt_iff_toInt_lt.mpr y))]
theorem bz_room {s : tz_S} {b o n m c : Nat} {f g : Nat → Int32} (hb : tz_bo b o) (Z : bz_Z s b o n m f g) (hc : c ≤ 24048) : k_ok (F1_makeRoom b (nI c) (tz_H s)) (fun h => ∃ s' n' f', h = tz_H s' ∧ bz_Z s' b o n' m f' g ∧ n ≤ n' ∧ c ≤ n' ∧ (∀ j, j < n → f' j = f j) ∧ tz_fm b s s' ∧ rm_s s' + rm_p n ≤ rm_s s + rm_p n' ∧ rm_c s' + rm_p n ≤ rm_c s + rm_p n') := by
  have hb1 : b = 313 ∨ b = 315 := by rcases hb with ⟨h, -⟩ | ⟨h, -⟩ <;> omega
  have hbo : ¬ o = b := by rcases hb with ⟨rfl, rfl⟩ | ⟨rfl, rfl⟩ <;> omega
  obtain ⟨A, B, hne, hn, hm⟩ := id Z
  have ge := A.ge
  unfold F1_makeRoom F1_makeRoom_0
  refine k_g (tz_ioB hb1) (k_e (tz_grB hb1) (k_e A.len (k_if (fun q => ?_) (fun q => ?_))))
  · have q' : c ≤ n := by
      rcases Nat.lt_or_ge n c with x | x
      · exact absurd q (nI_ge x (by omega))
      · exact x
    exact k_s ⟨s, n, f, rfl, Z, Nat.le_refl _, q', fun _ _ => rfl, tz_fm.refl, Nat.le_refl _, Nat.le_refl _⟩
  · have q' : n < c := by
      rcases Nat.lt_or_ge n c with x | x
      · exact x
      · exact absurd (nI_le x (by omega)) q
    refine k_f (show ¬ (24048 : Int32) < nI c from nI_nlt (a := 24048) hc (by decide)) (k_e (tz_grB hb1) (k_e (tz_grB hb1) (k_e A.len ?_)))
    obtain ⟨N, hN⟩ : ∃ N, N = (if (if 2 * n < c then c else 2 * n) < 24048 then (if 2 * n < c then c else 2 * n) else 24048) := ⟨_, rfl⟩
    have eN : m_min 24048 (m_max (nI c) (2 * nI n)) = nI N := by
      apply Int32.toInt_inj.mp
      have e2 : (2 : Int32) * nI n = nI (2 * n) := nI_mul 2 n
      have e3 : (24048 : Int32).toInt = 24048 := rfl
      rw [i_min2, i_max, e2, nI_toInt (by omega), nI_toInt (by omega), e3, nI_toInt (by rw [hN]; split <;> split <;> omega), hN]
      split <;> split <;> split <;> (try split) <;> omega
    have N1 : n < N ∧ c ≤ N ∧ N ≤ 24048 ∧ (N < 24048 → 2 * n ≤ N) := by
      rw [hN]
      split <;> split <;> omega
    have ecof : m_cof (tz_H s) (s.2.2.2.2.1 b) (nI N) = some (tz_H (tz_ux s (s.2.2.2.2.2.1 ++ [.inl (0, N, .inl (fun j => if j < n then f j else 0))]))) := by
      unfold m_cof
      rw [A.c]
      show (if nI N < 0 ∨ 60000000 < (nI N).toNatClampNeg then none else _) = _
      rw [nI_clamp (by omega), if_neg (fun x => x.elim (nI_pos (by omega)) (by omega)), tz_p]
    rw [eN]
    refine k_e ecof ?_
    rw [tz_id]
    refine k_e (tz_pfB hb1) (k_s ⟨_, N, fun j => if j < n then f j else 0, rfl, ?_, by omega, N1.2.1, fun j hj => if_pos hj, ?_, ?_, ?_⟩)
    · have ado := B.ad
      refine ⟨Or.inr ⟨⟨?_, ?_⟩, by omega⟩, ?_, ?_, N1.2.2.1, hm⟩
      · show 334 ≤ (if b = b then _ else _)
        rw [if_pos rfl]
        omega
      · show (s.2.2.2.2.2.1 ++ _)[(if b = b then _ else _) - 334]? = _
        rw [if_pos rfl, Nat.add_sub_cancel_left, List.getElem?_append_right (Nat.le_refl _), Nat.sub_self]
        rfl
      · have er : (tz_ub (tz_ux s (s.2.2.2.2.2.1 ++ [.inl (0, N, .inl (fun j => if j < n then f j else 0))])) b (334 + s.2.2.2.2.2.1.length)).2.2.2.2.1 o = s.2.2.2.2.1 o := if_neg hbo
        rw [er]
        rcases B with ⟨h1, h2, h3⟩ | ⟨⟨h1, h2⟩, h3⟩
        · exact Or.inl ⟨h1, h2, h3⟩
        · refine Or.inr ⟨⟨h1, ?_⟩, h3⟩
          show (s.2.2.2.2.2.1 ++ _)[_]? = _
          rw [List.getElem?_append_left (List.getElem?_eq_some_iff.mp h2).1]
          exact h2
      · show ¬ (if b = b then _ else _) = (if o = b then _ else _)
        rw [if_pos rfl, if_neg hbo]
        show ¬ 334 + s.2.2.2.2.2.1.length = s.2.2.2.2.1 o
        omega
    · refine ⟨rfl, fun _ _ _ => rfl, rfl, rfl, fun x hx => if_neg hx, fun i e _ h => ?_, rfl⟩
      show (s.2.2.2.2.2.1 ++ _)[i]? = _
      rw [List.getElem?_append_left (List.getElem?_eq_some_iff.mp h).1]
      exact h
    · show ((s.2.2.2.2.2.1 ++ _).map m_sz).sum + s.2.2.2.2.2.2.2 + rm_p n ≤ (s.2.2.2.2.2.1.map m_sz).sum + s.2.2.2.2.2.2.2 + rm_p N
      rw [List.map_append, List.sum_append]
      show (s.2.2.2.2.2.1.map m_sz).sum + (N + 0) + s.2.2.2.2.2.2.2 + rm_p n ≤ _
      have p1 : rm_p n = 2 * n := if_pos (by omega)
      unfold rm_p at p1 ⊢
      rw [p1]
      split <;> omega
    · show (s.2.2.2.2.2.1 ++ _).length + s.2.2.2.2.2.2.1 + rm_p n ≤ s.2.2.2.2.2.1.length + s.2.2.2.2.2.2.1 + rm_p N
      rw [List.length_append]
      show s.2.2.2.2.2.1.length + 1 + s.2.2.2.2.2.2.1 + rm_p n ≤ _
      have p1 : rm_p n = 2 * n := if_pos (by omega)
      unfold rm_p at p1 ⊢
      rw [p1]
      split <;> omega
/-- a place of the BOOKS set, or raised -/
theorem bz_set {s : tz_S} {b o n m j : Nat} {f g : Nat → Int32} {v : Int32} (hb : tz_bo b o) (Z : bz_Z s b o n m f g) (hj : j < n) : k_ok (F1_raise b (nI j) v 0 (tz_H s)) (fun h => ∃ s', h = tz_H s' ∧ bz_Z s' b o n m (upd f j v) g ∧ tz_fm b s s' ∧ rm_s s' = rm_s s ∧ rm_c s' = rm_c s) := by
  have hb1 : b = 313 ∨ b = 315 := by rcases hb with ⟨h, -⟩ | ⟨h, -⟩ <;> omega
  have hn := Z.2.2.2.1
  unfold F1_raise F1_raise_0
  refine k_g (tz_ioB hb1) (k_f (nI_pos (by omega)) (k_e (tz_grB hb1) (k_e Z.1.len (k_f (nI_ge hj (by omega)) (k_e (tz_grB hb1) (k_t rfl (k_b (Z.si hj) ?_)))))))
  rintro _ ⟨s', rfl, h⟩
  exact k_s ⟨s', rfl, h⟩
theorem bz_raise {s : tz_S} {b o n m j : Nat} {f g : Nat → Int32} {v : Int32} (hb : tz_bo b o) (Z : bz_Z s b o n m f g) (hj : j < n) : k_ok (F1_raise b (nI j) v 1 (tz_H s)) (fun h => ∃ s', h = tz_H s' ∧ bz_Z s' b o n m (upd f j (f j + v)) g ∧ tz_fm b s s' ∧ rm_s s' = rm_s s ∧ rm_c s' = rm_c s) := by
  have hb1 : b = 313 ∨ b = 315 := by rcases hb with ⟨h, -⟩ | ⟨h, -⟩ <;> omega
  have hn := Z.2.2.2.1
  unfold F1_raise F1_raise_0
  refine k_g (tz_ioB hb1) (k_f (nI_pos (by omega)) (k_e (tz_grB hb1) (k_e Z.1.len (k_f (nI_ge hj (by omega)) (k_e (tz_grB hb1) (k_f (by decide) (k_e (tz_grB hb1) (k_e (Z.1.ai hj hn) (k_b (Z.si hj) ?_)))))))))
  rintro _ ⟨s', rfl, h⟩
  exact k_s ⟨s', rfl, h⟩
