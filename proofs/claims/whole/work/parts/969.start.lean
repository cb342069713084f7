/-! ===== the start: what the constructors leave ===== -/
def xi (l : List m_E) (a k : Nat) : Int32 := match l[a - 200]? with
  | some (.inr o) => (match o.2[k]? with
    | some (.int v) => v
    | _ => 0)
  | _ => 0
def xf (l : List m_E) (a : Nat) : Nat → Int32 := match l[a - 200]? with
  | some (.inl (_, _, .inl f)) => f
  | _ => fun _ => 0
def xl (l : List m_E) (a : Nat) : Nat → Int64 := match l[a - 200]? with
  | some (.inl (_, _, .inr (.inl f))) => f
  | _ => fun _ => 0
def xr (l : List m_E) (a : Nat) : Nat → Option Nat := match l[a - 200]? with
  | some (.inl (_, _, .inr (.inr (.inr (.inr f))))) => f
  | _ => fun _ => none
def xb (a : Nat) : Nat := if a = 313 then 314 else 316
def xs0 (l : List m_E) : tz_S := (xi l, xf l, xl l, xr l, xb, [], 0, 0)
def ok1 (a : Nat) (v : Value) (o : Option Nat) : Bool := match o, v with
  | none, .int _ => true
  | some 0, .null => true
  | some 1, .ref r => r == xb a
  | some r, .ref r' => Nat.ble 2 r && (Nat.blt r 1000 && r == r')
  | some r, .int x => Nat.ble 1000 r && x == Int32.ofNat (r - 1000)
  | _, _ => false
def okv (a : Nat) : List Value → List (Option Nat) → Bool
  | [], [] => true
  | v :: vs, o :: fs => ok1 a v o && okv a vs fs
  | _, _ => false
def okc (a : Nat) (e : m_E) (sh : tz_K) : Bool := match e, sh with
  | .inl (t, n, .inl _), .inl (t', n') => (t == t' && n == n') && (!(Nat.beq t' 1) && !(Nat.beq t' 5))
  | .inl (t, n, .inr (.inl _)), .inl (t', n') => (t == 1 && t' == 1) && n == n'
  | .inl (t, n, .inr (.inr (.inr (.inr _)))), .inl (t', n') => (t == 5 && t' == 5) && n == n'
  | .inr (ci, vs), .inr (ci', fs) => ci == ci' && okv a vs fs
  | _, _ => false
def okl : Nat → List m_E → List tz_K → Bool
  | _, [], [] => true
  | i, e :: l, sh :: T => okc i e sh && okl (i + 1) l T
  | _, _, _ => false
theorem okv_get {a : Nat} : ∀ {vs : List Value} {fs : List (Option Nat)}, okv a vs fs = true → vs.length = fs.length ∧ ∀ (k : Nat) (v : Value) (o : Option Nat), vs[k]? = some v → fs[k]? = some o → ok1 a v o = true
  | [], [], _ => ⟨rfl, fun k v o h _ => by cases h⟩
  | v :: vs, o :: fs, h => by
    unfold okv at h
    rw [Bool.and_eq_true] at h
    obtain ⟨h1, h2⟩ := h
    obtain ⟨l, ih⟩ := okv_get h2
    refine ⟨congrArg (· + 1) l, fun k v' o' hv ho => ?_⟩
    cases k with
    | zero => cases hv; cases ho; exact h1
    | succ k => exact ih k v' o' hv ho
  | [], _ :: _, h => by cases h
  | _ :: _, [], h => by cases h
theorem okl_get : ∀ {i : Nat} {l : List m_E} {T : List tz_K}, okl i l T = true → l.length = T.length ∧ ∀ (k : Nat) (e : m_E) (sh : tz_K), l[k]? = some e → T[k]? = some sh → okc (i + k) e sh = true
  | _, [], [], _ => ⟨rfl, fun k v o h _ => by cases h⟩
  | i, e :: l, sh :: T, h => by
    unfold okl at h
    rw [Bool.and_eq_true] at h
    obtain ⟨h1, h2⟩ := h
    obtain ⟨le, ih⟩ := okl_get h2
    refine ⟨congrArg (· + 1) le, fun k v' o' hv ho => ?_⟩
    cases k with
    | zero => cases hv; cases ho; exact h1
    | succ k =>
      have := ih k v' o' hv ho
      rw [show i + (k + 1) = i + 1 + k by omega]
      exact this
  | _, [], _ :: _, h => by cases h
  | _, _ :: _, [], h => by cases h
theorem ok1_e {l : List m_E} {a k ci : Nat} {vs : List Value} {v : Value} {o : Option Nat} (hl : l[a - 200]? = some (.inr (ci, vs))) (hv : vs[k]? = some v) (h : ok1 a v o = true) : tz_fv (xs0 l) a k o = v := by
  unfold ok1 at h
  split at h
  · next x =>
    show Value.int (xi l a k) = .int x
    unfold xi
    rw [hl]
    dsimp only
    rw [hv]
  · show va_rf (xr l a 0) = .null
    unfold xr
    rw [hl]
    rfl
  · next r =>
    show Value.ref (xb a) = .ref r
    rw [eq_of_beq h]
  · next r r' _ =>
    rw [Bool.and_eq_true, Bool.and_eq_true] at h
    obtain ⟨h1, h2, h3⟩ := h
    have h1 := Nat.le_of_ble_eq_true h1
    have h2 := Nat.blt_eq.mp h2
    have h3 := eq_of_beq h3
    subst h3
    unfold tz_fv
    split
    · next e => cases e
    · next e => cases e; omega
    · next e => cases e; omega
    · next e =>
      cases e
      rw [if_neg (by omega)]
  · next r x =>
    rw [Bool.and_eq_true] at h
    obtain ⟨h1, h2⟩ := h
    have h1 := Nat.le_of_ble_eq_true h1
    have h2 := eq_of_beq h2
    subst h2
    unfold tz_fv
    split
    · next e => cases e
    · next e => cases e; omega
    · next e => cases e; omega
    · next e =>
      cases e
      rw [if_pos h1]
  · cases h
theorem okc_e {l : List m_E} {a : Nat} {e : m_E} {sh : tz_K} (hl : l[a - 200]? = some e) (h : okc a e sh = true) : tz_ce (xs0 l) a sh = e := by
  unfold okc at h
  split at h
  · next t n f t' n' =>
    rw [Bool.and_eq_true, Bool.and_eq_true, Bool.and_eq_true] at h
    obtain ⟨⟨h1, h2⟩, h3, h4⟩ := h
    have h1 := eq_of_beq h1
    have h2 := eq_of_beq h2
    subst h1 h2
    rw [tz_ce_i ⟨Bool.not_eq_true' _ ▸ h3, Bool.not_eq_true' _ ▸ h4⟩]
    show Sum.inl (t, n, Sum.inl (xf l a)) = _
    unfold xf
    rw [hl]
  · next t n f t' n' =>
    rw [Bool.and_eq_true, Bool.and_eq_true] at h
    obtain ⟨⟨h1, h2⟩, h3⟩ := h
    have h1 := eq_of_beq h1
    have h2 := eq_of_beq h2
    have h3 := eq_of_beq h3
    subst h1 h2 h3
    show Sum.inl (1, n, Sum.inr (Sum.inl (xl l a))) = _
    unfold xl
    rw [hl]
  · next t n f t' n' =>
    rw [Bool.and_eq_true, Bool.and_eq_true] at h
    obtain ⟨⟨h1, h2⟩, h3⟩ := h
    have h1 := eq_of_beq h1
    have h2 := eq_of_beq h2
    have h3 := eq_of_beq h3
    subst h1 h2 h3
    show Sum.inl (5, n, Sum.inr (Sum.inr (Sum.inr (Sum.inr (xr l a))))) = _
    unfold xr
    rw [hl]
  · next ci vs ci' fs =>
    rw [Bool.and_eq_true] at h
    obtain ⟨h1, h2⟩ := h
    have h1 := eq_of_beq h1
    subst h1
    obtain ⟨le, g⟩ := okv_get h2
    show Sum.inr (ci, fs.mapIdx (fun k o => tz_fv (xs0 l) a k o)) = Sum.inr (ci, vs)
    refine congrArg (fun z => (Sum.inr (ci, z) : m_E)) ?_
    apply List.ext_getElem?
    intro k
    rw [List.getElem?_mapIdx]
    cases ev : vs[k]? with
    | none =>
      have := List.getElem?_eq_none_iff.mp ev
      rw [List.getElem?_eq_none_iff.mpr (by omega)]
      rfl
    | some v =>
      have hk := (List.getElem?_eq_some_iff.mp ev).1
      cases eo : fs[k]? with
      | none =>
        have := List.getElem?_eq_none_iff.mp eo
        omega
      | some o => exact congrArg some (ok1_e hl ev (g k v o ev eo))
  · cases h
theorem okl_e {hp : m_H} (h : okl 200 hp.1 tz_T = true) (h2 : hp.2 = (0, 0)) : hp = tz_H (xs0 hp.1) := by
  obtain ⟨le, g⟩ := okl_get h
  refine Prod.ext ?_ h2
  show hp.1 = tz_T.mapIdx (fun i sh => tz_ce (xs0 hp.1) (200 + i) sh) ++ []
  rw [List.append_nil]
  apply List.ext_getElem?
  intro k
  rw [List.getElem?_mapIdx]
  cases ev : hp.1[k]? with
  | none =>
    have := List.getElem?_eq_none_iff.mp ev
    rw [List.getElem?_eq_none_iff.mpr (by omega)]
    rfl
  | some v =>
    have hk := (List.getElem?_eq_some_iff.mp ev).1
    cases eo : tz_T[k]? with
    | none =>
      have := List.getElem?_eq_none_iff.mp eo
      omega
    | some o => exact (congrArg some (okc_e (a := 200 + k) (by rw [Nat.add_sub_cancel_left]; exact ev) (g k v o ev eo))).symm
noncomputable def st9 : Option m_H := m_b (m_nwo 8 ([], 0, 0)) fun h1 => m_b (F11_init 200 h1) fun h4 => m_b (m_nwo 9 h4) fun h5 => m_b (F12_init 317 h5) fun h8 => m_nw 1 1 h8
noncomputable def sth : m_H := st9.getD ([], 0, 0)
theorem st9_ok : (st9.isSome && okl 200 sth.1 tz_T) = true := by decide +kernel
theorem sth_2 : sth.2 = (0, 0) := by decide +kernel
