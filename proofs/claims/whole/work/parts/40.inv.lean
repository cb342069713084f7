/-! ===== what always holds of a house's numbers ===== -/
def vz_lot (f : Nat → Int32) : Prop :=
  (0 ≤ f 0 ∧ f 0 ≤ 7) ∧ (0 ≤ f 1 ∧ f 1 ≤ 1000) ∧ (0 ≤ f 2 ∧ f 2 ≤ 5) ∧ (f 3 = 0 ∨ f 3 = 1) ∧ (f 5 = 0 ∨ f 5 = 1) ∧ (f 6 = -1 ∨ 0 ≤ f 6 ∧ ¬ f 2 = 0) ∧ (0 ≤ f 7 ∧ f 7 ≤ 9) ∧ (0 ≤ f 19 ∧ f 19 ≤ 1000) ∧
  (f 9 = 0 ∨ f 9 = 1) ∧ (f 2 = 0 → f 3 = 0 ∧ (f 5 = 0 → f 10 = f 1 ∧ 1 ≤ f 1 ∧ f 11 = 0) ∧ (f 5 = 1 → f 10 = 0 ∨ f 10 = f 1)) ∧ (¬ f 2 = 0 → f 10 = 0) ∧ (f 3 = 1 → f 11 = 0) ∧ (f 3 = 0 → f 17 = 0) ∧
  ∀ p, p < 9 → ¬ p = 2 → 0 ≤ f (10 + p)
def vz_row (k : Nat) (f : Nat → Int32) : Prop := match k with
  | 1 => 0 ≤ f 1 ∧ (0 ≤ f 2 ∧ f 2 ≤ 1000)
  | 2 => vz_lot f
  | 3 => (1 ≤ f 0 ∧ f 0 ≤ 5) ∧ (0 ≤ f 1 ∧ f 1 ≤ 7) ∧ (1 ≤ f 2 ∧ f 2 ≤ 1000) ∧ (0 ≤ f 4 ∧ f 4 ≤ f 2)
  | 4 => (1 ≤ f 0 ∧ f 0 ≤ 5000) ∧ (0 ≤ f 2 ∧ f 2 ≤ 4) ∧ (0 ≤ f 3 ∧ f 3 ≤ 5) ∧ (0 ≤ f 6 ∧ f 6 ≤ 8) ∧ (f 2 = 1 ∨ f 2 = 2 ∨ f 2 = 3 → 1 ≤ f 3)
  | 5 => f 1 ≤ 0 ∧ (0 ≤ f 3 ∧ f 3 ≤ 100000) ∧ -100 ≤ f 1
  | 7 => 0 ≤ f 1 ∧ (0 ≤ f 2 ∧ f 2 ≤ 100) ∧ ¬ f 0 = 0
  | 8 => (1 ≤ f 0 ∧ f 0 ≤ 5) ∧ (0 ≤ f 1 ∧ f 1 ≤ 7) ∧ 0 ≤ f 2
  | 10 => (1 ≤ f 0 ∧ f 0 ≤ 5) ∧ 0 ≤ f 1 ∧ (1 ≤ f 2 ∧ f 2 ≤ 500) ∧ (0 ≤ f 3 ∧ f 3 ≤ 10000) ∧ (0 ≤ f 4 ∧ f 4 ≤ 1000)
  | 0 => (0 ≤ f 0 ∧ f 0 ≤ 20) ∧ (0 ≤ f 1 ∧ f 1 ≤ 50) ∧ (0 ≤ f 2 ∧ f 2 ≤ 50) ∧ (0 ≤ f 3 ∧ f 3 ≤ 9)
  | 6 => 0 ≤ f 0 ∧ f 0 ≤ 1000
  | 11 => (-10000 ≤ f 0 ∧ f 0 ≤ 10000) ∧ (-10000 ≤ f 1 ∧ f 1 ≤ 10000)
  | 12 => (0 ≤ f 0 ∧ f 0 ≤ 10000) ∧ (0 ≤ f 1 ∧ f 1 ≤ 4) ∧ (0 ≤ f 2 ∧ f 2 ≤ 10000) ∧ (0 ≤ f 3 ∧ f 3 ≤ 10000)
  | 13 => (0 ≤ f 0 ∧ f 0 ≤ 100000) ∧ (0 ≤ f 1 ∧ f 1 ≤ 100000) ∧ (0 ≤ f 2 ∧ f 2 ≤ 100000)
  | _ => True
def vz_cap (W : m_W) : Prop := ∀ k, k < 14 ∨ k = 17 → W (20 + k) 0 0 = nI (wz_n W k) ∧ wz_n W k ≤ wz_cap k
def vz_fix (W : m_W) : Prop := wz_n W 0 = 8 ∧ wz_n W 5 = 6 ∧ wz_n W 6 = 48 ∧ wz_n W 13 = 15
def vz_zero (W : m_W) : Prop := ∀ k, k < 14 → ∀ r c, wz_n W k ≤ r → r < wz_cap k → c < wz_wid k → W k r c = 0
def vz_glob (W : m_W) : Prop := (0 ≤ W 14 0 0 ∧ W 14 0 0 ≤ 500) ∧ (W 14 0 3 = 0 ∨ W 14 0 3 = 1) ∧ W 14 0 4 = sp_it (fun r a => a + W 10 r 5) (wz_n W 10) 0 ∧
  (∀ r, r < wz_n W 10 → W 10 r 1 ≤ W 14 0 0) ∧ (∀ r, r < wz_n W 8 → W 8 r 2 ≤ W 14 0 0) ∧ ∀ r, r < 48 → 0 ≤ W 6 r 1 ∧ (W 6 r 1).toInt ≤ 96000 * (W 14 0 0).toInt
/-- what a ship carries of a lot -/
def sp_car (W : m_W) (s t : Nat) : Int := sp_it (fun j a => a + (if W 4 s (7 + 2 * j) = nI t then (W 4 s (8 + 2 * j)).toInt else 0)) (W 4 s 6).toNatClampNeg 0
def vz_ship (W : m_W) : Prop := ∀ s, s < wz_n W 4 → ∀ j, j < (W 4 s 6).toNatClampNeg → (∃ t, t < wz_n W 2 ∧ W 4 s (7 + 2 * j) = nI t ∧ ¬ W 2 t 2 = 0 ∧
  (W 4 s 2 = 0 → W 2 t 3 = 0 ∧ ∀ t0, t0 < wz_n W 2 → W 4 s 7 = nI t0 → W 2 t 2 = W 2 t0 2) ∧ (W 4 s 2 = 1 → W 2 t 3 = 0 ∧ W 2 t 2 = W 4 s 3) ∧ (W 4 s 2 = 2 → W 2 t 3 = 1) ∧ (W 4 s 2 = 3 → W 2 t 3 = 1)) ∧ 0 ≤ W 4 s (8 + 2 * j)
def vz_cons (W : m_W) : Prop := ∀ t, t < wz_n W 2 → sp_it (fun p a => a + (if p = 2 then 0 else (W 2 t (10 + p)).toInt)) 9 0 + sp_it (fun s a => a + sp_car W s t) (wz_n W 4) 0 = (W 2 t 1).toInt
/-- texts: what an ACT's condition is made of, by kinds: a number 0, a truth 1 -/
def sp_ty (st n : Int32) (l : List Bool) : Option (List Bool) :=
  if st = 100 then (if 0 ≤ n ∧ n ≤ 99999 then some (false :: l) else none) else if 0 ≤ st ∧ st < 10 then some (false :: l) else
  match l with
  | a :: b :: l => if st = 101 then (if a = false ∧ b = false then some (false :: l) else none) else if st = 102 ∨ st = 103 then (if a = false ∧ b = false then some (true :: l) else none) else if st = 105 ∨ st = 106 then (if a = true ∧ b = true then some (true :: l) else none) else if st = 104 then (if a = true then some (true :: b :: l) else none) else none
  | [a] => if st = 104 then (if a = true then some [true] else none) else none
  | [] => none
def sp_tys (T : Nat → Int32) (from_ : Nat) : Nat → Option (List Bool)
  | 0 => some []
  | n + 1 => match sp_tys T from_ n with
    | some l => sp_ty (T (50 + 2 * (from_ + n))) (T (51 + 2 * (from_ + n))) l
    | none => none
def vz_text (T : Nat → Int32) : Prop := (0 ≤ T 0 ∧ T 0 ≤ 500) ∧ ∃ n, n ≤ 12 ∧ T 1 = nI n ∧ ∃ e : Nat → Nat, e 0 = 0 ∧ e n ≤ 400 ∧ ∀ i, i < n → (0 ≤ T (2 + 4 * i) ∧ T (2 + 4 * i) ≤ 3) ∧ (0 ≤ T (3 + 4 * i) ∧ T (3 + 4 * i) ≤ 99999) ∧ T (4 + 4 * i) = nI (e i) ∧ T (5 + 4 * i) = nI (e (i + 1)) ∧ e i ≤ e (i + 1) ∧ (e i = e (i + 1) ∨ sp_tys T (e i) (e (i + 1) - e i) = some [true])
def vz (W : m_W) : Prop := vz_cap W ∧ vz_fix W ∧ vz_zero W ∧ (∀ k, k < 14 → ∀ r, r < wz_n W k → vz_row k (W k r)) ∧ vz_glob W ∧ vz_ship W ∧ vz_cons W ∧ ∀ t, t < wz_n W 17 → vz_text (W 17 t)
section
variable {W : m_W} (V : vz W)
theorem vz.cap (V : vz W) {k : Nat} (hk : k < 14 ∨ k = 17) : W (20 + k) 0 0 = nI (wz_n W k) ∧ wz_n W k ≤ wz_cap k := V.1 k hk
theorem vz.n0 (V : vz W) : wz_n W 0 = 8 := V.2.1.1
theorem vz.n5 (V : vz W) : wz_n W 5 = 6 := V.2.1.2.1
theorem vz.n6 (V : vz W) : wz_n W 6 = 48 := V.2.1.2.2.1
theorem vz.n13 (V : vz W) : wz_n W 13 = 15 := V.2.1.2.2.2
theorem vz.z (V : vz W) {k : Nat} (hk : k < 14) {r c : Nat} (h1 : wz_n W k ≤ r) (h2 : r < wz_cap k) (h3 : c < wz_wid k) : W k r c = 0 := V.2.2.1 k hk r c h1 h2 h3
theorem vz.row (V : vz W) {k : Nat} (hk : k < 14) {r : Nat} (h : r < wz_n W k) : vz_row k (W k r) := V.2.2.2.1 k hk r h
theorem vz.wk (V : vz W) : 0 ≤ W 14 0 0 ∧ W 14 0 0 ≤ 500 := V.2.2.2.2.1.1
theorem vz.en (V : vz W) : W 14 0 3 = 0 ∨ W 14 0 3 = 1 := V.2.2.2.2.1.2.1
theorem vz.lot (V : vz W) {r : Nat} (h : r < wz_n W 2) : vz_lot (W 2 r) := V.row (k := 2) (by omega) h
theorem vz.c (V : vz W) {k : Nat} (hk : k < 14 ∨ k = 17) : wz_n W k ≤ wz_cap k := (V.1 k hk).2
end
/-! answers: a number and what there is then, or which exception -/
def fz_V (s0 : tz_S) (W : m_W) (p : (Int64 × m_W) ⊕ Nat) (z : (Unit ⊕ Nat) × m_H) : Prop := match p with
  | .inl q => ∃ h', z = (.inl (), h') ∧ cz_N s0 q.2 h'
  | .inr E => ∃ h', z = (.inr E, m_junk h') ∧ cz_N s0 W h'
def fz_I (s0 : tz_S) (W : m_W) (p : (Int64 × m_W) ⊕ Nat) (z : (Int32 ⊕ Nat) × m_H) : Prop := match p with
  | .inl q => ∃ v h', z = (.inl v, h') ∧ v.toInt64 = q.1 ∧ cz_N s0 q.2 h'
  | .inr E => ∃ h', z = (.inr E, m_junk h') ∧ cz_N s0 W h'
def fz_J (s0 : tz_S) (W : m_W) (p : (Int64 × m_W) ⊕ Nat) (z : (Int64 ⊕ Nat) × m_H) : Prop := match p with
  | .inl q => ∃ h', z = (.inl q.1, h') ∧ cz_N s0 q.2 h'
  | .inr E => ∃ h', z = (.inr E, m_junk h') ∧ cz_N s0 W h'
def hz_V (s0 : tz_S) (cd : Nat → Int32) (W : m_W) (p : (Int64 × m_W) ⊕ Nat) (h : m_H) : Prop := match p with
  | .inl q => rz_N s0 0 q.2 h
  | .inr E => rz_N s0 (cd E) W h
def hz_I (s0 : tz_S) (cd : Nat → Int32) (W : m_W) (p : (Int64 × m_W) ⊕ Nat) (z : Int32 × m_H) : Prop := match p with
  | .inl q => z.1.toInt64 = q.1 ∧ rz_N s0 0 q.2 z.2
  | .inr E => rz_N s0 (cd E) W z.2
def hz_J (s0 : tz_S) (cd : Nat → Int32) (W : m_W) (p : (Int64 × m_W) ⊕ Nat) (z : Int64 × m_H) : Prop := match p with
  | .inl q => z.1 = q.1 ∧ rz_N s0 0 q.2 z.2
  | .inr E => rz_N s0 (cd E) W z.2
def e01 (E : Nat) : Int32 := match E with | 0 => 1 | 1 => 2 | _ => 0
def e1 (E : Nat) : Int32 := match E with | 1 => 1 | _ => 0
def e0 (E : Nat) : Int32 := match E with | 0 => 1 | _ => 0
def e0123 (E : Nat) : Int32 := match E with | 0 => 1 | 1 => 2 | 2 => 3 | 3 => 4 | _ => 0
def e04 (E : Nat) : Int32 := match E with | 0 => 1 | 4 => 2 | _ => 0
def e12 (E : Nat) : Int32 := match E with | 1 => 1 | 2 => 2 | _ => 0
def e012 (E : Nat) : Int32 := match E with | 0 => 1 | 1 => 2 | 2 => 3 | _ => 0
def e03 (E : Nat) : Int32 := match E with | 0 => 1 | 3 => 2 | _ => 0
def e014 (E : Nat) : Int32 := match E with | 0 => 1 | 1 => 2 | 4 => 3 | _ => 0
def e4 (E : Nat) : Int32 := match E with | 4 => 1 | _ => 0
theorem k_thr {s0 : tz_S} {th : Int32} {W : m_W} {h : m_H} {β : Type} {Q : β → Prop} {c : Int32} {A B : Int32 × m_H → Option β} (R : rz_N s0 th W h) (k : ∀ h1, rz_N s0 c W h1 → k_ok (B (1, h1)) Q) : k_ok (m_b (F12_throwsIf 317 1 c h) fun z => m_if (z.1 = 0) (A z) (B z)) Q := by
  refine k_b (k_w1 R) ?_
  rintro _ ⟨h1, rfl, R1⟩
  exact k_f (show ¬ (1 : Int32) = 0 by decide) (k h1 R1)
theorem k_thr0 {s0 : tz_S} {th : Int32} {W : m_W} {h : m_H} {β : Type} {Q : β → Prop} {c : Int32} {A B : Int32 × m_H → Option β} (R : rz_N s0 th W h) (k : k_ok (A (0, h)) Q) : k_ok (m_b (F12_throwsIf 317 0 c h) fun z => m_if (z.1 = 0) (A z) (B z)) Q := by
  refine k_e (k_w0 R) ?_
  exact k_t rfl k
