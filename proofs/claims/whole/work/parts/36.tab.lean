/-! ===== w_: what a house holds, as numbers: table, row, column (0 sorts, 1 prices, 2 lots, 3 requests, 4 ships, 5 lands, 6 trade, 7 risks, 8 returns, 9 sightings, 10 bases, 11 pages, 12 choices, 13 years, 14 week.., 16 books, 17 texts, 20 + k how many rows of k) ===== -/
abbrev m_W : Type := Nat → Nat → Nat → Int32
def wz_up (W : m_W) (k r c : Nat) (v : Int32) : m_W := fun x y z => if x = k ∧ y = r ∧ z = c then v else W x y z
theorem wz_up_s {W : m_W} {k r c : Nat} {v : Int32} : wz_up W k r c v k r c = v := if_pos ⟨rfl, rfl, rfl⟩
theorem wz_up_k {W : m_W} {k r c x y z : Nat} {v : Int32} (h : ¬ x = k) : wz_up W k r c v x y z = W x y z := if_neg (fun q => h q.1)
theorem wz_up_r {W : m_W} {k r c x y z : Nat} {v : Int32} (h : ¬ y = r) : wz_up W k r c v x y z = W x y z := if_neg (fun q => h q.2.1)
theorem wz_up_c {W : m_W} {k r c x y z : Nat} {v : Int32} (h : ¬ z = c) : wz_up W k r c v x y z = W x y z := if_neg (fun q => h q.2.2)
/-- the reference's places: first, rows, columns -/
def wz_tb : List (Nat × Nat × Nat) := [(5, 8, 4), (206, 100, 3), (808, 100, 21), (2909, 60, 5), (3210, 12, 23), (37, 6, 4), (61, 48, 3), (507, 100, 3), (3487, 100, 5), (3988, 60, 3), (4169, 10, 6), (4230, 9, 2), (4249, 8, 4), (4281, 15, 3), (0, 1, 5), (0, 0, 0), (4326, 500, 48), (28327, 10, 850), (0, 0, 0), (0, 0, 0), (0, 0, 0), (205, 1, 1), (807, 1, 1), (2908, 1, 1), (3209, 1, 1), (0, 0, 0), (0, 0, 0), (506, 1, 1), (3486, 1, 1), (3987, 1, 1), (4168, 1, 1), (4229, 1, 1), (4248, 1, 1), (0, 0, 0), (0, 0, 0), (0, 0, 0), (0, 0, 0), (28326, 1, 1)]
def wz_lo (k : Nat) : Nat := (wz_tb.getD k (0, 0, 0)).1
def wz_cap (k : Nat) : Nat := (wz_tb.getD k (0, 0, 0)).2.1
def wz_wid (k : Nat) : Nat := (wz_tb.getD k (0, 0, 0)).2.2
def wz_ix (k r c : Nat) : Nat := wz_lo k + (if k = 6 then 48 * c + r else wz_wid k * r + c)
def wz_v (k r c : Nat) : Prop := k < 38 ∧ r < wz_cap k ∧ c < wz_wid k
theorem wz_dj : ∀ k ∈ List.range 38, ∀ j ∈ List.range 38, k = j ∨ wz_cap k = 0 ∨ wz_cap j = 0 ∨ wz_lo k + wz_cap k * wz_wid k ≤ wz_lo j ∨ wz_lo j + wz_cap j * wz_wid j ≤ wz_lo k := by decide +kernel
theorem wz_hi : ∀ k ∈ List.range 38, wz_lo k + wz_cap k * wz_wid k ≤ 36827 := by decide +kernel
theorem wz_off {k r c : Nat} (h : wz_v k r c) : wz_lo k ≤ wz_ix k r c ∧ wz_ix k r c < wz_lo k + wz_cap k * wz_wid k := by
  obtain ⟨h1, h2, h3⟩ := h
  unfold wz_ix
  by_cases q : k = 6
  · subst q
    rw [if_pos rfl]
    have e1 : wz_cap 6 = 48 := rfl
    have e2 : wz_wid 6 = 3 := rfl
    rw [e1] at h2 ⊢
    rw [e2] at h3 ⊢
    omega
  · rw [if_neg q]
    have e := Nat.mul_le_mul_right (wz_wid k) (Nat.succ_le_of_lt h2)
    rw [Nat.succ_mul, Nat.mul_comm r] at e
    omega
theorem wz_ix_lt {k r c : Nat} (h : wz_v k r c) : wz_ix k r c < 36827 := by
  have h1 := wz_off h
  have h2 := wz_hi k (List.mem_range.mpr h.1)
  omega
theorem wz_inj {k r c k' r' c' : Nat} (h : wz_v k r c) (h' : wz_v k' r' c') (e : wz_ix k r c = wz_ix k' r' c') : k = k' ∧ r = r' ∧ c = c' := by
  have h1 := wz_off h
  have h2 := wz_off h'
  have hk : k = k' := by
    rcases wz_dj k (List.mem_range.mpr h.1) k' (List.mem_range.mpr h'.1) with q | q | q | q | q
    · exact q
    · have := h.2.1; omega
    · have := h'.2.1; omega
    · omega
    · omega
  subst hk
  obtain ⟨-, a1, a2⟩ := h
  obtain ⟨-, b1, b2⟩ := h'
  unfold wz_ix at e
  by_cases q : k = 6
  · subst q
    rw [if_pos rfl, if_pos rfl] at e
    have e1 : wz_cap 6 = 48 := rfl
    rw [e1] at a1 b1
    exact ⟨rfl, by omega, by omega⟩
  · rw [if_neg q, if_neg q] at e
    have e : wz_wid k * r + c = wz_wid k * r' + c' := by omega
    have hr : r = r' := by
      have d1 : (wz_wid k * r + c) / wz_wid k = r := by rw [Nat.mul_add_div (by omega), Nat.div_eq_of_lt a2, Nat.add_zero]
      have d2 : (wz_wid k * r' + c') / wz_wid k = r' := by rw [Nat.mul_add_div (by omega), Nat.div_eq_of_lt b2, Nat.add_zero]
      rw [← d1, ← d2, e]
    subst hr
    exact ⟨rfl, rfl, by omega⟩
def wz_n (W : m_W) (k : Nat) : Nat := (W (20 + k) 0 0).toNatClampNeg
/-- the class's columns -/
def wz_pi (k c : Nat) : Nat := match k, c with
  | 2, 19 => 20
  | 2, 20 => 19
  | 8, 2 => 3
  | 8, 3 => 2
  | 12, 1 => 2
  | 12, 2 => 3
  | 12, 3 => 1
  | _, c => c
theorem wz_pi_ok : ∀ k ∈ List.range 14, ∀ c ∈ List.range (wz_wid k), wz_pi k c < wz_wid k ∧ ∀ d ∈ List.range (wz_wid k), wz_pi k c = wz_pi k d → c = d := by decide +kernel
theorem nI_mul (a b : Nat) : nI a * nI b = nI (a * b) := (Int32.ofNat_mul a b).symm
/-! ===== the class's tables ===== -/
/-- an ACT: its object and arrays hold a text's numbers -/
def tz_en (st n : Int32) : Int32 := if st = 100 then n else if st = 101 then -1 else if st = 102 then -2 else if st = 103 then -3 else if st = 104 then -4 else if st = 105 then -5 else if st = 106 then -6 else -10 - st
def tz_Ao (x : List m_E) (a : Nat) : Prop := 334 ≤ a ∧ ∃ fs, x[a - 334]? = some (.inr (0, fs))
def tz_Ar (x : List m_E) (a n : Nat) (f : Nat → Int32) : Prop := 334 ≤ a ∧ x[a - 334]? = some (.inl (0, n, .inl f))
def tz_Act (x : List m_E) (a : Nat) (T : Nat → Int32) : Prop := ∃ (a1 a2 a3 a4 n m : Nat) (f1 f2 f3 f4 : Nat → Int32), 334 ≤ a ∧ x[a - 334]? = some (.inr (0, [.int (T 0), .int (T 1), .ref a1, .ref a2, .ref a3, .ref a4])) ∧ tz_Ar x a1 n f1 ∧ tz_Ar x a2 n f2 ∧ tz_Ar x a3 n f3 ∧ tz_Ar x a4 m f4 ∧
  T 1 = nI n ∧ n ≤ 12 ∧ m ≤ 400 ∧ (∀ i, i < n → f1 i = T (2 + 4 * i) ∧ f2 i = T (3 + 4 * i) ∧ f3 i = T (5 + 4 * i) ∧ (T (5 + 4 * i)).toNatClampNeg ≤ m) ∧ ∀ i, i < m → f4 i = tz_en (T (50 + 2 * i)) (T (51 + 2 * i))
def tz_R (s : tz_S) (v ca w n : Nat) (f : Nat → Nat → Int32) : Prop := s.1 v 2 = nI n ∧ ∀ r c, r < n → c < w → s.2.1 ca (r * w + c) = f r c
def tz_HA (s : tz_S) (b : Nat) (W : m_W) : Prop := s.1 b 5 = W 37 0 0 ∧ W 37 0 0 = nI (wz_n W 17) ∧ wz_n W 17 ≤ 10 ∧ (∀ i, i < wz_n W 17 → ∃ a, s.2.2.2.1 (b + 1) i = some a ∧ tz_Act s.2.2.2.2.2.1 a (W 17 i)) ∧ ∀ i a, i < 10 → s.2.2.2.1 (b + 1) i = some a → tz_Ao s.2.2.2.2.2.1 a
def tz_HR (s : tz_S) (b : Nat) (W : m_W) : Prop := (s.1 b 0 = W 14 0 0 ∧ s.1 b 1 = W 14 0 1 ∧ s.1 b 2 = W 14 0 2 ∧ s.1 b 3 = W 14 0 3) ∧ tz_HA s b W ∧
  ∀ k, k < 14 → tz_R s (b + 2 + 2 * k) (b + 3 + 2 * k) (wz_wid k) (wz_n W k) (fun r c => W k r (wz_pi k c)) ∧ W (20 + k) 0 0 = nI (wz_n W k) ∧ wz_n W k ≤ wz_cap k
/-- what a method of the class leaves as it was: all but the house of now and what is only used within a call -/
def tz_fr (s s' : tz_S) : Prop := (∀ a k, a < 201 ∨ 253 ≤ a → s'.1 a k = s.1 a k) ∧ s'.1 201 1 = s.1 201 1 ∧ (∀ a, a < 201 ∨ 253 ≤ a ∨ a = 202 ∨ a = 212 ∨ a = 213 → s'.2.1 a = s.2.1 a) ∧ (∀ a, a < 201 ∨ 253 ≤ a → s'.2.2.1 a = s.2.2.1 a ∧ s'.2.2.2.1 a = s.2.2.2.1 a) ∧ s'.2.2.2.2 = s.2.2.2.2
theorem tz_fr.refl {s : tz_S} : tz_fr s s := ⟨fun _ _ _ => rfl, rfl, fun _ _ => rfl, fun _ _ => ⟨rfl, rfl⟩, rfl⟩
theorem tz_fr.trans {s s1 s2 : tz_S} (h : tz_fr s s1) (h' : tz_fr s1 s2) : tz_fr s s2 :=
  ⟨fun a k q => (h'.1 a k q).trans (h.1 a k q), h'.2.1.trans h.2.1, fun a q => (h'.2.2.1 a q).trans (h.2.2.1 a q), fun a q => ⟨(h'.2.2.2.1 a q).1.trans (h.2.2.2.1 a q).1, (h'.2.2.2.1 a q).2.trans (h.2.2.2.1 a q).2⟩, h'.2.2.2.2.trans h.2.2.2.2⟩
theorem tz_fr.uf {s : tz_S} {a k : Nat} {v : Int32} (h1 : 201 ≤ a) (h2 : a < 253) (h3 : ¬ (a = 201 ∧ k = 1)) : tz_fr s (tz_uf s a k v) :=
  ⟨fun x y q => if_neg (fun e => by omega), if_neg (fun e => h3 ⟨e.1.symm, e.2.symm⟩), fun _ _ => rfl, fun _ _ => ⟨rfl, rfl⟩, rfl⟩
theorem tz_fr.ui {s : tz_S} {a : Nat} {f : Nat → Int32} (h1 : 201 ≤ a) (h2 : a < 253) (h3 : ¬ (a = 202 ∨ a = 212 ∨ a = 213)) : tz_fr s (tz_ui s a f) :=
  ⟨fun x y q => rfl, rfl, fun x q => if_neg (fun e => by omega), fun _ _ => ⟨rfl, rfl⟩, rfl⟩
theorem tz_fr.ul {s : tz_S} {a : Nat} {f : Nat → Int64} (h1 : 201 ≤ a) (h2 : a < 253) : tz_fr s (tz_ul s a f) :=
  ⟨fun x y q => rfl, rfl, fun x q => rfl, fun x q => ⟨if_neg (fun e => by omega), rfl⟩, rfl⟩
theorem tz_fr.ua {s : tz_S} {a : Nat} {f : Nat → Option Nat} (h1 : 201 ≤ a) (h2 : a < 253) : tz_fr s (tz_ua s a f) :=
  ⟨fun x y q => rfl, rfl, fun x q => rfl, fun x q => ⟨rfl, if_neg (fun e => by omega)⟩, rfl⟩
/-- the house b holds W, and all else but the house of now is as it was in s0 -/
def cz_N (s0 : tz_S) (W : m_W) (h : m_H) : Prop := ∃ s, h = tz_H s ∧ tz_HR s 223 W ∧ tz_fr s0 s
section
variable {s : tz_S} {v ca w cap n : Nat} {f : Nat → Nat → Int32}
theorem T_w (hv : tz_sh v = some (.inr (6, [some (1000 + w), some ca, none]))) : m_gi (tz_H s) v 6 0 = some (nI w) := tz_gc hv rfl (by
  unfold tz_fv
  split
  · next e => cases e
  · next e => have := Option.some.inj e; omega
  · next e => have := Option.some.inj e; omega
  · next e =>
    cases e
    rw [if_pos (by omega), Nat.add_sub_cancel_left]
    rfl) rfl
theorem T_ca (hv : tz_sh v = some (.inr (6, [some (1000 + w), some ca, none]))) (h1 : 200 ≤ ca) (h2 : ca < 1000) : m_gr (tz_H s) v 6 1 = some ca := tz_gr hv rfl (by
  unfold tz_fv
  split
  · next e => cases e
  · next e => cases e; omega
  · next e => cases e; omega
  · next e => cases e; rw [if_neg (by omega)]) rfl
theorem T_n (hv : tz_sh v = some (.inr (6, [some (1000 + w), some ca, none]))) (hR : tz_R s v ca w n f) : m_gi (tz_H s) v 6 2 = some (nI n) := by
  rw [tz_gi hv rfl, hR.1]
theorem T_le (hca : tz_sh ca = some (.inl (0, cap * w))) : m_len (tz_H s) ca = some (nI (cap * w)) := tz_len hca rfl
end
section
variable {s : tz_S} {v ca w cap n : Nat} {f : Nat → Nat → Int32}
/-- a table of a house: its object, its cells, its width, how many rows it may have, how many it has, what they are -/
def T_ok (s : tz_S) (v ca w cap n : Nat) (f : Nat → Nat → Int32) : Prop := tz_sh v = some (.inr (6, [some (1000 + w), some ca, none])) ∧ tz_sh ca = some (.inl (0, cap * w)) ∧ (0 < w ∧ cap * w ≤ 2100 ∧ w ≤ 30 ∧ 200 ≤ ca ∧ ca < 1000) ∧ tz_R s v ca w n f ∧ n ≤ cap
theorem T_reach (h : T_ok s v ca w cap n f) {x y : Int32} {r c : Nat} (hx : x = nI r) (hr : r < n) (hy : y = nI c) (hc : c < w) : F8_reaches v x y (tz_H s) = some 1 := by
  obtain ⟨h1, h2, ⟨h3, h4, h5, h6, h7⟩, h8, h9⟩ := h
  have e1 := Nat.mul_le_mul_right w (show r + 1 ≤ cap by omega)
  have hcap : cap ≤ 2100 := Nat.le_trans (Nat.le_mul_of_pos_right cap h3) h4
  subst hx hy
  unfold F8_reaches F8_reaches_0
  rw [tz_io h1, gz_s, iz_f (nI_pos (by omega)), T_n h1 h8, bz_s, iz_f (nI_ge hr (by omega)), iz_f (nI_pos (by omega)), T_w h1, bz_s, iz_f (nI_ge hc (by omega)), bz_s, T_ca h1 h6 h7, bz_s, T_le h2, bz_s,
    ← nI_succ, nI_mul, iz_f (nI_nlt e1 (by omega))]
theorem T_out (h : T_ok s v ca w cap n f) {x y : Int32} (hx : x < 0 ∨ nI n ≤ x) : F8_reaches v x y (tz_H s) = some 0 := by
  obtain ⟨h1, h2, ⟨h3, h4, h5, h6, h7⟩, h8, h9⟩ := h
  unfold F8_reaches F8_reaches_0
  rw [tz_io h1, gz_s]
  by_cases q : x < 0
  · rw [iz_t q]
  · rw [iz_f q, T_n h1 h8, bz_s, iz_t (hx.resolve_left q)]
theorem T_ix (h : T_ok s v ca w cap n f) {r c : Nat} (hr : r < n) (hc : c < w) : r * w + c < cap * w ∧ cap * w < 2 ^ 31 := by
  obtain ⟨h1, h2, ⟨h3, h4, h5, h6, h7⟩, h8, h9⟩ := h
  have e1 := Nat.mul_le_mul_right w (show r + 1 ≤ cap by omega)
  rw [Nat.succ_mul] at e1
  omega
theorem T_get (h : T_ok s v ca w cap n f) {x y : Int32} {r c : Nat} (hx : x = nI r) (hr : r < n) (hy : y = nI c) (hc : c < w) : F8_get v x y (tz_H s) = some (f r c) := by
  have hi := T_ix h hr hc
  have hq := T_reach h hx hr hy hc
  obtain ⟨h1, h2, ⟨h3, h4, h5, h6, h7⟩, h8, h9⟩ := h
  unfold F8_get F8_get_0
  rw [tz_io h1, gz_s, hq, bz_s, iz_f (by decide), T_ca h1 h6 h7, bz_s, T_w h1, bz_s, hx, hy, nI_mul, nI_add, tz_ai h2 ⟨rfl, rfl⟩ (nI_in1 hi.1 hi.2), bz_s, nI_clamp (by omega), h8.2 r c hr hc]
theorem T_get0 (h : T_ok s v ca w cap n f) {x y : Int32} (hx : x < 0 ∨ nI n ≤ x) : F8_get v x y (tz_H s) = some 0 := by
  unfold F8_get F8_get_0
  rw [tz_io h.1, gz_s, T_out h hx, bz_s, iz_t rfl]
theorem T_set (h : T_ok s v ca w cap n f) {x y u : Int32} {r c : Nat} (hx : x = nI r) (hr : r < n) (hy : y = nI c) (hc : c < w) : F8_set v x y u (tz_H s) = some (tz_H (tz_ui s ca (upd (s.2.1 ca) (r * w + c) u))) := by
  have hi := T_ix h hr hc
  have hq := T_reach h hx hr hy hc
  obtain ⟨h1, h2, ⟨h3, h4, h5, h6, h7⟩, h8, h9⟩ := h
  unfold F8_set F8_set_0
  rw [tz_io h1, gz_s, hq, bz_s, iz_f (by decide), T_ca h1 h6 h7, bz_s, T_w h1, bz_s, hx, hy, nI_mul, nI_add, tz_si h2 ⟨rfl, rfl⟩ (nI_in1 hi.1 hi.2), bz_s, nI_clamp (by omega)]
  rfl
theorem T_set0 (h : T_ok s v ca w cap n f) {x y u : Int32} (hx : x < 0 ∨ nI n ≤ x) : F8_set v x y u (tz_H s) = some (tz_H s) := by
  unfold F8_set F8_set_0
  rw [tz_io h.1, gz_s, T_out h hx, bz_s, iz_t rfl]
theorem T_raise (h : T_ok s v ca w cap n f) {x y u : Int32} {r c : Nat} (hx : x = nI r) (hr : r < n) (hy : y = nI c) (hc : c < w) : F8_raise v x y u (tz_H s) = some (tz_H (tz_ui s ca (upd (s.2.1 ca) (r * w + c) (f r c + u)))) := by
  have hi := T_ix h hr hc
  have hq := T_reach h hx hr hy hc
  obtain ⟨h1, h2, ⟨h3, h4, h5, h6, h7⟩, h8, h9⟩ := h
  unfold F8_raise F8_raise_0
  rw [tz_io h1, gz_s, hq, bz_s, iz_f (by decide), T_ca h1 h6 h7, bz_s, T_w h1, bz_s, hx, hy, nI_mul, nI_add, tz_ai h2 ⟨rfl, rfl⟩ (nI_in1 hi.1 hi.2), bz_s, tz_si h2 ⟨rfl, rfl⟩ (nI_in1 hi.1 hi.2), bz_s, nI_clamp (by omega), h8.2 r c hr hc]
  rfl
theorem T_has (h : T_ok s v ca w cap n f) {x : Int32} : F8_has v x (tz_H s) = some (if x < 0 ∨ nI n ≤ x then 0 else 1) := by
  unfold F8_has F8_has_0
  rw [tz_io h.1, gz_s]
  by_cases q : x < 0
  · rw [iz_t q, if_pos (Or.inl q)]
  · rw [iz_f q, T_n h.1 h.2.2.2.1, bz_s]
    by_cases q2 : nI n ≤ x
    · rw [iz_t q2, if_pos (Or.inr q2)]
    · rw [iz_f q2, if_neg (fun e => e.elim q q2)]
theorem T_full (h : T_ok s v ca w cap n f) : F8_full v (tz_H s) = some (if n < cap then 0 else 1) := by
  obtain ⟨h1, h2, ⟨h3, h4, h5, h6, h7⟩, h8, h9⟩ := h
  unfold F8_full F8_full_0
  rw [tz_io h1, gz_s, T_n h1 h8, bz_s, T_w h1, bz_s, T_ca h1 h6 h7, bz_s, T_le h2, bz_s, ← nI_succ, nI_mul]
  by_cases q : n < cap
  · rw [if_pos q, iz_t (nI_le (Nat.mul_le_mul_right w (by omega)) (by omega))]
  · rw [if_neg q]
    have e : n = cap := by omega
    subst e
    have e2 : n * w < (n + 1) * w := by rw [Nat.succ_mul]; omega
    rw [iz_f (nI_ge e2 (by rw [Nat.succ_mul]; omega))]

theorem tz_ui_ui {a : Nat} {f1 f2 : Nat → Int32} : tz_ui (tz_ui s a f1) a f2 = tz_ui s a f2 := by
  refine Prod.ext rfl (Prod.ext ?_ rfl)
  funext x
  show (if x = a then f2 else if x = a then f1 else s.2.1 x) = if x = a then f2 else s.2.1 x
  by_cases q : x = a
  · rw [if_pos q, if_pos q]
  · rw [if_neg q, if_neg q, if_neg q]
theorem tz_ui_a {a : Nat} {f1 : Nat → Int32} : (tz_ui s a f1).2.1 a = f1 := if_pos rfl
theorem tz_ui_n {a b : Nat} {f1 : Nat → Int32} (h : ¬ b = a) : (tz_ui s a f1).2.1 b = s.2.1 b := if_neg h
theorem T_add (h : T_ok s v ca w cap n f) (hn : n < cap) : k_ok (F8_add v (tz_H s)) (fun z => z.1 = nI n ∧ ∃ g, z.2 = tz_H (tz_ui (tz_uf s v 2 (nI (n + 1))) ca g) ∧ (∀ j, j < n * w → g j = s.2.1 ca j) ∧ ∀ c, c < w → g (n * w + c) = 0) := by
  have h0 := h
  obtain ⟨h1, h2, ⟨h3, h4, h5, h6, h7⟩, h8, h9⟩ := h
  have e1 := Nat.mul_le_mul_right w (show n + 1 ≤ cap by omega)
  rw [Nat.succ_mul] at e1
  have hcw : n + 1 ≤ cap * w := Nat.le_trans (show n + 1 ≤ cap by omega) (Nat.le_mul_of_pos_right cap h3)
  unfold F8_add F8_add_0
  rw [tz_io h1, gz_s, T_full h0, bz_s, if_pos hn, iz_t rfl, T_n h1 h8, bz_s, ← nI_succ]
  have hpf : m_pf m_ft (tz_H s) v 6 2 (.int (nI (n + 1))) = some (tz_H (tz_uf s v 2 (nI (n + 1)))) := tz_pf h1 rfl rfl
  rw [hpf, bz_s]
  unfold F8_add_21
  have hok : ∀ g, T_ok (tz_ui (tz_uf s v 2 (nI (n + 1))) ca g) v ca w cap (n + 1) (fun r c => g (r * w + c)) := fun g =>
    ⟨h1, h2, ⟨h3, h4, h5, h6, h7⟩, ⟨if_pos ⟨rfl, rfl⟩, fun r c _ _ => by rw [tz_ui_a]⟩, by omega⟩
  refine wh_i (n := w) (fun i st => st.1 = nI i ∧ ∃ g, st.2 = tz_H (tz_ui (tz_uf s v 2 (nI (n + 1))) ca g) ∧ (∀ j, j < n * w → g j = s.2.1 ca j) ∧ ∀ c, c < i → g (n * w + c) = 0) _ ?_ ?_ m_N 0 _ (N_lt (by omega)) (Nat.zero_le _) ⟨rfl, s.2.1 ca, ?_, fun _ _ => rfl, fun c hc => absurd hc (Nat.not_lt_zero c)⟩
  · rintro i ⟨x, hp⟩ hi ⟨a1, g, a2, a3, a4⟩
    dsimp only at a1 a2
    subst a1 a2
    unfold F8_add_21b
    dsimp only
    refine k_e (T_w h1) (k_f (nI_ge hi (by omega)) ?_)
    refine k_e (T_n h1 (hok g).2.2.2.1) ?_
    refine k_e (T_set (hok g) (r := n) (c := i) (nI_pred n) (by omega) rfl hi) (k_s ?_)
    refine ⟨(nI_succ i).symm, upd g (n * w + i) 0, ?_, fun j hj => ?_, fun c hc => ?_⟩
    · rw [tz_ui_a, tz_ui_ui]
    · rw [pk_un (by omega)]
      exact a3 j hj
    · by_cases q : c = i
      · subst q
        exact pk_us
      · rw [pk_un (by omega)]
        exact a4 c (by omega)
  · rintro ⟨x, hp⟩ ⟨a1, g, a2, a3, a4⟩
    dsimp only at a1 a2
    subst a1 a2
    unfold F8_add_21b
    dsimp only
    refine k_e (T_w h1) (k_t (nI_le (Nat.le_refl _) (by omega)) ?_)
    refine k_e (T_n h1 (hok g).2.2.2.1) (k_s ?_)
    exact ⟨nI_pred n, g, rfl, a3, a4⟩
  · refine congrArg tz_H ?_
    refine Prod.ext rfl (Prod.ext ?_ rfl)
    funext x
    show s.2.1 x = if x = ca then s.2.1 ca else s.2.1 x
    by_cases q : x = ca
    · rw [if_pos q, q]
    · rw [if_neg q]
theorem T_add0 (h : T_ok s v ca w cap n f) (hn : ¬ n < cap) : F8_add v (tz_H s) = some (-1, tz_H s) := by
  unfold F8_add F8_add_0
  rw [tz_io h.1, gz_s, T_full h, bz_s, if_neg hn, iz_f (by decide)]
end
theorem T_sh {b : Nat} (hb : b = 223 ∨ b = 253 ∨ b = 283) : ∀ k ∈ List.range 14, tz_sh (b + 2 + 2 * k) = some (.inr (6, [some (1000 + wz_wid k), some (b + 3 + 2 * k), none])) ∧ tz_sh (b + 3 + 2 * k) = some (.inl (0, wz_cap k * wz_wid k)) ∧ 0 < wz_wid k ∧ wz_cap k * wz_wid k ≤ 2100 ∧ wz_wid k ≤ 30 := by
  rcases hb with rfl | rfl | rfl <;> decide +kernel
theorem tz_HR.T {s : tz_S} {b : Nat} {W : m_W} (hb : b = 223 ∨ b = 253 ∨ b = 283) (H : tz_HR s b W) {k : Nat} (hk : k < 14) : T_ok s (b + 2 + 2 * k) (b + 3 + 2 * k) (wz_wid k) (wz_cap k) (wz_n W k) (fun r c => W k r (wz_pi k c)) := by
  obtain ⟨a1, a2, a3, a4, a5⟩ := T_sh hb k (List.mem_range.mpr hk)
  obtain ⟨b1, b2, b3⟩ := H.2.2 k hk
  exact ⟨a1, a2, ⟨a3, a4, a5, by omega, by omega⟩, b1, b3⟩
section
variable {s0 : tz_S} {W : m_W} {h : m_H}
theorem cz_get (R : cz_N s0 W h) {k v r c : Nat} {x y : Int32} (hk : k < 14) (hv : v = 223 + 2 + 2 * k) (hx : x = nI r) (hr : r < wz_n W k) (hy : y = nI c) (hc : c < wz_wid k) : F8_get v x y h = some (W k r (wz_pi k c)) := by
  obtain ⟨s, rfl, H, -⟩ := R
  subst hv
  exact T_get (H.T (Or.inl rfl) hk) hx hr hy hc
theorem wz_n_up {k r c k' : Nat} {v : Int32} (h : ¬ (20 + k' = k)) : wz_n (wz_up W k r c v) k' = wz_n W k' := by
  unfold wz_n
  rw [wz_up_k h]
theorem wz_row_up {k r c k' : Nat} {v : Int32} (h : ¬ (k' = k)) : wz_up W k r c v k' = W k' := by
  funext y z
  exact wz_up_k h
theorem HR_ui {s : tz_S} {W : m_W} (H : tz_HR s 223 W) {k r c : Nat} {u : Int32} (hk : k < 14) (hr : r < wz_n W k) (hc : c < wz_wid k) : tz_HR (tz_ui s (223 + 3 + 2 * k) (upd (s.2.1 (223 + 3 + 2 * k)) (r * wz_wid k + c) u)) 223 (wz_up W k r (wz_pi k c) u) := by
  obtain ⟨⟨f1, f2, f3, f4⟩, ⟨g1, g2, g3, g4, g5⟩, h3⟩ := H
  refine ⟨⟨?_, ?_, ?_, ?_⟩, ⟨?_, ?_, ?_, ?_, g5⟩, ?_⟩
  · rw [wz_up_k (by omega)]; exact f1
  · rw [wz_up_k (by omega)]; exact f2
  · rw [wz_up_k (by omega)]; exact f3
  · rw [wz_up_k (by omega)]; exact f4
  · rw [wz_up_k (by omega)]; exact g1
  · rw [wz_up_k (by omega), wz_n_up (by omega)]; exact g2
  · rw [wz_n_up (by omega)]; exact g3
  · intro i hi
    rw [wz_n_up (by omega)] at hi
    rw [wz_row_up (show ¬ 17 = k by omega)]
    exact g4 i hi
  · intro k' hk'
    obtain ⟨⟨a1, a2⟩, a3, a4⟩ := h3 k' hk'
    rw [wz_n_up (by omega)]
    refine ⟨⟨a1, ?_⟩, ?_, a4⟩
    · intro r' c' hr' hc'
      by_cases q : k' = k
      · subst q
        rw [tz_ui_a]
        have hp := wz_pi_ok k' (List.mem_range.mpr hk) c (List.mem_range.mpr hc)
        by_cases q1 : r' = r ∧ c' = c
        · obtain ⟨rfl, rfl⟩ := q1
          rw [pk_us]
          exact wz_up_s.symm
        · have hne : r' * wz_wid k' + c' ≠ r * wz_wid k' + c := by
            intro e
            have d1 : (r' * wz_wid k' + c') / wz_wid k' = r' := by rw [Nat.mul_comm, Nat.mul_add_div (by omega), Nat.div_eq_of_lt hc', Nat.add_zero]
            have d2 : (r * wz_wid k' + c) / wz_wid k' = r := by rw [Nat.mul_comm, Nat.mul_add_div (by omega), Nat.div_eq_of_lt hc, Nat.add_zero]
            have e1 : r' = r := by rw [← d1, ← d2, e]
            exact q1 ⟨e1, by subst e1; omega⟩
          rw [pk_un hne, a2 r' c' hr' hc']
          by_cases q2 : r' = r
          · exact (wz_up_c (fun e => q1 ⟨q2, (hp.2 c' (List.mem_range.mpr hc') e.symm).symm⟩)).symm
          · exact (wz_up_r q2).symm
      · rw [tz_ui_n (by omega), a2 r' c' hr' hc']
        exact (wz_up_k q).symm
    · rw [wz_up_k (by omega)]
      exact a3
theorem cz_set (R : cz_N s0 W h) {k v r c : Nat} {x y u : Int32} (hk : k < 14) (hv : v = 223 + 2 + 2 * k) (hx : x = nI r) (hr : r < wz_n W k) (hy : y = nI c) (hc : c < wz_wid k) : k_ok (F8_set v x y u h) (cz_N s0 (wz_up W k r (wz_pi k c) u)) := by
  obtain ⟨s, rfl, H, F⟩ := R
  subst hv
  exact ⟨_, T_set (H.T (Or.inl rfl) hk) hx hr hy hc, _, rfl, HR_ui H hk hr hc, F.trans (tz_fr.ui (by omega) (by omega) (by omega))⟩
theorem cz_raise (R : cz_N s0 W h) {k v r c : Nat} {x y u : Int32} (hk : k < 14) (hv : v = 223 + 2 + 2 * k) (hx : x = nI r) (hr : r < wz_n W k) (hy : y = nI c) (hc : c < wz_wid k) : k_ok (F8_raise v x y u h) (cz_N s0 (wz_up W k r (wz_pi k c) (W k r (wz_pi k c) + u))) := by
  obtain ⟨s, rfl, H, F⟩ := R
  subst hv
  exact ⟨_, T_raise (H.T (Or.inl rfl) hk) hx hr hy hc, _, rfl, HR_ui H hk hr hc, F.trans (tz_fr.ui (by omega) (by omega) (by omega))⟩
theorem cz_set0 (R : cz_N s0 W h) {k v : Nat} {x y u : Int32} (hk : k < 14) (hv : v = 223 + 2 + 2 * k) (hx : x < 0 ∨ nI (wz_n W k) ≤ x) : F8_set v x y u h = some h := by
  obtain ⟨s, rfl, H, F⟩ := R
  subst hv
  exact T_set0 (H.T (Or.inl rfl) hk) hx
theorem cz_get0 (R : cz_N s0 W h) {k v : Nat} {x y : Int32} (hk : k < 14) (hv : v = 223 + 2 + 2 * k) (hx : x < 0 ∨ nI (wz_n W k) ≤ x) : F8_get v x y h = some 0 := by
  obtain ⟨s, rfl, H, F⟩ := R
  subst hv
  exact T_get0 (H.T (Or.inl rfl) hk) hx
theorem cz_has (R : cz_N s0 W h) {k v : Nat} {x : Int32} (hk : k < 14) (hv : v = 223 + 2 + 2 * k) : F8_has v x h = some (if x < 0 ∨ nI (wz_n W k) ≤ x then 0 else 1) := by
  obtain ⟨s, rfl, H, F⟩ := R
  subst hv
  exact T_has (H.T (Or.inl rfl) hk)
theorem cz_full (R : cz_N s0 W h) {k v : Nat} (hk : k < 14) (hv : v = 223 + 2 + 2 * k) : F8_full v h = some (if wz_n W k < wz_cap k then 0 else 1) := by
  obtain ⟨s, rfl, H, F⟩ := R
  subst hv
  exact T_full (H.T (Or.inl rfl) hk)
theorem cz_size (R : cz_N s0 W h) {k v : Nat} (hk : k < 14) (hv : v = 223 + 2 + 2 * k) : m_gi h v 6 2 = some (nI (wz_n W k)) := by
  obtain ⟨s, rfl, H, F⟩ := R
  subst hv
  exact T_n (H.T (Or.inl rfl) hk).1 (H.T (Or.inl rfl) hk).2.2.2.1
theorem cz_add0 (R : cz_N s0 W h) {k v : Nat} (hk : k < 14) (hv : v = 223 + 2 + 2 * k) (hn : ¬ wz_n W k < wz_cap k) : F8_add v h = some (-1, h) := by
  obtain ⟨s, rfl, H, F⟩ := R
  subst hv
  exact T_add0 (H.T (Or.inl rfl) hk) hn
theorem nI_n {n : Nat} (h : n < 2 ^ 31) : (nI n).toNatClampNeg = n := nI_clamp h
theorem wz_cap_le : ∀ k ∈ List.range 14, wz_cap k ≤ 100 := by decide +kernel
theorem cz_add (R : cz_N s0 W h) {k v : Nat} (hk : k < 14) (hv : v = 223 + 2 + 2 * k) (hn : wz_n W k < wz_cap k) (hz : ∀ c, c < wz_wid k → W k (wz_n W k) c = 0) : k_ok (F8_add v h) (fun z => ∃ h1, z = (nI (wz_n W k), h1) ∧ cz_N s0 (wz_up W (20 + k) 0 0 (nI (wz_n W k + 1))) h1) := by
  obtain ⟨s, rfl, H, F⟩ := R
  subst hv
  have hcap := wz_cap_le k (List.mem_range.mpr hk)
  refine k_m (T_add (H.T (Or.inl rfl) hk) hn) ?_
  rintro ⟨x, h'⟩ ⟨a1, g, a2, a3, a4⟩
  dsimp only at a1 a2
  subst a1
  refine ⟨h', rfl, _, a2, ?_, F.trans ((tz_fr.uf (by omega) (by omega) (by omega)).trans (tz_fr.ui (by omega) (by omega) (by omega)))⟩
  have hnn : wz_n (wz_up W (20 + k) 0 0 (nI (wz_n W k + 1))) k = wz_n W k + 1 := by
    show (wz_up W (20 + k) 0 0 (nI (wz_n W k + 1)) (20 + k) 0 0).toNatClampNeg = _
    rw [wz_up_s, nI_clamp (by omega)]
  obtain ⟨⟨f1, f2, f3, f4⟩, ⟨g1, g2, g3, g4, g5⟩, h3⟩ := H
  have hf : ∀ j, (tz_ui (tz_uf s (223 + 2 + 2 * k) 2 (nI (wz_n W k + 1))) (223 + 3 + 2 * k) g).1 223 j = s.1 223 j := fun j => if_neg (fun e => by omega)
  refine ⟨⟨?_, ?_, ?_, ?_⟩, ⟨?_, ?_, ?_, ?_, g5⟩, ?_⟩
  · rw [wz_up_k (by omega), hf]; exact f1
  · rw [wz_up_k (by omega), hf]; exact f2
  · rw [wz_up_k (by omega), hf]; exact f3
  · rw [wz_up_k (by omega), hf]; exact f4
  · rw [wz_up_k (by omega), hf]; exact g1
  · rw [wz_up_k (by omega), wz_n_up (by omega)]; exact g2
  · rw [wz_n_up (by omega)]; exact g3
  · intro i hi
    rw [wz_n_up (by omega)] at hi
    rw [wz_row_up (show ¬ 17 = 20 + k by omega)]
    exact g4 i hi
  · intro k' hk'
    obtain ⟨⟨b1, b2⟩, b3, b4⟩ := h3 k' hk'
    by_cases q : k' = k
    · subst q
      rw [hnn, wz_up_s]
      refine ⟨⟨if_pos ⟨rfl, rfl⟩, ?_⟩, rfl, by omega⟩
      intro r c hr hc
      rw [tz_ui_a]
      refine Eq.trans ?_ (wz_up_k (by omega)).symm
      by_cases q2 : r = wz_n W k'
      · subst q2
        rw [a4 c hc, hz _ (wz_pi_ok k' (List.mem_range.mpr hk) c (List.mem_range.mpr hc)).1]
      · have e1 := Nat.mul_le_mul_right (wz_wid k') (show r + 1 ≤ wz_n W k' by omega)
        rw [Nat.succ_mul] at e1
        rw [a3 _ (by omega), b2 r c (by omega) hc]
    · rw [wz_n_up (by omega), wz_up_k (by omega)]
      refine ⟨⟨?_, ?_⟩, b3, b4⟩
      · show (if 223 + 2 + 2 * k' = 223 + 2 + 2 * k ∧ 2 = 2 then nI (wz_n W k + 1) else s.1 (223 + 2 + 2 * k') 2) = _
        rw [if_neg (by omega)]
        exact b1
      · intro r c hr hc
        rw [tz_ui_n (by omega)]
        exact (b2 r c hr hc).trans (wz_up_k (by omega)).symm
theorem cz_pf {s : tz_S} (H : tz_HR s 223 W) {j : Nat} {v : Int32} (hj : j < 4) : tz_HR (tz_uf s 223 j v) 223 (wz_up W 14 0 j v) := by
  obtain ⟨⟨f1, f2, f3, f4⟩, ⟨g1, g2, g3, g4, g5⟩, h3⟩ := H
  have hf : ∀ i, i < 4 → s.1 223 i = W 14 0 i → (tz_uf s 223 j v).1 223 i = wz_up W 14 0 j v 14 0 i := by
    intro i _ e
    by_cases q : i = j
    · subst q
      rw [wz_up_s]
      exact if_pos ⟨rfl, rfl⟩
    · rw [wz_up_c q, ← e]
      exact if_neg (fun e => q e.2)
  refine ⟨⟨hf 0 (by omega) f1, hf 1 (by omega) f2, hf 2 (by omega) f3, hf 3 (by omega) f4⟩, ⟨?_, ?_, ?_, ?_, g5⟩, ?_⟩
  · rw [wz_up_k (by omega), ← g1]
    exact if_neg (fun e => by omega)
  · rw [wz_up_k (by omega), wz_n_up (by omega)]; exact g2
  · rw [wz_n_up (by omega)]; exact g3
  · intro i hi
    rw [wz_n_up (by omega)] at hi
    rw [wz_row_up (by omega)]
    exact g4 i hi
  · intro k' hk'
    obtain ⟨⟨b1, b2⟩, b3, b4⟩ := h3 k' hk'
    rw [wz_n_up (by omega), wz_up_k (by omega), wz_row_up (by omega)]
    refine ⟨⟨?_, b2⟩, b3, b4⟩
    show (if 223 + 2 + 2 * k' = 223 ∧ 2 = j then v else s.1 (223 + 2 + 2 * k') 2) = _
    rw [if_neg (by omega)]
    exact b1
theorem cz_g0_0 (R : cz_N s0 W h) {r : Nat} {x : Int32} (hx : x = nI r) (hr : r < wz_n W 0) : F8_get 225 x 0 h = some (W 0 r 0) := cz_get R (k := 0) (c := 0) (by decide) rfl hx hr rfl (by decide)
theorem cz_s0_0 (R : cz_N s0 W h) {r : Nat} {x u : Int32} (hx : x = nI r) (hr : r < wz_n W 0) : k_ok (F8_set 225 x 0 u h) (cz_N s0 (wz_up W 0 r 0 u)) := cz_set R (k := 0) (c := 0) (by decide) rfl hx hr rfl (by decide)
theorem cz_r0_0 (R : cz_N s0 W h) {r : Nat} {x u : Int32} (hx : x = nI r) (hr : r < wz_n W 0) : k_ok (F8_raise 225 x 0 u h) (cz_N s0 (wz_up W 0 r 0 (W 0 r 0 + u))) := cz_raise R (k := 0) (c := 0) (by decide) rfl hx hr rfl (by decide)
theorem cz_g0_1 (R : cz_N s0 W h) {r : Nat} {x : Int32} (hx : x = nI r) (hr : r < wz_n W 0) : F8_get 225 x 1 h = some (W 0 r 1) := cz_get R (k := 0) (c := 1) (by decide) rfl hx hr rfl (by decide)
theorem cz_s0_1 (R : cz_N s0 W h) {r : Nat} {x u : Int32} (hx : x = nI r) (hr : r < wz_n W 0) : k_ok (F8_set 225 x 1 u h) (cz_N s0 (wz_up W 0 r 1 u)) := cz_set R (k := 0) (c := 1) (by decide) rfl hx hr rfl (by decide)
theorem cz_r0_1 (R : cz_N s0 W h) {r : Nat} {x u : Int32} (hx : x = nI r) (hr : r < wz_n W 0) : k_ok (F8_raise 225 x 1 u h) (cz_N s0 (wz_up W 0 r 1 (W 0 r 1 + u))) := cz_raise R (k := 0) (c := 1) (by decide) rfl hx hr rfl (by decide)
theorem cz_g0_2 (R : cz_N s0 W h) {r : Nat} {x : Int32} (hx : x = nI r) (hr : r < wz_n W 0) : F8_get 225 x 2 h = some (W 0 r 2) := cz_get R (k := 0) (c := 2) (by decide) rfl hx hr rfl (by decide)
theorem cz_s0_2 (R : cz_N s0 W h) {r : Nat} {x u : Int32} (hx : x = nI r) (hr : r < wz_n W 0) : k_ok (F8_set 225 x 2 u h) (cz_N s0 (wz_up W 0 r 2 u)) := cz_set R (k := 0) (c := 2) (by decide) rfl hx hr rfl (by decide)
theorem cz_r0_2 (R : cz_N s0 W h) {r : Nat} {x u : Int32} (hx : x = nI r) (hr : r < wz_n W 0) : k_ok (F8_raise 225 x 2 u h) (cz_N s0 (wz_up W 0 r 2 (W 0 r 2 + u))) := cz_raise R (k := 0) (c := 2) (by decide) rfl hx hr rfl (by decide)
theorem cz_g0_3 (R : cz_N s0 W h) {r : Nat} {x : Int32} (hx : x = nI r) (hr : r < wz_n W 0) : F8_get 225 x 3 h = some (W 0 r 3) := cz_get R (k := 0) (c := 3) (by decide) rfl hx hr rfl (by decide)
theorem cz_s0_3 (R : cz_N s0 W h) {r : Nat} {x u : Int32} (hx : x = nI r) (hr : r < wz_n W 0) : k_ok (F8_set 225 x 3 u h) (cz_N s0 (wz_up W 0 r 3 u)) := cz_set R (k := 0) (c := 3) (by decide) rfl hx hr rfl (by decide)
theorem cz_r0_3 (R : cz_N s0 W h) {r : Nat} {x u : Int32} (hx : x = nI r) (hr : r < wz_n W 0) : k_ok (F8_raise 225 x 3 u h) (cz_N s0 (wz_up W 0 r 3 (W 0 r 3 + u))) := cz_raise R (k := 0) (c := 3) (by decide) rfl hx hr rfl (by decide)
theorem cz_z0 (R : cz_N s0 W h) : m_gi h 225 6 2 = some (nI (wz_n W 0)) := cz_size R (k := 0) (by decide) rfl
theorem cz_h0 (R : cz_N s0 W h) {x : Int32} : F8_has 225 x h = some (if x < 0 ∨ nI (wz_n W 0) ≤ x then 0 else 1) := cz_has R (k := 0) (by decide) rfl
theorem cz_f0 (R : cz_N s0 W h) : F8_full 225 h = some (if wz_n W 0 < wz_cap 0 then 0 else 1) := cz_full R (k := 0) (by decide) rfl
theorem cz_g1_0 (R : cz_N s0 W h) {r : Nat} {x : Int32} (hx : x = nI r) (hr : r < wz_n W 1) : F8_get 227 x 0 h = some (W 1 r 0) := cz_get R (k := 1) (c := 0) (by decide) rfl hx hr rfl (by decide)
theorem cz_s1_0 (R : cz_N s0 W h) {r : Nat} {x u : Int32} (hx : x = nI r) (hr : r < wz_n W 1) : k_ok (F8_set 227 x 0 u h) (cz_N s0 (wz_up W 1 r 0 u)) := cz_set R (k := 1) (c := 0) (by decide) rfl hx hr rfl (by decide)
theorem cz_r1_0 (R : cz_N s0 W h) {r : Nat} {x u : Int32} (hx : x = nI r) (hr : r < wz_n W 1) : k_ok (F8_raise 227 x 0 u h) (cz_N s0 (wz_up W 1 r 0 (W 1 r 0 + u))) := cz_raise R (k := 1) (c := 0) (by decide) rfl hx hr rfl (by decide)
theorem cz_g1_1 (R : cz_N s0 W h) {r : Nat} {x : Int32} (hx : x = nI r) (hr : r < wz_n W 1) : F8_get 227 x 1 h = some (W 1 r 1) := cz_get R (k := 1) (c := 1) (by decide) rfl hx hr rfl (by decide)
theorem cz_s1_1 (R : cz_N s0 W h) {r : Nat} {x u : Int32} (hx : x = nI r) (hr : r < wz_n W 1) : k_ok (F8_set 227 x 1 u h) (cz_N s0 (wz_up W 1 r 1 u)) := cz_set R (k := 1) (c := 1) (by decide) rfl hx hr rfl (by decide)
theorem cz_r1_1 (R : cz_N s0 W h) {r : Nat} {x u : Int32} (hx : x = nI r) (hr : r < wz_n W 1) : k_ok (F8_raise 227 x 1 u h) (cz_N s0 (wz_up W 1 r 1 (W 1 r 1 + u))) := cz_raise R (k := 1) (c := 1) (by decide) rfl hx hr rfl (by decide)
theorem cz_g1_2 (R : cz_N s0 W h) {r : Nat} {x : Int32} (hx : x = nI r) (hr : r < wz_n W 1) : F8_get 227 x 2 h = some (W 1 r 2) := cz_get R (k := 1) (c := 2) (by decide) rfl hx hr rfl (by decide)
theorem cz_s1_2 (R : cz_N s0 W h) {r : Nat} {x u : Int32} (hx : x = nI r) (hr : r < wz_n W 1) : k_ok (F8_set 227 x 2 u h) (cz_N s0 (wz_up W 1 r 2 u)) := cz_set R (k := 1) (c := 2) (by decide) rfl hx hr rfl (by decide)
theorem cz_r1_2 (R : cz_N s0 W h) {r : Nat} {x u : Int32} (hx : x = nI r) (hr : r < wz_n W 1) : k_ok (F8_raise 227 x 2 u h) (cz_N s0 (wz_up W 1 r 2 (W 1 r 2 + u))) := cz_raise R (k := 1) (c := 2) (by decide) rfl hx hr rfl (by decide)
theorem cz_z1 (R : cz_N s0 W h) : m_gi h 227 6 2 = some (nI (wz_n W 1)) := cz_size R (k := 1) (by decide) rfl
theorem cz_h1 (R : cz_N s0 W h) {x : Int32} : F8_has 227 x h = some (if x < 0 ∨ nI (wz_n W 1) ≤ x then 0 else 1) := cz_has R (k := 1) (by decide) rfl
theorem cz_f1 (R : cz_N s0 W h) : F8_full 227 h = some (if wz_n W 1 < wz_cap 1 then 0 else 1) := cz_full R (k := 1) (by decide) rfl
theorem cz_g2_0 (R : cz_N s0 W h) {r : Nat} {x : Int32} (hx : x = nI r) (hr : r < wz_n W 2) : F8_get 229 x 0 h = some (W 2 r 0) := cz_get R (k := 2) (c := 0) (by decide) rfl hx hr rfl (by decide)
theorem cz_s2_0 (R : cz_N s0 W h) {r : Nat} {x u : Int32} (hx : x = nI r) (hr : r < wz_n W 2) : k_ok (F8_set 229 x 0 u h) (cz_N s0 (wz_up W 2 r 0 u)) := cz_set R (k := 2) (c := 0) (by decide) rfl hx hr rfl (by decide)
theorem cz_r2_0 (R : cz_N s0 W h) {r : Nat} {x u : Int32} (hx : x = nI r) (hr : r < wz_n W 2) : k_ok (F8_raise 229 x 0 u h) (cz_N s0 (wz_up W 2 r 0 (W 2 r 0 + u))) := cz_raise R (k := 2) (c := 0) (by decide) rfl hx hr rfl (by decide)
theorem cz_g2_1 (R : cz_N s0 W h) {r : Nat} {x : Int32} (hx : x = nI r) (hr : r < wz_n W 2) : F8_get 229 x 1 h = some (W 2 r 1) := cz_get R (k := 2) (c := 1) (by decide) rfl hx hr rfl (by decide)
theorem cz_s2_1 (R : cz_N s0 W h) {r : Nat} {x u : Int32} (hx : x = nI r) (hr : r < wz_n W 2) : k_ok (F8_set 229 x 1 u h) (cz_N s0 (wz_up W 2 r 1 u)) := cz_set R (k := 2) (c := 1) (by decide) rfl hx hr rfl (by decide)
theorem cz_r2_1 (R : cz_N s0 W h) {r : Nat} {x u : Int32} (hx : x = nI r) (hr : r < wz_n W 2) : k_ok (F8_raise 229 x 1 u h) (cz_N s0 (wz_up W 2 r 1 (W 2 r 1 + u))) := cz_raise R (k := 2) (c := 1) (by decide) rfl hx hr rfl (by decide)
theorem cz_g2_2 (R : cz_N s0 W h) {r : Nat} {x : Int32} (hx : x = nI r) (hr : r < wz_n W 2) : F8_get 229 x 2 h = some (W 2 r 2) := cz_get R (k := 2) (c := 2) (by decide) rfl hx hr rfl (by decide)
theorem cz_s2_2 (R : cz_N s0 W h) {r : Nat} {x u : Int32} (hx : x = nI r) (hr : r < wz_n W 2) : k_ok (F8_set 229 x 2 u h) (cz_N s0 (wz_up W 2 r 2 u)) := cz_set R (k := 2) (c := 2) (by decide) rfl hx hr rfl (by decide)
theorem cz_r2_2 (R : cz_N s0 W h) {r : Nat} {x u : Int32} (hx : x = nI r) (hr : r < wz_n W 2) : k_ok (F8_raise 229 x 2 u h) (cz_N s0 (wz_up W 2 r 2 (W 2 r 2 + u))) := cz_raise R (k := 2) (c := 2) (by decide) rfl hx hr rfl (by decide)
theorem cz_g2_3 (R : cz_N s0 W h) {r : Nat} {x : Int32} (hx : x = nI r) (hr : r < wz_n W 2) : F8_get 229 x 3 h = some (W 2 r 3) := cz_get R (k := 2) (c := 3) (by decide) rfl hx hr rfl (by decide)
theorem cz_s2_3 (R : cz_N s0 W h) {r : Nat} {x u : Int32} (hx : x = nI r) (hr : r < wz_n W 2) : k_ok (F8_set 229 x 3 u h) (cz_N s0 (wz_up W 2 r 3 u)) := cz_set R (k := 2) (c := 3) (by decide) rfl hx hr rfl (by decide)
theorem cz_r2_3 (R : cz_N s0 W h) {r : Nat} {x u : Int32} (hx : x = nI r) (hr : r < wz_n W 2) : k_ok (F8_raise 229 x 3 u h) (cz_N s0 (wz_up W 2 r 3 (W 2 r 3 + u))) := cz_raise R (k := 2) (c := 3) (by decide) rfl hx hr rfl (by decide)
theorem cz_g2_4 (R : cz_N s0 W h) {r : Nat} {x : Int32} (hx : x = nI r) (hr : r < wz_n W 2) : F8_get 229 x 4 h = some (W 2 r 4) := cz_get R (k := 2) (c := 4) (by decide) rfl hx hr rfl (by decide)
theorem cz_s2_4 (R : cz_N s0 W h) {r : Nat} {x u : Int32} (hx : x = nI r) (hr : r < wz_n W 2) : k_ok (F8_set 229 x 4 u h) (cz_N s0 (wz_up W 2 r 4 u)) := cz_set R (k := 2) (c := 4) (by decide) rfl hx hr rfl (by decide)
theorem cz_r2_4 (R : cz_N s0 W h) {r : Nat} {x u : Int32} (hx : x = nI r) (hr : r < wz_n W 2) : k_ok (F8_raise 229 x 4 u h) (cz_N s0 (wz_up W 2 r 4 (W 2 r 4 + u))) := cz_raise R (k := 2) (c := 4) (by decide) rfl hx hr rfl (by decide)
theorem cz_g2_5 (R : cz_N s0 W h) {r : Nat} {x : Int32} (hx : x = nI r) (hr : r < wz_n W 2) : F8_get 229 x 5 h = some (W 2 r 5) := cz_get R (k := 2) (c := 5) (by decide) rfl hx hr rfl (by decide)
theorem cz_s2_5 (R : cz_N s0 W h) {r : Nat} {x u : Int32} (hx : x = nI r) (hr : r < wz_n W 2) : k_ok (F8_set 229 x 5 u h) (cz_N s0 (wz_up W 2 r 5 u)) := cz_set R (k := 2) (c := 5) (by decide) rfl hx hr rfl (by decide)
theorem cz_r2_5 (R : cz_N s0 W h) {r : Nat} {x u : Int32} (hx : x = nI r) (hr : r < wz_n W 2) : k_ok (F8_raise 229 x 5 u h) (cz_N s0 (wz_up W 2 r 5 (W 2 r 5 + u))) := cz_raise R (k := 2) (c := 5) (by decide) rfl hx hr rfl (by decide)
theorem cz_g2_6 (R : cz_N s0 W h) {r : Nat} {x : Int32} (hx : x = nI r) (hr : r < wz_n W 2) : F8_get 229 x 6 h = some (W 2 r 6) := cz_get R (k := 2) (c := 6) (by decide) rfl hx hr rfl (by decide)
theorem cz_s2_6 (R : cz_N s0 W h) {r : Nat} {x u : Int32} (hx : x = nI r) (hr : r < wz_n W 2) : k_ok (F8_set 229 x 6 u h) (cz_N s0 (wz_up W 2 r 6 u)) := cz_set R (k := 2) (c := 6) (by decide) rfl hx hr rfl (by decide)
theorem cz_r2_6 (R : cz_N s0 W h) {r : Nat} {x u : Int32} (hx : x = nI r) (hr : r < wz_n W 2) : k_ok (F8_raise 229 x 6 u h) (cz_N s0 (wz_up W 2 r 6 (W 2 r 6 + u))) := cz_raise R (k := 2) (c := 6) (by decide) rfl hx hr rfl (by decide)
theorem cz_g2_7 (R : cz_N s0 W h) {r : Nat} {x : Int32} (hx : x = nI r) (hr : r < wz_n W 2) : F8_get 229 x 7 h = some (W 2 r 7) := cz_get R (k := 2) (c := 7) (by decide) rfl hx hr rfl (by decide)
theorem cz_s2_7 (R : cz_N s0 W h) {r : Nat} {x u : Int32} (hx : x = nI r) (hr : r < wz_n W 2) : k_ok (F8_set 229 x 7 u h) (cz_N s0 (wz_up W 2 r 7 u)) := cz_set R (k := 2) (c := 7) (by decide) rfl hx hr rfl (by decide)
theorem cz_r2_7 (R : cz_N s0 W h) {r : Nat} {x u : Int32} (hx : x = nI r) (hr : r < wz_n W 2) : k_ok (F8_raise 229 x 7 u h) (cz_N s0 (wz_up W 2 r 7 (W 2 r 7 + u))) := cz_raise R (k := 2) (c := 7) (by decide) rfl hx hr rfl (by decide)
theorem cz_g2_8 (R : cz_N s0 W h) {r : Nat} {x : Int32} (hx : x = nI r) (hr : r < wz_n W 2) : F8_get 229 x 8 h = some (W 2 r 8) := cz_get R (k := 2) (c := 8) (by decide) rfl hx hr rfl (by decide)
theorem cz_s2_8 (R : cz_N s0 W h) {r : Nat} {x u : Int32} (hx : x = nI r) (hr : r < wz_n W 2) : k_ok (F8_set 229 x 8 u h) (cz_N s0 (wz_up W 2 r 8 u)) := cz_set R (k := 2) (c := 8) (by decide) rfl hx hr rfl (by decide)
theorem cz_r2_8 (R : cz_N s0 W h) {r : Nat} {x u : Int32} (hx : x = nI r) (hr : r < wz_n W 2) : k_ok (F8_raise 229 x 8 u h) (cz_N s0 (wz_up W 2 r 8 (W 2 r 8 + u))) := cz_raise R (k := 2) (c := 8) (by decide) rfl hx hr rfl (by decide)
theorem cz_g2_9 (R : cz_N s0 W h) {r : Nat} {x : Int32} (hx : x = nI r) (hr : r < wz_n W 2) : F8_get 229 x 9 h = some (W 2 r 9) := cz_get R (k := 2) (c := 9) (by decide) rfl hx hr rfl (by decide)
theorem cz_s2_9 (R : cz_N s0 W h) {r : Nat} {x u : Int32} (hx : x = nI r) (hr : r < wz_n W 2) : k_ok (F8_set 229 x 9 u h) (cz_N s0 (wz_up W 2 r 9 u)) := cz_set R (k := 2) (c := 9) (by decide) rfl hx hr rfl (by decide)
theorem cz_r2_9 (R : cz_N s0 W h) {r : Nat} {x u : Int32} (hx : x = nI r) (hr : r < wz_n W 2) : k_ok (F8_raise 229 x 9 u h) (cz_N s0 (wz_up W 2 r 9 (W 2 r 9 + u))) := cz_raise R (k := 2) (c := 9) (by decide) rfl hx hr rfl (by decide)
theorem cz_g2_10 (R : cz_N s0 W h) {r : Nat} {x : Int32} (hx : x = nI r) (hr : r < wz_n W 2) : F8_get 229 x 10 h = some (W 2 r 10) := cz_get R (k := 2) (c := 10) (by decide) rfl hx hr rfl (by decide)
theorem cz_s2_10 (R : cz_N s0 W h) {r : Nat} {x u : Int32} (hx : x = nI r) (hr : r < wz_n W 2) : k_ok (F8_set 229 x 10 u h) (cz_N s0 (wz_up W 2 r 10 u)) := cz_set R (k := 2) (c := 10) (by decide) rfl hx hr rfl (by decide)
theorem cz_r2_10 (R : cz_N s0 W h) {r : Nat} {x u : Int32} (hx : x = nI r) (hr : r < wz_n W 2) : k_ok (F8_raise 229 x 10 u h) (cz_N s0 (wz_up W 2 r 10 (W 2 r 10 + u))) := cz_raise R (k := 2) (c := 10) (by decide) rfl hx hr rfl (by decide)
theorem cz_g2_11 (R : cz_N s0 W h) {r : Nat} {x : Int32} (hx : x = nI r) (hr : r < wz_n W 2) : F8_get 229 x 11 h = some (W 2 r 11) := cz_get R (k := 2) (c := 11) (by decide) rfl hx hr rfl (by decide)
theorem cz_s2_11 (R : cz_N s0 W h) {r : Nat} {x u : Int32} (hx : x = nI r) (hr : r < wz_n W 2) : k_ok (F8_set 229 x 11 u h) (cz_N s0 (wz_up W 2 r 11 u)) := cz_set R (k := 2) (c := 11) (by decide) rfl hx hr rfl (by decide)
theorem cz_r2_11 (R : cz_N s0 W h) {r : Nat} {x u : Int32} (hx : x = nI r) (hr : r < wz_n W 2) : k_ok (F8_raise 229 x 11 u h) (cz_N s0 (wz_up W 2 r 11 (W 2 r 11 + u))) := cz_raise R (k := 2) (c := 11) (by decide) rfl hx hr rfl (by decide)
theorem cz_g2_12 (R : cz_N s0 W h) {r : Nat} {x : Int32} (hx : x = nI r) (hr : r < wz_n W 2) : F8_get 229 x 12 h = some (W 2 r 12) := cz_get R (k := 2) (c := 12) (by decide) rfl hx hr rfl (by decide)
theorem cz_s2_12 (R : cz_N s0 W h) {r : Nat} {x u : Int32} (hx : x = nI r) (hr : r < wz_n W 2) : k_ok (F8_set 229 x 12 u h) (cz_N s0 (wz_up W 2 r 12 u)) := cz_set R (k := 2) (c := 12) (by decide) rfl hx hr rfl (by decide)
theorem cz_r2_12 (R : cz_N s0 W h) {r : Nat} {x u : Int32} (hx : x = nI r) (hr : r < wz_n W 2) : k_ok (F8_raise 229 x 12 u h) (cz_N s0 (wz_up W 2 r 12 (W 2 r 12 + u))) := cz_raise R (k := 2) (c := 12) (by decide) rfl hx hr rfl (by decide)
theorem cz_g2_13 (R : cz_N s0 W h) {r : Nat} {x : Int32} (hx : x = nI r) (hr : r < wz_n W 2) : F8_get 229 x 13 h = some (W 2 r 13) := cz_get R (k := 2) (c := 13) (by decide) rfl hx hr rfl (by decide)
theorem cz_s2_13 (R : cz_N s0 W h) {r : Nat} {x u : Int32} (hx : x = nI r) (hr : r < wz_n W 2) : k_ok (F8_set 229 x 13 u h) (cz_N s0 (wz_up W 2 r 13 u)) := cz_set R (k := 2) (c := 13) (by decide) rfl hx hr rfl (by decide)
theorem cz_r2_13 (R : cz_N s0 W h) {r : Nat} {x u : Int32} (hx : x = nI r) (hr : r < wz_n W 2) : k_ok (F8_raise 229 x 13 u h) (cz_N s0 (wz_up W 2 r 13 (W 2 r 13 + u))) := cz_raise R (k := 2) (c := 13) (by decide) rfl hx hr rfl (by decide)
theorem cz_g2_14 (R : cz_N s0 W h) {r : Nat} {x : Int32} (hx : x = nI r) (hr : r < wz_n W 2) : F8_get 229 x 14 h = some (W 2 r 14) := cz_get R (k := 2) (c := 14) (by decide) rfl hx hr rfl (by decide)
theorem cz_s2_14 (R : cz_N s0 W h) {r : Nat} {x u : Int32} (hx : x = nI r) (hr : r < wz_n W 2) : k_ok (F8_set 229 x 14 u h) (cz_N s0 (wz_up W 2 r 14 u)) := cz_set R (k := 2) (c := 14) (by decide) rfl hx hr rfl (by decide)
theorem cz_r2_14 (R : cz_N s0 W h) {r : Nat} {x u : Int32} (hx : x = nI r) (hr : r < wz_n W 2) : k_ok (F8_raise 229 x 14 u h) (cz_N s0 (wz_up W 2 r 14 (W 2 r 14 + u))) := cz_raise R (k := 2) (c := 14) (by decide) rfl hx hr rfl (by decide)
theorem cz_g2_15 (R : cz_N s0 W h) {r : Nat} {x : Int32} (hx : x = nI r) (hr : r < wz_n W 2) : F8_get 229 x 15 h = some (W 2 r 15) := cz_get R (k := 2) (c := 15) (by decide) rfl hx hr rfl (by decide)
theorem cz_s2_15 (R : cz_N s0 W h) {r : Nat} {x u : Int32} (hx : x = nI r) (hr : r < wz_n W 2) : k_ok (F8_set 229 x 15 u h) (cz_N s0 (wz_up W 2 r 15 u)) := cz_set R (k := 2) (c := 15) (by decide) rfl hx hr rfl (by decide)
theorem cz_r2_15 (R : cz_N s0 W h) {r : Nat} {x u : Int32} (hx : x = nI r) (hr : r < wz_n W 2) : k_ok (F8_raise 229 x 15 u h) (cz_N s0 (wz_up W 2 r 15 (W 2 r 15 + u))) := cz_raise R (k := 2) (c := 15) (by decide) rfl hx hr rfl (by decide)
theorem cz_g2_16 (R : cz_N s0 W h) {r : Nat} {x : Int32} (hx : x = nI r) (hr : r < wz_n W 2) : F8_get 229 x 16 h = some (W 2 r 16) := cz_get R (k := 2) (c := 16) (by decide) rfl hx hr rfl (by decide)
theorem cz_s2_16 (R : cz_N s0 W h) {r : Nat} {x u : Int32} (hx : x = nI r) (hr : r < wz_n W 2) : k_ok (F8_set 229 x 16 u h) (cz_N s0 (wz_up W 2 r 16 u)) := cz_set R (k := 2) (c := 16) (by decide) rfl hx hr rfl (by decide)
theorem cz_r2_16 (R : cz_N s0 W h) {r : Nat} {x u : Int32} (hx : x = nI r) (hr : r < wz_n W 2) : k_ok (F8_raise 229 x 16 u h) (cz_N s0 (wz_up W 2 r 16 (W 2 r 16 + u))) := cz_raise R (k := 2) (c := 16) (by decide) rfl hx hr rfl (by decide)
theorem cz_g2_17 (R : cz_N s0 W h) {r : Nat} {x : Int32} (hx : x = nI r) (hr : r < wz_n W 2) : F8_get 229 x 17 h = some (W 2 r 17) := cz_get R (k := 2) (c := 17) (by decide) rfl hx hr rfl (by decide)
theorem cz_s2_17 (R : cz_N s0 W h) {r : Nat} {x u : Int32} (hx : x = nI r) (hr : r < wz_n W 2) : k_ok (F8_set 229 x 17 u h) (cz_N s0 (wz_up W 2 r 17 u)) := cz_set R (k := 2) (c := 17) (by decide) rfl hx hr rfl (by decide)
theorem cz_r2_17 (R : cz_N s0 W h) {r : Nat} {x u : Int32} (hx : x = nI r) (hr : r < wz_n W 2) : k_ok (F8_raise 229 x 17 u h) (cz_N s0 (wz_up W 2 r 17 (W 2 r 17 + u))) := cz_raise R (k := 2) (c := 17) (by decide) rfl hx hr rfl (by decide)
theorem cz_g2_18 (R : cz_N s0 W h) {r : Nat} {x : Int32} (hx : x = nI r) (hr : r < wz_n W 2) : F8_get 229 x 18 h = some (W 2 r 18) := cz_get R (k := 2) (c := 18) (by decide) rfl hx hr rfl (by decide)
theorem cz_s2_18 (R : cz_N s0 W h) {r : Nat} {x u : Int32} (hx : x = nI r) (hr : r < wz_n W 2) : k_ok (F8_set 229 x 18 u h) (cz_N s0 (wz_up W 2 r 18 u)) := cz_set R (k := 2) (c := 18) (by decide) rfl hx hr rfl (by decide)
theorem cz_r2_18 (R : cz_N s0 W h) {r : Nat} {x u : Int32} (hx : x = nI r) (hr : r < wz_n W 2) : k_ok (F8_raise 229 x 18 u h) (cz_N s0 (wz_up W 2 r 18 (W 2 r 18 + u))) := cz_raise R (k := 2) (c := 18) (by decide) rfl hx hr rfl (by decide)
theorem cz_g2_19 (R : cz_N s0 W h) {r : Nat} {x : Int32} (hx : x = nI r) (hr : r < wz_n W 2) : F8_get 229 x 19 h = some (W 2 r 20) := cz_get R (k := 2) (c := 19) (by decide) rfl hx hr rfl (by decide)
theorem cz_s2_19 (R : cz_N s0 W h) {r : Nat} {x u : Int32} (hx : x = nI r) (hr : r < wz_n W 2) : k_ok (F8_set 229 x 19 u h) (cz_N s0 (wz_up W 2 r 20 u)) := cz_set R (k := 2) (c := 19) (by decide) rfl hx hr rfl (by decide)
theorem cz_r2_19 (R : cz_N s0 W h) {r : Nat} {x u : Int32} (hx : x = nI r) (hr : r < wz_n W 2) : k_ok (F8_raise 229 x 19 u h) (cz_N s0 (wz_up W 2 r 20 (W 2 r 20 + u))) := cz_raise R (k := 2) (c := 19) (by decide) rfl hx hr rfl (by decide)
theorem cz_g2_20 (R : cz_N s0 W h) {r : Nat} {x : Int32} (hx : x = nI r) (hr : r < wz_n W 2) : F8_get 229 x 20 h = some (W 2 r 19) := cz_get R (k := 2) (c := 20) (by decide) rfl hx hr rfl (by decide)
theorem cz_s2_20 (R : cz_N s0 W h) {r : Nat} {x u : Int32} (hx : x = nI r) (hr : r < wz_n W 2) : k_ok (F8_set 229 x 20 u h) (cz_N s0 (wz_up W 2 r 19 u)) := cz_set R (k := 2) (c := 20) (by decide) rfl hx hr rfl (by decide)
theorem cz_r2_20 (R : cz_N s0 W h) {r : Nat} {x u : Int32} (hx : x = nI r) (hr : r < wz_n W 2) : k_ok (F8_raise 229 x 20 u h) (cz_N s0 (wz_up W 2 r 19 (W 2 r 19 + u))) := cz_raise R (k := 2) (c := 20) (by decide) rfl hx hr rfl (by decide)
theorem cz_z2 (R : cz_N s0 W h) : m_gi h 229 6 2 = some (nI (wz_n W 2)) := cz_size R (k := 2) (by decide) rfl
theorem cz_h2 (R : cz_N s0 W h) {x : Int32} : F8_has 229 x h = some (if x < 0 ∨ nI (wz_n W 2) ≤ x then 0 else 1) := cz_has R (k := 2) (by decide) rfl
theorem cz_f2 (R : cz_N s0 W h) : F8_full 229 h = some (if wz_n W 2 < wz_cap 2 then 0 else 1) := cz_full R (k := 2) (by decide) rfl
theorem cz_g3_0 (R : cz_N s0 W h) {r : Nat} {x : Int32} (hx : x = nI r) (hr : r < wz_n W 3) : F8_get 231 x 0 h = some (W 3 r 0) := cz_get R (k := 3) (c := 0) (by decide) rfl hx hr rfl (by decide)
theorem cz_s3_0 (R : cz_N s0 W h) {r : Nat} {x u : Int32} (hx : x = nI r) (hr : r < wz_n W 3) : k_ok (F8_set 231 x 0 u h) (cz_N s0 (wz_up W 3 r 0 u)) := cz_set R (k := 3) (c := 0) (by decide) rfl hx hr rfl (by decide)
theorem cz_r3_0 (R : cz_N s0 W h) {r : Nat} {x u : Int32} (hx : x = nI r) (hr : r < wz_n W 3) : k_ok (F8_raise 231 x 0 u h) (cz_N s0 (wz_up W 3 r 0 (W 3 r 0 + u))) := cz_raise R (k := 3) (c := 0) (by decide) rfl hx hr rfl (by decide)
theorem cz_g3_1 (R : cz_N s0 W h) {r : Nat} {x : Int32} (hx : x = nI r) (hr : r < wz_n W 3) : F8_get 231 x 1 h = some (W 3 r 1) := cz_get R (k := 3) (c := 1) (by decide) rfl hx hr rfl (by decide)
theorem cz_s3_1 (R : cz_N s0 W h) {r : Nat} {x u : Int32} (hx : x = nI r) (hr : r < wz_n W 3) : k_ok (F8_set 231 x 1 u h) (cz_N s0 (wz_up W 3 r 1 u)) := cz_set R (k := 3) (c := 1) (by decide) rfl hx hr rfl (by decide)
theorem cz_r3_1 (R : cz_N s0 W h) {r : Nat} {x u : Int32} (hx : x = nI r) (hr : r < wz_n W 3) : k_ok (F8_raise 231 x 1 u h) (cz_N s0 (wz_up W 3 r 1 (W 3 r 1 + u))) := cz_raise R (k := 3) (c := 1) (by decide) rfl hx hr rfl (by decide)
theorem cz_g3_2 (R : cz_N s0 W h) {r : Nat} {x : Int32} (hx : x = nI r) (hr : r < wz_n W 3) : F8_get 231 x 2 h = some (W 3 r 2) := cz_get R (k := 3) (c := 2) (by decide) rfl hx hr rfl (by decide)
theorem cz_s3_2 (R : cz_N s0 W h) {r : Nat} {x u : Int32} (hx : x = nI r) (hr : r < wz_n W 3) : k_ok (F8_set 231 x 2 u h) (cz_N s0 (wz_up W 3 r 2 u)) := cz_set R (k := 3) (c := 2) (by decide) rfl hx hr rfl (by decide)
theorem cz_r3_2 (R : cz_N s0 W h) {r : Nat} {x u : Int32} (hx : x = nI r) (hr : r < wz_n W 3) : k_ok (F8_raise 231 x 2 u h) (cz_N s0 (wz_up W 3 r 2 (W 3 r 2 + u))) := cz_raise R (k := 3) (c := 2) (by decide) rfl hx hr rfl (by decide)
theorem cz_g3_3 (R : cz_N s0 W h) {r : Nat} {x : Int32} (hx : x = nI r) (hr : r < wz_n W 3) : F8_get 231 x 3 h = some (W 3 r 3) := cz_get R (k := 3) (c := 3) (by decide) rfl hx hr rfl (by decide)
theorem cz_s3_3 (R : cz_N s0 W h) {r : Nat} {x u : Int32} (hx : x = nI r) (hr : r < wz_n W 3) : k_ok (F8_set 231 x 3 u h) (cz_N s0 (wz_up W 3 r 3 u)) := cz_set R (k := 3) (c := 3) (by decide) rfl hx hr rfl (by decide)
theorem cz_r3_3 (R : cz_N s0 W h) {r : Nat} {x u : Int32} (hx : x = nI r) (hr : r < wz_n W 3) : k_ok (F8_raise 231 x 3 u h) (cz_N s0 (wz_up W 3 r 3 (W 3 r 3 + u))) := cz_raise R (k := 3) (c := 3) (by decide) rfl hx hr rfl (by decide)
theorem cz_g3_4 (R : cz_N s0 W h) {r : Nat} {x : Int32} (hx : x = nI r) (hr : r < wz_n W 3) : F8_get 231 x 4 h = some (W 3 r 4) := cz_get R (k := 3) (c := 4) (by decide) rfl hx hr rfl (by decide)
theorem cz_s3_4 (R : cz_N s0 W h) {r : Nat} {x u : Int32} (hx : x = nI r) (hr : r < wz_n W 3) : k_ok (F8_set 231 x 4 u h) (cz_N s0 (wz_up W 3 r 4 u)) := cz_set R (k := 3) (c := 4) (by decide) rfl hx hr rfl (by decide)
theorem cz_r3_4 (R : cz_N s0 W h) {r : Nat} {x u : Int32} (hx : x = nI r) (hr : r < wz_n W 3) : k_ok (F8_raise 231 x 4 u h) (cz_N s0 (wz_up W 3 r 4 (W 3 r 4 + u))) := cz_raise R (k := 3) (c := 4) (by decide) rfl hx hr rfl (by decide)
theorem cz_z3 (R : cz_N s0 W h) : m_gi h 231 6 2 = some (nI (wz_n W 3)) := cz_size R (k := 3) (by decide) rfl
theorem cz_h3 (R : cz_N s0 W h) {x : Int32} : F8_has 231 x h = some (if x < 0 ∨ nI (wz_n W 3) ≤ x then 0 else 1) := cz_has R (k := 3) (by decide) rfl
theorem cz_f3 (R : cz_N s0 W h) : F8_full 231 h = some (if wz_n W 3 < wz_cap 3 then 0 else 1) := cz_full R (k := 3) (by decide) rfl
theorem cz_g4_0 (R : cz_N s0 W h) {r : Nat} {x : Int32} (hx : x = nI r) (hr : r < wz_n W 4) : F8_get 233 x 0 h = some (W 4 r 0) := cz_get R (k := 4) (c := 0) (by decide) rfl hx hr rfl (by decide)
theorem cz_s4_0 (R : cz_N s0 W h) {r : Nat} {x u : Int32} (hx : x = nI r) (hr : r < wz_n W 4) : k_ok (F8_set 233 x 0 u h) (cz_N s0 (wz_up W 4 r 0 u)) := cz_set R (k := 4) (c := 0) (by decide) rfl hx hr rfl (by decide)
theorem cz_r4_0 (R : cz_N s0 W h) {r : Nat} {x u : Int32} (hx : x = nI r) (hr : r < wz_n W 4) : k_ok (F8_raise 233 x 0 u h) (cz_N s0 (wz_up W 4 r 0 (W 4 r 0 + u))) := cz_raise R (k := 4) (c := 0) (by decide) rfl hx hr rfl (by decide)
theorem cz_g4_1 (R : cz_N s0 W h) {r : Nat} {x : Int32} (hx : x = nI r) (hr : r < wz_n W 4) : F8_get 233 x 1 h = some (W 4 r 1) := cz_get R (k := 4) (c := 1) (by decide) rfl hx hr rfl (by decide)
theorem cz_s4_1 (R : cz_N s0 W h) {r : Nat} {x u : Int32} (hx : x = nI r) (hr : r < wz_n W 4) : k_ok (F8_set 233 x 1 u h) (cz_N s0 (wz_up W 4 r 1 u)) := cz_set R (k := 4) (c := 1) (by decide) rfl hx hr rfl (by decide)
theorem cz_r4_1 (R : cz_N s0 W h) {r : Nat} {x u : Int32} (hx : x = nI r) (hr : r < wz_n W 4) : k_ok (F8_raise 233 x 1 u h) (cz_N s0 (wz_up W 4 r 1 (W 4 r 1 + u))) := cz_raise R (k := 4) (c := 1) (by decide) rfl hx hr rfl (by decide)
theorem cz_g4_2 (R : cz_N s0 W h) {r : Nat} {x : Int32} (hx : x = nI r) (hr : r < wz_n W 4) : F8_get 233 x 2 h = some (W 4 r 2) := cz_get R (k := 4) (c := 2) (by decide) rfl hx hr rfl (by decide)
theorem cz_s4_2 (R : cz_N s0 W h) {r : Nat} {x u : Int32} (hx : x = nI r) (hr : r < wz_n W 4) : k_ok (F8_set 233 x 2 u h) (cz_N s0 (wz_up W 4 r 2 u)) := cz_set R (k := 4) (c := 2) (by decide) rfl hx hr rfl (by decide)
theorem cz_r4_2 (R : cz_N s0 W h) {r : Nat} {x u : Int32} (hx : x = nI r) (hr : r < wz_n W 4) : k_ok (F8_raise 233 x 2 u h) (cz_N s0 (wz_up W 4 r 2 (W 4 r 2 + u))) := cz_raise R (k := 4) (c := 2) (by decide) rfl hx hr rfl (by decide)
theorem cz_g4_3 (R : cz_N s0 W h) {r : Nat} {x : Int32} (hx : x = nI r) (hr : r < wz_n W 4) : F8_get 233 x 3 h = some (W 4 r 3) := cz_get R (k := 4) (c := 3) (by decide) rfl hx hr rfl (by decide)
theorem cz_s4_3 (R : cz_N s0 W h) {r : Nat} {x u : Int32} (hx : x = nI r) (hr : r < wz_n W 4) : k_ok (F8_set 233 x 3 u h) (cz_N s0 (wz_up W 4 r 3 u)) := cz_set R (k := 4) (c := 3) (by decide) rfl hx hr rfl (by decide)
theorem cz_r4_3 (R : cz_N s0 W h) {r : Nat} {x u : Int32} (hx : x = nI r) (hr : r < wz_n W 4) : k_ok (F8_raise 233 x 3 u h) (cz_N s0 (wz_up W 4 r 3 (W 4 r 3 + u))) := cz_raise R (k := 4) (c := 3) (by decide) rfl hx hr rfl (by decide)
theorem cz_g4_4 (R : cz_N s0 W h) {r : Nat} {x : Int32} (hx : x = nI r) (hr : r < wz_n W 4) : F8_get 233 x 4 h = some (W 4 r 4) := cz_get R (k := 4) (c := 4) (by decide) rfl hx hr rfl (by decide)
theorem cz_s4_4 (R : cz_N s0 W h) {r : Nat} {x u : Int32} (hx : x = nI r) (hr : r < wz_n W 4) : k_ok (F8_set 233 x 4 u h) (cz_N s0 (wz_up W 4 r 4 u)) := cz_set R (k := 4) (c := 4) (by decide) rfl hx hr rfl (by decide)
theorem cz_r4_4 (R : cz_N s0 W h) {r : Nat} {x u : Int32} (hx : x = nI r) (hr : r < wz_n W 4) : k_ok (F8_raise 233 x 4 u h) (cz_N s0 (wz_up W 4 r 4 (W 4 r 4 + u))) := cz_raise R (k := 4) (c := 4) (by decide) rfl hx hr rfl (by decide)
theorem cz_g4_5 (R : cz_N s0 W h) {r : Nat} {x : Int32} (hx : x = nI r) (hr : r < wz_n W 4) : F8_get 233 x 5 h = some (W 4 r 5) := cz_get R (k := 4) (c := 5) (by decide) rfl hx hr rfl (by decide)
theorem cz_s4_5 (R : cz_N s0 W h) {r : Nat} {x u : Int32} (hx : x = nI r) (hr : r < wz_n W 4) : k_ok (F8_set 233 x 5 u h) (cz_N s0 (wz_up W 4 r 5 u)) := cz_set R (k := 4) (c := 5) (by decide) rfl hx hr rfl (by decide)
theorem cz_r4_5 (R : cz_N s0 W h) {r : Nat} {x u : Int32} (hx : x = nI r) (hr : r < wz_n W 4) : k_ok (F8_raise 233 x 5 u h) (cz_N s0 (wz_up W 4 r 5 (W 4 r 5 + u))) := cz_raise R (k := 4) (c := 5) (by decide) rfl hx hr rfl (by decide)
theorem cz_g4_6 (R : cz_N s0 W h) {r : Nat} {x : Int32} (hx : x = nI r) (hr : r < wz_n W 4) : F8_get 233 x 6 h = some (W 4 r 6) := cz_get R (k := 4) (c := 6) (by decide) rfl hx hr rfl (by decide)
theorem cz_s4_6 (R : cz_N s0 W h) {r : Nat} {x u : Int32} (hx : x = nI r) (hr : r < wz_n W 4) : k_ok (F8_set 233 x 6 u h) (cz_N s0 (wz_up W 4 r 6 u)) := cz_set R (k := 4) (c := 6) (by decide) rfl hx hr rfl (by decide)
theorem cz_r4_6 (R : cz_N s0 W h) {r : Nat} {x u : Int32} (hx : x = nI r) (hr : r < wz_n W 4) : k_ok (F8_raise 233 x 6 u h) (cz_N s0 (wz_up W 4 r 6 (W 4 r 6 + u))) := cz_raise R (k := 4) (c := 6) (by decide) rfl hx hr rfl (by decide)
theorem cz_g4_7 (R : cz_N s0 W h) {r : Nat} {x : Int32} (hx : x = nI r) (hr : r < wz_n W 4) : F8_get 233 x 7 h = some (W 4 r 7) := cz_get R (k := 4) (c := 7) (by decide) rfl hx hr rfl (by decide)
theorem cz_s4_7 (R : cz_N s0 W h) {r : Nat} {x u : Int32} (hx : x = nI r) (hr : r < wz_n W 4) : k_ok (F8_set 233 x 7 u h) (cz_N s0 (wz_up W 4 r 7 u)) := cz_set R (k := 4) (c := 7) (by decide) rfl hx hr rfl (by decide)
theorem cz_r4_7 (R : cz_N s0 W h) {r : Nat} {x u : Int32} (hx : x = nI r) (hr : r < wz_n W 4) : k_ok (F8_raise 233 x 7 u h) (cz_N s0 (wz_up W 4 r 7 (W 4 r 7 + u))) := cz_raise R (k := 4) (c := 7) (by decide) rfl hx hr rfl (by decide)
theorem cz_g4_8 (R : cz_N s0 W h) {r : Nat} {x : Int32} (hx : x = nI r) (hr : r < wz_n W 4) : F8_get 233 x 8 h = some (W 4 r 8) := cz_get R (k := 4) (c := 8) (by decide) rfl hx hr rfl (by decide)
theorem cz_s4_8 (R : cz_N s0 W h) {r : Nat} {x u : Int32} (hx : x = nI r) (hr : r < wz_n W 4) : k_ok (F8_set 233 x 8 u h) (cz_N s0 (wz_up W 4 r 8 u)) := cz_set R (k := 4) (c := 8) (by decide) rfl hx hr rfl (by decide)
theorem cz_r4_8 (R : cz_N s0 W h) {r : Nat} {x u : Int32} (hx : x = nI r) (hr : r < wz_n W 4) : k_ok (F8_raise 233 x 8 u h) (cz_N s0 (wz_up W 4 r 8 (W 4 r 8 + u))) := cz_raise R (k := 4) (c := 8) (by decide) rfl hx hr rfl (by decide)
theorem cz_g4_9 (R : cz_N s0 W h) {r : Nat} {x : Int32} (hx : x = nI r) (hr : r < wz_n W 4) : F8_get 233 x 9 h = some (W 4 r 9) := cz_get R (k := 4) (c := 9) (by decide) rfl hx hr rfl (by decide)
theorem cz_s4_9 (R : cz_N s0 W h) {r : Nat} {x u : Int32} (hx : x = nI r) (hr : r < wz_n W 4) : k_ok (F8_set 233 x 9 u h) (cz_N s0 (wz_up W 4 r 9 u)) := cz_set R (k := 4) (c := 9) (by decide) rfl hx hr rfl (by decide)
theorem cz_r4_9 (R : cz_N s0 W h) {r : Nat} {x u : Int32} (hx : x = nI r) (hr : r < wz_n W 4) : k_ok (F8_raise 233 x 9 u h) (cz_N s0 (wz_up W 4 r 9 (W 4 r 9 + u))) := cz_raise R (k := 4) (c := 9) (by decide) rfl hx hr rfl (by decide)
theorem cz_g4_10 (R : cz_N s0 W h) {r : Nat} {x : Int32} (hx : x = nI r) (hr : r < wz_n W 4) : F8_get 233 x 10 h = some (W 4 r 10) := cz_get R (k := 4) (c := 10) (by decide) rfl hx hr rfl (by decide)
theorem cz_s4_10 (R : cz_N s0 W h) {r : Nat} {x u : Int32} (hx : x = nI r) (hr : r < wz_n W 4) : k_ok (F8_set 233 x 10 u h) (cz_N s0 (wz_up W 4 r 10 u)) := cz_set R (k := 4) (c := 10) (by decide) rfl hx hr rfl (by decide)
theorem cz_r4_10 (R : cz_N s0 W h) {r : Nat} {x u : Int32} (hx : x = nI r) (hr : r < wz_n W 4) : k_ok (F8_raise 233 x 10 u h) (cz_N s0 (wz_up W 4 r 10 (W 4 r 10 + u))) := cz_raise R (k := 4) (c := 10) (by decide) rfl hx hr rfl (by decide)
theorem cz_g4_11 (R : cz_N s0 W h) {r : Nat} {x : Int32} (hx : x = nI r) (hr : r < wz_n W 4) : F8_get 233 x 11 h = some (W 4 r 11) := cz_get R (k := 4) (c := 11) (by decide) rfl hx hr rfl (by decide)
theorem cz_s4_11 (R : cz_N s0 W h) {r : Nat} {x u : Int32} (hx : x = nI r) (hr : r < wz_n W 4) : k_ok (F8_set 233 x 11 u h) (cz_N s0 (wz_up W 4 r 11 u)) := cz_set R (k := 4) (c := 11) (by decide) rfl hx hr rfl (by decide)
theorem cz_r4_11 (R : cz_N s0 W h) {r : Nat} {x u : Int32} (hx : x = nI r) (hr : r < wz_n W 4) : k_ok (F8_raise 233 x 11 u h) (cz_N s0 (wz_up W 4 r 11 (W 4 r 11 + u))) := cz_raise R (k := 4) (c := 11) (by decide) rfl hx hr rfl (by decide)
theorem cz_g4_12 (R : cz_N s0 W h) {r : Nat} {x : Int32} (hx : x = nI r) (hr : r < wz_n W 4) : F8_get 233 x 12 h = some (W 4 r 12) := cz_get R (k := 4) (c := 12) (by decide) rfl hx hr rfl (by decide)
theorem cz_s4_12 (R : cz_N s0 W h) {r : Nat} {x u : Int32} (hx : x = nI r) (hr : r < wz_n W 4) : k_ok (F8_set 233 x 12 u h) (cz_N s0 (wz_up W 4 r 12 u)) := cz_set R (k := 4) (c := 12) (by decide) rfl hx hr rfl (by decide)
theorem cz_r4_12 (R : cz_N s0 W h) {r : Nat} {x u : Int32} (hx : x = nI r) (hr : r < wz_n W 4) : k_ok (F8_raise 233 x 12 u h) (cz_N s0 (wz_up W 4 r 12 (W 4 r 12 + u))) := cz_raise R (k := 4) (c := 12) (by decide) rfl hx hr rfl (by decide)
theorem cz_g4_13 (R : cz_N s0 W h) {r : Nat} {x : Int32} (hx : x = nI r) (hr : r < wz_n W 4) : F8_get 233 x 13 h = some (W 4 r 13) := cz_get R (k := 4) (c := 13) (by decide) rfl hx hr rfl (by decide)
theorem cz_s4_13 (R : cz_N s0 W h) {r : Nat} {x u : Int32} (hx : x = nI r) (hr : r < wz_n W 4) : k_ok (F8_set 233 x 13 u h) (cz_N s0 (wz_up W 4 r 13 u)) := cz_set R (k := 4) (c := 13) (by decide) rfl hx hr rfl (by decide)
theorem cz_r4_13 (R : cz_N s0 W h) {r : Nat} {x u : Int32} (hx : x = nI r) (hr : r < wz_n W 4) : k_ok (F8_raise 233 x 13 u h) (cz_N s0 (wz_up W 4 r 13 (W 4 r 13 + u))) := cz_raise R (k := 4) (c := 13) (by decide) rfl hx hr rfl (by decide)
theorem cz_g4_14 (R : cz_N s0 W h) {r : Nat} {x : Int32} (hx : x = nI r) (hr : r < wz_n W 4) : F8_get 233 x 14 h = some (W 4 r 14) := cz_get R (k := 4) (c := 14) (by decide) rfl hx hr rfl (by decide)
theorem cz_s4_14 (R : cz_N s0 W h) {r : Nat} {x u : Int32} (hx : x = nI r) (hr : r < wz_n W 4) : k_ok (F8_set 233 x 14 u h) (cz_N s0 (wz_up W 4 r 14 u)) := cz_set R (k := 4) (c := 14) (by decide) rfl hx hr rfl (by decide)
theorem cz_r4_14 (R : cz_N s0 W h) {r : Nat} {x u : Int32} (hx : x = nI r) (hr : r < wz_n W 4) : k_ok (F8_raise 233 x 14 u h) (cz_N s0 (wz_up W 4 r 14 (W 4 r 14 + u))) := cz_raise R (k := 4) (c := 14) (by decide) rfl hx hr rfl (by decide)
theorem cz_g4_15 (R : cz_N s0 W h) {r : Nat} {x : Int32} (hx : x = nI r) (hr : r < wz_n W 4) : F8_get 233 x 15 h = some (W 4 r 15) := cz_get R (k := 4) (c := 15) (by decide) rfl hx hr rfl (by decide)
theorem cz_s4_15 (R : cz_N s0 W h) {r : Nat} {x u : Int32} (hx : x = nI r) (hr : r < wz_n W 4) : k_ok (F8_set 233 x 15 u h) (cz_N s0 (wz_up W 4 r 15 u)) := cz_set R (k := 4) (c := 15) (by decide) rfl hx hr rfl (by decide)
theorem cz_r4_15 (R : cz_N s0 W h) {r : Nat} {x u : Int32} (hx : x = nI r) (hr : r < wz_n W 4) : k_ok (F8_raise 233 x 15 u h) (cz_N s0 (wz_up W 4 r 15 (W 4 r 15 + u))) := cz_raise R (k := 4) (c := 15) (by decide) rfl hx hr rfl (by decide)
theorem cz_g4_16 (R : cz_N s0 W h) {r : Nat} {x : Int32} (hx : x = nI r) (hr : r < wz_n W 4) : F8_get 233 x 16 h = some (W 4 r 16) := cz_get R (k := 4) (c := 16) (by decide) rfl hx hr rfl (by decide)
theorem cz_s4_16 (R : cz_N s0 W h) {r : Nat} {x u : Int32} (hx : x = nI r) (hr : r < wz_n W 4) : k_ok (F8_set 233 x 16 u h) (cz_N s0 (wz_up W 4 r 16 u)) := cz_set R (k := 4) (c := 16) (by decide) rfl hx hr rfl (by decide)
theorem cz_r4_16 (R : cz_N s0 W h) {r : Nat} {x u : Int32} (hx : x = nI r) (hr : r < wz_n W 4) : k_ok (F8_raise 233 x 16 u h) (cz_N s0 (wz_up W 4 r 16 (W 4 r 16 + u))) := cz_raise R (k := 4) (c := 16) (by decide) rfl hx hr rfl (by decide)
theorem cz_g4_17 (R : cz_N s0 W h) {r : Nat} {x : Int32} (hx : x = nI r) (hr : r < wz_n W 4) : F8_get 233 x 17 h = some (W 4 r 17) := cz_get R (k := 4) (c := 17) (by decide) rfl hx hr rfl (by decide)
theorem cz_s4_17 (R : cz_N s0 W h) {r : Nat} {x u : Int32} (hx : x = nI r) (hr : r < wz_n W 4) : k_ok (F8_set 233 x 17 u h) (cz_N s0 (wz_up W 4 r 17 u)) := cz_set R (k := 4) (c := 17) (by decide) rfl hx hr rfl (by decide)
theorem cz_r4_17 (R : cz_N s0 W h) {r : Nat} {x u : Int32} (hx : x = nI r) (hr : r < wz_n W 4) : k_ok (F8_raise 233 x 17 u h) (cz_N s0 (wz_up W 4 r 17 (W 4 r 17 + u))) := cz_raise R (k := 4) (c := 17) (by decide) rfl hx hr rfl (by decide)
theorem cz_g4_18 (R : cz_N s0 W h) {r : Nat} {x : Int32} (hx : x = nI r) (hr : r < wz_n W 4) : F8_get 233 x 18 h = some (W 4 r 18) := cz_get R (k := 4) (c := 18) (by decide) rfl hx hr rfl (by decide)
theorem cz_s4_18 (R : cz_N s0 W h) {r : Nat} {x u : Int32} (hx : x = nI r) (hr : r < wz_n W 4) : k_ok (F8_set 233 x 18 u h) (cz_N s0 (wz_up W 4 r 18 u)) := cz_set R (k := 4) (c := 18) (by decide) rfl hx hr rfl (by decide)
theorem cz_r4_18 (R : cz_N s0 W h) {r : Nat} {x u : Int32} (hx : x = nI r) (hr : r < wz_n W 4) : k_ok (F8_raise 233 x 18 u h) (cz_N s0 (wz_up W 4 r 18 (W 4 r 18 + u))) := cz_raise R (k := 4) (c := 18) (by decide) rfl hx hr rfl (by decide)
theorem cz_g4_19 (R : cz_N s0 W h) {r : Nat} {x : Int32} (hx : x = nI r) (hr : r < wz_n W 4) : F8_get 233 x 19 h = some (W 4 r 19) := cz_get R (k := 4) (c := 19) (by decide) rfl hx hr rfl (by decide)
theorem cz_s4_19 (R : cz_N s0 W h) {r : Nat} {x u : Int32} (hx : x = nI r) (hr : r < wz_n W 4) : k_ok (F8_set 233 x 19 u h) (cz_N s0 (wz_up W 4 r 19 u)) := cz_set R (k := 4) (c := 19) (by decide) rfl hx hr rfl (by decide)
theorem cz_r4_19 (R : cz_N s0 W h) {r : Nat} {x u : Int32} (hx : x = nI r) (hr : r < wz_n W 4) : k_ok (F8_raise 233 x 19 u h) (cz_N s0 (wz_up W 4 r 19 (W 4 r 19 + u))) := cz_raise R (k := 4) (c := 19) (by decide) rfl hx hr rfl (by decide)
theorem cz_g4_20 (R : cz_N s0 W h) {r : Nat} {x : Int32} (hx : x = nI r) (hr : r < wz_n W 4) : F8_get 233 x 20 h = some (W 4 r 20) := cz_get R (k := 4) (c := 20) (by decide) rfl hx hr rfl (by decide)
theorem cz_s4_20 (R : cz_N s0 W h) {r : Nat} {x u : Int32} (hx : x = nI r) (hr : r < wz_n W 4) : k_ok (F8_set 233 x 20 u h) (cz_N s0 (wz_up W 4 r 20 u)) := cz_set R (k := 4) (c := 20) (by decide) rfl hx hr rfl (by decide)
theorem cz_r4_20 (R : cz_N s0 W h) {r : Nat} {x u : Int32} (hx : x = nI r) (hr : r < wz_n W 4) : k_ok (F8_raise 233 x 20 u h) (cz_N s0 (wz_up W 4 r 20 (W 4 r 20 + u))) := cz_raise R (k := 4) (c := 20) (by decide) rfl hx hr rfl (by decide)
theorem cz_g4_21 (R : cz_N s0 W h) {r : Nat} {x : Int32} (hx : x = nI r) (hr : r < wz_n W 4) : F8_get 233 x 21 h = some (W 4 r 21) := cz_get R (k := 4) (c := 21) (by decide) rfl hx hr rfl (by decide)
theorem cz_s4_21 (R : cz_N s0 W h) {r : Nat} {x u : Int32} (hx : x = nI r) (hr : r < wz_n W 4) : k_ok (F8_set 233 x 21 u h) (cz_N s0 (wz_up W 4 r 21 u)) := cz_set R (k := 4) (c := 21) (by decide) rfl hx hr rfl (by decide)
theorem cz_r4_21 (R : cz_N s0 W h) {r : Nat} {x u : Int32} (hx : x = nI r) (hr : r < wz_n W 4) : k_ok (F8_raise 233 x 21 u h) (cz_N s0 (wz_up W 4 r 21 (W 4 r 21 + u))) := cz_raise R (k := 4) (c := 21) (by decide) rfl hx hr rfl (by decide)
theorem cz_g4_22 (R : cz_N s0 W h) {r : Nat} {x : Int32} (hx : x = nI r) (hr : r < wz_n W 4) : F8_get 233 x 22 h = some (W 4 r 22) := cz_get R (k := 4) (c := 22) (by decide) rfl hx hr rfl (by decide)
theorem cz_s4_22 (R : cz_N s0 W h) {r : Nat} {x u : Int32} (hx : x = nI r) (hr : r < wz_n W 4) : k_ok (F8_set 233 x 22 u h) (cz_N s0 (wz_up W 4 r 22 u)) := cz_set R (k := 4) (c := 22) (by decide) rfl hx hr rfl (by decide)
theorem cz_r4_22 (R : cz_N s0 W h) {r : Nat} {x u : Int32} (hx : x = nI r) (hr : r < wz_n W 4) : k_ok (F8_raise 233 x 22 u h) (cz_N s0 (wz_up W 4 r 22 (W 4 r 22 + u))) := cz_raise R (k := 4) (c := 22) (by decide) rfl hx hr rfl (by decide)
theorem cz_z4 (R : cz_N s0 W h) : m_gi h 233 6 2 = some (nI (wz_n W 4)) := cz_size R (k := 4) (by decide) rfl
theorem cz_h4 (R : cz_N s0 W h) {x : Int32} : F8_has 233 x h = some (if x < 0 ∨ nI (wz_n W 4) ≤ x then 0 else 1) := cz_has R (k := 4) (by decide) rfl
theorem cz_f4 (R : cz_N s0 W h) : F8_full 233 h = some (if wz_n W 4 < wz_cap 4 then 0 else 1) := cz_full R (k := 4) (by decide) rfl
theorem cz_g5_0 (R : cz_N s0 W h) {r : Nat} {x : Int32} (hx : x = nI r) (hr : r < wz_n W 5) : F8_get 235 x 0 h = some (W 5 r 0) := cz_get R (k := 5) (c := 0) (by decide) rfl hx hr rfl (by decide)
theorem cz_s5_0 (R : cz_N s0 W h) {r : Nat} {x u : Int32} (hx : x = nI r) (hr : r < wz_n W 5) : k_ok (F8_set 235 x 0 u h) (cz_N s0 (wz_up W 5 r 0 u)) := cz_set R (k := 5) (c := 0) (by decide) rfl hx hr rfl (by decide)
theorem cz_r5_0 (R : cz_N s0 W h) {r : Nat} {x u : Int32} (hx : x = nI r) (hr : r < wz_n W 5) : k_ok (F8_raise 235 x 0 u h) (cz_N s0 (wz_up W 5 r 0 (W 5 r 0 + u))) := cz_raise R (k := 5) (c := 0) (by decide) rfl hx hr rfl (by decide)
theorem cz_g5_1 (R : cz_N s0 W h) {r : Nat} {x : Int32} (hx : x = nI r) (hr : r < wz_n W 5) : F8_get 235 x 1 h = some (W 5 r 1) := cz_get R (k := 5) (c := 1) (by decide) rfl hx hr rfl (by decide)
theorem cz_s5_1 (R : cz_N s0 W h) {r : Nat} {x u : Int32} (hx : x = nI r) (hr : r < wz_n W 5) : k_ok (F8_set 235 x 1 u h) (cz_N s0 (wz_up W 5 r 1 u)) := cz_set R (k := 5) (c := 1) (by decide) rfl hx hr rfl (by decide)
theorem cz_r5_1 (R : cz_N s0 W h) {r : Nat} {x u : Int32} (hx : x = nI r) (hr : r < wz_n W 5) : k_ok (F8_raise 235 x 1 u h) (cz_N s0 (wz_up W 5 r 1 (W 5 r 1 + u))) := cz_raise R (k := 5) (c := 1) (by decide) rfl hx hr rfl (by decide)
theorem cz_g5_2 (R : cz_N s0 W h) {r : Nat} {x : Int32} (hx : x = nI r) (hr : r < wz_n W 5) : F8_get 235 x 2 h = some (W 5 r 2) := cz_get R (k := 5) (c := 2) (by decide) rfl hx hr rfl (by decide)
theorem cz_s5_2 (R : cz_N s0 W h) {r : Nat} {x u : Int32} (hx : x = nI r) (hr : r < wz_n W 5) : k_ok (F8_set 235 x 2 u h) (cz_N s0 (wz_up W 5 r 2 u)) := cz_set R (k := 5) (c := 2) (by decide) rfl hx hr rfl (by decide)
theorem cz_r5_2 (R : cz_N s0 W h) {r : Nat} {x u : Int32} (hx : x = nI r) (hr : r < wz_n W 5) : k_ok (F8_raise 235 x 2 u h) (cz_N s0 (wz_up W 5 r 2 (W 5 r 2 + u))) := cz_raise R (k := 5) (c := 2) (by decide) rfl hx hr rfl (by decide)
theorem cz_g5_3 (R : cz_N s0 W h) {r : Nat} {x : Int32} (hx : x = nI r) (hr : r < wz_n W 5) : F8_get 235 x 3 h = some (W 5 r 3) := cz_get R (k := 5) (c := 3) (by decide) rfl hx hr rfl (by decide)
theorem cz_s5_3 (R : cz_N s0 W h) {r : Nat} {x u : Int32} (hx : x = nI r) (hr : r < wz_n W 5) : k_ok (F8_set 235 x 3 u h) (cz_N s0 (wz_up W 5 r 3 u)) := cz_set R (k := 5) (c := 3) (by decide) rfl hx hr rfl (by decide)
theorem cz_r5_3 (R : cz_N s0 W h) {r : Nat} {x u : Int32} (hx : x = nI r) (hr : r < wz_n W 5) : k_ok (F8_raise 235 x 3 u h) (cz_N s0 (wz_up W 5 r 3 (W 5 r 3 + u))) := cz_raise R (k := 5) (c := 3) (by decide) rfl hx hr rfl (by decide)
theorem cz_z5 (R : cz_N s0 W h) : m_gi h 235 6 2 = some (nI (wz_n W 5)) := cz_size R (k := 5) (by decide) rfl
theorem cz_h5 (R : cz_N s0 W h) {x : Int32} : F8_has 235 x h = some (if x < 0 ∨ nI (wz_n W 5) ≤ x then 0 else 1) := cz_has R (k := 5) (by decide) rfl
theorem cz_f5 (R : cz_N s0 W h) : F8_full 235 h = some (if wz_n W 5 < wz_cap 5 then 0 else 1) := cz_full R (k := 5) (by decide) rfl
theorem cz_g6_0 (R : cz_N s0 W h) {r : Nat} {x : Int32} (hx : x = nI r) (hr : r < wz_n W 6) : F8_get 237 x 0 h = some (W 6 r 0) := cz_get R (k := 6) (c := 0) (by decide) rfl hx hr rfl (by decide)
theorem cz_s6_0 (R : cz_N s0 W h) {r : Nat} {x u : Int32} (hx : x = nI r) (hr : r < wz_n W 6) : k_ok (F8_set 237 x 0 u h) (cz_N s0 (wz_up W 6 r 0 u)) := cz_set R (k := 6) (c := 0) (by decide) rfl hx hr rfl (by decide)
theorem cz_r6_0 (R : cz_N s0 W h) {r : Nat} {x u : Int32} (hx : x = nI r) (hr : r < wz_n W 6) : k_ok (F8_raise 237 x 0 u h) (cz_N s0 (wz_up W 6 r 0 (W 6 r 0 + u))) := cz_raise R (k := 6) (c := 0) (by decide) rfl hx hr rfl (by decide)
theorem cz_g6_1 (R : cz_N s0 W h) {r : Nat} {x : Int32} (hx : x = nI r) (hr : r < wz_n W 6) : F8_get 237 x 1 h = some (W 6 r 1) := cz_get R (k := 6) (c := 1) (by decide) rfl hx hr rfl (by decide)
theorem cz_s6_1 (R : cz_N s0 W h) {r : Nat} {x u : Int32} (hx : x = nI r) (hr : r < wz_n W 6) : k_ok (F8_set 237 x 1 u h) (cz_N s0 (wz_up W 6 r 1 u)) := cz_set R (k := 6) (c := 1) (by decide) rfl hx hr rfl (by decide)
theorem cz_r6_1 (R : cz_N s0 W h) {r : Nat} {x u : Int32} (hx : x = nI r) (hr : r < wz_n W 6) : k_ok (F8_raise 237 x 1 u h) (cz_N s0 (wz_up W 6 r 1 (W 6 r 1 + u))) := cz_raise R (k := 6) (c := 1) (by decide) rfl hx hr rfl (by decide)
theorem cz_g6_2 (R : cz_N s0 W h) {r : Nat} {x : Int32} (hx : x = nI r) (hr : r < wz_n W 6) : F8_get 237 x 2 h = some (W 6 r 2) := cz_get R (k := 6) (c := 2) (by decide) rfl hx hr rfl (by decide)
theorem cz_s6_2 (R : cz_N s0 W h) {r : Nat} {x u : Int32} (hx : x = nI r) (hr : r < wz_n W 6) : k_ok (F8_set 237 x 2 u h) (cz_N s0 (wz_up W 6 r 2 u)) := cz_set R (k := 6) (c := 2) (by decide) rfl hx hr rfl (by decide)
theorem cz_r6_2 (R : cz_N s0 W h) {r : Nat} {x u : Int32} (hx : x = nI r) (hr : r < wz_n W 6) : k_ok (F8_raise 237 x 2 u h) (cz_N s0 (wz_up W 6 r 2 (W 6 r 2 + u))) := cz_raise R (k := 6) (c := 2) (by decide) rfl hx hr rfl (by decide)
theorem cz_z6 (R : cz_N s0 W h) : m_gi h 237 6 2 = some (nI (wz_n W 6)) := cz_size R (k := 6) (by decide) rfl
theorem cz_h6 (R : cz_N s0 W h) {x : Int32} : F8_has 237 x h = some (if x < 0 ∨ nI (wz_n W 6) ≤ x then 0 else 1) := cz_has R (k := 6) (by decide) rfl
theorem cz_f6 (R : cz_N s0 W h) : F8_full 237 h = some (if wz_n W 6 < wz_cap 6 then 0 else 1) := cz_full R (k := 6) (by decide) rfl
theorem cz_g7_0 (R : cz_N s0 W h) {r : Nat} {x : Int32} (hx : x = nI r) (hr : r < wz_n W 7) : F8_get 239 x 0 h = some (W 7 r 0) := cz_get R (k := 7) (c := 0) (by decide) rfl hx hr rfl (by decide)
theorem cz_s7_0 (R : cz_N s0 W h) {r : Nat} {x u : Int32} (hx : x = nI r) (hr : r < wz_n W 7) : k_ok (F8_set 239 x 0 u h) (cz_N s0 (wz_up W 7 r 0 u)) := cz_set R (k := 7) (c := 0) (by decide) rfl hx hr rfl (by decide)
theorem cz_r7_0 (R : cz_N s0 W h) {r : Nat} {x u : Int32} (hx : x = nI r) (hr : r < wz_n W 7) : k_ok (F8_raise 239 x 0 u h) (cz_N s0 (wz_up W 7 r 0 (W 7 r 0 + u))) := cz_raise R (k := 7) (c := 0) (by decide) rfl hx hr rfl (by decide)
theorem cz_g7_1 (R : cz_N s0 W h) {r : Nat} {x : Int32} (hx : x = nI r) (hr : r < wz_n W 7) : F8_get 239 x 1 h = some (W 7 r 1) := cz_get R (k := 7) (c := 1) (by decide) rfl hx hr rfl (by decide)
theorem cz_s7_1 (R : cz_N s0 W h) {r : Nat} {x u : Int32} (hx : x = nI r) (hr : r < wz_n W 7) : k_ok (F8_set 239 x 1 u h) (cz_N s0 (wz_up W 7 r 1 u)) := cz_set R (k := 7) (c := 1) (by decide) rfl hx hr rfl (by decide)
theorem cz_r7_1 (R : cz_N s0 W h) {r : Nat} {x u : Int32} (hx : x = nI r) (hr : r < wz_n W 7) : k_ok (F8_raise 239 x 1 u h) (cz_N s0 (wz_up W 7 r 1 (W 7 r 1 + u))) := cz_raise R (k := 7) (c := 1) (by decide) rfl hx hr rfl (by decide)
theorem cz_g7_2 (R : cz_N s0 W h) {r : Nat} {x : Int32} (hx : x = nI r) (hr : r < wz_n W 7) : F8_get 239 x 2 h = some (W 7 r 2) := cz_get R (k := 7) (c := 2) (by decide) rfl hx hr rfl (by decide)
theorem cz_s7_2 (R : cz_N s0 W h) {r : Nat} {x u : Int32} (hx : x = nI r) (hr : r < wz_n W 7) : k_ok (F8_set 239 x 2 u h) (cz_N s0 (wz_up W 7 r 2 u)) := cz_set R (k := 7) (c := 2) (by decide) rfl hx hr rfl (by decide)
theorem cz_r7_2 (R : cz_N s0 W h) {r : Nat} {x u : Int32} (hx : x = nI r) (hr : r < wz_n W 7) : k_ok (F8_raise 239 x 2 u h) (cz_N s0 (wz_up W 7 r 2 (W 7 r 2 + u))) := cz_raise R (k := 7) (c := 2) (by decide) rfl hx hr rfl (by decide)
theorem cz_z7 (R : cz_N s0 W h) : m_gi h 239 6 2 = some (nI (wz_n W 7)) := cz_size R (k := 7) (by decide) rfl
theorem cz_h7 (R : cz_N s0 W h) {x : Int32} : F8_has 239 x h = some (if x < 0 ∨ nI (wz_n W 7) ≤ x then 0 else 1) := cz_has R (k := 7) (by decide) rfl
theorem cz_f7 (R : cz_N s0 W h) : F8_full 239 h = some (if wz_n W 7 < wz_cap 7 then 0 else 1) := cz_full R (k := 7) (by decide) rfl
theorem cz_g8_0 (R : cz_N s0 W h) {r : Nat} {x : Int32} (hx : x = nI r) (hr : r < wz_n W 8) : F8_get 241 x 0 h = some (W 8 r 0) := cz_get R (k := 8) (c := 0) (by decide) rfl hx hr rfl (by decide)
theorem cz_s8_0 (R : cz_N s0 W h) {r : Nat} {x u : Int32} (hx : x = nI r) (hr : r < wz_n W 8) : k_ok (F8_set 241 x 0 u h) (cz_N s0 (wz_up W 8 r 0 u)) := cz_set R (k := 8) (c := 0) (by decide) rfl hx hr rfl (by decide)
theorem cz_r8_0 (R : cz_N s0 W h) {r : Nat} {x u : Int32} (hx : x = nI r) (hr : r < wz_n W 8) : k_ok (F8_raise 241 x 0 u h) (cz_N s0 (wz_up W 8 r 0 (W 8 r 0 + u))) := cz_raise R (k := 8) (c := 0) (by decide) rfl hx hr rfl (by decide)
theorem cz_g8_1 (R : cz_N s0 W h) {r : Nat} {x : Int32} (hx : x = nI r) (hr : r < wz_n W 8) : F8_get 241 x 1 h = some (W 8 r 1) := cz_get R (k := 8) (c := 1) (by decide) rfl hx hr rfl (by decide)
theorem cz_s8_1 (R : cz_N s0 W h) {r : Nat} {x u : Int32} (hx : x = nI r) (hr : r < wz_n W 8) : k_ok (F8_set 241 x 1 u h) (cz_N s0 (wz_up W 8 r 1 u)) := cz_set R (k := 8) (c := 1) (by decide) rfl hx hr rfl (by decide)
theorem cz_r8_1 (R : cz_N s0 W h) {r : Nat} {x u : Int32} (hx : x = nI r) (hr : r < wz_n W 8) : k_ok (F8_raise 241 x 1 u h) (cz_N s0 (wz_up W 8 r 1 (W 8 r 1 + u))) := cz_raise R (k := 8) (c := 1) (by decide) rfl hx hr rfl (by decide)
theorem cz_g8_2 (R : cz_N s0 W h) {r : Nat} {x : Int32} (hx : x = nI r) (hr : r < wz_n W 8) : F8_get 241 x 2 h = some (W 8 r 3) := cz_get R (k := 8) (c := 2) (by decide) rfl hx hr rfl (by decide)
theorem cz_s8_2 (R : cz_N s0 W h) {r : Nat} {x u : Int32} (hx : x = nI r) (hr : r < wz_n W 8) : k_ok (F8_set 241 x 2 u h) (cz_N s0 (wz_up W 8 r 3 u)) := cz_set R (k := 8) (c := 2) (by decide) rfl hx hr rfl (by decide)
theorem cz_r8_2 (R : cz_N s0 W h) {r : Nat} {x u : Int32} (hx : x = nI r) (hr : r < wz_n W 8) : k_ok (F8_raise 241 x 2 u h) (cz_N s0 (wz_up W 8 r 3 (W 8 r 3 + u))) := cz_raise R (k := 8) (c := 2) (by decide) rfl hx hr rfl (by decide)
theorem cz_g8_3 (R : cz_N s0 W h) {r : Nat} {x : Int32} (hx : x = nI r) (hr : r < wz_n W 8) : F8_get 241 x 3 h = some (W 8 r 2) := cz_get R (k := 8) (c := 3) (by decide) rfl hx hr rfl (by decide)
theorem cz_s8_3 (R : cz_N s0 W h) {r : Nat} {x u : Int32} (hx : x = nI r) (hr : r < wz_n W 8) : k_ok (F8_set 241 x 3 u h) (cz_N s0 (wz_up W 8 r 2 u)) := cz_set R (k := 8) (c := 3) (by decide) rfl hx hr rfl (by decide)
theorem cz_r8_3 (R : cz_N s0 W h) {r : Nat} {x u : Int32} (hx : x = nI r) (hr : r < wz_n W 8) : k_ok (F8_raise 241 x 3 u h) (cz_N s0 (wz_up W 8 r 2 (W 8 r 2 + u))) := cz_raise R (k := 8) (c := 3) (by decide) rfl hx hr rfl (by decide)
theorem cz_g8_4 (R : cz_N s0 W h) {r : Nat} {x : Int32} (hx : x = nI r) (hr : r < wz_n W 8) : F8_get 241 x 4 h = some (W 8 r 4) := cz_get R (k := 8) (c := 4) (by decide) rfl hx hr rfl (by decide)
theorem cz_s8_4 (R : cz_N s0 W h) {r : Nat} {x u : Int32} (hx : x = nI r) (hr : r < wz_n W 8) : k_ok (F8_set 241 x 4 u h) (cz_N s0 (wz_up W 8 r 4 u)) := cz_set R (k := 8) (c := 4) (by decide) rfl hx hr rfl (by decide)
theorem cz_r8_4 (R : cz_N s0 W h) {r : Nat} {x u : Int32} (hx : x = nI r) (hr : r < wz_n W 8) : k_ok (F8_raise 241 x 4 u h) (cz_N s0 (wz_up W 8 r 4 (W 8 r 4 + u))) := cz_raise R (k := 8) (c := 4) (by decide) rfl hx hr rfl (by decide)
theorem cz_z8 (R : cz_N s0 W h) : m_gi h 241 6 2 = some (nI (wz_n W 8)) := cz_size R (k := 8) (by decide) rfl
theorem cz_h8 (R : cz_N s0 W h) {x : Int32} : F8_has 241 x h = some (if x < 0 ∨ nI (wz_n W 8) ≤ x then 0 else 1) := cz_has R (k := 8) (by decide) rfl
theorem cz_f8 (R : cz_N s0 W h) : F8_full 241 h = some (if wz_n W 8 < wz_cap 8 then 0 else 1) := cz_full R (k := 8) (by decide) rfl
theorem cz_g9_0 (R : cz_N s0 W h) {r : Nat} {x : Int32} (hx : x = nI r) (hr : r < wz_n W 9) : F8_get 243 x 0 h = some (W 9 r 0) := cz_get R (k := 9) (c := 0) (by decide) rfl hx hr rfl (by decide)
theorem cz_s9_0 (R : cz_N s0 W h) {r : Nat} {x u : Int32} (hx : x = nI r) (hr : r < wz_n W 9) : k_ok (F8_set 243 x 0 u h) (cz_N s0 (wz_up W 9 r 0 u)) := cz_set R (k := 9) (c := 0) (by decide) rfl hx hr rfl (by decide)
theorem cz_r9_0 (R : cz_N s0 W h) {r : Nat} {x u : Int32} (hx : x = nI r) (hr : r < wz_n W 9) : k_ok (F8_raise 243 x 0 u h) (cz_N s0 (wz_up W 9 r 0 (W 9 r 0 + u))) := cz_raise R (k := 9) (c := 0) (by decide) rfl hx hr rfl (by decide)
theorem cz_g9_1 (R : cz_N s0 W h) {r : Nat} {x : Int32} (hx : x = nI r) (hr : r < wz_n W 9) : F8_get 243 x 1 h = some (W 9 r 1) := cz_get R (k := 9) (c := 1) (by decide) rfl hx hr rfl (by decide)
theorem cz_s9_1 (R : cz_N s0 W h) {r : Nat} {x u : Int32} (hx : x = nI r) (hr : r < wz_n W 9) : k_ok (F8_set 243 x 1 u h) (cz_N s0 (wz_up W 9 r 1 u)) := cz_set R (k := 9) (c := 1) (by decide) rfl hx hr rfl (by decide)
theorem cz_r9_1 (R : cz_N s0 W h) {r : Nat} {x u : Int32} (hx : x = nI r) (hr : r < wz_n W 9) : k_ok (F8_raise 243 x 1 u h) (cz_N s0 (wz_up W 9 r 1 (W 9 r 1 + u))) := cz_raise R (k := 9) (c := 1) (by decide) rfl hx hr rfl (by decide)
theorem cz_g9_2 (R : cz_N s0 W h) {r : Nat} {x : Int32} (hx : x = nI r) (hr : r < wz_n W 9) : F8_get 243 x 2 h = some (W 9 r 2) := cz_get R (k := 9) (c := 2) (by decide) rfl hx hr rfl (by decide)
theorem cz_s9_2 (R : cz_N s0 W h) {r : Nat} {x u : Int32} (hx : x = nI r) (hr : r < wz_n W 9) : k_ok (F8_set 243 x 2 u h) (cz_N s0 (wz_up W 9 r 2 u)) := cz_set R (k := 9) (c := 2) (by decide) rfl hx hr rfl (by decide)
theorem cz_r9_2 (R : cz_N s0 W h) {r : Nat} {x u : Int32} (hx : x = nI r) (hr : r < wz_n W 9) : k_ok (F8_raise 243 x 2 u h) (cz_N s0 (wz_up W 9 r 2 (W 9 r 2 + u))) := cz_raise R (k := 9) (c := 2) (by decide) rfl hx hr rfl (by decide)
theorem cz_z9 (R : cz_N s0 W h) : m_gi h 243 6 2 = some (nI (wz_n W 9)) := cz_size R (k := 9) (by decide) rfl
theorem cz_h9 (R : cz_N s0 W h) {x : Int32} : F8_has 243 x h = some (if x < 0 ∨ nI (wz_n W 9) ≤ x then 0 else 1) := cz_has R (k := 9) (by decide) rfl
theorem cz_f9 (R : cz_N s0 W h) : F8_full 243 h = some (if wz_n W 9 < wz_cap 9 then 0 else 1) := cz_full R (k := 9) (by decide) rfl
theorem cz_g10_0 (R : cz_N s0 W h) {r : Nat} {x : Int32} (hx : x = nI r) (hr : r < wz_n W 10) : F8_get 245 x 0 h = some (W 10 r 0) := cz_get R (k := 10) (c := 0) (by decide) rfl hx hr rfl (by decide)
theorem cz_s10_0 (R : cz_N s0 W h) {r : Nat} {x u : Int32} (hx : x = nI r) (hr : r < wz_n W 10) : k_ok (F8_set 245 x 0 u h) (cz_N s0 (wz_up W 10 r 0 u)) := cz_set R (k := 10) (c := 0) (by decide) rfl hx hr rfl (by decide)
theorem cz_r10_0 (R : cz_N s0 W h) {r : Nat} {x u : Int32} (hx : x = nI r) (hr : r < wz_n W 10) : k_ok (F8_raise 245 x 0 u h) (cz_N s0 (wz_up W 10 r 0 (W 10 r 0 + u))) := cz_raise R (k := 10) (c := 0) (by decide) rfl hx hr rfl (by decide)
theorem cz_g10_1 (R : cz_N s0 W h) {r : Nat} {x : Int32} (hx : x = nI r) (hr : r < wz_n W 10) : F8_get 245 x 1 h = some (W 10 r 1) := cz_get R (k := 10) (c := 1) (by decide) rfl hx hr rfl (by decide)
theorem cz_s10_1 (R : cz_N s0 W h) {r : Nat} {x u : Int32} (hx : x = nI r) (hr : r < wz_n W 10) : k_ok (F8_set 245 x 1 u h) (cz_N s0 (wz_up W 10 r 1 u)) := cz_set R (k := 10) (c := 1) (by decide) rfl hx hr rfl (by decide)
theorem cz_r10_1 (R : cz_N s0 W h) {r : Nat} {x u : Int32} (hx : x = nI r) (hr : r < wz_n W 10) : k_ok (F8_raise 245 x 1 u h) (cz_N s0 (wz_up W 10 r 1 (W 10 r 1 + u))) := cz_raise R (k := 10) (c := 1) (by decide) rfl hx hr rfl (by decide)
theorem cz_g10_2 (R : cz_N s0 W h) {r : Nat} {x : Int32} (hx : x = nI r) (hr : r < wz_n W 10) : F8_get 245 x 2 h = some (W 10 r 2) := cz_get R (k := 10) (c := 2) (by decide) rfl hx hr rfl (by decide)
theorem cz_s10_2 (R : cz_N s0 W h) {r : Nat} {x u : Int32} (hx : x = nI r) (hr : r < wz_n W 10) : k_ok (F8_set 245 x 2 u h) (cz_N s0 (wz_up W 10 r 2 u)) := cz_set R (k := 10) (c := 2) (by decide) rfl hx hr rfl (by decide)
theorem cz_r10_2 (R : cz_N s0 W h) {r : Nat} {x u : Int32} (hx : x = nI r) (hr : r < wz_n W 10) : k_ok (F8_raise 245 x 2 u h) (cz_N s0 (wz_up W 10 r 2 (W 10 r 2 + u))) := cz_raise R (k := 10) (c := 2) (by decide) rfl hx hr rfl (by decide)
theorem cz_g10_3 (R : cz_N s0 W h) {r : Nat} {x : Int32} (hx : x = nI r) (hr : r < wz_n W 10) : F8_get 245 x 3 h = some (W 10 r 3) := cz_get R (k := 10) (c := 3) (by decide) rfl hx hr rfl (by decide)
theorem cz_s10_3 (R : cz_N s0 W h) {r : Nat} {x u : Int32} (hx : x = nI r) (hr : r < wz_n W 10) : k_ok (F8_set 245 x 3 u h) (cz_N s0 (wz_up W 10 r 3 u)) := cz_set R (k := 10) (c := 3) (by decide) rfl hx hr rfl (by decide)
theorem cz_r10_3 (R : cz_N s0 W h) {r : Nat} {x u : Int32} (hx : x = nI r) (hr : r < wz_n W 10) : k_ok (F8_raise 245 x 3 u h) (cz_N s0 (wz_up W 10 r 3 (W 10 r 3 + u))) := cz_raise R (k := 10) (c := 3) (by decide) rfl hx hr rfl (by decide)
theorem cz_g10_4 (R : cz_N s0 W h) {r : Nat} {x : Int32} (hx : x = nI r) (hr : r < wz_n W 10) : F8_get 245 x 4 h = some (W 10 r 4) := cz_get R (k := 10) (c := 4) (by decide) rfl hx hr rfl (by decide)
theorem cz_s10_4 (R : cz_N s0 W h) {r : Nat} {x u : Int32} (hx : x = nI r) (hr : r < wz_n W 10) : k_ok (F8_set 245 x 4 u h) (cz_N s0 (wz_up W 10 r 4 u)) := cz_set R (k := 10) (c := 4) (by decide) rfl hx hr rfl (by decide)
theorem cz_r10_4 (R : cz_N s0 W h) {r : Nat} {x u : Int32} (hx : x = nI r) (hr : r < wz_n W 10) : k_ok (F8_raise 245 x 4 u h) (cz_N s0 (wz_up W 10 r 4 (W 10 r 4 + u))) := cz_raise R (k := 10) (c := 4) (by decide) rfl hx hr rfl (by decide)
theorem cz_g10_5 (R : cz_N s0 W h) {r : Nat} {x : Int32} (hx : x = nI r) (hr : r < wz_n W 10) : F8_get 245 x 5 h = some (W 10 r 5) := cz_get R (k := 10) (c := 5) (by decide) rfl hx hr rfl (by decide)
theorem cz_s10_5 (R : cz_N s0 W h) {r : Nat} {x u : Int32} (hx : x = nI r) (hr : r < wz_n W 10) : k_ok (F8_set 245 x 5 u h) (cz_N s0 (wz_up W 10 r 5 u)) := cz_set R (k := 10) (c := 5) (by decide) rfl hx hr rfl (by decide)
theorem cz_r10_5 (R : cz_N s0 W h) {r : Nat} {x u : Int32} (hx : x = nI r) (hr : r < wz_n W 10) : k_ok (F8_raise 245 x 5 u h) (cz_N s0 (wz_up W 10 r 5 (W 10 r 5 + u))) := cz_raise R (k := 10) (c := 5) (by decide) rfl hx hr rfl (by decide)
theorem cz_z10 (R : cz_N s0 W h) : m_gi h 245 6 2 = some (nI (wz_n W 10)) := cz_size R (k := 10) (by decide) rfl
theorem cz_h10 (R : cz_N s0 W h) {x : Int32} : F8_has 245 x h = some (if x < 0 ∨ nI (wz_n W 10) ≤ x then 0 else 1) := cz_has R (k := 10) (by decide) rfl
theorem cz_f10 (R : cz_N s0 W h) : F8_full 245 h = some (if wz_n W 10 < wz_cap 10 then 0 else 1) := cz_full R (k := 10) (by decide) rfl
theorem cz_g11_0 (R : cz_N s0 W h) {r : Nat} {x : Int32} (hx : x = nI r) (hr : r < wz_n W 11) : F8_get 247 x 0 h = some (W 11 r 0) := cz_get R (k := 11) (c := 0) (by decide) rfl hx hr rfl (by decide)
theorem cz_s11_0 (R : cz_N s0 W h) {r : Nat} {x u : Int32} (hx : x = nI r) (hr : r < wz_n W 11) : k_ok (F8_set 247 x 0 u h) (cz_N s0 (wz_up W 11 r 0 u)) := cz_set R (k := 11) (c := 0) (by decide) rfl hx hr rfl (by decide)
theorem cz_r11_0 (R : cz_N s0 W h) {r : Nat} {x u : Int32} (hx : x = nI r) (hr : r < wz_n W 11) : k_ok (F8_raise 247 x 0 u h) (cz_N s0 (wz_up W 11 r 0 (W 11 r 0 + u))) := cz_raise R (k := 11) (c := 0) (by decide) rfl hx hr rfl (by decide)
theorem cz_g11_1 (R : cz_N s0 W h) {r : Nat} {x : Int32} (hx : x = nI r) (hr : r < wz_n W 11) : F8_get 247 x 1 h = some (W 11 r 1) := cz_get R (k := 11) (c := 1) (by decide) rfl hx hr rfl (by decide)
theorem cz_s11_1 (R : cz_N s0 W h) {r : Nat} {x u : Int32} (hx : x = nI r) (hr : r < wz_n W 11) : k_ok (F8_set 247 x 1 u h) (cz_N s0 (wz_up W 11 r 1 u)) := cz_set R (k := 11) (c := 1) (by decide) rfl hx hr rfl (by decide)
theorem cz_r11_1 (R : cz_N s0 W h) {r : Nat} {x u : Int32} (hx : x = nI r) (hr : r < wz_n W 11) : k_ok (F8_raise 247 x 1 u h) (cz_N s0 (wz_up W 11 r 1 (W 11 r 1 + u))) := cz_raise R (k := 11) (c := 1) (by decide) rfl hx hr rfl (by decide)
theorem cz_z11 (R : cz_N s0 W h) : m_gi h 247 6 2 = some (nI (wz_n W 11)) := cz_size R (k := 11) (by decide) rfl
theorem cz_h11 (R : cz_N s0 W h) {x : Int32} : F8_has 247 x h = some (if x < 0 ∨ nI (wz_n W 11) ≤ x then 0 else 1) := cz_has R (k := 11) (by decide) rfl
theorem cz_f11 (R : cz_N s0 W h) : F8_full 247 h = some (if wz_n W 11 < wz_cap 11 then 0 else 1) := cz_full R (k := 11) (by decide) rfl
theorem cz_g12_0 (R : cz_N s0 W h) {r : Nat} {x : Int32} (hx : x = nI r) (hr : r < wz_n W 12) : F8_get 249 x 0 h = some (W 12 r 0) := cz_get R (k := 12) (c := 0) (by decide) rfl hx hr rfl (by decide)
theorem cz_s12_0 (R : cz_N s0 W h) {r : Nat} {x u : Int32} (hx : x = nI r) (hr : r < wz_n W 12) : k_ok (F8_set 249 x 0 u h) (cz_N s0 (wz_up W 12 r 0 u)) := cz_set R (k := 12) (c := 0) (by decide) rfl hx hr rfl (by decide)
theorem cz_r12_0 (R : cz_N s0 W h) {r : Nat} {x u : Int32} (hx : x = nI r) (hr : r < wz_n W 12) : k_ok (F8_raise 249 x 0 u h) (cz_N s0 (wz_up W 12 r 0 (W 12 r 0 + u))) := cz_raise R (k := 12) (c := 0) (by decide) rfl hx hr rfl (by decide)
theorem cz_g12_1 (R : cz_N s0 W h) {r : Nat} {x : Int32} (hx : x = nI r) (hr : r < wz_n W 12) : F8_get 249 x 1 h = some (W 12 r 2) := cz_get R (k := 12) (c := 1) (by decide) rfl hx hr rfl (by decide)
theorem cz_s12_1 (R : cz_N s0 W h) {r : Nat} {x u : Int32} (hx : x = nI r) (hr : r < wz_n W 12) : k_ok (F8_set 249 x 1 u h) (cz_N s0 (wz_up W 12 r 2 u)) := cz_set R (k := 12) (c := 1) (by decide) rfl hx hr rfl (by decide)
theorem cz_r12_1 (R : cz_N s0 W h) {r : Nat} {x u : Int32} (hx : x = nI r) (hr : r < wz_n W 12) : k_ok (F8_raise 249 x 1 u h) (cz_N s0 (wz_up W 12 r 2 (W 12 r 2 + u))) := cz_raise R (k := 12) (c := 1) (by decide) rfl hx hr rfl (by decide)
theorem cz_g12_2 (R : cz_N s0 W h) {r : Nat} {x : Int32} (hx : x = nI r) (hr : r < wz_n W 12) : F8_get 249 x 2 h = some (W 12 r 3) := cz_get R (k := 12) (c := 2) (by decide) rfl hx hr rfl (by decide)
theorem cz_s12_2 (R : cz_N s0 W h) {r : Nat} {x u : Int32} (hx : x = nI r) (hr : r < wz_n W 12) : k_ok (F8_set 249 x 2 u h) (cz_N s0 (wz_up W 12 r 3 u)) := cz_set R (k := 12) (c := 2) (by decide) rfl hx hr rfl (by decide)
theorem cz_r12_2 (R : cz_N s0 W h) {r : Nat} {x u : Int32} (hx : x = nI r) (hr : r < wz_n W 12) : k_ok (F8_raise 249 x 2 u h) (cz_N s0 (wz_up W 12 r 3 (W 12 r 3 + u))) := cz_raise R (k := 12) (c := 2) (by decide) rfl hx hr rfl (by decide)
theorem cz_g12_3 (R : cz_N s0 W h) {r : Nat} {x : Int32} (hx : x = nI r) (hr : r < wz_n W 12) : F8_get 249 x 3 h = some (W 12 r 1) := cz_get R (k := 12) (c := 3) (by decide) rfl hx hr rfl (by decide)
theorem cz_s12_3 (R : cz_N s0 W h) {r : Nat} {x u : Int32} (hx : x = nI r) (hr : r < wz_n W 12) : k_ok (F8_set 249 x 3 u h) (cz_N s0 (wz_up W 12 r 1 u)) := cz_set R (k := 12) (c := 3) (by decide) rfl hx hr rfl (by decide)
theorem cz_r12_3 (R : cz_N s0 W h) {r : Nat} {x u : Int32} (hx : x = nI r) (hr : r < wz_n W 12) : k_ok (F8_raise 249 x 3 u h) (cz_N s0 (wz_up W 12 r 1 (W 12 r 1 + u))) := cz_raise R (k := 12) (c := 3) (by decide) rfl hx hr rfl (by decide)
theorem cz_z12 (R : cz_N s0 W h) : m_gi h 249 6 2 = some (nI (wz_n W 12)) := cz_size R (k := 12) (by decide) rfl
theorem cz_h12 (R : cz_N s0 W h) {x : Int32} : F8_has 249 x h = some (if x < 0 ∨ nI (wz_n W 12) ≤ x then 0 else 1) := cz_has R (k := 12) (by decide) rfl
theorem cz_f12 (R : cz_N s0 W h) : F8_full 249 h = some (if wz_n W 12 < wz_cap 12 then 0 else 1) := cz_full R (k := 12) (by decide) rfl
theorem cz_g13_0 (R : cz_N s0 W h) {r : Nat} {x : Int32} (hx : x = nI r) (hr : r < wz_n W 13) : F8_get 251 x 0 h = some (W 13 r 0) := cz_get R (k := 13) (c := 0) (by decide) rfl hx hr rfl (by decide)
theorem cz_s13_0 (R : cz_N s0 W h) {r : Nat} {x u : Int32} (hx : x = nI r) (hr : r < wz_n W 13) : k_ok (F8_set 251 x 0 u h) (cz_N s0 (wz_up W 13 r 0 u)) := cz_set R (k := 13) (c := 0) (by decide) rfl hx hr rfl (by decide)
theorem cz_r13_0 (R : cz_N s0 W h) {r : Nat} {x u : Int32} (hx : x = nI r) (hr : r < wz_n W 13) : k_ok (F8_raise 251 x 0 u h) (cz_N s0 (wz_up W 13 r 0 (W 13 r 0 + u))) := cz_raise R (k := 13) (c := 0) (by decide) rfl hx hr rfl (by decide)
theorem cz_g13_1 (R : cz_N s0 W h) {r : Nat} {x : Int32} (hx : x = nI r) (hr : r < wz_n W 13) : F8_get 251 x 1 h = some (W 13 r 1) := cz_get R (k := 13) (c := 1) (by decide) rfl hx hr rfl (by decide)
theorem cz_s13_1 (R : cz_N s0 W h) {r : Nat} {x u : Int32} (hx : x = nI r) (hr : r < wz_n W 13) : k_ok (F8_set 251 x 1 u h) (cz_N s0 (wz_up W 13 r 1 u)) := cz_set R (k := 13) (c := 1) (by decide) rfl hx hr rfl (by decide)
theorem cz_r13_1 (R : cz_N s0 W h) {r : Nat} {x u : Int32} (hx : x = nI r) (hr : r < wz_n W 13) : k_ok (F8_raise 251 x 1 u h) (cz_N s0 (wz_up W 13 r 1 (W 13 r 1 + u))) := cz_raise R (k := 13) (c := 1) (by decide) rfl hx hr rfl (by decide)
theorem cz_g13_2 (R : cz_N s0 W h) {r : Nat} {x : Int32} (hx : x = nI r) (hr : r < wz_n W 13) : F8_get 251 x 2 h = some (W 13 r 2) := cz_get R (k := 13) (c := 2) (by decide) rfl hx hr rfl (by decide)
theorem cz_s13_2 (R : cz_N s0 W h) {r : Nat} {x u : Int32} (hx : x = nI r) (hr : r < wz_n W 13) : k_ok (F8_set 251 x 2 u h) (cz_N s0 (wz_up W 13 r 2 u)) := cz_set R (k := 13) (c := 2) (by decide) rfl hx hr rfl (by decide)
theorem cz_r13_2 (R : cz_N s0 W h) {r : Nat} {x u : Int32} (hx : x = nI r) (hr : r < wz_n W 13) : k_ok (F8_raise 251 x 2 u h) (cz_N s0 (wz_up W 13 r 2 (W 13 r 2 + u))) := cz_raise R (k := 13) (c := 2) (by decide) rfl hx hr rfl (by decide)
theorem cz_z13 (R : cz_N s0 W h) : m_gi h 251 6 2 = some (nI (wz_n W 13)) := cz_size R (k := 13) (by decide) rfl
theorem cz_h13 (R : cz_N s0 W h) {x : Int32} : F8_has 251 x h = some (if x < 0 ∨ nI (wz_n W 13) ≤ x then 0 else 1) := cz_has R (k := 13) (by decide) rfl
theorem cz_f13 (R : cz_N s0 W h) : F8_full 251 h = some (if wz_n W 13 < wz_cap 13 then 0 else 1) := cz_full R (k := 13) (by decide) rfl
theorem nz_io200 (R : cz_N s0 W h) : m_isO h 8 200 = true := by obtain ⟨s, rfl, -, -⟩ := R; exact io_200
theorem nz_gr200_0 (R : cz_N s0 W h) : m_gr h 200 8 0 = some 201 := by obtain ⟨s, rfl, -, -⟩ := R; exact gr_200_0
theorem nz_gr200_1 (R : cz_N s0 W h) : m_gr h 200 8 1 = some 206 := by obtain ⟨s, rfl, -, -⟩ := R; exact gr_200_1
theorem nz_gr200_2 (R : cz_N s0 W h) : m_gr h 200 8 2 = some 211 := by obtain ⟨s, rfl, -, -⟩ := R; exact gr_200_2
theorem nz_gr200_3 (R : cz_N s0 W h) : m_gr h 200 8 3 = some 216 := by obtain ⟨s, rfl, -, -⟩ := R; exact gr_200_3
theorem nz_gr200_4 (R : cz_N s0 W h) : m_gr h 200 8 4 = some 223 := by obtain ⟨s, rfl, -, -⟩ := R; exact gr_200_4
theorem nz_gr200_5 (R : cz_N s0 W h) : m_gr h 200 8 5 = some 253 := by obtain ⟨s, rfl, -, -⟩ := R; exact gr_200_5
theorem nz_gr200_6 (R : cz_N s0 W h) : m_gr h 200 8 6 = some 283 := by obtain ⟨s, rfl, -, -⟩ := R; exact gr_200_6
theorem nz_gr200_7 (R : cz_N s0 W h) : m_gr h 200 8 7 = some 313 := by obtain ⟨s, rfl, -, -⟩ := R; exact gr_200_7
theorem nz_gr200_8 (R : cz_N s0 W h) : m_gr h 200 8 8 = some 315 := by obtain ⟨s, rfl, -, -⟩ := R; exact gr_200_8
theorem nz_io201 (R : cz_N s0 W h) : m_isO h 7 201 = true := by obtain ⟨s, rfl, -, -⟩ := R; exact io_201
theorem nz_gr201_0 (R : cz_N s0 W h) : m_gr h 201 7 0 = some 202 := by obtain ⟨s, rfl, -, -⟩ := R; exact gr_201_0
theorem nz_gr201_4 (R : cz_N s0 W h) : m_gr h 201 7 4 = some 203 := by obtain ⟨s, rfl, -, -⟩ := R; exact gr_201_4
theorem nz_gr201_5 (R : cz_N s0 W h) : m_gr h 201 7 5 = some 204 := by obtain ⟨s, rfl, -, -⟩ := R; exact gr_201_5
theorem nz_gr201_6 (R : cz_N s0 W h) : m_gr h 201 7 6 = some 205 := by obtain ⟨s, rfl, -, -⟩ := R; exact gr_201_6
theorem nz_le202 (R : cz_N s0 W h) : m_len h 202 = some 400 := by obtain ⟨s, rfl, -, -⟩ := R; exact le_202
theorem nz_le203 (R : cz_N s0 W h) : m_len h 203 = some 401 := by obtain ⟨s, rfl, -, -⟩ := R; exact le_203
theorem nz_le204 (R : cz_N s0 W h) : m_len h 204 = some 401 := by obtain ⟨s, rfl, -, -⟩ := R; exact le_204
theorem nz_le205 (R : cz_N s0 W h) : m_len h 205 = some 401 := by obtain ⟨s, rfl, -, -⟩ := R; exact le_205
theorem nz_io206 (R : cz_N s0 W h) : m_isO h 5 206 = true := by obtain ⟨s, rfl, -, -⟩ := R; exact io_206
theorem nz_gr206_0 (R : cz_N s0 W h) : m_gr h 206 5 0 = some 201 := by obtain ⟨s, rfl, -, -⟩ := R; exact gr_206_0
theorem nz_gr206_4 (R : cz_N s0 W h) : m_gr h 206 5 4 = some 208 := by obtain ⟨s, rfl, -, -⟩ := R; exact gr_206_4
theorem nz_gr206_5 (R : cz_N s0 W h) : m_gr h 206 5 5 = some 209 := by obtain ⟨s, rfl, -, -⟩ := R; exact gr_206_5
theorem nz_gr206_6 (R : cz_N s0 W h) : m_gr h 206 5 6 = some 210 := by obtain ⟨s, rfl, -, -⟩ := R; exact gr_206_6
theorem nz_gr206_8 (R : cz_N s0 W h) : m_gr h 206 5 8 = some 207 := by obtain ⟨s, rfl, -, -⟩ := R; exact gr_206_8
theorem nz_le207 (R : cz_N s0 W h) : m_len h 207 = some 400 := by obtain ⟨s, rfl, -, -⟩ := R; exact le_207
theorem nz_le208 (R : cz_N s0 W h) : m_len h 208 = some 12 := by obtain ⟨s, rfl, -, -⟩ := R; exact le_208
theorem nz_le209 (R : cz_N s0 W h) : m_len h 209 = some 12 := by obtain ⟨s, rfl, -, -⟩ := R; exact le_209
theorem nz_le210 (R : cz_N s0 W h) : m_len h 210 = some 12 := by obtain ⟨s, rfl, -, -⟩ := R; exact le_210
theorem nz_io211 (R : cz_N s0 W h) : m_isO h 2 211 = true := by obtain ⟨s, rfl, -, -⟩ := R; exact io_211
theorem nz_gr211_0 (R : cz_N s0 W h) : m_gr h 211 2 0 = some 212 := by obtain ⟨s, rfl, -, -⟩ := R; exact gr_211_0
theorem nz_gr211_1 (R : cz_N s0 W h) : m_gr h 211 2 1 = some 213 := by obtain ⟨s, rfl, -, -⟩ := R; exact gr_211_1
theorem nz_gr211_2 (R : cz_N s0 W h) : m_gr h 211 2 2 = some 214 := by obtain ⟨s, rfl, -, -⟩ := R; exact gr_211_2
theorem nz_gr211_3 (R : cz_N s0 W h) : m_gr h 211 2 3 = some 215 := by obtain ⟨s, rfl, -, -⟩ := R; exact gr_211_3
theorem nz_le212 (R : cz_N s0 W h) : m_len h 212 = some 60 := by obtain ⟨s, rfl, -, -⟩ := R; exact le_212
theorem nz_le213 (R : cz_N s0 W h) : m_len h 213 = some 60 := by obtain ⟨s, rfl, -, -⟩ := R; exact le_213
theorem nz_le214 (R : cz_N s0 W h) : m_len h 214 = some 10 := by obtain ⟨s, rfl, -, -⟩ := R; exact le_214
theorem nz_le215 (R : cz_N s0 W h) : m_len h 215 = some 400 := by obtain ⟨s, rfl, -, -⟩ := R; exact le_215
theorem nz_io216 (R : cz_N s0 W h) : m_isO h 4 216 = true := by obtain ⟨s, rfl, -, -⟩ := R; exact io_216
theorem nz_gr216_0 (R : cz_N s0 W h) : m_gr h 216 4 0 = some 217 := by obtain ⟨s, rfl, -, -⟩ := R; exact gr_216_0
theorem nz_gr216_1 (R : cz_N s0 W h) : m_gr h 216 4 1 = some 218 := by obtain ⟨s, rfl, -, -⟩ := R; exact gr_216_1
theorem nz_gr216_2 (R : cz_N s0 W h) : m_gr h 216 4 2 = some 219 := by obtain ⟨s, rfl, -, -⟩ := R; exact gr_216_2
theorem nz_gr216_3 (R : cz_N s0 W h) : m_gr h 216 4 3 = some 220 := by obtain ⟨s, rfl, -, -⟩ := R; exact gr_216_3
theorem nz_gr216_4 (R : cz_N s0 W h) : m_gr h 216 4 4 = some 221 := by obtain ⟨s, rfl, -, -⟩ := R; exact gr_216_4
theorem nz_gr216_5 (R : cz_N s0 W h) : m_gr h 216 4 5 = some 222 := by obtain ⟨s, rfl, -, -⟩ := R; exact gr_216_5
theorem nz_le217 (R : cz_N s0 W h) : m_len h 217 = some 6 := by obtain ⟨s, rfl, -, -⟩ := R; exact le_217
theorem nz_le218 (R : cz_N s0 W h) : m_len h 218 = some 6 := by obtain ⟨s, rfl, -, -⟩ := R; exact le_218
theorem nz_le219 (R : cz_N s0 W h) : m_len h 219 = some 6 := by obtain ⟨s, rfl, -, -⟩ := R; exact le_219
theorem nz_le220 (R : cz_N s0 W h) : m_len h 220 = some 6 := by obtain ⟨s, rfl, -, -⟩ := R; exact le_220
theorem nz_le221 (R : cz_N s0 W h) : m_len h 221 = some 6 := by obtain ⟨s, rfl, -, -⟩ := R; exact le_221
theorem nz_le222 (R : cz_N s0 W h) : m_len h 222 = some 6 := by obtain ⟨s, rfl, -, -⟩ := R; exact le_222
theorem nz_io223 (R : cz_N s0 W h) : m_isO h 3 223 = true := by obtain ⟨s, rfl, -, -⟩ := R; exact io_223
theorem nz_gr223_4 (R : cz_N s0 W h) : m_gr h 223 3 4 = some 224 := by obtain ⟨s, rfl, -, -⟩ := R; exact gr_223_4
theorem nz_gr223_6 (R : cz_N s0 W h) : m_gr h 223 3 6 = some 225 := by obtain ⟨s, rfl, -, -⟩ := R; exact gr_223_6
theorem nz_gr223_7 (R : cz_N s0 W h) : m_gr h 223 3 7 = some 227 := by obtain ⟨s, rfl, -, -⟩ := R; exact gr_223_7
theorem nz_gr223_8 (R : cz_N s0 W h) : m_gr h 223 3 8 = some 229 := by obtain ⟨s, rfl, -, -⟩ := R; exact gr_223_8
theorem nz_gr223_9 (R : cz_N s0 W h) : m_gr h 223 3 9 = some 231 := by obtain ⟨s, rfl, -, -⟩ := R; exact gr_223_9
theorem nz_gr223_10 (R : cz_N s0 W h) : m_gr h 223 3 10 = some 233 := by obtain ⟨s, rfl, -, -⟩ := R; exact gr_223_10
theorem nz_gr223_11 (R : cz_N s0 W h) : m_gr h 223 3 11 = some 235 := by obtain ⟨s, rfl, -, -⟩ := R; exact gr_223_11
theorem nz_gr223_12 (R : cz_N s0 W h) : m_gr h 223 3 12 = some 237 := by obtain ⟨s, rfl, -, -⟩ := R; exact gr_223_12
theorem nz_gr223_13 (R : cz_N s0 W h) : m_gr h 223 3 13 = some 239 := by obtain ⟨s, rfl, -, -⟩ := R; exact gr_223_13
theorem nz_gr223_14 (R : cz_N s0 W h) : m_gr h 223 3 14 = some 241 := by obtain ⟨s, rfl, -, -⟩ := R; exact gr_223_14
theorem nz_gr223_15 (R : cz_N s0 W h) : m_gr h 223 3 15 = some 243 := by obtain ⟨s, rfl, -, -⟩ := R; exact gr_223_15
theorem nz_gr223_16 (R : cz_N s0 W h) : m_gr h 223 3 16 = some 245 := by obtain ⟨s, rfl, -, -⟩ := R; exact gr_223_16
theorem nz_gr223_17 (R : cz_N s0 W h) : m_gr h 223 3 17 = some 247 := by obtain ⟨s, rfl, -, -⟩ := R; exact gr_223_17
theorem nz_gr223_18 (R : cz_N s0 W h) : m_gr h 223 3 18 = some 249 := by obtain ⟨s, rfl, -, -⟩ := R; exact gr_223_18
theorem nz_gr223_19 (R : cz_N s0 W h) : m_gr h 223 3 19 = some 251 := by obtain ⟨s, rfl, -, -⟩ := R; exact gr_223_19
theorem nz_le224 (R : cz_N s0 W h) : m_len h 224 = some 10 := by obtain ⟨s, rfl, -, -⟩ := R; exact le_224
theorem nz_io225 (R : cz_N s0 W h) : m_isO h 6 225 = true := by obtain ⟨s, rfl, -, -⟩ := R; exact io_225
theorem nz_gr225_1 (R : cz_N s0 W h) : m_gr h 225 6 1 = some 226 := by obtain ⟨s, rfl, -, -⟩ := R; exact gr_225_1
theorem nz_le226 (R : cz_N s0 W h) : m_len h 226 = some 32 := by obtain ⟨s, rfl, -, -⟩ := R; exact le_226
theorem nz_io227 (R : cz_N s0 W h) : m_isO h 6 227 = true := by obtain ⟨s, rfl, -, -⟩ := R; exact io_227
theorem nz_gr227_1 (R : cz_N s0 W h) : m_gr h 227 6 1 = some 228 := by obtain ⟨s, rfl, -, -⟩ := R; exact gr_227_1
theorem nz_le228 (R : cz_N s0 W h) : m_len h 228 = some 300 := by obtain ⟨s, rfl, -, -⟩ := R; exact le_228
theorem nz_io229 (R : cz_N s0 W h) : m_isO h 6 229 = true := by obtain ⟨s, rfl, -, -⟩ := R; exact io_229
theorem nz_gr229_1 (R : cz_N s0 W h) : m_gr h 229 6 1 = some 230 := by obtain ⟨s, rfl, -, -⟩ := R; exact gr_229_1
theorem nz_le230 (R : cz_N s0 W h) : m_len h 230 = some 2100 := by obtain ⟨s, rfl, -, -⟩ := R; exact le_230
theorem nz_io231 (R : cz_N s0 W h) : m_isO h 6 231 = true := by obtain ⟨s, rfl, -, -⟩ := R; exact io_231
theorem nz_gr231_1 (R : cz_N s0 W h) : m_gr h 231 6 1 = some 232 := by obtain ⟨s, rfl, -, -⟩ := R; exact gr_231_1
theorem nz_le232 (R : cz_N s0 W h) : m_len h 232 = some 300 := by obtain ⟨s, rfl, -, -⟩ := R; exact le_232
theorem nz_io233 (R : cz_N s0 W h) : m_isO h 6 233 = true := by obtain ⟨s, rfl, -, -⟩ := R; exact io_233
theorem nz_gr233_1 (R : cz_N s0 W h) : m_gr h 233 6 1 = some 234 := by obtain ⟨s, rfl, -, -⟩ := R; exact gr_233_1
theorem nz_le234 (R : cz_N s0 W h) : m_len h 234 = some 276 := by obtain ⟨s, rfl, -, -⟩ := R; exact le_234
theorem nz_io235 (R : cz_N s0 W h) : m_isO h 6 235 = true := by obtain ⟨s, rfl, -, -⟩ := R; exact io_235
theorem nz_gr235_1 (R : cz_N s0 W h) : m_gr h 235 6 1 = some 236 := by obtain ⟨s, rfl, -, -⟩ := R; exact gr_235_1
theorem nz_le236 (R : cz_N s0 W h) : m_len h 236 = some 24 := by obtain ⟨s, rfl, -, -⟩ := R; exact le_236
theorem nz_io237 (R : cz_N s0 W h) : m_isO h 6 237 = true := by obtain ⟨s, rfl, -, -⟩ := R; exact io_237
theorem nz_gr237_1 (R : cz_N s0 W h) : m_gr h 237 6 1 = some 238 := by obtain ⟨s, rfl, -, -⟩ := R; exact gr_237_1
theorem nz_le238 (R : cz_N s0 W h) : m_len h 238 = some 144 := by obtain ⟨s, rfl, -, -⟩ := R; exact le_238
theorem nz_io239 (R : cz_N s0 W h) : m_isO h 6 239 = true := by obtain ⟨s, rfl, -, -⟩ := R; exact io_239
theorem nz_gr239_1 (R : cz_N s0 W h) : m_gr h 239 6 1 = some 240 := by obtain ⟨s, rfl, -, -⟩ := R; exact gr_239_1
theorem nz_le240 (R : cz_N s0 W h) : m_len h 240 = some 300 := by obtain ⟨s, rfl, -, -⟩ := R; exact le_240
theorem nz_io241 (R : cz_N s0 W h) : m_isO h 6 241 = true := by obtain ⟨s, rfl, -, -⟩ := R; exact io_241
theorem nz_gr241_1 (R : cz_N s0 W h) : m_gr h 241 6 1 = some 242 := by obtain ⟨s, rfl, -, -⟩ := R; exact gr_241_1
theorem nz_le242 (R : cz_N s0 W h) : m_len h 242 = some 500 := by obtain ⟨s, rfl, -, -⟩ := R; exact le_242
theorem nz_io243 (R : cz_N s0 W h) : m_isO h 6 243 = true := by obtain ⟨s, rfl, -, -⟩ := R; exact io_243
theorem nz_gr243_1 (R : cz_N s0 W h) : m_gr h 243 6 1 = some 244 := by obtain ⟨s, rfl, -, -⟩ := R; exact gr_243_1
theorem nz_le244 (R : cz_N s0 W h) : m_len h 244 = some 180 := by obtain ⟨s, rfl, -, -⟩ := R; exact le_244
theorem nz_io245 (R : cz_N s0 W h) : m_isO h 6 245 = true := by obtain ⟨s, rfl, -, -⟩ := R; exact io_245
theorem nz_gr245_1 (R : cz_N s0 W h) : m_gr h 245 6 1 = some 246 := by obtain ⟨s, rfl, -, -⟩ := R; exact gr_245_1
theorem nz_le246 (R : cz_N s0 W h) : m_len h 246 = some 60 := by obtain ⟨s, rfl, -, -⟩ := R; exact le_246
theorem nz_io247 (R : cz_N s0 W h) : m_isO h 6 247 = true := by obtain ⟨s, rfl, -, -⟩ := R; exact io_247
theorem nz_gr247_1 (R : cz_N s0 W h) : m_gr h 247 6 1 = some 248 := by obtain ⟨s, rfl, -, -⟩ := R; exact gr_247_1
theorem nz_le248 (R : cz_N s0 W h) : m_len h 248 = some 18 := by obtain ⟨s, rfl, -, -⟩ := R; exact le_248
theorem nz_io249 (R : cz_N s0 W h) : m_isO h 6 249 = true := by obtain ⟨s, rfl, -, -⟩ := R; exact io_249
theorem nz_gr249_1 (R : cz_N s0 W h) : m_gr h 249 6 1 = some 250 := by obtain ⟨s, rfl, -, -⟩ := R; exact gr_249_1
theorem nz_le250 (R : cz_N s0 W h) : m_len h 250 = some 32 := by obtain ⟨s, rfl, -, -⟩ := R; exact le_250
theorem nz_io251 (R : cz_N s0 W h) : m_isO h 6 251 = true := by obtain ⟨s, rfl, -, -⟩ := R; exact io_251
theorem nz_gr251_1 (R : cz_N s0 W h) : m_gr h 251 6 1 = some 252 := by obtain ⟨s, rfl, -, -⟩ := R; exact gr_251_1
theorem nz_le252 (R : cz_N s0 W h) : m_len h 252 = some 45 := by obtain ⟨s, rfl, -, -⟩ := R; exact le_252
theorem cz_i0 (R : cz_N s0 W h) : m_gi h 223 3 0 = some (W 14 0 0) := by obtain ⟨s, rfl, H, -⟩ := R; rw [gi_223_0]; exact congrArg some H.1.1
theorem cz_p0 (R : cz_N s0 W h) {u : Int32} : k_ok (m_pf m_ft h 223 3 0 (.int u)) (cz_N s0 (wz_up W 14 0 0 u)) := by obtain ⟨s, rfl, H, F⟩ := R; exact ⟨_, pf_223_0, _, rfl, cz_pf H (by decide), F.trans (tz_fr.uf (by decide) (by decide) (by decide))⟩
theorem cz_i1 (R : cz_N s0 W h) : m_gi h 223 3 1 = some (W 14 0 1) := by obtain ⟨s, rfl, H, -⟩ := R; rw [gi_223_1]; exact congrArg some H.1.2.1
theorem cz_p1 (R : cz_N s0 W h) {u : Int32} : k_ok (m_pf m_ft h 223 3 1 (.int u)) (cz_N s0 (wz_up W 14 0 1 u)) := by obtain ⟨s, rfl, H, F⟩ := R; exact ⟨_, pf_223_1, _, rfl, cz_pf H (by decide), F.trans (tz_fr.uf (by decide) (by decide) (by decide))⟩
theorem cz_i2 (R : cz_N s0 W h) : m_gi h 223 3 2 = some (W 14 0 2) := by obtain ⟨s, rfl, H, -⟩ := R; rw [gi_223_2]; exact congrArg some H.1.2.2.1
theorem cz_p2 (R : cz_N s0 W h) {u : Int32} : k_ok (m_pf m_ft h 223 3 2 (.int u)) (cz_N s0 (wz_up W 14 0 2 u)) := by obtain ⟨s, rfl, H, F⟩ := R; exact ⟨_, pf_223_2, _, rfl, cz_pf H (by decide), F.trans (tz_fr.uf (by decide) (by decide) (by decide))⟩
theorem cz_i3 (R : cz_N s0 W h) : m_gi h 223 3 3 = some (W 14 0 3) := by obtain ⟨s, rfl, H, -⟩ := R; rw [gi_223_3]; exact congrArg some H.1.2.2.2
theorem cz_p3 (R : cz_N s0 W h) {u : Int32} (hb : u = 0 ∨ u = 1) : k_ok (m_pf m_ft h 223 3 3 (.int u)) (cz_N s0 (wz_up W 14 0 3 u)) := by obtain ⟨s, rfl, H, F⟩ := R; exact ⟨_, pf_223_3 hb, _, rfl, cz_pf H (by decide), F.trans (tz_fr.uf (by decide) (by decide) (by decide))⟩
theorem cz_i5 (R : cz_N s0 W h) : m_gi h 223 3 5 = some (nI (wz_n W 17)) := by obtain ⟨s, rfl, H, -⟩ := R; rw [gi_223_5, H.2.1.1, H.2.1.2.1]
end
