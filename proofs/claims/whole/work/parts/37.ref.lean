/-! ===== r_: the reference's world ===== -/
def tz_WR (s : tz_S) (a : Nat) (W : m_W) : Prop := ∀ k r c, wz_v k r c → s.2.1 a (wz_ix k r c) = W k r c
/-- what the reference leaves as it was: all but the world, `thrown` and what is only used within a call -/
def tz_fq (s s' : tz_S) : Prop := (∀ a k, ¬ (a = 317 ∧ (k = 0 ∨ k = 8 ∨ k = 9 ∨ k = 10 ∨ k = 11 ∨ k = 14 ∨ k = 23)) → s'.1 a k = s.1 a k) ∧ (∀ a, ¬ (a = 318 ∨ 322 ≤ a ∧ a ≤ 331 ∧ ¬ (a = 325 ∨ a = 326)) → s'.2.1 a = s.2.1 a) ∧ (∀ a, ¬ (a = 323 ∨ a = 324 ∨ a = 332) → s'.2.2.1 a = s.2.2.1 a) ∧ s'.2.2.2 = s.2.2.2
theorem tz_fq.refl {s : tz_S} : tz_fq s s := ⟨fun _ _ _ => rfl, fun _ _ => rfl, fun _ _ => rfl, rfl⟩
theorem tz_fq.trans {s s1 s2 : tz_S} (h : tz_fq s s1) (h' : tz_fq s1 s2) : tz_fq s s2 :=
  ⟨fun a k q => (h'.1 a k q).trans (h.1 a k q), fun a q => (h'.2.1 a q).trans (h.2.1 a q), fun a q => (h'.2.2.1 a q).trans (h.2.2.1 a q), h'.2.2.2.trans h.2.2.2⟩
theorem tz_fq.uf {s : tz_S} {k : Nat} {v : Int32} (h : k = 0 ∨ k = 8 ∨ k = 9 ∨ k = 10 ∨ k = 11 ∨ k = 14 ∨ k = 23) : tz_fq s (tz_uf s 317 k v) :=
  ⟨fun x y q => if_neg (fun e : x = 317 ∧ y = k => q ⟨e.1, by rw [e.2]; exact h⟩), fun _ _ => rfl, fun _ _ => rfl, rfl⟩
theorem tz_fq.ui {s : tz_S} {a : Nat} {f : Nat → Int32} (h : a = 318 ∨ 322 ≤ a ∧ a ≤ 331 ∧ ¬ (a = 325 ∨ a = 326)) : tz_fq s (tz_ui s a f) :=
  ⟨fun _ _ _ => rfl, fun x q => if_neg (fun e : x = a => q (by rw [e]; exact h)), fun _ _ => rfl, rfl⟩
theorem tz_fq.ul {s : tz_S} {a : Nat} {f : Nat → Int64} (h : a = 323 ∨ a = 324 ∨ a = 332) : tz_fq s (tz_ul s a f) :=
  ⟨fun _ _ _ => rfl, fun _ _ => rfl, fun x q => if_neg (fun e : x = a => q (by rw [e]; exact h)), rfl⟩
/-- the world is W, thrown is th, and all else but what is only used within a call is as it was in s0 -/
def rz_N (s0 : tz_S) (th : Int32) (W : m_W) (h : m_H) : Prop := ∃ s, h = tz_H s ∧ tz_WR s 318 W ∧ s.1 317 0 = th ∧ tz_fq s0 s
theorem WR_ui {s : tz_S} {W : m_W} (H : tz_WR s 318 W) {k r c : Nat} {u : Int32} (hv : wz_v k r c) : tz_WR (tz_ui s 318 (upd (s.2.1 318) (wz_ix k r c) u)) 318 (wz_up W k r c u) := by
  intro k' r' c' hv'
  rw [tz_ui_a]
  by_cases q : k' = k ∧ r' = r ∧ c' = c
  · obtain ⟨rfl, rfl, rfl⟩ := q
    rw [pk_us, wz_up_s]
  · rw [pk_un (fun e => q (wz_inj hv' hv e)), H k' r' c' hv']
    exact (if_neg q).symm
section
variable {s0 : tz_S} {th : Int32} {W : m_W} {h : m_H}
theorem rz_get (R : rz_N s0 th W h) {k r c : Nat} {j : Int32} (hj : j = nI (wz_ix k r c)) (hv : wz_v k r c) : m_ai h 0 318 j = some (W k r c) := by
  obtain ⟨s, rfl, H, -, -⟩ := R
  have h1 := wz_ix_lt hv
  rw [hj, tz_ai sh_318 ⟨rfl, rfl⟩ (nI_in1 (by omega) (by decide)), nI_clamp (by omega), H k r c hv]
theorem rz_set (R : rz_N s0 th W h) {k r c : Nat} {j u : Int32} (hj : j = nI (wz_ix k r c)) (hv : wz_v k r c) : k_ok (m_si h 0 318 j u) (rz_N s0 th (wz_up W k r c u)) := by
  obtain ⟨s, rfl, H, ht, F⟩ := R
  have h1 := wz_ix_lt hv
  refine ⟨_, tz_si sh_318 ⟨rfl, rfl⟩ (by rw [hj]; exact nI_in1 (by omega) (by decide)), _, rfl, ?_, ht, F.trans (tz_fq.ui (Or.inl rfl))⟩
  rw [hj, nI_clamp (by omega)]
  exact WR_ui H hv
theorem rz_th (R : rz_N s0 th W h) {u : Int32} : k_ok (m_pf m_ft h 317 9 0 (.int u)) (rz_N s0 u W) := by
  obtain ⟨s, rfl, H, ht, F⟩ := R
  exact ⟨_, pf_317_0, _, rfl, H, (show (if 317 = 317 ∧ 0 = 0 then u else s.1 317 0) = u from if_pos ⟨rfl, rfl⟩), F.trans (tz_fq.uf (Or.inl rfl))⟩
theorem rz_thr (R : rz_N s0 th W h) : F12_thrown 317 h = some th := by
  obtain ⟨s, rfl, H, ht, F⟩ := R
  unfold F12_thrown F12_thrown_0
  rw [io_317, gz_s, gi_317_0, bz_s, ht]
theorem rz_io (R : rz_N s0 th W h) : m_isO h 9 317 = true := by obtain ⟨s, rfl, -⟩ := R; exact io_317
theorem rz_gr1 (R : rz_N s0 th W h) : m_gr h 317 9 1 = some 318 := by obtain ⟨s, rfl, -⟩ := R; exact gr_317_1
theorem rz_gr2 (R : rz_N s0 th W h) : m_gr h 317 9 2 = some 319 := by obtain ⟨s, rfl, -⟩ := R; exact gr_317_2
theorem rz_gr3 (R : rz_N s0 th W h) : m_gr h 317 9 3 = some 320 := by obtain ⟨s, rfl, -⟩ := R; exact gr_317_3
theorem rz_gr6 (R : rz_N s0 th W h) : m_gr h 317 9 6 = some 321 := by obtain ⟨s, rfl, -⟩ := R; exact gr_317_6
theorem rz_gr13 (R : rz_N s0 th W h) : m_gr h 317 9 13 = some 322 := by obtain ⟨s, rfl, -⟩ := R; exact gr_317_13
theorem rz_gr15 (R : rz_N s0 th W h) : m_gr h 317 9 15 = some 323 := by obtain ⟨s, rfl, -⟩ := R; exact gr_317_15
theorem rz_gr16 (R : rz_N s0 th W h) : m_gr h 317 9 16 = some 324 := by obtain ⟨s, rfl, -⟩ := R; exact gr_317_16
theorem rz_gr17 (R : rz_N s0 th W h) : m_gr h 317 9 17 = some 325 := by obtain ⟨s, rfl, -⟩ := R; exact gr_317_17
theorem rz_gr18 (R : rz_N s0 th W h) : m_gr h 317 9 18 = some 326 := by obtain ⟨s, rfl, -⟩ := R; exact gr_317_18
theorem rz_gr19 (R : rz_N s0 th W h) : m_gr h 317 9 19 = some 327 := by obtain ⟨s, rfl, -⟩ := R; exact gr_317_19
theorem rz_gr20 (R : rz_N s0 th W h) : m_gr h 317 9 20 = some 328 := by obtain ⟨s, rfl, -⟩ := R; exact gr_317_20
theorem rz_gr21 (R : rz_N s0 th W h) : m_gr h 317 9 21 = some 329 := by obtain ⟨s, rfl, -⟩ := R; exact gr_317_21
theorem rz_gr22 (R : rz_N s0 th W h) : m_gr h 317 9 22 = some 330 := by obtain ⟨s, rfl, -⟩ := R; exact gr_317_22
theorem rz_gr24 (R : rz_N s0 th W h) : m_gr h 317 9 24 = some 331 := by obtain ⟨s, rfl, -⟩ := R; exact gr_317_24
theorem rz_gr25 (R : rz_N s0 th W h) : m_gr h 317 9 25 = some 332 := by obtain ⟨s, rfl, -⟩ := R; exact gr_317_25
theorem rz_c1 (R : rz_N s0 th W h) : m_ai h 0 318 205 = some (W 21 0 0) := rz_get R (k := 21) (r := 0) (c := 0) rfl ⟨by decide, by decide, by decide⟩
theorem rz_cs1 (R : rz_N s0 th W h) {u : Int32} : k_ok (m_si h 0 318 205 u) (rz_N s0 th (wz_up W 21 0 0 u)) := rz_set R (k := 21) (r := 0) (c := 0) rfl ⟨by decide, by decide, by decide⟩
theorem rz_c2 (R : rz_N s0 th W h) : m_ai h 0 318 807 = some (W 22 0 0) := rz_get R (k := 22) (r := 0) (c := 0) rfl ⟨by decide, by decide, by decide⟩
theorem rz_cs2 (R : rz_N s0 th W h) {u : Int32} : k_ok (m_si h 0 318 807 u) (rz_N s0 th (wz_up W 22 0 0 u)) := rz_set R (k := 22) (r := 0) (c := 0) rfl ⟨by decide, by decide, by decide⟩
theorem rz_c3 (R : rz_N s0 th W h) : m_ai h 0 318 2908 = some (W 23 0 0) := rz_get R (k := 23) (r := 0) (c := 0) rfl ⟨by decide, by decide, by decide⟩
theorem rz_cs3 (R : rz_N s0 th W h) {u : Int32} : k_ok (m_si h 0 318 2908 u) (rz_N s0 th (wz_up W 23 0 0 u)) := rz_set R (k := 23) (r := 0) (c := 0) rfl ⟨by decide, by decide, by decide⟩
theorem rz_c4 (R : rz_N s0 th W h) : m_ai h 0 318 3209 = some (W 24 0 0) := rz_get R (k := 24) (r := 0) (c := 0) rfl ⟨by decide, by decide, by decide⟩
theorem rz_cs4 (R : rz_N s0 th W h) {u : Int32} : k_ok (m_si h 0 318 3209 u) (rz_N s0 th (wz_up W 24 0 0 u)) := rz_set R (k := 24) (r := 0) (c := 0) rfl ⟨by decide, by decide, by decide⟩
theorem rz_c7 (R : rz_N s0 th W h) : m_ai h 0 318 506 = some (W 27 0 0) := rz_get R (k := 27) (r := 0) (c := 0) rfl ⟨by decide, by decide, by decide⟩
theorem rz_cs7 (R : rz_N s0 th W h) {u : Int32} : k_ok (m_si h 0 318 506 u) (rz_N s0 th (wz_up W 27 0 0 u)) := rz_set R (k := 27) (r := 0) (c := 0) rfl ⟨by decide, by decide, by decide⟩
theorem rz_c8 (R : rz_N s0 th W h) : m_ai h 0 318 3486 = some (W 28 0 0) := rz_get R (k := 28) (r := 0) (c := 0) rfl ⟨by decide, by decide, by decide⟩
theorem rz_cs8 (R : rz_N s0 th W h) {u : Int32} : k_ok (m_si h 0 318 3486 u) (rz_N s0 th (wz_up W 28 0 0 u)) := rz_set R (k := 28) (r := 0) (c := 0) rfl ⟨by decide, by decide, by decide⟩
theorem rz_c9 (R : rz_N s0 th W h) : m_ai h 0 318 3987 = some (W 29 0 0) := rz_get R (k := 29) (r := 0) (c := 0) rfl ⟨by decide, by decide, by decide⟩
theorem rz_cs9 (R : rz_N s0 th W h) {u : Int32} : k_ok (m_si h 0 318 3987 u) (rz_N s0 th (wz_up W 29 0 0 u)) := rz_set R (k := 29) (r := 0) (c := 0) rfl ⟨by decide, by decide, by decide⟩
theorem rz_c10 (R : rz_N s0 th W h) : m_ai h 0 318 4168 = some (W 30 0 0) := rz_get R (k := 30) (r := 0) (c := 0) rfl ⟨by decide, by decide, by decide⟩
theorem rz_cs10 (R : rz_N s0 th W h) {u : Int32} : k_ok (m_si h 0 318 4168 u) (rz_N s0 th (wz_up W 30 0 0 u)) := rz_set R (k := 30) (r := 0) (c := 0) rfl ⟨by decide, by decide, by decide⟩
theorem rz_c11 (R : rz_N s0 th W h) : m_ai h 0 318 4229 = some (W 31 0 0) := rz_get R (k := 31) (r := 0) (c := 0) rfl ⟨by decide, by decide, by decide⟩
theorem rz_cs11 (R : rz_N s0 th W h) {u : Int32} : k_ok (m_si h 0 318 4229 u) (rz_N s0 th (wz_up W 31 0 0 u)) := rz_set R (k := 31) (r := 0) (c := 0) rfl ⟨by decide, by decide, by decide⟩
theorem rz_c12 (R : rz_N s0 th W h) : m_ai h 0 318 4248 = some (W 32 0 0) := rz_get R (k := 32) (r := 0) (c := 0) rfl ⟨by decide, by decide, by decide⟩
theorem rz_cs12 (R : rz_N s0 th W h) {u : Int32} : k_ok (m_si h 0 318 4248 u) (rz_N s0 th (wz_up W 32 0 0 u)) := rz_set R (k := 32) (r := 0) (c := 0) rfl ⟨by decide, by decide, by decide⟩
theorem rz_c17 (R : rz_N s0 th W h) : m_ai h 0 318 28326 = some (W 37 0 0) := rz_get R (k := 37) (r := 0) (c := 0) rfl ⟨by decide, by decide, by decide⟩
theorem rz_cs17 (R : rz_N s0 th W h) {u : Int32} : k_ok (m_si h 0 318 28326 u) (rz_N s0 th (wz_up W 37 0 0 u)) := rz_set R (k := 37) (r := 0) (c := 0) rfl ⟨by decide, by decide, by decide⟩
theorem rz_w0 (R : rz_N s0 th W h) : m_ai h 0 318 0 = some (W 14 0 0) := rz_get R (k := 14) (r := 0) (c := 0) rfl ⟨by decide, by decide, by decide⟩
theorem rz_ws0 (R : rz_N s0 th W h) {u : Int32} : k_ok (m_si h 0 318 0 u) (rz_N s0 th (wz_up W 14 0 0 u)) := rz_set R (k := 14) (r := 0) (c := 0) rfl ⟨by decide, by decide, by decide⟩
theorem rz_w1 (R : rz_N s0 th W h) : m_ai h 0 318 1 = some (W 14 0 1) := rz_get R (k := 14) (r := 0) (c := 1) rfl ⟨by decide, by decide, by decide⟩
theorem rz_ws1 (R : rz_N s0 th W h) {u : Int32} : k_ok (m_si h 0 318 1 u) (rz_N s0 th (wz_up W 14 0 1 u)) := rz_set R (k := 14) (r := 0) (c := 1) rfl ⟨by decide, by decide, by decide⟩
theorem rz_w2 (R : rz_N s0 th W h) : m_ai h 0 318 2 = some (W 14 0 2) := rz_get R (k := 14) (r := 0) (c := 2) rfl ⟨by decide, by decide, by decide⟩
theorem rz_ws2 (R : rz_N s0 th W h) {u : Int32} : k_ok (m_si h 0 318 2 u) (rz_N s0 th (wz_up W 14 0 2 u)) := rz_set R (k := 14) (r := 0) (c := 2) rfl ⟨by decide, by decide, by decide⟩
theorem rz_w3 (R : rz_N s0 th W h) : m_ai h 0 318 3 = some (W 14 0 3) := rz_get R (k := 14) (r := 0) (c := 3) rfl ⟨by decide, by decide, by decide⟩
theorem rz_ws3 (R : rz_N s0 th W h) {u : Int32} : k_ok (m_si h 0 318 3 u) (rz_N s0 th (wz_up W 14 0 3 u)) := rz_set R (k := 14) (r := 0) (c := 3) rfl ⟨by decide, by decide, by decide⟩
theorem rz_w4 (R : rz_N s0 th W h) : m_ai h 0 318 4 = some (W 14 0 4) := rz_get R (k := 14) (r := 0) (c := 4) rfl ⟨by decide, by decide, by decide⟩
theorem rz_ws4 (R : rz_N s0 th W h) {u : Int32} : k_ok (m_si h 0 318 4 u) (rz_N s0 th (wz_up W 14 0 4 u)) := rz_set R (k := 14) (r := 0) (c := 4) rfl ⟨by decide, by decide, by decide⟩
/-! indices -/
theorem ix0 (r c : Nat) : (5 + 4 * nI r) + nI c = nI (wz_ix 0 r c) := by
  show (nI 5 + nI 4 * nI r) + nI c = nI (5 + (4 * r + c))
  rw [nI_mul, nI_add, nI_add, Nat.add_assoc]
theorem ix2 (r c : Nat) : (808 + 21 * nI r) + nI c = nI (wz_ix 2 r c) := by
  show (nI 808 + nI 21 * nI r) + nI c = nI (808 + (21 * r + c))
  rw [nI_mul, nI_add, nI_add, Nat.add_assoc]
theorem ix3 (r c : Nat) : (2909 + 5 * nI r) + nI c = nI (wz_ix 3 r c) := by
  show (nI 2909 + nI 5 * nI r) + nI c = nI (2909 + (5 * r + c))
  rw [nI_mul, nI_add, nI_add, Nat.add_assoc]
theorem ix30 (r : Nat) : 2909 + 5 * nI r = nI (wz_ix 3 r 0) := by
  show nI 2909 + nI 5 * nI r = nI (2909 + (5 * r + 0))
  rw [nI_mul, nI_add, Nat.add_zero]
theorem ix4 (r c : Nat) : (3210 + 23 * nI r) + nI c = nI (wz_ix 4 r c) := by
  show (nI 3210 + nI 23 * nI r) + nI c = nI (3210 + (23 * r + c))
  rw [nI_mul, nI_add, nI_add, Nat.add_assoc]
theorem ix5 (r c : Nat) : (37 + 4 * nI r) + nI c = nI (wz_ix 5 r c) := by
  show (nI 37 + nI 4 * nI r) + nI c = nI (37 + (4 * r + c))
  rw [nI_mul, nI_add, nI_add, Nat.add_assoc]
theorem ix6 (l t c : Nat) : (nI (61 + 48 * c) + 8 * nI l) + nI t = nI (wz_ix 6 (8 * l + t) c) := by
  show (nI (61 + 48 * c) + nI 8 * nI l) + nI t = nI (61 + (48 * c + (8 * l + t)))
  rw [nI_mul, nI_add, nI_add]
  congr 1
  omega
theorem ix8 (r c : Nat) : (3487 + 5 * nI r) + nI c = nI (wz_ix 8 r c) := by
  show (nI 3487 + nI 5 * nI r) + nI c = nI (3487 + (5 * r + c))
  rw [nI_mul, nI_add, nI_add, Nat.add_assoc]
theorem ix80 (r : Nat) : 3487 + 5 * nI r = nI (wz_ix 8 r 0) := by
  show nI 3487 + nI 5 * nI r = nI (3487 + (5 * r + 0))
  rw [nI_mul, nI_add, Nat.add_zero]
theorem ix10 (r c : Nat) : (4169 + 6 * nI r) + nI c = nI (wz_ix 10 r c) := by
  show (nI 4169 + nI 6 * nI r) + nI c = nI (4169 + (6 * r + c))
  rw [nI_mul, nI_add, nI_add, Nat.add_assoc]
theorem ix100 (r : Nat) : 4169 + 6 * nI r = nI (wz_ix 10 r 0) := by
  show nI 4169 + nI 6 * nI r = nI (4169 + (6 * r + 0))
  rw [nI_mul, nI_add, Nat.add_zero]
end
