/-! ===== sums over rows; count, led, check, over ===== -/
theorem wh_up {A X : Type} {body : A × Int32 → Option ((A × Int32) ⊕ X)} (f : Nat → A → A) (n : Nat) (a0 : A) (x : X) (hn : n < 1000000) (hb : ∀ i a, i < n → body (a, nI i) = some (.inl (f i a, nI i + 1))) (he : body (sp_it f n a0, nI n) = some (.inr x)) : m_wh body m_N (a0, 0) = some x := by
  refine wh_s (fun i => (sp_it f i a0, nI i)) x n 0 m_N (N_lt (by omega)) (Nat.zero_le _) (fun i _ hi => ?_) he
  rw [hb i _ hi, ← nI_succ]
  rfl
def sp_sum (W : m_W) (k c : Nat) : Int32 := sp_it (fun r a => a + W k r c) (wz_n W k) 0
def sp_rw (W : m_W) (k c : Nat) (v : Int32) : Int32 := sp_it (fun r a => if W k r c = v then a + 1 else a) (wz_n W k) 0
def sp_open (W : m_W) : Int32 := sp_it (fun r a => if W 3 r 2 - W 3 r 4 ≤ 0 then a else a + 1) (wz_n W 3) 0
def sp_tx (W : m_W) (i : Nat) (p : Option Nat) : Option Nat := if W 14 0 0 < W 17 i 0 then p else match p with
  | none => some i
  | some j => if W 17 i 0 < W 17 j 0 then some j else some i
def sp_text (W : m_W) : Option Nat := sp_it (sp_tx W) (wz_n W 17) none
def sp_lines (W : m_W) : Int32 := match sp_text W with
  | none => 0
  | some i => W 17 i 1
def sp_tons1 (W : m_W) (s : Nat) (j : Nat) (a : Int32) : Int32 := a + W 4 s (8 + 2 * j) * W 0 (W 2 (W 4 s (7 + 2 * j)).toNatClampNeg 0).toNatClampNeg 0
def sp_tonsIn (W : m_W) (s : Nat) : Int32 := sp_it (sp_tons1 W s) (W 4 s 6).toNatClampNeg 0
def sp_count (W : m_W) (x : Int32) : Int32 :=
  if 12 ≤ x ∧ x ≤ 20 then sp_sum W 2 (x.toNatClampNeg - 2) else if x = 0 then W 14 0 0 else if x = 1 then nI (wz_n W 2) else if x = 2 then W 14 0 1 else if x = 3 then nI (wz_n W 17) else if x = 4 then sp_lines W else if x = 5 then sp_open W else if x = 6 then nI (wz_n W 4) else if x = 7 then sp_rw W 4 2 4 else if x = 8 then sp_rw W 2 9 1 else if x = 9 then nI (wz_n W 10) else if x = 10 then sp_sum W 10 5 else if x = 11 then W 14 0 3 else -1
def hz_Act (h : m_H) (a : Nat) (T : Nat → Int32) : Prop := ∃ s : tz_S, h = tz_H s ∧ tz_Act s.2.2.2.2.2.1 a T
theorem hz_Act.io {h : m_H} {a : Nat} {T : Nat → Int32} (A : hz_Act h a T) : m_isO h 0 a = true := by
  obtain ⟨s, rfl, a1, a2, a3, a4, n, m, f1, f2, f3, f4, h1, h2, -⟩ := A
  unfold m_isO
  rw [tz_x h1, h2]
  rfl
theorem hz_Act.g0 {h : m_H} {a : Nat} {T : Nat → Int32} (A : hz_Act h a T) : m_gi h a 0 0 = some (T 0) := by
  obtain ⟨s, rfl, a1, a2, a3, a4, n, m, f1, f2, f3, f4, h1, h2, -⟩ := A
  unfold m_gi m_gf
  rw [tz_x h1, h2]
  rfl
theorem hz_Act.g1 {h : m_H} {a : Nat} {T : Nat → Int32} (A : hz_Act h a T) : m_gi h a 0 1 = some (T 1) := by
  obtain ⟨s, rfl, a1, a2, a3, a4, n, m, f1, f2, f3, f4, h1, h2, -⟩ := A
  unfold m_gi m_gf
  rw [tz_x h1, h2]
  rfl
theorem m_swi_in {x : Int32} {n k : Nat} (hk : k ≤ n) (hn : n < 2 ^ 31) (hx : x = nI k) : m_swi 0 (n : Int) x = some k := by
  subst hx
  unfold m_swi
  rw [nI_toInt (by omega), if_neg (by omega)]
  congr 1
theorem m_swi_out {x : Int32} {n : Nat} (hx : x < 0 ∨ nI n < x) (hn : n < 2 ^ 31) : m_swi 0 (n : Int) x = none := by
  unfold m_swi
  rw [if_pos]
  rcases hx with h | h
  · exact Or.inl (by have := Int32.lt_iff_toInt_lt.mp h; simpa using this)
  · exact Or.inr (by have := Int32.lt_iff_toInt_lt.mp h; rwa [nI_toInt hn] at this)
theorem swt_s {β : Type} {a : Option β} {f : Nat → Option β} {k : Nat} : m_swt (some k) a f = f k := rfl
theorem swt_n {β : Type} {a : Option β} {f : Nat → Option β} : m_swt none a f = a := rfl
section
variable {s0 : tz_S} {th : Int32} {W : m_W} {h : m_H}
theorem cz_sumOf (R : cz_N s0 W h) {k v c : Nat} {y : Int32} (hk : k < 14) (hv : v = 223 + 2 + 2 * k) (hy : y = nI c) (hc : c < wz_wid k) (hio : m_isO h 6 v = true) (hn : wz_n W k ≤ 100) : F8_sumOf v y h = some (sp_sum W k (wz_pi k c)) := by
  unfold F8_sumOf F8_sumOf_0 F8_sumOf_4
  rw [hio, gz_s]
  refine wh_up (fun r a => a + W k r (wz_pi k c)) (wz_n W k) 0 _ (by omega) (fun i a hi => ?_) ?_
  · unfold F8_sumOf_4b
    dsimp only
    rw [cz_size R hk hv, bz_s, iz_f (nI_ge hi (by omega)), cz_get R hk hv rfl hi hy hc, bz_s]
  · unfold F8_sumOf_4b
    dsimp only
    rw [cz_size R hk hv, bz_s, iz_t (nI_le (Nat.le_refl _) (by omega))]
    rfl
theorem cz_rowsWith (R : cz_N s0 W h) {k v c : Nat} {y u : Int32} (hk : k < 14) (hv : v = 223 + 2 + 2 * k) (hy : y = nI c) (hc : c < wz_wid k) (hio : m_isO h 6 v = true) (hn : wz_n W k ≤ 100) : F8_rowsWith v y u h = some (sp_rw W k (wz_pi k c) u) := by
  unfold F8_rowsWith F8_rowsWith_0 F8_rowsWith_5
  rw [hio, gz_s]
  refine wh_up (fun r a => if W k r (wz_pi k c) = u then a + 1 else a) (wz_n W k) 0 _ (by omega) (fun i a hi => ?_) ?_
  · unfold F8_rowsWith_5b
    dsimp only
    rw [cz_size R hk hv, bz_s, iz_f (nI_ge hi (by omega)), cz_get R hk hv rfl hi hy hc, bz_s]
    by_cases q : W k i (wz_pi k c) = u
    · rw [iz_t q, if_pos q]
    · rw [iz_f q, if_neg q]
  · unfold F8_rowsWith_5b
    dsimp only
    rw [cz_size R hk hv, bz_s, iz_t (nI_le (Nat.le_refl _) (by omega))]
    rfl
theorem cz_open (R : cz_N s0 W h) (V : vz W) : F3_openRequests 223 h = some (sp_open W) := by
  have hn : wz_n W 3 ≤ 60 := V.c (k := 3) (by omega)
  unfold F3_openRequests F3_openRequests_0 F3_openRequests_4
  rw [nz_io223 R, gz_s]
  refine wh_up (fun r a => if W 3 r 2 - W 3 r 4 ≤ 0 then a else a + 1) (wz_n W 3) 0 _ (by omega) (fun i a hi => ?_) ?_
  · unfold F3_openRequests_4b
    dsimp only
    rw [nz_gr223_9 R, bz_s, cz_z3 R, bz_s, iz_f (nI_ge hi (by omega)), cz_lackOf R rfl hi, bz_s]
    by_cases q : W 3 i 2 - W 3 i 4 ≤ 0
    · rw [iz_t q, if_pos q]
    · rw [iz_f q, if_neg q]
  · unfold F3_openRequests_4b
    dsimp only
    rw [nz_gr223_9 R, bz_s, cz_z3 R, bz_s, iz_t (nI_le (Nat.le_refl _) (by omega))]
    rfl
theorem cz_act (R : cz_N s0 W h) : ∃ r, F3_actInForce 223 h = some r ∧ match sp_text W with
    | none => r = none
    | some i => i < wz_n W 17 ∧ ∃ a, r = some a ∧ hz_Act h a (W 17 i) := by
  obtain ⟨s, rfl, H, F⟩ := R
  have R : cz_N s0 W (tz_H s) := ⟨s, rfl, H, F⟩
  obtain ⟨-, ⟨-, -, hn, hA, -⟩, -⟩ := H
  have key : k_ok (m_wh (fun s' => F3_actInForce_4b 223 (tz_H s) s') m_N (none, 0)) (fun r => match sp_text W with
    | none => r = none
    | some i => i < wz_n W 17 ∧ ∃ a, r = some a ∧ hz_Act (tz_H s) a (W 17 i)) := by
    refine wh_i (n := wz_n W 17) (fun (i : Nat) (st : Option Nat × Int32) => st.2 = nI i ∧ match sp_it (sp_tx W) i none with
      | none => st.1 = none
      | some j => j < wz_n W 17 ∧ ∃ a, st.1 = some a ∧ hz_Act (tz_H s) a (W 17 j)) _ ?_ ?_ m_N 0 _ (N_lt (by omega)) (Nat.zero_le _) ⟨rfl, rfl⟩
    · rintro i ⟨p, x⟩ hi ⟨a1, a2⟩
      dsimp only at a1 a2
      subst a1
      unfold F3_actInForce_4b
      dsimp only
      obtain ⟨a, b1, b2⟩ := hA i hi
      have A : hz_Act (tz_H s) a (W 17 i) := ⟨s, rfl, b2⟩
      refine k_e (cz_i5 R) (k_f (nI_ge hi (by omega)) (k_e (nz_gr223_4 R) (k_e le_224 (k_f (show ¬ (nI 10 ≤ nI i) from nI_ge (by omega) (by decide)) (k_e (nz_gr223_4 R) ?_)))))
      refine k_e (tz_aq sh_224 (nI_in1 (by omega) (by decide))) ?_
      rw [nI_clamp (by omega), show s.2.2.2.1 224 i = some a from b1]
      refine k_e A.g0 (k_e (cz_i0 R) ?_)
      have hs : sp_it (sp_tx W) (i + 1) none = sp_tx W i (sp_it (sp_tx W) i none) := rfl
      refine k_if (fun c1 => k_s ⟨(nI_succ i).symm, ?_⟩) (fun c1 => ?_)
      · rw [hs, sp_tx.eq_def, if_pos c1]
        exact a2
      · revert a2
        generalize hq : sp_it (sp_tx W) i none = q
        intro a2
        cases q with
        | none =>
          dsimp only at a2
          subst a2
          refine k_s ⟨(nI_succ i).symm, ?_⟩
          rw [hs, hq, sp_tx.eq_def, if_neg c1]
          exact ⟨hi, a, rfl, A⟩
        | some j =>
          obtain ⟨hj, a', rfl, A'⟩ := a2
          refine k_e A.g0 (k_e A'.g0 ?_)
          refine k_if (fun c2 => k_s ⟨(nI_succ i).symm, ?_⟩) (fun c2 => k_s ⟨(nI_succ i).symm, ?_⟩)
          · rw [hs, hq, sp_tx.eq_def, if_neg c1]
            dsimp only
            rw [if_pos c2]
            exact ⟨hj, a', rfl, A'⟩
          · rw [hs, hq, sp_tx.eq_def, if_neg c1]
            dsimp only
            rw [if_neg c2]
            exact ⟨hi, a, rfl, A⟩
    · rintro ⟨p, x⟩ ⟨a1, a2⟩
      dsimp only at a1 a2
      subst a1
      unfold F3_actInForce_4b
      dsimp only
      exact k_e (cz_i5 R) (k_t (nI_le (Nat.le_refl _) (by omega)) (k_s a2))
  obtain ⟨r, e, hr⟩ := key
  refine ⟨r, ?_, hr⟩
  unfold F3_actInForce F3_actInForce_0 F3_actInForce_4
  rw [nz_io223 R, gz_s]
  exact e
theorem cz_lines (R : cz_N s0 W h) : F3_linesOfWeek 223 h = some (sp_lines W) := by
  obtain ⟨r, e, hr⟩ := cz_act R
  unfold F3_linesOfWeek F3_linesOfWeek_0 sp_lines
  rw [nz_io223 R, gz_s, e, bz_s]
  revert hr
  cases sp_text W with
  | none => rintro rfl; rfl
  | some i =>
    rintro ⟨-, a, rfl, A⟩
    show m_b (m_gi h a 0 1) _ = _
    rw [A.g1, bz_s]
theorem rz_textAt {r c : Nat} : nI (28327 + 850 * r) + nI c = nI (wz_ix 17 r c) := by
  rw [nI_add, Nat.add_assoc]
  rfl
theorem rz_tA {r : Nat} : F12_textAt (nI r) h = some (nI (28327 + 850 * r)) := by
  unfold F12_textAt F12_textAt_0
  show some (nI 28327 + nI 850 * nI r) = _
  rw [nI_mul, nI_add]
theorem rz_tg (R : rz_N s0 th W h) {r c : Nat} (hr : r < 10) (hc : c < 850) {x : Int32} (hx : x = nI c) : m_ai h 0 318 (nI (28327 + 850 * r) + x) = some (W 17 r c) := by
  subst hx
  exact rz_get R rz_textAt ⟨by decide, hr, hc⟩
theorem rz_tg0 (R : rz_N s0 th W h) {r : Nat} (hr : r < 10) : m_ai h 0 318 (nI (28327 + 850 * r)) = some (W 17 r 0) :=
  rz_get R rfl ⟨by decide, hr, by decide⟩
def vt (W : m_W) : Prop := (W (20 + 17) 0 0 = nI (wz_n W 17) ∧ wz_n W 17 ≤ 10) ∧ ∀ t, t < wz_n W 17 → vz_text (W 17 t)
theorem vz.vt {W : m_W} (V : vz W) : vt W := ⟨V.cap (k := 17) (by omega), V.2.2.2.2.2.2.2⟩
theorem rz_text (R : rz_N s0 th W h) (V : vt W) : F12_text 317 h = some (match sp_text W with | none => -1 | some i => nI i) ∧ ∀ i, sp_text W = some i → i < wz_n W 17 := by
  have hc := V.1
  have hn : wz_n W 17 ≤ 10 := hc.2
  have key : k_ok (m_wh (fun s' => F12_text_4b 317 h s') m_N (-1, 0)) (fun r => (∀ i, sp_text W = some i → i < wz_n W 17) ∧ r = match sp_text W with | none => -1 | some i => nI i) := by
    refine wh_i (n := wz_n W 17) (fun (i : Nat) (st : Int32 × Int32) => st.2 = nI i ∧ (∀ j, sp_it (sp_tx W) i none = some j → j < wz_n W 17) ∧ st.1 = match sp_it (sp_tx W) i none with | none => -1 | some i => nI i) _ ?_ ?_ m_N 0 _ (N_lt (by omega)) (Nat.zero_le _) ⟨rfl, (fun _ (e : none = some _) => nomatch e), rfl⟩
    · rintro i ⟨p, x⟩ hi ⟨a1, a0, a2⟩
      dsimp only at a1 a2
      subst a1
      unfold F12_text_4b
      dsimp only
      refine k_e (rz_gr1 R) (k_e (rz_c17 R) ?_)
      rw [show W 37 0 0 = _ from hc.1]
      refine k_f (nI_ge hi (by omega)) (k_e (rz_gr1 R) (k_e rz_tA (k_e (rz_tg0 R (by omega)) (k_e (k_wk R) ?_))))
      have hs : sp_it (sp_tx W) (i + 1) none = sp_tx W i (sp_it (sp_tx W) i none) := rfl
      refine k_if (fun c1 => k_s ⟨(nI_succ i).symm, ?_⟩) (fun c1 => ?_)
      · rw [hs, sp_tx.eq_def, if_pos c1]
        exact ⟨a0, a2⟩
      · revert a2 a0
        generalize hq : sp_it (sp_tx W) i none = q
        intro a0 a2
        cases q with
        | none =>
          dsimp only at a2
          subst a2
          refine k_t (by decide) (k_s ⟨(nI_succ i).symm, ?_⟩)
          rw [hs, hq, sp_tx.eq_def, if_neg c1]
          exact ⟨fun j e => by cases e; exact hi, rfl⟩
        | some j =>
          have hj := a0 j rfl
          dsimp only at a2
          subst a2
          refine k_f (nI_pos (by omega)) (k_e (rz_gr1 R) (k_e rz_tA (k_e (rz_tg0 R (by omega)) (k_e (rz_gr1 R) (k_e rz_tA (k_e (rz_tg0 R (by omega)) ?_))))))
          refine k_if (fun c2 => k_s ⟨(nI_succ i).symm, ?_⟩) (fun c2 => k_s ⟨(nI_succ i).symm, ?_⟩)
          · rw [hs, hq, sp_tx.eq_def, if_neg c1]
            dsimp only
            rw [if_pos c2]
            exact ⟨fun j' e => by cases e; exact hj, rfl⟩
          · rw [hs, hq, sp_tx.eq_def, if_neg c1]
            dsimp only
            rw [if_neg c2]
            exact ⟨fun j' e => by cases e; exact hi, rfl⟩
    · rintro ⟨p, x⟩ ⟨a1, a0, a2⟩
      dsimp only at a1 a2
      subst a1
      unfold F12_text_4b
      dsimp only
      refine k_e (rz_gr1 R) (k_e (rz_c17 R) ?_)
      rw [show W 37 0 0 = _ from hc.1]
      exact k_t (nI_le (Nat.le_refl _) (by omega)) (k_s ⟨a0, a2⟩)
  obtain ⟨r, e, hr1, hr2⟩ := key
  refine ⟨?_, hr1⟩
  unfold F12_text F12_text_0 F12_text_4
  rw [rz_io R, gz_s, ← hr2]
  exact e
theorem rz_linesOf (R : rz_N s0 th W h) (V : vz W) : m_b (F12_text 317 h) (fun v => F12_linesOf 317 v h) = some (sp_lines W) := by
  have hn : wz_n W 17 ≤ 10 := V.c (k := 17) (by omega)
  obtain ⟨e, hi⟩ := rz_text R V.vt
  rw [e, bz_s]
  unfold F12_linesOf F12_linesOf_0 sp_lines
  rw [rz_io R, gz_s]
  revert hi
  cases sp_text W with
  | none => intro _; exact iz_f (by decide)
  | some i =>
    intro hi
    have := hi i rfl
    dsimp only
    rw [iz_t (nI_pos' (by omega)), rz_gr1 R, bz_s, rz_tA, bz_s, rz_tg R (r := i) (c := 1) (x := 1) (by omega) (by decide) rfl, bz_s]
end
