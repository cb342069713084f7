/-! ===== CASH: both sides ===== -/
def sp_due (W : m_W) (i : Nat) : Int := (W 2 i 1).toInt * (W 2 i 19).toInt
def sp_cs (W : m_W) : Nat → Nat → (Nat → Int) → Int32
  | 0, _, _ => -1
  | j + 1, i, c => if W 2 i 6 = -1 then sp_cs W j (i + 1) c else if sp_due W i ≤ c (W 2 i 2).toNatClampNeg then sp_cs W j (i + 1) (hU c (W 2 i 2).toNatClampNeg (sp_due W i)) else nI i
def sp_coin (a b c d e : Int32) (l : Nat) : Int := if l = 1 then a.toInt else if l = 2 then b.toInt else if l = 3 then c.toInt else if l = 4 then d.toInt else if l = 5 then e.toInt else 0
def sp_cash (W : m_W) (a b c d e : Int32) : Int32 ⊕ Nat := if 0 ≤ a ∧ 0 ≤ b ∧ 0 ≤ c ∧ 0 ≤ d ∧ 0 ≤ e then .inl (sp_cs W (wz_n W 2) 0 (sp_coin a b c d e)) else .inr 1
theorem wh_1 {S X : Type} {body : S → Option (S ⊕ X)} {s s' : S} {N : Nat} {Q : X → Prop} (e : body s = some (.inl s')) (k : k_ok (m_wh body N s') Q) : k_ok (m_wh body (N + 1) s) Q := by
  unfold m_wh
  rw [e]
  exact k
theorem wh_0 {S X : Type} {body : S → Option (S ⊕ X)} {s : S} {x : X} {N : Nat} {Q : X → Prop} (e : body s = some (.inr x)) (k : Q x) : k_ok (m_wh body (N + 1) s) Q := by
  unfold m_wh
  rw [e]
  exact k_s k
theorem vz_due {W : m_W} (V : vz W) {i : Nat} (hi : i < wz_n W 2) : (W 2 i 1 * W 2 i 19).toInt = sp_due W i ∧ 0 ≤ sp_due W i ∧ sp_due W i ≤ 1000000 ∧ 0 ≤ (W 2 i 1).toInt ∧ (W 2 i 1).toInt ≤ 1000 ∧ 0 ≤ (W 2 i 19).toInt ∧ (W 2 i 19).toInt ≤ 1000 := by
  have L := V.lot hi
  have a1 := i_nn L.2.1.1
  have a2 : (W 2 i 1).toInt ≤ 1000 := Int32.le_iff_toInt_le.mp L.2.1.2
  have b1 := i_nn L.2.2.2.2.2.2.2.1.1
  have b2 : (W 2 i 19).toInt ≤ 1000 := Int32.le_iff_toInt_le.mp L.2.2.2.2.2.2.2.1.2
  obtain ⟨m1, m2, m3⟩ := i_mulb (a := W 2 i 1) (b := W 2 i 19) (A := 1000) (B := 1000) a1 b1 a2 b2 (by decide)
  exact ⟨m1, m2, m3, a1, a2, b1, b2⟩
/-- one array made since -/
def tz_un (s : tz_S) (n : Nat) (f : Nat → Int32) : tz_S := tz_ux s (s.2.2.2.2.2.1 ++ [.inl (0, n, .inl f)])
theorem tz_un_xs {s : tz_S} {n : Nat} {f : Nat → Int32} : tz_xs s.2.2.2.2.2.1 (tz_un s n f).2.2.2.2.2.1 := by
  intro i e _ h
  show (s.2.2.2.2.2.1 ++ _)[i]? = _
  rw [List.getElem?_append_left (List.getElem?_eq_some_iff.mp h).1]
  exact h
theorem tz_un_N {s : tz_S} {W : m_W} (H : tz_HR s 223 W) {n : Nat} {f : Nat → Int32} : cz_N (tz_un s n f) W (tz_H (tz_un s n f)) :=
  (H.congx (s' := tz_un s n f) (fun _ _ _ _ => rfl) (fun _ _ _ => rfl) rfl tz_un_xs).N
theorem tz_un_c {s : tz_S} {n : Nat} {f : Nat → Int32} : m_c (tz_H (tz_un s n f)) (334 + s.2.2.2.2.2.1.length) = some (.inl (0, n, .inl f)) := by
  rw [tz_x (by omega), Nat.add_sub_cancel_left]
  show (s.2.2.2.2.2.1 ++ _)[s.2.2.2.2.2.1.length]? = _
  rw [List.getElem?_append_right (Nat.le_refl _), Nat.sub_self]
  rfl
theorem tz_un_nw {s : tz_S} {n : Nat} {x : Int32} (hx : x = nI n) (hn : n < 1000) : m_nw 0 x (tz_H s) = some (tz_H (tz_un s n (fun _ => 0))) := by
  subst hx
  unfold m_nw
  rw [nI_clamp (by omega), if_neg (fun q => q.elim (nI_pos (by omega)) (by omega))]
  show some (m_p (tz_H s) (.inl (0, n, .inl (fun _ => 0)))) = _
  rw [tz_p]
  rfl
theorem tz_un_si {s : tz_S} {n j : Nat} {f : Nat → Int32} {v : Int32} (hj : j < n) (hn : n < 1000) : m_si (tz_H (tz_un s n f)) 0 (334 + s.2.2.2.2.2.1.length) (nI j) v = some (tz_H (tz_un s n (upd f j v))) := by
  unfold m_si
  rw [tz_un_c]
  show (if 0 = 0 ∧ m_in _ n = true then _ else _) = _
  rw [if_pos ⟨rfl, nI_in1 hj (by omega)⟩, nI_clamp (by omega)]
  show some (m_w _ _ (.inl (0, n, .inl (upd f j v)))) = _
  rw [tz_w_x (by omega), Nat.add_sub_cancel_left]
  refine congrArg some (congrArg tz_H ?_)
  show tz_ux s ((s.2.2.2.2.2.1 ++ [_]).set s.2.2.2.2.2.1.length _) = tz_ux s (s.2.2.2.2.2.1 ++ [_])
  rw [List.set_append_right _ _ (Nat.le_refl _), Nat.sub_self]
  rfl
theorem tz_un_ai {s : tz_S} {n j : Nat} {f : Nat → Int32} (hj : j < n) (hn : n < 1000) : m_ai (tz_H (tz_un s n f)) 0 (334 + s.2.2.2.2.2.1.length) (nI j) = some (f j) := by
  unfold m_ai
  rw [tz_un_c]
  show (if 0 = 0 ∧ m_in _ n = true then _ else _) = _
  rw [if_pos ⟨rfl, nI_in1 hj (by omega)⟩, nI_clamp (by omega)]
theorem tz_un_len {s : tz_S} {n : Nat} {f : Nat → Int32} : m_len (tz_H (tz_un s n f)) (334 + s.2.2.2.2.2.1.length) = some (nI n) := by
  unfold m_len
  rw [tz_un_c]
  exact if_pos (show 0 < 6 by decide)
theorem cz_cashL (s : tz_S) (W : m_W) (H : tz_HR s 223 W) (V : vz W) : ∀ j i N (f : Nat → Int32) (c : Nat → Int), j < N → i + j = wz_n W 2 → (∀ l, l < 6 → (f l).toInt = c l ∧ 0 ≤ c l) → k_ok (m_wh (fun z => F5_firstNotPaid_2b 223 (334 + s.2.2.2.2.2.1.length) z) N (nI i, tz_H (tz_un s 6 f))) (fun z => z.1 = sp_cs W j i c ∧ ∃ f', z.2 = tz_H (tz_un s 6 f'))
  | 0, i, N, f, c, hN, hij, hf => by
    have hn : wz_n W 2 ≤ 100 := V.c (k := 2) (by omega)
    obtain ⟨N, rfl⟩ : ∃ M, N = M + 1 := ⟨N - 1, by omega⟩
    have R := tz_un_N H (n := 6) (f := f)
    refine wh_0 (x := (-1, tz_H (tz_un s 6 f))) ?_ ⟨rfl, f, rfl⟩
    unfold F5_firstNotPaid_2b
    dsimp only
    rw [nz_gr223_8 R, bz_s, cz_z2 R, bz_s, iz_t (nI_le (by omega) (by omega))]
  | j + 1, i, N, f, c, hN, hij, hf => by
    have hn : wz_n W 2 ≤ 100 := V.c (k := 2) (by omega)
    obtain ⟨N, rfl⟩ : ∃ M, N = M + 1 := ⟨N - 1, by omega⟩
    have R := tz_un_N H (n := 6) (f := f)
    have hi : i < wz_n W 2 := by omega
    obtain ⟨l, hl, el⟩ := i_row (x := W 2 i 2) (n := 5) rfl (V.lot hi).2.2.1
    obtain ⟨d1, d2, d3, -⟩ := vz_due V hi
    have hfl := hf l (by omega)
    have lt := Int32.toInt_lt (f l)
    by_cases q : W 2 i 6 = -1
    · have e : sp_cs W (j + 1) i c = sp_cs W j (i + 1) c := if_pos q
      rw [e]
      refine wh_1 (s' := (nI (i + 1), tz_H (tz_un s 6 f))) ?_ (cz_cashL s W H V j (i + 1) N f c (by omega) (by omega) hf)
      unfold F5_firstNotPaid_2b
      dsimp only
      rw [nz_gr223_8 R, bz_s, cz_z2 R, bz_s, iz_f (nI_ge hi (by omega)), bz_s, cz_g2_2 R rfl hi, bz_s, bz_s, cz_g2_6 R rfl hi, bz_s, iz_t q, nI_succ]
    have el2 : (W 2 i 2).toNatClampNeg = l := by rw [el, nI_clamp (by omega)]
    by_cases q2 : sp_due W i ≤ c l
    · have e : sp_cs W (j + 1) i c = sp_cs W j (i + 1) (hU c l (sp_due W i)) := by
        show (if W 2 i 6 = -1 then _ else if sp_due W i ≤ c (W 2 i 2).toNatClampNeg then sp_cs W j (i + 1) (hU c (W 2 i 2).toNatClampNeg (sp_due W i)) else nI i) = _
        rw [if_neg q, el2, if_pos q2]
      rw [e]
      refine wh_1 (s' := (nI (i + 1), tz_H (tz_un s 6 (upd f l (f l - W 2 i 1 * W 2 i 19))))) ?_ (cz_cashL s W H V j (i + 1) N _ _ (by omega) (by omega) (fun m hm => ?_))
      · have q3 : W 2 i 1 * W 2 i 19 ≤ f l := Int32.le_iff_toInt_le.mpr (by omega)
        unfold F5_firstNotPaid_2b
        dsimp only
        rw [nz_gr223_8 R, bz_s, cz_z2 R, bz_s, iz_f (nI_ge hi (by omega)), bz_s, cz_g2_2 R rfl hi, bz_s, bz_s, cz_g2_6 R rfl hi, bz_s, iz_f q, el, iz_f (nI_pos (by omega)), tz_un_len, bz_s, iz_f (nI_ge (by omega) (by omega)), bz_s, cz_g2_1 R rfl hi, bz_s, bz_s, cz_g2_20 R rfl hi, bz_s, tz_un_ai (by omega) (by decide), bz_s, iz_t q3, bz_s, tz_un_si (by omega) (by decide), bz_s, nI_succ]
      · unfold hU
        by_cases z : m = l
        · subst z
          rw [pk_us, if_pos rfl, i_sub (by omega) (by omega), d1, hfl.1]
          exact ⟨rfl, by omega⟩
        · rw [pk_un z, if_neg z]
          exact hf m hm
    · have e : sp_cs W (j + 1) i c = nI i := by
        show (if W 2 i 6 = -1 then _ else if sp_due W i ≤ c (W 2 i 2).toNatClampNeg then _ else nI i) = _
        rw [if_neg q, el2, if_neg q2]
      rw [e]
      have q3 : ¬ W 2 i 1 * W 2 i 19 ≤ f l := fun z => by have := Int32.le_iff_toInt_le.mp z; omega
      refine wh_0 (x := (nI i, tz_H (tz_un s 6 f))) ?_ ⟨rfl, f, rfl⟩
      unfold F5_firstNotPaid_2b
      dsimp only
      rw [nz_gr223_8 R, bz_s, cz_z2 R, bz_s, iz_f (nI_ge hi (by omega)), bz_s, cz_g2_2 R rfl hi, bz_s, bz_s, cz_g2_6 R rfl hi, bz_s, iz_f q, el, iz_f (nI_pos (by omega)), tz_un_len, bz_s, iz_f (nI_ge (by omega) (by omega)), bz_s, cz_g2_1 R rfl hi, bz_s, bz_s, cz_g2_20 R rfl hi, bz_s, tz_un_ai (by omega) (by decide), bz_s, iz_f q3]
theorem cz_cash (s : tz_S) (W : m_W) (H : tz_HR s 223 W) (V : vz W) {a b c d e : Int32} : k_ok (F11_cash 200 a b c d e (tz_H s)) (fun z => match sp_cash W a b c d e with
  | .inl v => ∃ f, z = (.inl v, tz_H (tz_un s 6 f))
  | .inr E => z = (.inr E, m_junk (tz_H s))) := by
  have hn : wz_n W 2 ≤ 100 := V.c (k := 2) (by omega)
  unfold F11_cash F11_cash_0 sp_cash
  refine k_g (nz_io200 H.N) ?_
  have no : ¬ (0 ≤ a ∧ 0 ≤ b ∧ 0 ≤ c ∧ 0 ≤ d ∧ 0 ≤ e) → k_ok (some ((.inr 1, m_junk (tz_H s)) : (Int32 ⊕ Nat) × m_H)) (fun z => match (if 0 ≤ a ∧ 0 ≤ b ∧ 0 ≤ c ∧ 0 ≤ d ∧ 0 ≤ e then Sum.inl (sp_cs W (wz_n W 2) 0 (sp_coin a b c d e)) else .inr 1 : Int32 ⊕ Nat) with
    | .inl v => ∃ f, z = (.inl v, tz_H (tz_un s 6 f))
    | .inr E => z = (.inr E, m_junk (tz_H s))) := fun q => k_s (by rw [if_neg q])
  refine k_if (fun q => no (fun z => absurd q (Int32.not_lt.mpr z.1))) (fun qa => ?_)
  refine k_if (fun q => no (fun z => absurd q (Int32.not_lt.mpr z.2.1))) (fun qb => ?_)
  refine k_if (fun q => no (fun z => absurd q (Int32.not_lt.mpr z.2.2.1))) (fun qc => ?_)
  refine k_if (fun q => no (fun z => absurd q (Int32.not_lt.mpr z.2.2.2.1))) (fun qd => ?_)
  refine k_if (fun qe => ?_) (fun q => no (fun z => q z.2.2.2.2))
  rw [if_pos ⟨Int32.not_lt.mp qa, Int32.not_lt.mp qb, Int32.not_lt.mp qc, Int32.not_lt.mp qd, qe⟩]
  have sg : ∀ {f : Nat → Int32} {j : Nat} {v y : Int32}, y = nI j → j < 6 → m_si (tz_H (tz_un s 6 f)) 0 (334 + s.2.2.2.2.2.1.length) y v = some (tz_H (tz_un s 6 (upd f j v))) := fun hy hj => by rw [hy]; exact tz_un_si hj (by decide)
  rw [tz_id]
  refine k_e (tz_un_nw (n := 6) rfl (by decide)) (k_e (sg (j := 0) rfl (by decide)) (k_e (sg (j := 1) rfl (by decide)) (k_e (sg (j := 2) rfl (by decide)) (k_e (sg (j := 3) rfl (by decide)) (k_e (sg (j := 4) rfl (by decide)) (k_e (sg (j := 5) rfl (by decide)) ?_))))))
  have R := tz_un_N H (n := 6) (f := upd (upd (upd (upd (upd (upd (fun _ => 0) 0 0) 1 a) 2 b) 3 c) 4 d) 5 e)
  refine k_e (nz_gr200_4 R) ?_
  unfold F5_firstNotPaid F5_firstNotPaid_0 F5_firstNotPaid_2
  refine k_b (cz_cashL s W H V (wz_n W 2) 0 m_N _ (sp_coin a b c d e) (N_lt (by omega)) (Nat.zero_add _) (fun l hl => ?_)) ?_
  · have ha := i_nn (Int32.not_lt.mp qa)
    have hb := i_nn (Int32.not_lt.mp qb)
    have hc := i_nn (Int32.not_lt.mp qc)
    have hd := i_nn (Int32.not_lt.mp qd)
    have he := i_nn qe
    match l, hl with
    | 0, _ => exact ⟨rfl, Int.le_refl _⟩
    | 1, _ => exact ⟨rfl, ha⟩
    | 2, _ => exact ⟨rfl, hb⟩
    | 3, _ => exact ⟨rfl, hc⟩
    | 4, _ => exact ⟨rfl, hd⟩
    | 5, _ => exact ⟨rfl, he⟩
    | n + 6, h => exact absurd h (by omega)
  · rintro ⟨v, h1⟩ ⟨e1, f, e2⟩
    dsimp only at e1 e2
    subst e1 e2
    exact k_s ⟨f, rfl⟩
