/-! ===== BEST ORDERS: the class ===== -/
def sp_o1 (W : m_W) (s : Nat) (z : Nat × (Nat → Nat)) : Nat × (Nat → Nat) := if (W 2 s 2 = 0 ∧ W 2 s 5 = 0) ∧ z.1 < 8 then (z.1 + 1, hP z.2 z.1 s) else z
def sp_os (W : m_W) (i : Nat) : Nat × (Nat → Nat) := sp_it (sp_o1 W) i (0, fun _ => 0)
def sp_b1 (W : m_W) (D : Nat → Nat) (b i : Nat) (a : Int32 × Int32 × Int32) : Int32 × Int32 × Int32 := if ((nI b >>> (nI i &&& 31)) &&& 1) = 1 then (a.1 + sp_nd W (D i) 1, a.2.1 + sp_nd W (D i) 2, a.2.2 + W 2 (D i) 1 * sp_told W 1 (W 2 (D i) 0) (W 14 0 0)) else a
def sp_bs (W : m_W) (D : Nat → Nat) (b i : Nat) : Int32 × Int32 × Int32 := sp_it (sp_b1 W D b) i (0, 0, 0)
abbrev sp_bok (W : m_W) (X a : Int32 × Int32 × Int32) : Prop := (¬ W 14 0 1 < X.1 ∧ ¬ W 14 0 2 < X.2.1) ∧ (a.2.1 < X.2.2 ∨ (X.2.2 = a.2.1 ∧ ¬ a.2.2 ≤ X.1))
def sp_bb (W : m_W) (b : Nat) (X a : Int32 × Int32 × Int32) : Int32 × Int32 × Int32 := if sp_bok W X a then (nI b, X.2.2, X.1) else a
def sp_bf (W : m_W) (z : Nat × (Nat → Nat)) (n : Nat) : Int32 × Int32 × Int32 := sp_it (fun j a => sp_bb W (j + 1) (sp_bs W z.2 (j + 1) z.1) a) n (0, 0, 0)
def sp_bestO (W : m_W) : Int32 := (sp_bf W (sp_os W (wz_n W 2)) (2 ^ (sp_os W (wz_n W 2)).1 - 1)).1
section
variable {s0 : tz_S} {th : Int32} {W : m_W} {h : m_H}
theorem sp_os_8 : ∀ i, (sp_os W i).1 ≤ 8
  | 0 => Nat.zero_le _
  | i + 1 => by
    have := sp_os_8 i
    show (sp_o1 W i (sp_os W i)).1 ≤ 8
    unfold sp_o1
    split
    · next c => exact c.2
    · exact this
theorem sp_os_D : ∀ i, ∀ m, m < (sp_os W i).1 → (sp_os W i).2 m < i
  | 0, m, hm => absurd hm (Nat.not_lt_zero m)
  | i + 1, m, hm => by
    have ih := sp_os_D i
    have e : sp_os W (i + 1) = sp_o1 W i (sp_os W i) := rfl
    rw [e] at hm ⊢
    unfold sp_o1 at hm ⊢
    split
    · next c =>
      rw [if_pos c] at hm
      show hP _ _ _ m < i + 1
      unfold hP
      split
      · omega
      · next q =>
        have hm : m < (sp_os W i).1 + 1 := hm
        have := ih m (by omega)
        omega
    · next c =>
      rw [if_neg c] at hm
      have := ih m hm
      omega
theorem cz_notB (s : tz_S) (H : tz_HR s 223 W) (V : vz W) : k_ok (F6_ordersNotBegun 223 (334 + s.2.2.2.2.2.1.length) (tz_H (tz_un s 8 (fun _ => 0)))) (fun z => z.1 = nI (sp_os W (wz_n W 2)).1 ∧ ∃ f, z.2 = tz_H (tz_un s 8 f) ∧ ∀ m, m < (sp_os W (wz_n W 2)).1 → f m = nI ((sp_os W (wz_n W 2)).2 m)) := by
  have hn : wz_n W 2 ≤ 100 := V.c (k := 2) (by omega)
  unfold F6_ordersNotBegun F6_ordersNotBegun_0 F6_ordersNotBegun_4
  refine wh_i (n := wz_n W 2) (fun (i : Nat) (z : Int32 × Int32 × m_H) => z.1 = nI (sp_os W i).1 ∧ z.2.1 = nI i ∧ ∃ f, z.2.2 = tz_H (tz_un s 8 f) ∧ ∀ m, m < (sp_os W i).1 → f m = nI ((sp_os W i).2 m)) _ ?_ ?_ m_N 0 _ (N_lt (by omega)) (Nat.zero_le _) ⟨rfl, rfl, _, rfl, fun m hm => absurd hm (Nat.not_lt_zero m)⟩
  · rintro i ⟨c, y, h1⟩ hi ⟨q1, q2, f, q3, hf⟩
    dsimp only at q1 q2 q3
    subst q1 q2 q3
    have R := tz_un_N H (n := 8) (f := f)
    have z8 := sp_os_8 (W := W) i
    have es : sp_os W (i + 1) = sp_o1 W i (sp_os W i) := rfl
    rw [es]
    generalize sp_os W i = z at hf z8
    obtain ⟨c, D⟩ := z
    dsimp only at hf z8
    have skip : ¬ ((W 2 i 2 = 0 ∧ W 2 i 5 = 0) ∧ c < 8) → k_ok (some (.inl (nI c, nI i + 1, tz_H (tz_un s 8 f)))) (m_KK (fun (z : Int32 × Int32 × m_H) => z.1 = nI (sp_o1 W i (c, D)).1 ∧ z.2.1 = nI (i + 1) ∧ ∃ f, z.2.2 = tz_H (tz_un s 8 f) ∧ ∀ m, m < (sp_o1 W i (c, D)).1 → f m = nI ((sp_o1 W i (c, D)).2 m)) (fun (z : Int32 × m_H) => z.1 = nI (sp_os W (wz_n W 2)).1 ∧ ∃ f, z.2 = tz_H (tz_un s 8 f) ∧ ∀ m, m < (sp_os W (wz_n W 2)).1 → f m = nI ((sp_os W (wz_n W 2)).2 m))) := by
      intro q
      have e : sp_o1 W i (c, D) = (c, D) := if_neg q
      rw [e]
      exact k_s ⟨rfl, (nI_succ i).symm, f, rfl, hf⟩
    unfold F6_ordersNotBegun_4b
    dsimp only
    refine k_e (nz_gr223_8 R) (k_e (cz_z2 R) (k_f (nI_ge hi (by omega)) (k_e (cz_notBegun R rfl hi) ?_)))
    by_cases c0 : W 2 i 2 = 0 ∧ W 2 i 5 = 0
    case neg =>
      rw [if_neg c0]
      exact k_t rfl (skip (fun q => c0 q.1))
    rw [if_pos c0]
    refine k_f (by decide) (k_e tz_un_len ?_)
    by_cases c8 : c < 8
    case neg =>
      exact k_t (nI_le (by omega) (by omega)) (skip (fun q => c8 q.2))
    have e : sp_o1 W i (c, D) = (c + 1, hP D c i) := if_pos ⟨c0, c8⟩
    rw [e]
    refine k_f (nI_ge c8 (by omega)) (k_e (tz_un_si c8 (by decide)) (k_s ⟨(nI_succ c).symm, (nI_succ i).symm, _, rfl, fun m hm => ?_⟩))
    show upd f c (nI i) m = nI (hP D c i m)
    unfold hP
    by_cases w : m = c
    · subst w; rw [pk_us, if_pos rfl]
    · rw [pk_un w, if_neg w]
      exact hf m (by have hm : m < c + 1 := hm; omega)
  · rintro ⟨c, y, h1⟩ ⟨q1, q2, f, q3, hf⟩
    dsimp only at q1 q2 q3
    subst q1 q2 q3
    have R := tz_un_N H (n := 8) (f := f)
    unfold F6_ordersNotBegun_4b
    dsimp only
    exact k_e (nz_gr223_8 R) (k_e (cz_z2 R) (k_t (nI_le (Nat.le_refl _) (by omega)) (k_s ⟨rfl, f, rfl, hf⟩)))
theorem bt_28 : ∀ n ∈ List.range 9, 2 ^ n ≤ 256 ∧ 1 ≤ 2 ^ n := by decide +kernel
theorem cz_bestOrders (s : tz_S) (H : tz_HR s 223 W) (V : vz W) : k_ok (F11_bestOrders 200 (tz_H s)) (fun z => ∃ f, z = (sp_bestO W, tz_H (tz_un s 8 f))) := by
  have hn : wz_n W 2 ≤ 100 := V.c (k := 2) (by omega)
  have k8 := sp_os_8 (W := W) (wz_n W 2)
  have hD := sp_os_D (W := W) (wz_n W 2)
  unfold F11_bestOrders F11_bestOrders_0 F6_bestOrdersOf F6_bestOrdersOf_0 sp_bestO
  refine k_g (nz_io200 H.N) (k_e (nz_gr200_4 H.N) ?_)
  rw [tz_id]
  have P : k_ok (m_b (m_nw 0 8 (tz_H s)) fun h1 => m_b (F6_ordersNotBegun 223 (334 + s.2.2.2.2.2.1.length) h1) fun z4 => m_b (m_len z4.2 (334 + s.2.2.2.2.2.1.length)) fun v5 => F6_bestOrdersOf_27 223 (334 + s.2.2.2.2.2.1.length) (m_min z4.1 v5) 0 0 0 1 z4.2) (fun z => ∃ f, z = ((sp_bf W (sp_os W (wz_n W 2)) (2 ^ (sp_os W (wz_n W 2)).1 - 1)).1, tz_H (tz_un s 8 f))) := by
    refine k_e (tz_un_nw (n := 8) rfl (by decide)) (k_b (cz_notB s H V) ?_)
    rintro ⟨c, h1⟩ ⟨e1, f, e2, hf⟩
    dsimp only at e1 e2
    subst e1 e2
    have R := tz_un_N H (n := 8) (f := f)
    refine k_e tz_un_len ?_
    rw [nI_min (by omega) (by omega), if_neg (show ¬ 8 < (sp_os W (wz_n W 2)).1 by omega)]
    generalize sp_os W (wz_n W 2) = z at hf k8 hD
    obtain ⟨k, D⟩ := z
    dsimp only at hf k8 hD ⊢
    obtain ⟨e2, -⟩ := bt_2 k (List.mem_range.mpr (by omega))
    obtain ⟨l2, l1⟩ := bt_28 k (List.mem_range.mpr (by omega))
    unfold F6_bestOrdersOf_27
    refine ⟨((sp_bf W (k, D) (2 ^ k - 1)).1, tz_H (tz_un s 8 f)), wh_s (fun j => ((sp_bf W (k, D) j).1, (sp_bf W (k, D) j).2.1, (sp_bf W (k, D) j).2.2, nI (j + 1))) _ (2 ^ k - 1) 0 m_N (N_lt (by omega)) (Nat.zero_le _) ?_ ?_, f, rfl⟩
    · intro j _ hj
      have e : sp_bf W (k, D) (j + 1) = sp_bb W (j + 1) (sp_bs W D (j + 1) k) (sp_bf W (k, D) j) := rfl
      rw [e]
      generalize sp_bf W (k, D) j = a
      obtain ⟨a1, a2, a3⟩ := a
      unfold F6_bestOrdersOf_27b
      dsimp only
      rw [e2, iz_f (nI_ge (by omega) (by omega))]
      unfold F6_bestOrdersOf_47
      refine wh_s (fun i => ((sp_bs W D (j + 1) i).1, (sp_bs W D (j + 1) i).2.1, (sp_bs W D (j + 1) i).2.2, nI i)) _ k 0 m_N (N_lt (by omega)) (Nat.zero_le _) ?_ ?_
      · intro i _ hi
        have hDi := hD i hi
        have e : sp_bs W D (j + 1) (i + 1) = sp_b1 W D (j + 1) i (sp_bs W D (j + 1) i) := rfl
        rw [e]
        generalize sp_bs W D (j + 1) i = u
        obtain ⟨u1, u2, u3⟩ := u
        unfold F6_bestOrdersOf_47b sp_b1
        dsimp only
        rw [iz_f (nI_ge hi (by omega)), tz_un_len, bz_s, iz_f (nI_ge (by omega) (by omega)), F6_isIn_e (by omega) (by omega), bz_s, nI_succ i]
        by_cases q : ((nI (j + 1) >>> (nI i &&& 31)) &&& 1) = 1
        · rw [if_pos q, if_pos q, iz_f (by decide), tz_un_ai (by omega) (by decide), bz_s, hf i hi, cz_nd R V (y := 1) (c := 1) hDi rfl (by decide), bz_s, bz_s, cz_nd R V (y := 2) (c := 2) hDi rfl (by decide), bz_s, nz_gr223_8 R, bz_s, bz_s, cz_g2_1 R rfl hDi, bz_s, bz_s, bz_s, cz_g2_0 R rfl hDi, bz_s, cz_i0 R, bz_s, cz_priceIn R, bz_s]
        · rw [if_neg q, if_neg q, iz_t rfl]
      · have st : ∀ X : Int32 × Int32 × Int32, F6_bestOrdersOf_142 223 (334 + s.2.2.2.2.2.1.length) (nI k) a1 a2 a3 (nI (j + 1)) X.1 X.2.1 X.2.2 (tz_H (tz_un s 8 f)) = some (.inl ((sp_bb W (j + 1) X (a1, a2, a3)).1, (sp_bb W (j + 1) X (a1, a2, a3)).2.1, (sp_bb W (j + 1) X (a1, a2, a3)).2.2, nI (j + 1 + 1))) := by
          rintro ⟨X, Y, Z⟩
          dsimp only
          have yes : (a2 < Z ∨ (Z = a2 ∧ ¬ a3 ≤ X)) → F6_bestOrdersOf_163 223 (334 + s.2.2.2.2.2.1.length) (nI k) a1 a2 a3 (nI (j + 1)) X Y Z (tz_H (tz_un s 8 f)) = some (.inl ((sp_bb W (j + 1) (X, Y, Z) (a1, a2, a3)).1, (sp_bb W (j + 1) (X, Y, Z) (a1, a2, a3)).2.1, (sp_bb W (j + 1) (X, Y, Z) (a1, a2, a3)).2.2, nI (j + 1 + 1))) := by
            intro q
            unfold F6_bestOrdersOf_163 F6_bestOrdersOf_168 sp_bb
            rw [cz_i1 R, bz_s, nI_succ (j + 1)]
            by_cases c1 : W 14 0 1 < X
            · rw [iz_t c1, if_neg (fun z => z.1.1 c1)]
            · rw [iz_f c1, cz_i2 R, bz_s]
              by_cases c2 : W 14 0 2 < Y
              · rw [iz_t c2, if_neg (fun z => z.1.2 c2)]
              · rw [iz_f c2, iz_f (by decide), if_pos ⟨⟨c1, c2⟩, q⟩]
          have no : ¬ (a2 < Z ∨ (Z = a2 ∧ ¬ a3 ≤ X)) → F6_bestOrdersOf_167 223 (334 + s.2.2.2.2.2.1.length) (nI k) a1 a2 a3 (nI (j + 1)) X Y Z (tz_H (tz_un s 8 f)) = some (.inl ((sp_bb W (j + 1) (X, Y, Z) (a1, a2, a3)).1, (sp_bb W (j + 1) (X, Y, Z) (a1, a2, a3)).2.1, (sp_bb W (j + 1) (X, Y, Z) (a1, a2, a3)).2.2, nI (j + 1 + 1))) := by
            intro q
            unfold F6_bestOrdersOf_167 F6_bestOrdersOf_168 sp_bb
            rw [cz_i1 R, bz_s, nI_succ (j + 1), if_neg (fun z => q z.2)]
            by_cases c1 : W 14 0 1 < X
            · rw [iz_t c1]
            · rw [iz_f c1, cz_i2 R, bz_s]
              by_cases c2 : W 14 0 2 < Y
              · rw [iz_t c2]
              · rw [iz_f c2, iz_t rfl]
          unfold F6_bestOrdersOf_142
          by_cases c1 : a2 < Z
          · rw [iz_t c1, yes (Or.inl c1)]
          · rw [iz_f c1]
            by_cases c2 : Z = a2
            · rw [iz_t c2]
              by_cases c3 : a3 ≤ X
              · rw [iz_t c3, no (fun z => z.elim c1 (fun z => z.2 c3))]
              · rw [iz_f c3, yes (Or.inr ⟨c2, c3⟩)]
            · rw [iz_f c2, no (fun z => z.elim c1 (fun z => c2 z.1))]
        unfold F6_bestOrdersOf_47b
        dsimp only
        rw [iz_t (Int32.le_refl _), st]
        rfl
    · unfold F6_bestOrdersOf_27b
      dsimp only
      rw [e2, show 2 ^ k - 1 + 1 = 2 ^ k by omega, iz_t (Int32.le_refl _)]
  obtain ⟨z, e, f, rfl⟩ := P
  exact k_e e (k_s ⟨f, rfl⟩)
end
