/-! ===== SIGNED: both sides ===== -/
def sp_bt (b i : Nat) : Prop := ((nI b >>> (nI i &&& 31)) &&& 1) = 1
theorem bt_u : ∀ b ∈ List.range 512, ∀ i ∈ List.range 9, (m_ushr (nI b) (nI i) &&& 1) = ((nI b >>> (nI i &&& 31)) &&& 1) ∧ (((nI b >>> (nI i &&& 31)) &&& 1) = 0 ∨ ((nI b >>> (nI i &&& 31)) &&& 1) = 1) := by decide +kernel
theorem bt_2 : ∀ n ∈ List.range 10, (1 : Int32) <<< (nI n &&& 31) = nI (2 ^ n) ∧ 2 ^ n ≤ 512 := by decide +kernel
def sp_sg (W : m_W) (b c : Nat) (i : Nat) (a : Int32) : Int32 := if ((nI b >>> (nI i &&& 31)) &&& 1) = 1 then a + W 11 i c else a
def sp_sgs (W : m_W) (b c : Nat) (i : Nat) : Int32 := sp_it (sp_sg W b c) i 0
def sp_sbt (a : Int32 × Int32 × Int32) (X Y : Int32) : Prop := a.1 = -1 ∨ a.2.1 < X ∨ (X = a.2.1 ∧ ¬ Y ≤ a.2.2)
def sp_sX (W : m_W) (b : Nat) : Int32 := sp_sgs W b 0 (wz_n W 11)
def sp_sY (W : m_W) (b : Nat) : Int32 := sp_sgs W b 1 (wz_n W 11)
abbrev sp_sok (W : m_W) (x y : Int32) (b : Nat) (a : Int32 × Int32 × Int32) : Prop := (¬ sp_sX W b < x ∧ ¬ sp_sY W b < y) ∧ (a.1 = -1 ∨ a.2.1 < sp_sX W b ∨ (sp_sX W b = a.2.1 ∧ ¬ sp_sY W b ≤ a.2.2))
def sp_s1 (W : m_W) (x y : Int32) (b : Nat) (a : Int32 × Int32 × Int32) : Int32 × Int32 × Int32 := if sp_sok W x y b a then (nI b, sp_sX W b, sp_sY W b) else a
def sp_sss (W : m_W) (x y : Int32) (b : Nat) : Int32 × Int32 × Int32 := sp_it (sp_s1 W x y) b (-1, 0, 0)
def sp_signed (W : m_W) (x y : Int32) : Int32 := (sp_sss W x y (2 ^ wz_n W 11)).1
section
variable {s0 : tz_S} {th : Int32} {W : m_W} {h : m_H}
theorem F6_isIn_e {b i : Nat} (hb : b < 512) (hi : i < 9) : F6_isIn (nI b) (nI i) h = some (if ((nI b >>> (nI i &&& 31)) &&& 1) = 1 then 1 else 0) := by
  obtain ⟨e, -⟩ := bt_u b (List.mem_range.mpr hb) i (List.mem_range.mpr hi)
  unfold F6_isIn F6_isIn_0
  rw [e]
  by_cases q : ((nI b >>> (nI i &&& 31)) &&& 1) = 1
  · rw [iz_t q, if_pos q]
  · rw [iz_f q, if_neg q]
theorem cz_sumIn (R : cz_N s0 W h) (hn : wz_n W 11 ≤ 9) {b c : Nat} {y : Int32} (hb : b < 512) (hc : c < 2) (hy : y = nI c) : F6_sumIn 247 y (nI b) h = some (sp_sgs W b c (wz_n W 11)) := by
  unfold F6_sumIn F6_sumIn_0 F6_sumIn_5
  refine wh_s (fun i => (sp_sgs W b c i, nI i)) _ (wz_n W 11) 0 m_N (N_lt (by omega)) (Nat.zero_le _) ?_ ?_
  · intro i _ hi
    have e : sp_sgs W b c (i + 1) = sp_sg W b c i (sp_sgs W b c i) := rfl
    rw [e]
    generalize sp_sgs W b c i = a
    unfold F6_sumIn_5b sp_sg
    dsimp only
    rw [cz_z11 R, bz_s, iz_f (nI_ge hi (by omega)), F6_isIn_e hb (by omega), bz_s, nI_succ]
    by_cases q : ((nI b >>> (nI i &&& 31)) &&& 1) = 1
    · rw [if_pos q, if_pos q, iz_f (by decide), cz_get R (k := 11) (c := c) (by decide) rfl rfl hi hy hc, bz_s]
      rfl
    · rw [if_neg q, if_neg q, iz_t rfl]
  · unfold F6_sumIn_5b
    dsimp only
    rw [cz_z11 R, bz_s, iz_t (nI_le (Nat.le_refl _) (by omega))]
theorem cz_signed (R : cz_N s0 W h) (V : vz W) {x y : Int32} : F11_signed 200 x y h = some (sp_signed W x y) := by
  have hn : wz_n W 11 ≤ 9 := V.c (k := 11) (by omega)
  obtain ⟨e2, l2⟩ := bt_2 (wz_n W 11) (List.mem_range.mpr (by omega))
  unfold F11_signed F11_signed_0 F6_pagesSigned F6_pagesSigned_0 F6_pagesSigned_11 sp_signed
  rw [nz_io200 R, gz_s, nz_gr200_4 R, bz_s, nz_gr223_17 R, bz_s]
  have P : m_wh (fun s => F6_pagesSigned_11b 247 x y h s) m_N (-1, 0, 0, 0) = some (sp_sss W x y (2 ^ wz_n W 11)).1 := by
    refine wh_s (fun i => ((sp_sss W x y i).1, (sp_sss W x y i).2.1, (sp_sss W x y i).2.2, nI i)) _ (2 ^ wz_n W 11) 0 m_N (N_lt (by omega)) (Nat.zero_le _) ?_ ?_
    · intro b _ hb
      have e : sp_sss W x y (b + 1) = sp_s1 W x y b (sp_sss W x y b) := rfl
      rw [e]
      generalize sp_sss W x y b = a
      obtain ⟨a1, a2, a3⟩ := a
      unfold F6_pagesSigned_11b
      dsimp only
      rw [cz_z11 R, bz_s, e2, iz_f (nI_ge hb (by omega)), cz_sumIn R hn (b := b) (c := 0) (y := 0) (by omega) (by decide) rfl, bz_s, cz_sumIn R hn (b := b) (c := 1) (y := 1) (by omega) (by decide) rfl, bz_s]
      have yes : (a1 = -1 ∨ a2 < sp_sX W b ∨ (sp_sX W b = a2 ∧ ¬ sp_sY W b ≤ a3)) → F6_pagesSigned_66 247 x y a1 a2 a3 (nI b) (sp_sX W b) (sp_sY W b) h = some (.inl ((sp_s1 W x y b (a1, a2, a3)).1, (sp_s1 W x y b (a1, a2, a3)).2.1, (sp_s1 W x y b (a1, a2, a3)).2.2, nI (b + 1))) := by
        intro q
        unfold F6_pagesSigned_66 F6_pagesSigned_71 sp_s1
        by_cases c1 : sp_sX W b < x
        · rw [iz_t c1, if_neg (fun z => z.1.1 c1), nI_succ]
        · by_cases c2 : sp_sY W b < y
          · rw [iz_f c1, iz_t c2, if_neg (fun z => z.1.2 c2), nI_succ]
          · rw [iz_f c1, iz_f c2, iz_f (by decide), if_pos ⟨⟨c1, c2⟩, q⟩, nI_succ]
      have no : ¬ (a1 = -1 ∨ a2 < sp_sX W b ∨ (sp_sX W b = a2 ∧ ¬ sp_sY W b ≤ a3)) → F6_pagesSigned_70 247 x y a1 a2 a3 (nI b) (sp_sX W b) (sp_sY W b) h = some (.inl ((sp_s1 W x y b (a1, a2, a3)).1, (sp_s1 W x y b (a1, a2, a3)).2.1, (sp_s1 W x y b (a1, a2, a3)).2.2, nI (b + 1))) := by
        intro q
        unfold F6_pagesSigned_70 F6_pagesSigned_71 sp_s1
        rw [if_neg (fun z => q z.2), nI_succ]
        by_cases c1 : sp_sX W b < x
        · rw [iz_t c1]
        · by_cases c2 : sp_sY W b < y
          · rw [iz_f c1, iz_t c2]
          · rw [iz_f c1, iz_f c2, iz_t rfl]
      have eX : sp_sgs W b 0 (wz_n W 11) = sp_sX W b := rfl
      have eY : sp_sgs W b 1 (wz_n W 11) = sp_sY W b := rfl
      rw [eX, eY]
      by_cases c1 : a1 = -1
      · rw [iz_t c1, yes (Or.inl c1)]
      · rw [iz_f c1]
        by_cases c2 : a2 < sp_sX W b
        · rw [iz_t c2, yes (Or.inr (Or.inl c2))]
        · rw [iz_f c2]
          by_cases c3 : sp_sX W b = a2
          · rw [iz_t c3]
            by_cases c4 : sp_sY W b ≤ a3
            · rw [iz_t c4, no (fun z => z.elim c1 (fun z => z.elim c2 (fun z => z.2 c4)))]
            · rw [iz_f c4, yes (Or.inr (Or.inr ⟨c3, c4⟩))]
          · rw [iz_f c3, no (fun z => z.elim c1 (fun z => z.elim c2 (fun z => c3 z.1)))]
    · unfold F6_pagesSigned_11b
      dsimp only
      rw [cz_z11 R, bz_s, e2, iz_t (nI_le (Nat.le_refl _) (by omega))]
  rw [P, bz_s]
theorem rz_sg (R : rz_N s0 th W h) {i c : Nat} (hi : i < 9) (hc : c < 2) {j : Int32} (hj : j = nI (4230 + 2 * i + c)) : m_ai h 0 318 j = some (W 11 i c) := by
  refine rz_get R (k := 11) (r := i) (c := c) ?_ ⟨by decide, hi, hc⟩
  rw [hj]
  show nI (4230 + 2 * i + c) = nI (4230 + (2 * i + c))
  rw [Nat.add_assoc]
theorem sp_s1_ok {x y : Int32} {b : Nat} {a : Int32 × Int32 × Int32} (ha : a.1 = -1 ∨ ∃ b0, b0 < 512 ∧ a.1 = nI b0) (hb : b < 512) : (sp_s1 W x y b a).1 = -1 ∨ ∃ b0, b0 < 512 ∧ (sp_s1 W x y b a).1 = nI b0 := by
  unfold sp_s1
  split
  · exact Or.inr ⟨b, hb, rfl⟩
  · exact ha
theorem i_neg {a : Int32} (ha : a = -1 ∨ ∃ b0, b0 < 512 ∧ a = nI b0) : a = -1 ↔ a < 0 := by
  rcases ha with rfl | ⟨b, hb, rfl⟩
  · exact ⟨fun _ => by decide, fun _ => rfl⟩
  · refine ⟨fun e => ?_, fun e => absurd e (nI_pos (by omega))⟩
    rw [e]
    decide
theorem rz_sign1 (R : rz_N s0 th W h) (hc : W 31 0 0 = nI (wz_n W 11)) (hn : wz_n W 11 ≤ 9) {x y : Int32} {b : Nat} (hb : b < 512) {a : Int32 × Int32 × Int32} (ha : a.1 = -1 ∨ ∃ b0, b0 < 512 ∧ a.1 = nI b0) : F12_signed_40 317 x y a.1 a.2.1 a.2.2 (nI b) 0 0 0 h = some (.inl ((sp_s1 W x y b a).1, (sp_s1 W x y b a).2.1, (sp_s1 W x y b a).2.2, nI (b + 1))) := by
  obtain ⟨a1, a2, a3⟩ := a
  have neg := i_neg ha
  dsimp only at neg ⊢
  unfold F12_signed_40
  refine wh_s (fun i => (sp_sgs W b 0 i, sp_sgs W b 1 i, nI i)) _ (wz_n W 11) 0 m_N (N_lt (by omega)) (Nat.zero_le _) ?_ ?_
  · intro i _ hi
    have e0 : sp_sgs W b 0 (i + 1) = sp_sg W b 0 i (sp_sgs W b 0 i) := rfl
    have e1 : sp_sgs W b 1 (i + 1) = sp_sg W b 1 i (sp_sgs W b 1 i) := rfl
    rw [e0, e1]
    generalize sp_sgs W b 0 i = u
    generalize sp_sgs W b 1 i = v
    unfold F12_signed_40b sp_sg
    dsimp only
    rw [rz_gr1 R, bz_s, rz_c11 R, bz_s, hc, iz_f (nI_ge hi (by omega)), nI_succ]
    have g0 := rz_sg R (i := i) (c := 0) (j := 4230 + 2 * nI i) (by omega) (by decide) (by show nI 4230 + nI 2 * nI i = _; rw [nI_mul, nI_add]; rfl)
    have g1 := rz_sg R (i := i) (c := 1) (j := 4230 + 2 * nI i + 1) (by omega) (by decide) (by show nI 4230 + nI 2 * nI i + nI 1 = _; rw [nI_mul, nI_add, nI_add])
    by_cases q : ((nI b >>> (nI i &&& 31)) &&& 1) = 1
    · rw [iz_t q, if_pos q, if_pos q, bz_s, g0, bz_s]
      unfold F12_signed_83
      rw [iz_t q, rz_gr1 R, bz_s, g1, bz_s]
    · rw [iz_f q, if_neg q, if_neg q]
      unfold F12_signed_83
      rw [iz_f q, Int32.add_zero, Int32.add_zero]
  · unfold F12_signed_40b
    dsimp only
    have eX : sp_sgs W b 0 (wz_n W 11) = sp_sX W b := rfl
    have eY : sp_sgs W b 1 (wz_n W 11) = sp_sY W b := rfl
    rw [rz_gr1 R, bz_s, rz_c11 R, bz_s, hc, iz_t (nI_le (Nat.le_refl _) (by omega)), eX, eY, nI_succ]
    unfold F12_signed_167 sp_s1
    by_cases c1 : sp_sX W b < x
    · rw [iz_t c1, if_neg (fun z => z.1.1 c1)]
    rw [iz_f c1]
    by_cases c2 : sp_sY W b < y
    · rw [iz_t c2, if_neg (fun z => z.1.2 c2)]
    rw [iz_f c2]
    by_cases d1 : a1 < 0
    · rw [iz_t d1, if_pos ⟨⟨c1, c2⟩, Or.inl (neg.mpr d1)⟩]
      rfl
    have d1' : ¬ a1 = -1 := fun z => d1 (neg.mp z)
    rw [iz_f d1]
    by_cases d2 : sp_sX W b < a2
    · have d3 : ¬ a2 < sp_sX W b := fun z => Int32.lt_irrefl (Int32.lt_trans d2 z)
      have d4 : ¬ sp_sX W b = a2 := fun z => by rw [z] at d2; exact Int32.lt_irrefl d2
      rw [iz_t d2, if_neg (fun z => z.2.elim d1' (fun z => z.elim d3 (fun z => d4 z.1)))]
    rw [iz_f d2]
    by_cases d4 : sp_sX W b = a2
    · rw [iz_t d4]
      have d3 : ¬ a2 < sp_sX W b := fun z => by rw [d4] at z; exact Int32.lt_irrefl z
      by_cases d5 : a3 < sp_sY W b
      · rw [iz_t d5, if_pos ⟨⟨c1, c2⟩, Or.inr (Or.inr ⟨d4, Int32.not_le.mpr d5⟩)⟩]
        rfl
      · rw [iz_f d5, if_neg (fun z => z.2.elim d1' (fun z => z.elim d3 (fun z => d5 (Int32.not_le.mp z.2))))]
    · have d3 : a2 < sp_sX W b := Int32.not_le.mp (fun z => (Int32.lt_or_eq_of_le z).elim d2 d4)
      rw [iz_f d4, if_pos ⟨⟨c1, c2⟩, Or.inr (Or.inl d3)⟩]
      rfl
theorem rz_signed (R : rz_N s0 th W h) (V : vz W) {x y : Int32} : k_ok (F12_signed 317 x y h) (fun z => ∃ h1, z = (sp_signed W x y, h1) ∧ rz_N s0 0 W h1) := by
  have hcn := V.cap (k := 11) (by omega)
  have hn : wz_n W 11 ≤ 9 := hcn.2
  have hc : W 31 0 0 = nI (wz_n W 11) := hcn.1
  obtain ⟨e2, l2⟩ := bt_2 (wz_n W 11) (List.mem_range.mpr (by omega))
  unfold F12_signed F12_signed_0
  refine k_g (rz_io R) (k_b (rz_th R) ?_)
  intro h1 R1
  unfold F12_signed_16
  refine wh_i (n := 2 ^ wz_n W 11) (fun (b : Nat) (z : Int32 × Int32 × Int32 × Int32) => z = ((sp_sss W x y b).1, (sp_sss W x y b).2.1, (sp_sss W x y b).2.2, nI b) ∧ ((sp_sss W x y b).1 = -1 ∨ ∃ b0, b0 < 512 ∧ (sp_sss W x y b).1 = nI b0)) _ ?_ ?_ m_N 0 _ (N_lt (by omega)) (Nat.zero_le _) ⟨rfl, Or.inl rfl⟩
  · rintro b _ hb ⟨rfl, ha⟩
    have e : sp_sss W x y (b + 1) = sp_s1 W x y b (sp_sss W x y b) := rfl
    rw [e]
    generalize sp_sss W x y b = a at ha
    unfold F12_signed_16b
    dsimp only
    refine k_e (rz_gr1 R1) (k_e (rz_c11 R1) ?_)
    rw [hc, e2]
    refine k_f (nI_ge hb (by omega)) ?_
    rw [rz_sign1 R1 hc hn (by omega) ha]
    exact k_s ⟨rfl, sp_s1_ok ha (by omega)⟩
  · rintro _ ⟨rfl, ha⟩
    unfold F12_signed_16b
    dsimp only
    refine k_e (rz_gr1 R1) (k_e (rz_c11 R1) ?_)
    rw [hc, e2]
    exact k_t (nI_le (Nat.le_refl _) (by omega)) (k_s ⟨h1, rfl, R1⟩)
end
