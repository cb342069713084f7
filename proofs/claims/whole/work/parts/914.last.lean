/-! ===== LASTS: both sides ===== -/
noncomputable def sp_bc (x : Int32) : Int32 := (F14_bitCount x ([], 0, 0)).getD 0
theorem F14_e {x : Int32} {h : m_H} : F14_bitCount x h = some (sp_bc x) := rfl
abbrev sp_yin (W : m_W) (b y i : Nat) : Prop := ((nI b >>> (nI i &&& 31)) &&& 1) = 1 ∧ ¬ nI y < W 12 i 1
def sp_yr1 (W : m_W) (b y c i : Nat) (a : Int32) : Int32 := if sp_yin W b y i then a + W 12 i c else a
def sp_yrs (W : m_W) (b y c i : Nat) : Int32 := sp_it (sp_yr1 W b y c) i 0
def sp_yr (W : m_W) (b y c : Nat) : Int32 := sp_yrs W b y c (wz_n W 12)
abbrev sp_lk (W : m_W) (b y r : Nat) : Prop := ¬ W 13 (5 * r + y) 0 < sp_yr W b y 0 ∧ ¬ sp_yr W b y 2 < W 13 (5 * r + y) 1 ∧ ¬ sp_yr W b y 3 < W 13 (5 * r + y) 2
def sp_lka (W : m_W) (b : Nat) : Prop := ∀ y, y < 5 → ∀ r, r < 3 → sp_lk W b y r
def sp_lkv (W : m_W) (b : Nat) : Int32 := sp_it (fun y a => sp_it (fun r a => if a = 0 then 0 else if sp_lk W b y r then 1 else 0) 3 a) 5 1
def sp_co (W : m_W) (b : Nat) : Int32 := sp_it (fun y a => a + sp_yr W b y 0) 5 0
abbrev sp_lok (W : m_W) (b : Nat) (a : Int32 × Int32) : Prop := (a.1 = -1 ∨ sp_co W b < a.2 ∨ (sp_co W b = a.2 ∧ sp_bc (nI b) < sp_bc a.1)) ∧ ¬ sp_lkv W b = 0
noncomputable def sp_l1 (W : m_W) (b : Nat) (a : Int32 × Int32) : Int32 × Int32 := if sp_lok W b a then (nI b, sp_co W b) else a
noncomputable def sp_ls1 (W : m_W) (b : Nat) : Int32 × Int32 := sp_it (sp_l1 W) b (-1, 0)
noncomputable def sp_lasts (W : m_W) : Int32 := (sp_ls1 W (2 ^ wz_n W 12)).1
section
variable {s0 : tz_S} {th : Int32} {W : m_W} {h : m_H}
theorem sp_lkr {b y : Nat} {a : Int32} (ha : a = 0 ∨ a = 1) : ∀ n, (sp_it (fun r a => if a = 0 then 0 else if sp_lk W b y r then 1 else 0) n a = 1 ∧ a = 1 ∧ (∀ r, r < n → sp_lk W b y r)) ∨ (sp_it (fun r a => if a = 0 then 0 else if sp_lk W b y r then 1 else 0) n a = 0 ∧ ¬ (a = 1 ∧ ∀ r, r < n → sp_lk W b y r))
  | 0 => by
    rcases ha with rfl | rfl
    · exact Or.inr ⟨rfl, fun q => absurd q.1 (by decide)⟩
    · exact Or.inl ⟨rfl, rfl, fun r hr => absurd hr (Nat.not_lt_zero r)⟩
  | n + 1 => by
    rw [sp_it_s]
    rcases sp_lkr ha n with ⟨e, e1, e2⟩ | ⟨e, e1⟩
    · rw [e, if_neg (by decide)]
      by_cases q : sp_lk W b y n
      · rw [if_pos q]
        refine Or.inl ⟨rfl, e1, fun r hr => ?_⟩
        by_cases z : r = n
        · subst z; exact q
        · exact e2 r (by omega)
      · rw [if_neg q]
        exact Or.inr ⟨rfl, fun z => q (z.2 n (by omega))⟩
    · rw [e, if_pos rfl]
      exact Or.inr ⟨rfl, fun z => e1 ⟨z.1, fun r hr => z.2 r (by omega)⟩⟩
theorem sp_lky {b : Nat} : ∀ n, (sp_it (fun y a => sp_it (fun r a => if a = 0 then 0 else if sp_lk W b y r then 1 else 0) 3 a) n 1 = (1 : Int32) ∧ (∀ y, y < n → ∀ r, r < 3 → sp_lk W b y r)) ∨ (sp_it (fun y a => sp_it (fun r a => if a = 0 then 0 else if sp_lk W b y r then 1 else 0) 3 a) n 1 = (0 : Int32) ∧ ¬ (∀ y, y < n → ∀ r, r < 3 → sp_lk W b y r))
  | 0 => Or.inl ⟨rfl, fun y hy => absurd hy (Nat.not_lt_zero y)⟩
  | n + 1 => by
    rw [sp_it_s (n := n)]
    rcases sp_lky (b := b) n with ⟨e, e1⟩ | ⟨e, e1⟩
    · rw [e]
      rcases sp_lkr (W := W) (b := b) (y := n) (a := 1) (Or.inr rfl) 3 with ⟨d, -, d1⟩ | ⟨d, d1⟩
      · rw [d]
        refine Or.inl ⟨rfl, fun y hy => ?_⟩
        by_cases z : y = n
        · subst z; exact d1
        · exact e1 y (by omega)
      · rw [d]
        exact Or.inr ⟨rfl, fun z => d1 ⟨rfl, z n (by omega)⟩⟩
    · rw [e]
      rcases sp_lkr (W := W) (b := b) (y := n) (a := 0) (Or.inl rfl) 3 with ⟨d, d0, d1⟩ | ⟨d, d1⟩
      · exact absurd d0 (by decide)
      · rw [d]
        exact Or.inr ⟨rfl, fun z => e1 (fun y hy => z y (by omega))⟩
theorem sp_lkv_e {b : Nat} : (sp_lkv W b = 1 ∧ sp_lka W b) ∨ (sp_lkv W b = 0 ∧ ¬ sp_lka W b) := sp_lky 5
theorem cz_yearly (R : cz_N s0 W h) (hn : wz_n W 12 ≤ 8) {b y c d : Nat} {z : Int32} (hb : b < 512) (hd : d < 4) (hz : z = nI d) (hc : wz_pi 12 d = c) : F6_yearly 223 (nI b) (nI y) z h = some (sp_yr W b y c) := by
  unfold F6_yearly F6_yearly_0 F6_yearly_6
  refine wh_s (fun i => (sp_yrs W b y c i, nI i)) _ (wz_n W 12) 0 m_N (N_lt (by omega)) (Nat.zero_le _) ?_ ?_
  · intro i _ hi
    have e : sp_yrs W b y c (i + 1) = sp_yr1 W b y c i (sp_yrs W b y c i) := rfl
    rw [e]
    generalize sp_yrs W b y c i = a
    unfold F6_yearly_6b sp_yr1
    dsimp only
    rw [nz_gr223_18 R, bz_s, cz_z12 R, bz_s, iz_f (nI_ge hi (by omega)), F6_isIn_e hb (by omega), bz_s, nI_succ]
    by_cases q : ((nI b >>> (nI i &&& 31)) &&& 1) = 1
    · rw [if_pos q, iz_f (by decide), bz_s, cz_g12_3 R rfl hi, bz_s]
      by_cases q2 : nI y < W 12 i 1
      · rw [iz_t q2, if_neg (fun x => x.2 q2)]
      · rw [iz_f q2, if_pos ⟨q, q2⟩, bz_s, cz_get R (k := 12) (c := d) (by decide) rfl rfl hi hz hd, bz_s, hc]
    · rw [if_neg q, iz_t rfl, if_neg (fun x => q x.1)]
  · unfold F6_yearly_6b
    dsimp only
    rw [nz_gr223_18 R, bz_s, cz_z12 R, bz_s, iz_t (nI_le (Nat.le_refl _) (by omega))]
    rfl
theorem cz_doesLast (R : cz_N s0 W h) (V : vz W) {b : Nat} (hb : b < 512) : F6_doesLast 223 (nI b) h = some (sp_lkv W b) := by
  have hn : wz_n W 12 ≤ 8 := V.c (k := 12) (by omega)
  have n13 := V.n13
  have f0 : ¬ sp_lka W b → (0 : Int32) = sp_lkv W b := fun q => by
    rcases sp_lkv_e (W := W) (b := b) with ⟨e, e1⟩ | ⟨e, e1⟩
    · exact absurd e1 q
    · exact e.symm
  have f1 : sp_lka W b → (1 : Int32) = sp_lkv W b := fun q => by
    rcases sp_lkv_e (W := W) (b := b) with ⟨e, e1⟩ | ⟨e, e1⟩
    · exact e.symm
    · exact absurd q e1
  generalize sp_lkv W b = v0 at f0 f1 ⊢
  have P : k_ok (F6_doesLast 223 (nI b) h) (fun v => v = v0) := by
    unfold F6_doesLast F6_doesLast_0 F6_doesLast_2
    refine wh_i (n := 5) (fun (y : Nat) (z : Int32) => z = nI y ∧ ∀ y', y' < y → ∀ r, r < 3 → sp_lk W b y' r) _ ?_ ?_ m_N 0 _ (N_lt (by decide)) (Nat.zero_le _) ⟨rfl, fun y hy => absurd hy (Nat.not_lt_zero y)⟩
    · rintro y _ hy ⟨rfl, ih⟩
      unfold F6_doesLast_2b
      refine k_f (show ¬ (5 : Int32) ≤ nI y from nI_ge (b := 5) hy (by decide)) (k_e (cz_yearly R hn (b := b) (y := y) (z := 0) (d := 0) (c := 0) hb (by decide) rfl rfl) (k_e (cz_yearly R hn (b := b) (y := y) (z := 1) (d := 1) (c := 2) hb (by decide) rfl rfl) (k_e (cz_yearly R hn (b := b) (y := y) (z := 2) (d := 2) (c := 3) hb (by decide) rfl rfl) ?_)))
      unfold F6_doesLast_36
      refine wh_i (n := 3) (fun (r : Nat) (z : Int32) => z = nI r ∧ ∀ r', r' < r → sp_lk W b y r') _ ?_ ?_ m_N 0 _ (N_lt (by decide)) (Nat.zero_le _) ⟨rfl, fun y hy => absurd hy (Nat.not_lt_zero y)⟩
      · rintro r _ hr ⟨rfl, ihr⟩
        have ei : nI r * 5 + nI y = nI (5 * r + y) := by
          show nI r * nI 5 + nI y = _
          rw [nI_mul, nI_add, Nat.mul_comm]
        have h13 : 5 * r + y < wz_n W 13 := by omega
        have stop : ¬ sp_lk W b y r → k_ok (some (.inr (.inr 0) : Int32 ⊕ (Int32 ⊕ Int32))) (m_KK (fun z => z = nI (r + 1) ∧ ∀ r', r' < r + 1 → sp_lk W b y r') (m_KK (fun z => z = nI (y + 1) ∧ ∀ y', y' < y + 1 → ∀ r, r < 3 → sp_lk W b y' r) (fun v => v = v0))) := fun q => k_s (f0 (fun z => q (z y hy r hr)))
        unfold F6_doesLast_36b
        rw [ei]
        refine k_f (show ¬ (3 : Int32) ≤ nI r from nI_ge (b := 3) hr (by decide)) (k_e (nz_gr223_19 R) (k_e (cz_get R (k := 13) (c := 0) (by decide) rfl rfl h13 rfl (by decide)) (k_if (fun q => stop (fun z => z.1 q)) (fun q1 => ?_))))
        refine k_e (nz_gr223_19 R) (k_e (cz_get R (k := 13) (c := 1) (by decide) rfl rfl h13 rfl (by decide)) (k_if (fun q => stop (fun z => z.2.1 q)) (fun q2 => ?_)))
        refine k_e (nz_gr223_19 R) (k_e (cz_get R (k := 13) (c := 2) (by decide) rfl rfl h13 rfl (by decide)) (k_if (fun q3 => k_s ⟨(nI_succ r).symm, fun r' hr' => ?_⟩) (fun q => stop (fun z => z.2.2 (Int32.not_le.mp q)))))
        by_cases z : r' = r
        · subst z
          exact ⟨q1, q2, Int32.not_lt.mpr q3⟩
        · exact ihr r' (by omega)
      · rintro _ ⟨rfl, ihr⟩
        unfold F6_doesLast_36b
        refine k_t (show (3 : Int32) ≤ nI 3 by decide) (k_s ⟨(nI_succ y).symm, fun y' hy' => ?_⟩)
        by_cases z : y' = y
        · subst z; exact ihr
        · exact ih y' (by omega)
    · rintro _ ⟨rfl, ih⟩
      unfold F6_doesLast_2b
      refine k_t (show (5 : Int32) ≤ nI 5 by decide) (k_s (f1 ih))
  obtain ⟨v, e, rfl⟩ := P
  exact e
theorem cz_lasts (R : cz_N s0 W h) (V : vz W) : F11_lasts 200 h = some (sp_lasts W) := by
  have hn : wz_n W 12 ≤ 8 := V.c (k := 12) (by omega)
  obtain ⟨e2, l2⟩ := bt_2 (wz_n W 12) (List.mem_range.mpr (by omega))
  unfold F11_lasts F11_lasts_0 F6_choicesThatLast F6_choicesThatLast_0 F6_choicesThatLast_6 sp_lasts
  rw [nz_io200 R, gz_s, nz_gr200_4 R, bz_s]
  have P : m_wh (fun s => F6_choicesThatLast_6b 223 h s) m_N (-1, 0, 0) = some (sp_ls1 W (2 ^ wz_n W 12)).1 := by
    refine wh_s (fun i => ((sp_ls1 W i).1, (sp_ls1 W i).2, nI i)) _ (2 ^ wz_n W 12) 0 m_N (N_lt (by omega)) (Nat.zero_le _) ?_ ?_
    · intro b _ hb
      have e : sp_ls1 W (b + 1) = sp_l1 W b (sp_ls1 W b) := rfl
      rw [e]
      generalize sp_ls1 W b = a
      obtain ⟨a1, a2⟩ := a
      unfold F6_choicesThatLast_6b
      dsimp only
      rw [nz_gr223_18 R, bz_s, cz_z12 R, bz_s, e2, iz_f (nI_ge hb (by omega))]
      unfold F6_choicesThatLast_25
      refine wh_s (fun y => (sp_it (fun y a => a + sp_yr W b y 0) y 0, nI y)) _ 5 0 m_N (N_lt (by omega)) (Nat.zero_le _) ?_ ?_
      · intro y _ hy
        unfold F6_choicesThatLast_25b
        dsimp only
        rw [iz_f (show ¬ (5 : Int32) ≤ nI y from nI_ge (b := 5) hy (by decide)), cz_yearly R hn (b := b) (y := y) (z := 0) (d := 0) (c := 0) (by omega) (by decide) rfl rfl, bz_s, nI_succ, sp_it_s]
      · have ec : sp_it (fun y a => a + sp_yr W b y 0) 5 0 = sp_co W b := rfl
        rw [ec]
        unfold F6_choicesThatLast_25b
        dsimp only
        rw [iz_t (show (5 : Int32) ≤ nI 5 by decide)]
        have yes : (a1 = -1 ∨ sp_co W b < a2 ∨ (sp_co W b = a2 ∧ sp_bc (nI b) < sp_bc a1)) → F6_choicesThatLast_78 223 a1 a2 (nI b) (sp_co W b) h = some (.inl ((sp_l1 W b (a1, a2)).1, (sp_l1 W b (a1, a2)).2, nI (b + 1))) := by
          intro q
          unfold F6_choicesThatLast_78 F6_choicesThatLast_83 sp_l1
          rw [iz_f (by decide), cz_doesLast R V (by omega), bz_s, nI_succ]
          by_cases c : sp_lkv W b = 0
          · rw [iz_t c, if_neg (fun z => z.2 c)]
          · rw [iz_f c, if_pos ⟨q, c⟩]
        have no : ¬ (a1 = -1 ∨ sp_co W b < a2 ∨ (sp_co W b = a2 ∧ sp_bc (nI b) < sp_bc a1)) → F6_choicesThatLast_82 223 a1 a2 (nI b) (sp_co W b) h = some (.inl ((sp_l1 W b (a1, a2)).1, (sp_l1 W b (a1, a2)).2, nI (b + 1))) := by
          intro q
          unfold F6_choicesThatLast_82 F6_choicesThatLast_83 sp_l1
          rw [iz_t rfl, if_neg (fun z => q z.1), nI_succ]
        by_cases c1 : a1 = -1
        · rw [iz_t c1, yes (Or.inl c1)]
          rfl
        · rw [iz_f c1]
          by_cases c2 : sp_co W b < a2
          · rw [iz_t c2, yes (Or.inr (Or.inl c2))]
            rfl
          · rw [iz_f c2]
            by_cases c3 : sp_co W b = a2
            · rw [iz_t c3, F14_e, bz_s, F14_e, bz_s]
              by_cases c4 : sp_bc a1 ≤ sp_bc (nI b)
              · rw [iz_t c4, no (fun z => z.elim c1 (fun z => z.elim c2 (fun z => Int32.not_lt.mpr c4 z.2)))]
                rfl
              · rw [iz_f c4, yes (Or.inr (Or.inr ⟨c3, Int32.not_le.mp c4⟩))]
                rfl
            · rw [iz_f c3, no (fun z => z.elim c1 (fun z => z.elim c2 (fun z => c3 z.1)))]
              rfl
    · unfold F6_choicesThatLast_6b
      dsimp only
      rw [nz_gr223_18 R, bz_s, cz_z12 R, bz_s, e2, iz_t (nI_le (Nat.le_refl _) (by omega))]
  rw [P, bz_s]
end
