/-! ===== a text: the class splits it ===== -/
def tq (s0 s : tz_S) : Prop := tz_fr s0 s ∧ ∀ j, s.1 206 j = s0.1 206 j
theorem tq.uf {s0 s : tz_S} (b : tq s0 s) {k : Nat} {v : Int32} (h3 : ¬ (201 = 201 ∧ k = 1)) : tq s0 (tz_uf s 201 k v) := ⟨b.1.trans (tz_fr.uf (by decide) (by decide) h3), fun j => (show (if 206 = 201 ∧ j = k then v else s.1 206 j) = s.1 206 j from if_neg (fun q => absurd q.1 (by decide))).trans (b.2 j)⟩
theorem tq.ui {s0 s : tz_S} (b : tq s0 s) {a : Nat} {f : Nat → Int32} (h1 : 201 ≤ a) (h2 : a < 253) (h3 : ¬ (a = 202 ∨ a = 212 ∨ a = 213)) : tq s0 (tz_ui s a f) := ⟨b.1.trans (tz_fr.ui h1 h2 h3), b.2⟩
def tp (s0 : tz_S) (W : m_W) (T : Nat → Nat) (n p c : Nat) (h : m_H) : Prop := ∃ s, h = tz_H s ∧ tz_HR s 223 W ∧ tq s0 s ∧ s.1 201 2 = nI n ∧ (∀ j, j < n → s.2.1 202 j = nI (T j)) ∧ s.1 201 3 = nI p ∧ s.1 201 7 = nI c ∧ ∀ i, i < c → s.2.1 203 i = lx_t T n (lx_q T n i) ∧ s.2.1 204 i = nI (lx_q T n i) ∧ s.2.1 205 i = lx_v T n (lx_q T n i)
theorem m_rokc : ∀ b ∈ List.range 256, m_rok .char (nI b) = true := by decide +kernel
theorem sls_ok : ∀ k ∈ List.range 18, 0 < (m_sls (11 + k)).length ∧ (m_sls (11 + k)).length ≤ 6 := by decide +kernel
theorem F9_dig {b : Nat} (hb : b < 256) {h : m_H} : F9_isDigit (nI b) h = some (if lx_d b = true then 1 else 0) := by
  unfold F9_isDigit F9_isDigit_0
  by_cases c : 48 ≤ b
  · rw [iz_f (show ¬ nI b < (48 : Int32) from nI_nlt (b := 48) c (by omega))]
    by_cases d : b ≤ 57
    · rw [iz_f (show ¬ (57 : Int32) < nI b from nI_nlt (a := 57) d (by decide)), if_pos (lx_dg.mpr ⟨c, d⟩)]
    · rw [iz_t (show (57 : Int32) < nI b from nI_lt (a := 57) (by omega) (by omega)), if_neg (fun z => d (lx_dg.mp z).2)]
  · rw [iz_t (show nI b < (48 : Int32) from nI_lt (b := 48) (by omega) (by decide)), if_neg (fun z => c (lx_dg.mp z).1)]
theorem F9_let {b : Nat} (hb : b < 256) {h : m_H} : F9_isLetter (nI b) h = some (if lx_l b = true then 1 else 0) := by
  unfold F9_isLetter F9_isLetter_0
  by_cases c : 97 ≤ b
  · rw [iz_f (show ¬ nI b < (97 : Int32) from nI_nlt (b := 97) c (by omega))]
    by_cases d : b ≤ 122
    · rw [iz_f (show ¬ (122 : Int32) < nI b from nI_nlt (a := 122) d (by decide)), if_pos (lx_lt.mpr ⟨c, d⟩)]
    · rw [iz_t (show (122 : Int32) < nI b from nI_lt (a := 122) (by omega) (by omega)), if_neg (fun z => d (lx_lt.mp z).2)]
  · rw [iz_t (show nI b < (97 : Int32) from nI_lt (b := 97) (by omega) (by decide)), if_neg (fun z => c (lx_lt.mp z).1)]
theorem F9_wn {k : Nat} (hk : k < 18) {h : m_H} : F9_wordNumbered (nI k) h = some (11 + k) := by
  match k, hk with
  | 0, _ => rfl
  | 1, _ => rfl
  | 2, _ => rfl
  | 3, _ => rfl
  | 4, _ => rfl
  | 5, _ => rfl
  | 6, _ => rfl
  | 7, _ => rfl
  | 8, _ => rfl
  | 9, _ => rfl
  | 10, _ => rfl
  | 11, _ => rfl
  | 12, _ => rfl
  | 13, _ => rfl
  | 14, _ => rfl
  | 15, _ => rfl
  | 16, _ => rfl
  | 17, _ => rfl
  | n + 18, h => exact absurd h (by omega)
section
variable {s0 : tz_S} {W : m_W} {T : Nat → Nat} {n p c : Nat} {h : m_H}
theorem tp.N (P : tp s0 W T n p c h) : cz_N s0 W h := by
  obtain ⟨s, e, a, b, -⟩ := P
  exact ⟨s, e, a, b.1⟩
theorem tp.le (P : tp s0 W T n p c h) : m_gi h 201 7 2 = some (nI n) := by
  obtain ⟨s, rfl, a, b, d, -⟩ := P
  rw [gi_201_2, d]
theorem tp.nx (P : tp s0 W T n p c h) : m_gi h 201 7 3 = some (nI p) := by
  obtain ⟨s, rfl, a, b, d, e, f, -⟩ := P
  rw [gi_201_3, f]
theorem tp.cn (P : tp s0 W T n p c h) : m_gi h 201 7 7 = some (nI c) := by
  obtain ⟨s, rfl, a, b, d, e, f, g, -⟩ := P
  rw [gi_201_7, g]
theorem tp.put (P : tp s0 W T n p c h) {p' : Nat} : k_ok (m_pf m_ft h 201 7 3 (.int (nI p'))) (tp s0 W T n p' c) := by
  obtain ⟨s, rfl, a, b, d, e, f, g, k⟩ := P
  exact ⟨_, pf_201_3, _, rfl, a.cong (fun y j h1 _ => if_neg (by omega)) (fun _ _ _ => rfl) rfl rfl, b.uf (by decide), (tz_uf_n (by decide)).trans d, e, tz_uf_s, (tz_uf_n (by decide)).trans g, k⟩
theorem tp.byte (P : tp s0 W T n p c h) (hn : n ≤ 400) (hT : ∀ j, j < n → T j < 256) {j : Nat} (hj : j < 10000) : F9_byteAt 201 (nI j) h = some (if j < n then nI (T j) else 0) := by
  unfold F9_byteAt F9_byteAt_0
  rw [nz_io201 P.N, gz_s, iz_f (nI_pos (by omega)), P.le, bz_s]
  by_cases q : j < n
  · have e : m_ai h 4 202 (nI j) = some (nI (T j)) := by
      obtain ⟨s, rfl, a, b, d, e, -⟩ := P
      exact (tz_ai sh_202 ⟨rfl, rfl⟩ (nI_in1 (show j < 400 by omega) (by decide))).trans (by rw [nI_clamp (by omega), e j q])
    rw [iz_f (nI_ge q (by omega)), if_pos q, nz_gr201_0 P.N, bz_s, nz_le202 P.N, bz_s, iz_f (show ¬ (400 : Int32) ≤ nI j from nI_ge (b := 400) (by omega) (by decide)), bz_s, e, bz_s, m_rokc _ (List.mem_range.mpr (hT j q)), gz_s]
  · rw [iz_t (nI_le (by omega) (by omega)), if_neg q]
theorem tp_skip (P : tp s0 W T n p c h) (hn : n ≤ 400) (hT : ∀ j, j < n → T j < 256) (hp : p ≤ n) : k_ok (F9_skipBlanks 201 h) (tp s0 W T n (lx_k0 T n p) c) := by
  unfold F9_skipBlanks F9_skipBlanks_0 F9_skipBlanks_2
  refine k_g (nz_io201 P.N) ?_
  refine wh_i (n := n) (fun (i : Nat) (z : Int32 × m_H) => z.1 = nI i ∧ tp s0 W T n (p + i) c z.2 ∧ ∀ j, p ≤ j → j < p + i → j < n ∧ lx_b (T j) = true) _ ?_ ?_ m_N 0 _ (N_lt (by omega)) (Nat.zero_le _) ⟨rfl, P, fun j a b => absurd b (by omega)⟩
  · rintro i ⟨y, h1⟩ hi ⟨q1, P1, q2⟩
    dsimp only at q1 P1
    subst q1
    unfold F9_skipBlanks_2b
    dsimp only
    refine k_e P1.le (k_f (nI_ge hi (by omega)) (k_e P1.nx (k_e (P1.byte hn hT (by omega)) (k_if (fun c0 => ?_) (fun c0 => k_s ?_)))))
    · have c1 : p + i < n := by
        rcases Nat.lt_or_ge (p + i) n with a | a
        · exact a
        · rw [if_neg (by omega)] at c0
          exact absurd c0 (by decide)
      rw [if_pos c1] at c0
      have c2 : T (p + i) = 32 := nI_e (m := 32) (by have := hT _ c1; omega) (by decide) c0
      refine k_e P1.nx ?_
      rw [nI_1]
      refine k_b P1.put ?_
      intro h2 P2
      refine k_s ⟨(nI_succ i).symm, P2, fun j a b => ?_⟩
      by_cases e : j = p + i
      · subst e; exact ⟨c1, lx_bl.mpr c2⟩
      · exact q2 j a (by omega)
    · have e : lx_k0 T n p = p + i := lx_u (by omega) q2 (by
        by_cases c1 : p + i < n
        · right
          rw [if_pos c1] at c0
          cases hb : lx_b (T (p + i)) with
          | false => rfl
          | true => exact absurd (by rw [lx_bl.mp hb]; rfl) c0
        · left; omega)
      rw [e]
      exact P1
  · rintro ⟨y, h1⟩ ⟨q1, P1, q2⟩
    dsimp only at q1 P1
    subst q1
    unfold F9_skipBlanks_2b
    dsimp only
    refine k_e P1.le (k_t (nI_le (Nat.le_refl _) (by omega)) (k_s ?_))
    have e : lx_k0 T n p = p + n := lx_u (by omega) q2 (Or.inl (by omega))
    rw [e]
    exact P1
theorem tp_word (P : tp s0 W T n p c h) (hn : n ≤ 400) (hT : ∀ j, j < n → T j < 256) (hp : p ≤ n) : k_ok (F9_passWord 201 h) (tp s0 W T n (lx_e lx_l T n p) c) := by
  unfold F9_passWord F9_passWord_0 F9_passWord_2
  refine k_g (nz_io201 P.N) ?_
  refine wh_i (n := n) (fun (i : Nat) (z : Int32 × m_H) => z.1 = nI i ∧ tp s0 W T n (p + i) c z.2 ∧ ∀ j, p ≤ j → j < p + i → j < n ∧ lx_l (T j) = true) _ ?_ ?_ m_N 0 _ (N_lt (by omega)) (Nat.zero_le _) ⟨rfl, P, fun j a b => absurd b (by omega)⟩
  · rintro i ⟨y, h1⟩ hi ⟨q1, P1, q2⟩
    dsimp only at q1 P1
    subst q1
    unfold F9_passWord_2b
    dsimp only
    refine k_e P1.le (k_f (nI_ge hi (by omega)) (k_e P1.nx (k_e (P1.byte hn hT (by omega)) ?_)))
    by_cases c1 : p + i < n
    · rw [if_pos c1]
      refine k_e (F9_let (hT _ c1)) ?_
      by_cases c2 : lx_l (T (p + i)) = true
      · rw [if_pos c2]
        refine k_f (by decide) (k_e P1.nx ?_)
        rw [nI_1]
        refine k_b P1.put ?_
        intro h2 P2
        refine k_s ⟨(nI_succ i).symm, P2, fun j a b => ?_⟩
        by_cases e : j = p + i
        · subst e; exact ⟨c1, c2⟩
        · exact q2 j a (by omega)
      · rw [if_neg c2]
        refine k_t rfl (k_s ?_)
        have e : lx_e lx_l T n p = p + i := lx_u (by omega) q2 (Or.inr (by cases hb : lx_l (T (p + i)) with
          | false => rfl
          | true => exact absurd hb c2))
        rw [e]
        exact P1
    · rw [if_neg c1]
      refine k_e (show F9_isLetter 0 h1 = some 0 from rfl) (k_t rfl (k_s ?_))
      have e : lx_e lx_l T n p = p + i := lx_u (by omega) q2 (Or.inl (by omega))
      rw [e]
      exact P1
  · rintro ⟨y, h1⟩ ⟨q1, P1, q2⟩
    dsimp only at q1 P1
    subst q1
    unfold F9_passWord_2b
    dsimp only
    refine k_e P1.le (k_t (nI_le (Nat.le_refl _) (by omega)) (k_s ?_))
    have e : lx_e lx_l T n p = p + n := lx_u (by omega) q2 (Or.inl (by omega))
    rw [e]
    exact P1
theorem tp_num (P : tp s0 W T n p c h) (hn : n ≤ 400) (hT : ∀ j, j < n → T j < 256) (hp : p ≤ n) : k_ok (F9_passNumber 201 h) (fun z => z.1 = lx_va T p (lx_e lx_d T n p - p) ∧ tp s0 W T n (lx_e lx_d T n p) c z.2) := by
  unfold F9_passNumber F9_passNumber_0 F9_passNumber_4
  refine k_g (nz_io201 P.N) ?_
  have fin : ∀ i h1, tp s0 W T n (p + i) c h1 → lx_e lx_d T n p = p + i → k_ok (some (.inr (lx_va T p i, h1) : (Int32 × Int32 × m_H) ⊕ (Int32 × m_H))) (m_KK (fun z => z.1 = lx_va T p (i + 1) ∧ z.2.1 = nI (i + 1) ∧ tp s0 W T n (p + (i + 1)) c z.2.2 ∧ ∀ j, p ≤ j → j < p + (i + 1) → j < n ∧ lx_d (T j) = true) (fun z => z.1 = lx_va T p (lx_e lx_d T n p - p) ∧ tp s0 W T n (lx_e lx_d T n p) c z.2)) := by
    intro i h1 P1 e
    refine k_s ?_
    show lx_va T p i = lx_va T p (lx_e lx_d T n p - p) ∧ tp s0 W T n (lx_e lx_d T n p) c h1
    rw [e, Nat.add_sub_cancel_left]
    exact ⟨rfl, P1⟩
  refine wh_i (n := n) (fun (i : Nat) (z : Int32 × Int32 × m_H) => z.1 = lx_va T p i ∧ z.2.1 = nI i ∧ tp s0 W T n (p + i) c z.2.2 ∧ ∀ j, p ≤ j → j < p + i → j < n ∧ lx_d (T j) = true) _ ?_ ?_ m_N 0 _ (N_lt (by omega)) (Nat.zero_le _) ⟨rfl, rfl, P, fun j a b => absurd b (by omega)⟩
  · rintro i ⟨v, y, h1⟩ hi ⟨q0, q1, P1, q2⟩
    dsimp only at q0 q1 P1
    subst q0 q1
    unfold F9_passNumber_4b
    dsimp only
    refine k_e P1.le (k_f (nI_ge hi (by omega)) (k_e P1.nx (k_e (P1.byte hn hT (by omega)) ?_)))
    by_cases c1 : p + i < n
    · rw [if_pos c1]
      refine k_e (F9_dig (hT _ c1)) ?_
      by_cases c2 : lx_d (T (p + i)) = true
      · rw [if_pos c2]
        have q3 : ∀ j, p ≤ j → j < p + (i + 1) → j < n ∧ lx_d (T j) = true := fun j a b => by
          by_cases e : j = p + i
          · subst e; exact ⟨c1, c2⟩
          · exact q2 j a (by omega)
        have es : lx_va T p (i + 1) = if i < 5 then lx_va T p i * 10 + (nI (T (p + i)) - 48) else lx_va T p i := rfl
        refine k_f (by decide) (k_if (fun c5 => ?_) (fun c5 => ?_))
        · have c5' : ¬ i < 5 := fun z => absurd c5 (nI_ge (b := 5) z (by decide))
          unfold F9_passNumber_48
          refine k_e P1.nx ?_
          rw [nI_1]
          refine k_b P1.put ?_
          intro h2 P2
          exact k_s ⟨by rw [es, if_neg c5'], (nI_succ i).symm, P2, q3⟩
        · have c5' : i < 5 := by
            rcases Nat.lt_or_ge i 5 with a | a
            · exact a
            · exact absurd (nI_le (a := 5) a (by omega)) c5
          unfold F9_passNumber_48
          refine k_e P1.nx (k_e (P1.byte hn hT (by omega)) ?_)
          rw [if_pos c1]
          refine k_e P1.nx ?_
          rw [nI_1]
          refine k_b P1.put ?_
          intro h2 P2
          exact k_s ⟨by rw [es, if_pos c5'], (nI_succ i).symm, P2, q3⟩
      · rw [if_neg c2]
        exact k_t rfl (fin i h1 P1 (lx_u (by omega) q2 (Or.inr (by cases hb : lx_d (T (p + i)) with
          | false => rfl
          | true => exact absurd hb c2))))
    · rw [if_neg c1]
      exact k_e (show F9_isDigit 0 h1 = some 0 from rfl) (k_t rfl (fin i h1 P1 (lx_u (by omega) q2 (Or.inl (by omega)))))
  · rintro ⟨v, y, h1⟩ ⟨q0, q1, P1, q2⟩
    dsimp only at q0 q1 P1
    subst q0 q1
    unfold F9_passNumber_4b
    dsimp only
    refine k_e P1.le (k_t (nI_le (Nat.le_refl _) (by omega)) (k_s ?_))
    have e : lx_e lx_d T n p = p + n := lx_u (by omega) q2 (Or.inl (by omega))
    show lx_va T p n = lx_va T p (lx_e lx_d T n p - p) ∧ tp s0 W T n (lx_e lx_d T n p) c h1
    rw [e, Nat.add_sub_cancel_left]
    exact ⟨rfl, P1⟩
theorem m_slen_e {k : Nat} (hk : k < 18) : m_slen (11 + k) = some (nI (m_sls (11 + k)).length) := if_pos ⟨by omega, (sls_ok k (List.mem_range.mpr hk)).1⟩
theorem m_sch_e {k i : Nat} (hk : k < 18) (hi : i < (m_sls (11 + k)).length) : m_sch (11 + k) (nI i) = some ((m_sls (11 + k)).getD i 0) := by
  have := (sls_ok k (List.mem_range.mpr hk)).2
  unfold m_sch
  rw [if_pos ⟨by omega, nI_in1 hi (by omega)⟩, nI_clamp (by omega)]
theorem tp_stands (P : tp s0 W T n p c h) (hn : n ≤ 400) (hT : ∀ j, j < n → T j < 256) (hp : p ≤ n) {q k : Nat} (hq : q ≤ p) (hk : k < 18) : F9_stands 201 (11 + k) (nI q) h = some (if lx_w T (11 + k) q p then 1 else 0) := by
  obtain ⟨l0, l6⟩ := sls_ok k (List.mem_range.mpr hk)
  unfold F9_stands F9_stands_0
  rw [nz_io201 P.N, gz_s, m_slen_e hk, bz_s, P.nx, bz_s, nI_sub hq]
  by_cases e : p = q + (m_sls (11 + k)).length
  · rw [iz_t (by congr 1; omega)]
    have Q : k_ok (F9_stands_17 201 (11 + k) (nI q) 0 h) (fun v => v = if lx_w T (11 + k) q p then 1 else 0) := by
      unfold F9_stands_17
      refine wh_i (n := (m_sls (11 + k)).length) (fun (i : Nat) (z : Int32) => z = nI i ∧ ∀ j, j < i → nI (T (q + j)) = (m_sls (11 + k)).getD j 0) _ ?_ ?_ m_N 0 _ (N_lt (by omega)) (Nat.zero_le _) ⟨rfl, fun j hj => absurd hj (Nat.not_lt_zero j)⟩
      · rintro i _ hi ⟨rfl, ih⟩
        unfold F9_stands_17b
        refine k_e (m_slen_e hk) (k_f (nI_ge hi (by omega)) (k_e (m_sch_e hk hi) ?_))
        rw [nI_add]
        refine k_e (P.byte hn hT (by omega)) ?_
        rw [if_pos (by omega)]
        refine k_if (fun z => k_s ⟨(nI_succ i).symm, fun j hj => ?_⟩) (fun z => k_s ?_)
        · by_cases w : j = i
          · subst w; exact z.symm
          · exact ih j (by omega)
        · show (0 : Int32) = _
          rw [if_neg (fun w => z (w.2 i hi).symm)]
      · rintro _ ⟨rfl, ih⟩
        unfold F9_stands_17b
        refine k_e (m_slen_e hk) (k_t (Int32.le_refl _) (k_s ?_))
        show (1 : Int32) = _
        rw [if_pos ⟨e, ih⟩]
    obtain ⟨v, ev, rfl⟩ := Q
    exact ev
  · rw [iz_f (fun z => e (by have := nI_e (by omega) (by omega) z; omega)), if_neg (fun w => e w.1)]
theorem tp_wordFrom (P : tp s0 W T n p c h) (hn : n ≤ 400) (hT : ∀ j, j < n → T j < 256) (hp : p ≤ n) {q : Nat} (hq : q ≤ p) : F9_wordFrom 201 (nI q) h = some (lx_wd T q p) := by
  unfold F9_wordFrom F9_wordFrom_0 F9_wordFrom_2
  rw [nz_io201 P.N, gz_s]
  have key : ∀ j k N, j < N → k + j = 18 → m_wh (fun s => F9_wordFrom_2b 201 (nI q) h s) N (nI k) = some (lx_wn T q p j k) := by
    intro j
    induction j with
    | zero =>
      intro k N hN hk
      obtain ⟨N, rfl⟩ : ∃ M, N = M + 1 := ⟨N - 1, by omega⟩
      have e : F9_wordFrom_2b 201 (nI q) h (nI k) = some (.inr 2) := by
        unfold F9_wordFrom_2b
        rw [iz_t (show (18 : Int32) ≤ nI k from nI_le (a := 18) (by omega) (by omega))]
      unfold m_wh
      rw [e]
      rfl
    | succ j ih =>
      intro k N hN hk
      obtain ⟨N, rfl⟩ : ∃ M, N = M + 1 := ⟨N - 1, by omega⟩
      have k18 : k < 18 := by omega
      have e : F9_wordFrom_2b 201 (nI q) h (nI k) = if lx_w T (11 + k) q p then some (.inr (nI (256 + k))) else some (.inl (nI (k + 1))) := by
        unfold F9_wordFrom_2b
        rw [iz_f (show ¬ (18 : Int32) ≤ nI k from nI_ge (b := 18) k18 (by decide)), F9_wn k18, bz_s, tp_stands P hn hT hp hq k18, bz_s]
        by_cases w : lx_w T (11 + k) q p
        · rw [if_pos w, if_pos w, iz_f (by decide)]
          show some (Sum.inr (nI 256 + nI k)) = _
          rw [nI_add]
        · rw [if_neg w, if_neg w, iz_t rfl, nI_1]
      unfold m_wh lx_wn
      rw [e]
      by_cases w : lx_w T (11 + k) q p
      · rw [if_pos w, if_pos w]
      · rw [if_neg w, if_neg w]
        exact ih (k + 1) N (by omega) (by omega)
  exact key 18 0 m_N (N_lt (by decide)) rfl
end
