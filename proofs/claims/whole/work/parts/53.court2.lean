/-! ===== lines that hold, on both sides ===== -/
theorem vz_text_line {T : Nat → Int32} (V : vz_text T) : ∃ n, n ≤ 12 ∧ T 1 = nI n ∧ ∀ i, i < n → (0 ≤ T (2 + 4 * i) ∧ T (2 + 4 * i) ≤ 3) ∧ (0 ≤ T (3 + 4 * i) ∧ T (3 + 4 * i) ≤ 99999) ∧ ∃ s e, T (4 + 4 * i) = nI s ∧ T (5 + 4 * i) = nI e ∧ s ≤ e ∧ e ≤ 400 ∧ (i = 0 → s = 0) ∧ (∀ j, i = j + 1 → T (5 + 4 * j) = nI s) ∧ (s = e ∨ sp_tys T s (e - s) = some [true]) := by
  obtain ⟨-, n, hn, h1, e, e0, en, h⟩ := V
  have hmono : ∀ k i, i + k = n → e i ≤ e n := by
    intro k
    induction k with
    | zero => intro i hi; rw [show i = n by omega]; exact Nat.le_refl _
    | succ k ih =>
      intro i hi
      have h1 := ih (i + 1) (by omega)
      have h2 := (h i (by omega)).2.2.2.2.1
      omega
  refine ⟨n, hn, h1, fun i hi => ?_⟩
  obtain ⟨a, b, c, d, f, g⟩ := h i hi
  have hm := hmono (n - (i + 1)) (i + 1) (by omega)
  refine ⟨a, b, e i, e (i + 1), c, d, f, by omega, fun q => by rw [q]; exact e0, fun j hj => ?_, g⟩
  subst hj
  exact (h j (by omega)).2.2.2.1
theorem sp_run1 {F T : Nat → Int32} {s e : Nat} (h : sp_tys T s (e - s) = some [true]) : ∃ v, sp_run F T s (e - s) = [v] ∧ (v = 0 ∨ v = 1) := by
  have h1 := sp_run_ok (F := F) h
  match hq : sp_run F T s (e - s), h1 with
  | [v], h1 => exact ⟨v, rfl, h1.1 rfl⟩
/-- the ACT's object at a line -/
theorem hz_Act.line {h : m_H} {a : Nat} {T : Nat → Int32} (A : hz_Act h a T) : ∃ n m, T 1 = nI n ∧ n ≤ 12 ∧ m ≤ 400 ∧ (∀ i, i < n → (T (5 + 4 * i)).toNatClampNeg ≤ m) ∧
    (∀ i, i < n → F0_kindOf a (nI i) h = some (T (2 + 4 * i)) ∧ F0_numberOf a (nI i) h = some (T (3 + 4 * i)) ∧ F0_endOf a (nI i) h = some (T (5 + 4 * i))) ∧
    ∃ c, m_gr h a 0 5 = some c ∧ m_len h c = some (nI m) ∧ ∀ i, i < m → m_ai h 0 c (nI i) = some (tz_en (T (50 + 2 * i)) (T (51 + 2 * i))) := by
  have io := A.io
  obtain ⟨s, rfl, a1, a2, a3, a4, n, m, f1, f2, f3, f4, h1, h2, ⟨b1, b2⟩, ⟨b3, b4⟩, ⟨b5, b6⟩, ⟨b7, b8⟩, h3, h4, h5, h6, h7⟩ := A
  have hg : ∀ k v, [Value.int (T 0), .int (T 1), .ref a1, .ref a2, .ref a3, .ref a4][k]? = some (.ref v) → m_gr (tz_H s) a 0 k = some v := by
    intro k v hk
    unfold m_gr m_gf
    rw [tz_x h1, h2]
    dsimp only
    rw [if_pos rfl, hk]
  have hA : ∀ c q (f : Nat → Int32), 334 ≤ c → s.2.2.2.2.2.1[c - 334]? = some (.inl (0, q, .inl f)) → q < 1000 → m_len (tz_H s) c = some (nI q) ∧ ∀ i, i < q → m_ai (tz_H s) 0 c (nI i) = some (f i) := by
    intro c q f hc hx hq
    refine ⟨?_, fun i hi => ?_⟩
    · unfold m_len
      rw [tz_x hc, hx]
      exact if_pos (show 0 < 6 by decide)
    · unfold m_ai
      rw [tz_x hc, hx]
      show (if 0 = 0 ∧ m_in (nI i) q = true then _ else _) = _
      rw [if_pos ⟨rfl, nI_in1 hi (by omega)⟩, nI_clamp (by omega)]
  have q1 := hA a1 n f1 b1 b2 (by omega)
  have q2 := hA a2 n f2 b3 b4 (by omega)
  have q3 := hA a3 n f3 b5 b6 (by omega)
  have q4 := hA a4 m f4 b7 b8 (by omega)
  refine ⟨n, m, h3, h4, h5, fun i hi => (h6 i hi).2.2.2, fun i hi => ⟨?_, ?_, ?_⟩, a4, hg 5 a4 rfl, q4.1, fun i hi => ?_⟩
  · unfold F0_kindOf F0_kindOf_0
    rw [io, gz_s, iz_f (nI_pos (by omega)), hg 2 a1 rfl, bz_s, q1.1, bz_s, iz_f (nI_ge hi (by omega)), bz_s, q1.2 i hi, bz_s, (h6 i hi).1]
  · unfold F0_numberOf F0_numberOf_0
    rw [io, gz_s, iz_f (nI_pos (by omega)), hg 3 a2 rfl, bz_s, q2.1, bz_s, iz_f (nI_ge hi (by omega)), bz_s, q2.2 i hi, bz_s, (h6 i hi).2.1]
  · unfold F0_endOf F0_endOf_0
    rw [io, gz_s, iz_f (nI_pos (by omega)), hg 4 a3 rfl, bz_s, q3.1, bz_s, iz_f (nI_ge hi (by omega)), bz_s, q3.2 i hi, bz_s, (h6 i hi).2.2.1]
  · rw [q4.2 i hi, h7 i hi]
theorem tz_ul_a {s : tz_S} {a : Nat} {f : Nat → Int64} : (tz_ul s a f).2.2.1 a = f := if_pos rfl
theorem tz_ul_n {s : tz_S} {a b : Nat} {f : Nat → Int64} (h : ¬ b = a) : (tz_ul s a f).2.2.1 b = s.2.2.1 b := if_neg h
theorem max0 {n : Nat} (h : n < 2 ^ 31) : m_max 0 (nI n) = nI n := by
  unfold m_max
  rcases Nat.eq_zero_or_pos n with q | q
  · subst q; rfl
  · exact if_pos (nI_lt (a := 0) q h)
section
variable {s0 : tz_S} {th : Int32} {W : m_W} {h : m_H} {F : Nat → Int32}
theorem sp_hold_dec (F T : Nat → Int32) (i : Nat) : sp_hold F T i ∨ ¬ sp_hold F T i := Classical.em _
theorem cz_holds {a : Nat} {T : Nat → Int32} (K : cz_K s0 W F (some a) h) (A : tz_Act s0.2.2.2.2.2.1 a T) (V : vz_text T) {i n : Nat} (hT : T 1 = nI n) (hn : n ≤ 12) (hi : i < n) {k : Int32} : k_ok (F2_holds 211 (nI i) k h) (fun z => ∃ v h1, z = (v, h1) ∧ cz_K s0 W F (some a) h1 ∧ (T (2 + 4 * i) = k ∧ sp_hold F T i ∧ v = 1 ∨ ¬ (T (2 + 4 * i) = k ∧ sp_hold F T i) ∧ v = 0)) := by
  have A1 := K.act A
  obtain ⟨n', m, e1, hn', hm, hend, hl, c, hc1, hc2, hc3⟩ := A1.line
  obtain ⟨n2, hn2, e2, hL⟩ := vz_text_line V
  have en : n' = n := nI_e (by omega) (by omega) (e1.symm.trans hT)
  have en2 : n2 = n := nI_e (by omega) (by omega) (e2.symm.trans hT)
  subst en en2
  obtain ⟨hk1, hk2, s, e, hs, he, hse, he4, hs0, hsj, hty⟩ := hL i hi
  have hem : e ≤ m := by have := hend i hi; rw [he, nI_clamp (by omega)] at this; exact this
  unfold F2_holds F2_holds_0
  refine k_g K.io (k_e K.law ?_)
  show k_ok (m_b (m_go h 211 2 5) _) _
  refine k_e K.law (k_e rfl (k_e (hl i hi).1 ?_))
  refine k_if (fun ck => ?_) (fun ck => k_s ⟨0, h, rfl, K, Or.inr ⟨fun q => ck q.1, rfl⟩⟩)
  have key : k_ok (F2_holds_39 211 (nI i) (nI s) h) (fun z => ∃ v h1, z = (v, h1) ∧ cz_K s0 W F (some a) h1 ∧ (T (2 + 4 * i) = k ∧ sp_hold F T i ∧ v = 1 ∨ ¬ (T (2 + 4 * i) = k ∧ sp_hold F T i) ∧ v = 0)) := by
    unfold F2_holds_39
    refine k_e K.law (k_e rfl (k_e (hl i hi).2.2 (k_e K.law (k_e rfl (k_e hc1 (k_e hc2 ?_))))))
    rw [he, show m_min (nI e) (nI m) = nI e from (if_neg (nI_nlt hem (by omega)) : (if nI m < nI e then nI m else nI e) = nI e)]
    refine k_if (fun q => ?_) (fun q => ?_)
    · have hlt : s < e := (nI_ltI (by omega) (by omega)).mp q
      have hty := hty.resolve_left (by omega)
      refine k_b K.top0 ?_
      intro h2 S2
      rw [max0 (by omega)]
      unfold F2_holds_81
      refine wh_i (n := e - s) (fun (j : Nat) (st : Int32 × m_H) => st.1 = nI (s + j) ∧ cz_S s0 W F (some a) (sp_run F T s j) st.2) _ ?_ ?_ m_N 0 _ (N_lt (by omega)) (Nat.zero_le _) ⟨rfl, S2⟩
      · rintro j ⟨x, h3⟩ hj ⟨rfl, S3⟩
        dsimp only at S3
        unfold F2_holds_81b
        dsimp only
        obtain ⟨n3, m3, e3, hn3, hm3, hend3, -, c3, hc13, -, hc33⟩ := (S3.K.act A).line
        have en3 : n3 = n2 := nI_e (by omega) (by omega) (e3.symm.trans hT)
        subst en3
        have hem3 : e ≤ m3 := by have := hend3 i hi; rw [he, nI_clamp (by omega)] at this; exact this
        refine k_f (nI_ge (by omega) (by omega)) (k_e S3.K.law (k_e rfl (k_e hc13 (k_e (hc33 (s + j) (by omega)) ?_))))
        obtain ⟨tl', htl'⟩ := sp_tys_pre (m := j + 1) (by omega) hty
        have hpre := htl'
        unfold sp_tys at htl'
        split at htl'
        · next tl htl =>
          have hlen := sp_run_len (F := F) (T := T) (s := s) (n := j)
          refine k_b (cz_follow S3 (by omega) htl' (sp_run_ok htl)) ?_
          intro h4 S4
          refine k_s ⟨(nI_succ _).symm, ?_⟩
          exact S4
        · cases htl'
      · rintro ⟨x, h3⟩ ⟨rfl, S3⟩
        dsimp only at S3
        unfold F2_holds_81b
        dsimp only
        obtain ⟨v, hv, hv01⟩ := sp_run1 (F := F) hty
        rw [hv] at S3
        refine k_t (nI_le (by omega) (by omega)) ?_
        refine k_b (cz_pop S3 (by simp)) ?_
        rintro _ ⟨h4, rfl, S4⟩
        have hh : sp_hold F T i ↔ v = 1 := by
          unfold sp_hold
          rw [hs, he, nI_clamp (by omega), nI_clamp (by omega), hv]
          refine ⟨fun q2 => q2.elim (fun q3 => absurd q3 (nI_ge hlt (by omega))) (fun q3 => by cases q3; rfl), fun q2 => Or.inr (by rw [q2])⟩
        rcases hv01 with rfl | rfl
        · exact k_t (show lg_cmp (0 : Int64) 0 = 0 by decide) (k_s ⟨0, h4, rfl, S4.K, Or.inr ⟨fun q2 => absurd (hh.mp q2.2) (by decide), rfl⟩⟩)
        · exact k_f (show ¬ lg_cmp (1 : Int64) 0 = 0 by decide) (k_s ⟨1, h4, rfl, S4.K, Or.inl ⟨ck, hh.mpr rfl, rfl⟩⟩)
    · have hge : ¬ s < e := fun q2 => q (nI_lt q2 (by omega))
      refine k_s ⟨1, h, rfl, K, Or.inl ⟨ck, Or.inl ?_, rfl⟩⟩
      rw [hs, he]
      exact nI_le (by omega) (by omega)
  refine k_if (fun q => ?_) (fun q => ?_)
  · have hi0 : i = 0 := by
      rcases Nat.eq_zero_or_pos i with q2 | q2
      · exact q2
      · exact absurd q (nI_ne0 q2 (by omega))
    rw [hs0 hi0] at key
    exact key
  · have hi0 : ∃ j, i = j + 1 := by
      cases i with
      | zero => exact absurd rfl q
      | succ j => exact ⟨j, rfl⟩
    obtain ⟨j, hj⟩ := hi0
    refine k_e K.law (k_e rfl ?_)
    have hx : nI i - 1 = nI j := by rw [hj]; exact nI_pred j
    rw [hx]
    refine k_e (hl j (by omega)).2.2 ?_
    rw [hsj j hj]
    exact key
/-! the reference -/
def rz_S (s0 : tz_S) (th : Int32) (W : m_W) (F : Nat → Int32) (l : List Int64) (h : m_H) : Prop := ∃ s, h = tz_H s ∧ tz_WR s 318 W ∧ s.1 317 0 = th ∧ tz_fq s0 s ∧ (∀ i, i < 10 → s.2.2.1 323 i = (F i).toInt64) ∧ st_ok (s.2.2.1 324) l
def rz_K (s0 : tz_S) (th : Int32) (W : m_W) (F : Nat → Int32) (h : m_H) : Prop := ∃ s, h = tz_H s ∧ tz_WR s 318 W ∧ s.1 317 0 = th ∧ tz_fq s0 s ∧ ∀ i, i < 10 → s.2.2.1 323 i = (F i).toInt64
theorem rz_S.K {l : List Int64} (S : rz_S s0 th W F l h) : rz_K s0 th W F h := by
  obtain ⟨s, a, b, c, d, e, -⟩ := S
  exact ⟨s, a, b, c, d, e⟩
theorem rz_K.S (K : rz_K s0 th W F h) : rz_S s0 th W F [] h := by
  obtain ⟨s, a, b, c, d, e⟩ := K
  exact ⟨s, a, b, c, d, e, trivial⟩
theorem rz_K.N (K : rz_K s0 th W F h) : rz_N s0 th W h := by
  obtain ⟨s, a, b, c, d, e⟩ := K
  exact ⟨s, a, b, c, d⟩
theorem rz_get324 {l : List Int64} {x : Int64} {n : Nat} (S : rz_S s0 th W F (x :: l) h) (hl : l.length < 400) (hn : n = l.length) : m_al h 324 (nI n) = some x := by
  subst hn
  obtain ⟨s, rfl, b, c, d, e, st⟩ := S
  rw [tz_al sh_324 (nI_in1 hl (by decide)), nI_clamp (by omega), st.1]
theorem rz_get3242 {l : List Int64} {x y : Int64} (S : rz_S s0 th W F (y :: x :: l) h) (hl : l.length < 400) : m_al h 324 (nI l.length) = some x := by
  obtain ⟨s, rfl, b, c, d, e, st⟩ := S
  rw [tz_al sh_324 (nI_in1 hl (by decide)), nI_clamp (by omega), st.2.1]
theorem rz_set324 {l : List Int64} {l' : List Int64} {x : Int64} (S : rz_S s0 th W F l h) (hl : l'.length < 400) (hs : ∀ g : Nat → Int64, st_ok g l → st_ok g l') : k_ok (m_sl h 324 (nI l'.length) x) (rz_S s0 th W F (x :: l')) := by
  obtain ⟨s, rfl, b, c, d, e, st⟩ := S
  refine ⟨_, tz_sl sh_324 (nI_in1 hl (by decide)), _, rfl, b, c, d.trans (tz_fq.ul (by decide)), ?_, ?_⟩
  · intro i hi
    rw [tz_ul_n (show ¬ 323 = 324 by decide)]
    exact e i hi
  · rw [tz_ul_a, nI_clamp (by omega)]
    exact (hs _ st).push
theorem rz_fact (K : rz_K s0 th W F h) {f : Nat} (hf : f < 10) : m_al h 323 (nI f) = some (F f).toInt64 := by
  obtain ⟨s, rfl, b, c, d, e⟩ := K
  rw [tz_al sh_323 (nI_in1 hf (by decide)), nI_clamp (by omega), e f hf]
theorem rz_lnA {t i : Nat} : F12_lineAt (nI t) (nI i) h = some (nI (28327 + 850 * t + (2 + 4 * i))) := by
  unfold F12_lineAt F12_lineAt_0
  rw [rz_tA, bz_s]
  show some (nI _ + nI 2 + nI 4 * nI i) = _
  rw [nI_mul, nI_add, nI_add, Nat.add_assoc]
theorem rz_ln (R : rz_N s0 th W h) {t i c : Nat} {x : Int32} (ht : t < 10) (hi : i < 12) (hx : x = nI c) (hc : c < 4) : m_ai h 0 318 (nI (28327 + 850 * t + (2 + 4 * i)) + x) = some (W 17 t (2 + c + 4 * i)) := by
  subst hx
  refine rz_get R ?_ ⟨by decide, ht, show 2 + c + 4 * i < 850 by omega⟩
  rw [nI_add]
  show nI _ = nI (28327 + (850 * t + (2 + c + 4 * i)))
  congr 1
  omega
theorem rz_ln0 (R : rz_N s0 th W h) {t i : Nat} (ht : t < 10) (hi : i < 12) : m_ai h 0 318 (nI (28327 + 850 * t + (2 + 4 * i))) = some (W 17 t (2 + 4 * i)) := by
  refine rz_get R ?_ ⟨by decide, ht, show 2 + 4 * i < 850 by omega⟩
  rw [Nat.add_assoc]
  rfl
theorem rz_ln1 (R : rz_N s0 th W h) {t i : Nat} (ht : t < 10) (hi : i < 12) : m_ai h 0 318 (nI (28327 + 850 * t + (2 + 4 * i)) + 1) = some (W 17 t (3 + 4 * i)) := rz_ln R ht hi rfl (by decide)
theorem rz_ln2 (R : rz_N s0 th W h) {t i : Nat} (ht : t < 10) (hi : i < 12) : m_ai h 0 318 (nI (28327 + 850 * t + (2 + 4 * i)) + 2) = some (W 17 t (4 + 4 * i)) := rz_ln R ht hi rfl (by decide)
theorem rz_ln3 (R : rz_N s0 th W h) {t i : Nat} (ht : t < 10) (hi : i < 12) : m_ai h 0 318 (nI (28327 + 850 * t + (2 + 4 * i)) + 3) = some (W 17 t (5 + 4 * i)) := rz_ln R ht hi rfl (by decide)
theorem rz_sp (R : rz_N s0 th W h) {t i : Nat} (ht : t < 10) (hi : i < 400) : m_ai h 0 318 (nI (28327 + 850 * t) + 50 + 2 * nI i) = some (W 17 t (50 + 2 * i)) ∧ m_ai h 0 318 (nI (28327 + 850 * t) + 50 + 2 * nI i + 1) = some (W 17 t (51 + 2 * i)) := by
  have e : nI (28327 + 850 * t) + 50 + 2 * nI i = nI (wz_ix 17 t (50 + 2 * i)) := by
    show nI _ + nI 50 + nI 2 * nI i = nI (28327 + (850 * t + (50 + 2 * i)))
    rw [nI_mul, nI_add, nI_add]
    congr 1
    omega
  refine ⟨rz_get R e ⟨by decide, ht, show 50 + 2 * i < 850 by omega⟩, ?_⟩
  refine rz_get R ?_ ⟨by decide, ht, show 51 + 2 * i < 850 by omega⟩
  rw [e, ← nI_succ]
  congr 1
  show 28327 + (850 * t + (50 + 2 * i)) + 1 = 28327 + (850 * t + (51 + 2 * i))
  omega
theorem rz_holds (K : rz_K s0 th W F h) {t : Nat} (ht : t < 10) (V : vz_text (W 17 t)) {i n : Nat} (hT : W 17 t 1 = nI n) (hn : n ≤ 12) (hi : i < n) : k_ok (F12_holds 317 (nI t) (nI i) h) (fun z => ∃ v h1, z = (v, h1) ∧ rz_K s0 th W F h1 ∧ (sp_hold F (W 17 t) i ∧ v = 1 ∨ ¬ sp_hold F (W 17 t) i ∧ v = 0)) := by
  obtain ⟨n2, hn2, e2, hL⟩ := vz_text_line V
  have en2 : n2 = n := nI_e (by omega) (by omega) (e2.symm.trans hT)
  subst en2
  obtain ⟨hk1, hk2, s, e, hs, he, hse, he4, hs0, hsj, hty⟩ := hL i hi
  unfold F12_holds F12_holds_0
  refine k_g (rz_io K.N) (k_e rz_lnA (k_e (rz_gr1 K.N) (k_e (rz_ln2 K.N ht (by omega)) ?_)))
  rw [hs]
  unfold F12_holds_19
  refine wh_i (n := e - s) (fun (j : Nat) (st : Int32 × Int32 × m_H) => st.1 = nI (sp_run F (W 17 t) s j).length ∧ st.2.1 = nI (s + j) ∧ rz_S s0 th W F (sp_run F (W 17 t) s j) st.2.2) _ ?_ ?_ m_N 0 _ (N_lt (by omega)) (Nat.zero_le _) ⟨rfl, rfl, K.S⟩
  · rintro j ⟨x, y, h3⟩ hj ⟨rfl, rfl, S3⟩
    dsimp only at S3
    have N3 := S3.K.N
    have hty := hty.resolve_left (by omega)
    unfold F12_holds_19b
    dsimp only
    refine k_e (rz_gr1 N3) (k_e (rz_ln3 N3 ht (by omega)) ?_)
    rw [he]
    refine k_f (nI_ge (by omega) (by omega)) (k_e (rz_gr1 N3) (k_e rz_tA (k_e (rz_sp N3 ht (by omega)).1 ?_)))
    obtain ⟨tl', htl'⟩ := sp_tys_pre (m := j + 1) (by omega) hty
    unfold sp_tys at htl'
    split at htl'
    case h_2 => cases htl'
    next tl htl =>
    have hlen := sp_run_len (F := F) (T := W 17 t) (s := s) (n := j)
    have hgo : sp_run F (W 17 t) s (j + 1) = sp_stp F (W 17 t (50 + 2 * (s + j))) (W 17 t (51 + 2 * (s + j))) (sp_run F (W 17 t) s j) := rfl
    have hsj' : nI (s + j) + 1 = nI (s + (j + 1)) := (nI_succ (s + j)).symm
    rw [hgo, hsj']
    have hsp := rz_sp N3 ht (i := s + j) (by omega)
    revert S3 hlen htl' hsp
    generalize W 17 t (50 + 2 * (s + j)) = a1
    generalize W 17 t (51 + 2 * (s + j)) = a2
    have hok := sp_run_ok (F := F) htl
    revert hok
    generalize sp_run F (W 17 t) s j = l
    intro hok S3 htl' hlen hsp
    rcases (ty_cases (F := F) htl' hok).2 with ⟨rfl, hn', e'⟩ | ⟨f, hf, rfl, e'⟩ | ⟨rfl, b, r, rfl, hb, e'⟩ | ⟨b, a, r, rfl, q⟩
    · rw [e']
      refine k_f (by decide) (k_e (rz_gr16 N3) (k_t rfl (k_e (rz_gr1 N3) (k_e rz_tA (k_e hsp.2 ?_)))))
      refine k_b (rz_set324 S3 (by omega) (fun g q => q)) ?_
      intro h4 S4
      exact k_s ⟨(nI_succ _).symm, rfl, S4⟩
    · rw [e']
      refine k_f (nI_nlt (a := 100) (b := f) (by omega) (by decide)) (k_e (rz_gr16 N3) (k_f (fun q => by have := nI_e (m := 100) (by omega) (by decide) q; omega) (k_e (rz_gr15 N3) (k_e (rz_fact S3.K hf) ?_))))
      refine k_b (rz_set324 S3 (by omega) (fun g q => q)) ?_
      intro h4 S4
      exact k_s ⟨(nI_succ _).symm, rfl, S4⟩
    · rw [e']
      have hr : r.length < 400 := by simp at hlen; omega
      have hm1 : nI (b :: r).length - 1 = nI r.length := nI_pred r.length
      refine k_t (by decide) (k_t rfl (k_e (rz_gr16 N3) (k_e (rz_gr16 N3) ?_)))
      rw [hm1]
      refine k_e (rz_get324 S3 hr rfl) (k_b (rz_set324 S3 hr (fun g q => q.2)) ?_)
      intro h4 S4
      exact k_s ⟨rfl, rfl, S4⟩
    · have hr : r.length + 2 ≤ 400 := by simp at hlen; omega
      have hm1 : nI (b :: a :: r).length + -1 = nI (r.length + 1) := by
        show nI (r.length + 1 + 1) + -1 = _
        rw [← Int32.sub_eq_add_neg, nI_pred]
      have hm2 : nI (r.length + 1) - 1 = nI r.length := nI_pred _
      have fin : ∀ v, k_ok (m_b (m_sl h3 324 (nI r.length) v) fun h4 => some (Sum.inl (nI (r.length + 1), nI (s + (j + 1)), h4))) (m_KK (fun st : Int32 × Int32 × m_H => st.1 = nI (v :: r).length ∧ st.2.1 = nI (s + (j + 1)) ∧ rz_S s0 th W F (v :: r) st.2.2) (fun z : Int32 × m_H => ∃ v h1, z = (v, h1) ∧ rz_K s0 th W F h1 ∧ (sp_hold F (W 17 t) i ∧ v = 1 ∨ ¬ sp_hold F (W 17 t) i ∧ v = 0))) := by
        intro v
        refine k_b (rz_set324 S3 (by omega) (fun g q => q.2.2)) ?_
        intro h4 S4
        exact k_s ⟨rfl, rfl, S4⟩
      have g1 : m_al h3 324 (nI (r.length + 1)) = some b := rz_get324 S3 (show (a :: r).length < 400 by simp; omega) (List.length_cons (as := r)).symm
      have g2 : m_al h3 324 (nI r.length) = some a := rz_get3242 S3 (by omega)
      rw [hm1, hm2]
      have pre : ∀ (a1 : Int32) (v : Int64), 100 < a1 → ¬ a1 = 104 → sp_stp F a1 a2 (b :: a :: r) = v :: r → (a1 = 101 ∧ v = a + b ∨ a1 = 102 ∧ v = (if a < b then 1 else 0) ∨ a1 = 103 ∧ v = (if b < a then 1 else 0) ∨ a1 = 105 ∧ v = a * b ∨ a1 = 106 ∧ v = m_maxl a b) → True := fun _ _ _ _ _ _ => trivial
      rcases q with ⟨rfl, e'⟩ | ⟨rfl, e'⟩ | ⟨rfl, e'⟩ | ⟨rfl, -, -, e'⟩ | ⟨rfl, -, -, e'⟩
      · rw [e']
        exact k_t (by decide) (k_f (by decide) (k_e (rz_gr16 N3) (k_e g2 (k_e (rz_gr16 N3) (k_e g1 (k_e (rz_gr16 N3) (k_t rfl (fin _))))))))
      · rw [e']
        refine k_t (by decide) (k_f (by decide) (k_e (rz_gr16 N3) (k_e g2 (k_e (rz_gr16 N3) (k_e g1 (k_e (rz_gr16 N3) (k_f (by decide) (k_t rfl ?_))))))))
        refine k_if (fun q => ?_) (fun q => ?_)
        · rw [if_neg (lgl.mp q)]; exact fin _
        · rw [if_pos (Classical.not_not.mp (fun x => q (lgl.mpr x)))]; exact fin _
      · rw [e']
        refine k_t (by decide) (k_f (by decide) (k_e (rz_gr16 N3) (k_e g2 (k_e (rz_gr16 N3) (k_e g1 (k_e (rz_gr16 N3) (k_f (by decide) (k_f (by decide) (k_t rfl ?_)))))))))
        refine k_if (fun q => ?_) (fun q => ?_)
        · rw [if_neg (lgg.mp q)]; exact fin _
        · rw [if_pos (Classical.not_not.mp (fun x => q (lgg.mpr x)))]; exact fin _
      · rw [e']
        exact k_t (by decide) (k_f (by decide) (k_e (rz_gr16 N3) (k_e g2 (k_e (rz_gr16 N3) (k_e g1 (k_e (rz_gr16 N3) (k_f (by decide) (k_f (by decide) (k_f (by decide) (k_t rfl (fin _)))))))))))
      · rw [e']
        exact k_t (by decide) (k_f (by decide) (k_e (rz_gr16 N3) (k_e g2 (k_e (rz_gr16 N3) (k_e g1 (k_e (rz_gr16 N3) (k_f (by decide) (k_f (by decide) (k_f (by decide) (k_f (by decide) (fin _)))))))))))
  · rintro ⟨x, y, h3⟩ ⟨rfl, rfl, S3⟩
    dsimp only at S3
    have N3 := S3.K.N
    unfold F12_holds_19b
    dsimp only
    refine k_e (rz_gr1 N3) (k_e (rz_ln3 N3 ht (by omega)) ?_)
    rw [he]
    refine k_t (nI_le (by omega) (by omega)) ?_
    rcases hty with hty | hty
    · subst hty
      rw [Nat.sub_self]
      exact k_t rfl (k_s ⟨1, h3, rfl, S3.K, Or.inl ⟨Or.inl (by rw [hs, he]; exact nI_le (Nat.le_refl _) (by omega)), rfl⟩⟩)
    · obtain ⟨v, hv, hv01⟩ := sp_run1 (F := F) hty
      have hlt : s < e := by
        rcases Nat.lt_or_ge s e with q | q
        · exact q
        · rw [show e - s = 0 by omega] at hv; cases hv
      rw [hv] at S3 ⊢
      have hh : sp_hold F (W 17 t) i ↔ v = 1 := by
        unfold sp_hold
        rw [hs, he, nI_clamp (by omega), nI_clamp (by omega), hv]
        refine ⟨fun q2 => q2.elim (fun q3 => absurd q3 (nI_ge hlt (by omega))) (fun q3 => by cases q3; rfl), fun q2 => Or.inr (by rw [q2])⟩
      refine k_f (show ¬ nI 1 = 0 by decide) (k_e (rz_gr16 N3) (k_e (rz_get324 (l := []) (n := 0) S3 (by decide) rfl) ?_))
      rcases hv01 with rfl | rfl
      · exact k_f (show ¬ lg_cmp (0 : Int64) 1 = 0 by decide) (k_s ⟨0, h3, rfl, S3.K, Or.inr ⟨fun q2 => absurd (hh.mp q2) (by decide), rfl⟩⟩)
      · exact k_t (show lg_cmp (1 : Int64) 1 = 0 by decide) (k_s ⟨1, h3, rfl, S3.K, Or.inl ⟨hh.mpr rfl, rfl⟩⟩)
end
