/-! ===== allot: the reference's loops ===== -/
section
variable {s0 s1 : tz_S} {th : Int32} {W W1 : m_W} {h : m_H}
theorem rz_W.rm {x : Int32} {P : Nat → Bool} {M : Nat → Int32} {r : Nat} (A : rz_W s1 W1 x P M) : rz_W (tz_ui s1 326 (upd (s1.2.1 326) r 1)) W1 x (sp_rm P r) M := by
  refine ⟨fun i hi => ?_, fun i => ?_⟩
  · rw [tz_ui_n (by decide)]
    exact A.1 i hi
  · rw [tz_ui_a]
    unfold sp_rm
    by_cases q : i = r
    · subst q
      rw [pk_us, if_pos rfl]
      exact ⟨fun y => (by cases y), fun y => absurd y.2.1 (by decide)⟩
    · rw [pk_un q, if_neg q]
      exact A.2 i
theorem rz_W.lend {x : Int32} {P : Nat → Bool} {M : Nat → Int32} {r : Nat} {c owe : Int32} (A : rz_W s1 W1 x (sp_rm P r) M) (hr : ¬ s1.2.1 326 r = 0) : rz_W s1 (sp_lend W1 r c owe) x (sp_rm P r) M := by
  refine ⟨fun i hi => A.1 i (by rw [sp_lend_wn (by decide)] at hi; exact hi), fun i => ?_⟩
  rw [A.2 i, sp_lend_wn (by decide), sp_lend_3, sp_lend_3, sp_lend_3, if_neg (show ¬ (i = r ∧ 2 = 4) from fun y => absurd y.2 (by decide)), if_neg (show ¬ (i = r ∧ 1 = 4) from fun y => absurd y.2 (by decide))]
  by_cases q : i = r
  · subst q
    exact ⟨fun y => absurd y.2.1 hr, fun y => absurd y.2.1 hr⟩
  · rw [if_neg (fun y => q y.1)]
theorem rz_W.base {s2 : tz_S} {x : Int32} {P : Nat → Bool} {M : Nat → Int32} (A : rz_W s1 W1 x P M) (B : tz_fe s1 s2) : rz_W s2 W1 x P M := by
  refine ⟨fun i hi => ?_, fun i => ?_⟩
  · rw [B.2.1 325 (by decide)]; exact A.1 i hi
  · rw [B.2.1 326 (by decide)]; exact A.2 i
def rz_aD (s0 : tz_S) (W : m_W) (m : Int32) (W1 : m_W) (s1 : tz_S) : Prop := (m = 0 ∧ W1 = W ∧ tz_fcq s0 s1) ∨ (¬ m = 0 ∧ tz_fp s0 s1 ∧ tz_WR s1 320 W ∧ s1.1 317 5 = 1)
theorem rz_aD.ui {m : Int32} {a : Nat} {f : Nat → Int32} (D : rz_aD s0 W m W1 s1) (ha : a = 325 ∨ a = 326) : rz_aD s0 W m W1 (tz_ui s1 a f) := by
  rcases D with ⟨x, b, c⟩ | ⟨x, b, c, d⟩
  · exact Or.inl ⟨x, b, c.ui ha⟩
  · refine Or.inr ⟨x, ⟨b.1, fun y q => (tz_ui_n (s := s1) (by omega)).trans (b.2.1 y q), b.2.2.1, b.2.2.2⟩, ?_, d⟩
    intro k r c' hv
    rw [tz_ui_n (by omega)]
    exact c k r c' hv
theorem tz_fe.fp {s0 s1 s2 : tz_S} (a : tz_fcq s0 s1) (b : tz_fe s1 s2) : tz_fp s0 s2 := by
  obtain ⟨b1, b2, b3, b4⟩ := b
  obtain ⟨a1, a2, a3⟩ := a
  refine ⟨fun x k q => (b1 x k q).trans (by rw [a1]), fun x q => (b2 x (by omega)).trans (a2 x (by omega)), fun x q => (b3 x q).trans (by rw [a3]), b4.trans (by rw [a3])⟩
def rz_aI (s0 : tz_S) (W : m_W) (x : Int32) (i : Nat) (z : Int32 × Int32 × m_H) : Prop := ∃ P W1 s1, z.2.1 = nx_I (sp_nx W1 (sp_cM W) P 60) ∧ sp_al x (sp_cM W) (60 - i) z.1 P W1 = sp_alA W x ∧ vz W1 ∧ sp_ok W1 x P ∧ sp_cnt P 60 ≤ 60 - i ∧ 0 ≤ z.1.toInt ∧ z.1.toInt + (sp_stock W1 x).toInt ≤ 100000 ∧ rz_aD s0 W z.1 W1 s1 ∧ rz_W s1 W1 x P (sp_cM W) ∧ rz_N s1 0 W1 z.2.2
def rz_aQ (s0 : tz_S) (W : m_W) (x : Int32) (z : Int32 × m_H) : Prop := hz_D s0 e03 W (if (sp_alA W x).1 = 0 then .inl (0, none) else .inl ((sp_alA W x).1, some (sp_alA W x).2)) z
theorem rz_aQ.of {x m : Int32} (e : (m, W1) = sp_alA W x) (D : rz_aD s0 W m W1 s1) (R : rz_N s1 0 W1 h) : rz_aQ s0 W x (m, h) := by
  unfold rz_aQ
  rw [← e]
  dsimp only
  rcases D with ⟨a, b, c⟩ | ⟨a, b, c, d⟩
  · subst b
    rw [if_pos a]
    exact ⟨a, s1, c, R⟩
  · rw [if_neg a]
    exact ⟨rfl, s1, b, c, d, R⟩
theorem rz_aLoop (V : vz W) {x : Int32} (hx : ∃ t, t ≤ 7 ∧ x = nI t) {i : Nat} {z : Int32 × Int32 × m_H} (hi : i < 60) (I : rz_aI s0 W x i z) : k_ok (F12_allot_93b 317 x z) (m_KK (rz_aI s0 W x (i + 1)) (rz_aQ s0 W x)) := by
  obtain ⟨m, nx, h⟩ := z
  obtain ⟨P, W1, s1, q1, E, V1, O, cn, m0, mb, D, A, R⟩ := I
  dsimp only at q1 E m0 mb D R
  subst q1
  have hn3 : wz_n W1 3 ≤ 60 := V1.c (k := 3) (by omega)
  have hn2 : wz_n W1 2 ≤ 100 := V1.c (k := 2) (by omega)
  have hc2 := (V1.cap (k := 2) (by omega)).1
  rw [show 60 - i = (59 - i) + 1 by omega, sp_al] at E
  unfold F12_allot_93b
  dsimp only
  cases hb : sp_nx W1 (sp_cM W) P 60 with
  | none =>
    rw [hb] at E
    dsimp only at E
    rw [ite_self] at E
    exact k_t (show (-1 : Int32) < 0 by decide) (k_s (rz_aQ.of E D R))
  | some r =>
    rw [hb] at E
    dsimp only at E
    obtain ⟨hr60, pr⟩ := sp_nx_P 60 hb
    obtain ⟨o1, o2, o3⟩ := O r pr
    refine k_f (show ¬ nI r < 0 from nI_pos (by omega)) (k_e (rz_gr1 R) (k_e (rz_c2 R) ?_))
    rw [show W1 22 0 0 = nI (wz_n W1 2) from hc2]
    refine k_if (fun q => ?_) (fun q => ?_)
    · have hn : ¬ wz_n W1 2 < 100 := fun y => nI_ge y (by decide) q
      rw [if_pos (Or.inr hn)] at E
      exact k_s (rz_aQ.of E D R)
    have hn : wz_n W1 2 < 100 := by
      have : ¬ 100 ≤ wz_n W1 2 := fun y => q (nI_le y (by omega))
      omega
    refine k_e (rz_stock R hc2 hn2) (k_if (fun q2 => ?_) (fun q2 => ?_))
    · rw [if_pos (Or.inl q2)] at E
      exact k_s (rz_aQ.of E D R)
    rw [if_neg (fun y => y.elim q2 (fun y => y hn))] at E
    refine k_e (rz_gr18 R) (k_b (rz_as R (Or.inr rfl) sh_326 ⟨rfl, rfl⟩ hr60 (by decide)) ?_)
    intro h1 R1
    rw [nr3_1] at R1
    have D2 := D.ui (f := upd (s1.2.1 326) r 1) (Or.inr rfl)
    have A2 := A.rm (r := r)
    have sv : ¬ (tz_ui s1 326 (upd (s1.2.1 326) r 1)).2.1 326 r = 0 := by
      rw [tz_ui_a, pk_us]
      decide
    generalize tz_ui s1 326 (upd (s1.2.1 326) r 1) = s2 at R1 D2 A2 sv
    have cn2 : sp_cnt (sp_rm P r) 60 ≤ 60 - (i + 1) := by
      have := sp_cnt_rm pr 60 hr60
      omega
    obtain ⟨l, t, el, hl1, hl, et, ht⟩ := V1.ask o1
    refine k_e (rz_stock R1 hc2 hn2) (k_e (rz_lacks R1 rfl hr60) ?_)
    have hF : sp_fx W1 l t (sp_min W1 x r) 0 = sp_lF W1 r (sp_min W1 x r) := by
      unfold sp_lF
      rw [el, et, nI_clamp (n := l) (by omega), nI_clamp (n := t) (by omega)]
    refine k_b (rz_looksAt R1 V1 (c := sp_min W1 x r) rfl hr60 el hl et ht) ?_
    intro h2 K
    rw [hF] at K
    refine k_b (rz_first K V1.vt) ?_
    rintro _ ⟨h3, rfl, K3⟩
    have wn := sp_why_n (F := sp_lF W1 r (sp_min W1 x r)) (k := 0) V1.vt (rz_text K.N V1.vt).2
    obtain ⟨tx, htx, rfl⟩ := hx
    refine k_if (fun qw => ?_) (fun qw => ?_)
    · rw [if_pos (wn.mp qw)] at E
      unfold F12_allot_264
      refine k_e (rz_nextFor K3.N V1 A2) (k_s ⟨sp_rm P r, W1, s2, rfl, ?_, V1, fun j pj => O j (sp_rm_t pj).1, cn2, m0, mb, D2, A2, K3.N⟩)
      rw [show 60 - (i + 1) = 59 - i by omega]
      exact E
    · rw [if_neg (fun y => qw (wn.mpr y))] at E
      obtain ⟨a1, a2, a3, a4, a5⟩ := sp_step (owe := sp_owe W1 (sp_lF W1 r (sp_min W1 (nI tx) r))) V1 O pr q2 hn
      obtain ⟨b1, b2, b3⟩ := sp_stock_i V1 (t := nI tx)
      have em : (m + sp_min W1 (nI tx) r).toInt = m.toInt + (sp_min W1 (nI tx) r).toInt := i_add (by omega) (by omega)
      have fin : ∀ {s3 : tz_S} {h4 : m_H}, (tz_fp s0 s3 ∧ tz_WR s3 320 W ∧ s3.1 317 5 = 1) → rz_W s3 W1 (nI tx) (sp_rm P r) (sp_cM W) → ¬ s3.2.1 326 r = 0 → rz_K s3 0 W1 (sp_lF W1 r (sp_min W1 (nI tx) r)) h4 → k_ok (F12_allot_163 317 (nI tx) m (nI r) (sp_min W1 (nI tx) r) h4) (m_KK (rz_aI s0 W (nI tx) (i + 1)) (rz_aQ s0 W (nI tx))) := by
        intro s3 h4 D3 A3 sv3 K4
        refine rz_lend K4 V1 o1 o3 hn (fun h5 K5 => ?_)
        unfold F12_allot_264
        have A5 := A3.lend (c := sp_min W1 (nI tx) r) (owe := sp_owe W1 (sp_lF W1 r (sp_min W1 (nI tx) r))) sv3
        refine k_e (rz_nextFor K5.N a3 A5) (k_s ⟨sp_rm P r, _, s3, rfl, ?_, a3, a5, cn2, ?_, ?_, Or.inr ⟨?_, D3⟩, A5, K5.N⟩)
        · rw [show 60 - (i + 1) = 59 - i by omega]
          exact E
        · show 0 ≤ (m + sp_min W1 (nI tx) r).toInt
          omega
        · show (m + sp_min W1 (nI tx) r).toInt + _ ≤ 100000
          omega
        · intro y
          have y : (m + sp_min W1 (nI tx) r) = 0 := y
          rw [y] at em
          have : (0 : Int32).toInt = 0 := rfl
          omega
      refine k_if (fun qm => ?_) (fun qm => ?_)
      · refine k_b (rz_deedK K3) ?_
        rintro h4 ⟨s3, B, K4⟩
        have D3 : tz_fp s0 s3 ∧ tz_WR s3 320 W ∧ s3.1 317 5 = 1 := by
          rcases D2 with ⟨a, b, c⟩ | ⟨a, -⟩
          · subst b
            exact ⟨tz_fe.fp c B.1, B.2.1, B.2.2⟩
          · exact absurd qm a
        exact fin D3 (A2.base B.1) (by rw [B.1.2.1 326 (by decide)]; exact sv) K4
      · have D3 : tz_fp s0 s2 ∧ tz_WR s2 320 W ∧ s2.1 317 5 = 1 := by
          rcases D2 with ⟨a, -⟩ | ⟨a, b⟩
          · exact absurd a qm
          · exact b
        exact fin D3 A2 sv K3
theorem rz_allot93 (V : vz W) {x : Int32} (hx : ∃ t, t ≤ 7 ∧ x = nI t) {z : Int32 × Int32 × m_H} (I : rz_aI s0 W x 0 z) : k_ok (m_wh (fun s => F12_allot_93b 317 x s) m_N z) (rz_aQ s0 W x) := by
  refine wh_i (n := 60) (rz_aI s0 W x) (rz_aQ s0 W x) (fun i z hi I => rz_aLoop V hx hi I) ?_ m_N 0 _ (N_lt (by decide)) (Nat.zero_le _) I
  rintro ⟨m, nx, h2⟩ ⟨P, W1, s2, q1, E, V1, O, cn, m0, mb, D, A2, R2⟩
  dsimp only at q1 E D R2
  subst q1
  unfold F12_allot_93b
  dsimp only
  have hb : sp_nx W1 (sp_cM W) P 60 = none := by
    cases hb : sp_nx W1 (sp_cM W) P 60 with
    | none => rfl
    | some r =>
      obtain ⟨hr60, pr⟩ := sp_nx_P 60 hb
      exact absurd pr (sp_cnt_0 60 (by omega) hr60)
  rw [hb]
  exact k_t (show (-1 : Int32) < 0 by decide) (k_s (rz_aQ.of E D R2))
end
