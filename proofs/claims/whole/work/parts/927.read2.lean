/-! ===== a text: the class reads conditions ===== -/
def gR (s0 : tz_S) (W : m_W) (T : Nat → Nat) (n m : Nat) (Y : gY) (r : gG) (h : m_H) : Prop := match r with
  | .inl z => ∃ i, i ≤ m ∧ lx_q T n i = z.1 ∧ pr s0 W T n m Y i z.2 h
  | .inr e => e ≤ n ∧ pb s0 W T n m (nI e) h
theorem en_f : ∀ k ∈ List.range 10, (-10 : Int32) - (nI (264 + k) - 256 - 8) = tz_en (nI (264 + k) - 264) 0 := by decide +kernel
theorem en_n {v : Int32} : v = tz_en 100 v := (if_pos rfl).symm
/-- what is known of a text -/
def gK (T : Nat → Nat) (n m : Nat) : Prop := lx_c T n m ∧ n ≤ 400 ∧ ∀ j, j < n → T j < 256
theorem gB_l {q : Nat} {c : gC} {f : Nat → gC → gG} : gB (.inl (q, c)) f = f q c := rfl
theorem gB_r {e : Nat} {f : Nat → gC → gG} : gB (.inr e) f = .inr e := rfl
section
variable {s0 : tz_S} {W : m_W} {T : Nat → Nat} {n m : Nat} {Y : gY} {i : Nat} {c : gC} {w : Int32} {h : m_H}
theorem gK.mm (K : gK T n m) : m ≤ 400 := lx_c_m K.1 K.2.1
theorem gK.ii (K : gK T n m) (hi : i ≤ m) (ht : ¬ lx_t T n (lx_q T n i) = 0) : i < m := by
  rcases Nat.eq_or_lt_of_le hi with e | e
  · subst e
    rw [K.1.2] at ht
    exact absurd (lx_t_0 (Nat.le_refl _)) ht
  · exact e
theorem nI_m1 {e : Nat} (h : e ≤ 400) : ¬ nI e = -1 := fun q => by
  have := nI_pos (n := e) (by omega)
  rw [q] at this
  exact this (by decide)
/-- a thing is passed -/
theorem pr_pass (K : gK T n m) (P : pr s0 W T n m Y i c h) (hi : i ≤ m) (ht : ¬ lx_t T n (lx_q T n i) = 0) : k_ok (m_b (m_gi h 206 5 1) fun v => F7_lookAt 206 (v + 1) h) (pr s0 W T n m Y (i + 1) c) ∧ i + 1 ≤ m ∧ lx_q T n (i + 1) = lx_n T n (lx_q T n i) ∧ lx_q T n i < n ∧ lx_q T n i < lx_n T n (lx_q T n i) ∧ lx_n T n (lx_q T n i) ≤ n := by
  have l := K.ii hi ht
  have hm := K.mm
  have qn := K.1.1 i l
  have nn := lx_n_lt (T := T) qn
  refine ⟨k_e P.at ?_, l, rfl, qn, nn.1, nn.2⟩
  rw [nI_1]
  exact pr_next P K.1 K.2.1 (by omega)
theorem pb_pass (K : gK T n m) (P : pb s0 W T n m w h) : k_ok (m_b (m_gi h 206 5 1) fun v => F7_lookAt 206 (v + 1) h) (pb s0 W T n m w) := by
  obtain ⟨x, ex⟩ := P.at
  exact k_e ex (pb_next P K.1 K.2.1)
theorem k_bb {α β γ : Type} {o : Option α} {f : α → Option β} {g : α → β → Option γ} {P : β → Prop} {Q : γ → Prop} (h : k_ok (m_b o f) P) (k : ∀ a x, P x → k_ok (g a x) Q) : k_ok (m_b o fun a => m_b (f a) fun x => g a x) Q := by
  obtain ⟨y, e, hy⟩ := h
  cases o with
  | none => cases e
  | some a =>
    show k_ok (m_b (f a) fun x => g a x) Q
    have e : f a = some y := e
    rw [e]
    exact k a y hy
theorem pb_76 (K : gK T n m) (P : pb s0 W T n m w h) (hw : ¬ w = -1) {k : Nat} : k_ok (F7_readSum_76 206 (nI k) h) (fun z => ∃ h', z = .inl (0, nI (k + 1), h') ∧ pb s0 W T n m w h') := by
  have key : ∀ h, pb s0 W T n m w h → k_ok (F7_readSum_85 206 (nI k) h) (fun z => ∃ h', z = .inl (0, nI (k + 1), h') ∧ pb s0 W T n m w h') := by
    intro h P
    unfold F7_readSum_85
    refine k_bb (pb_pass K P) (fun _ h1 P1 => ?_)
    refine k_e P1.wr (k_f hw ?_)
    unfold F7_readSum_116 F7_readSum_117
    exact k_t rfl (k_s ⟨h1, by rw [nI_1], P1⟩)
  unfold F7_readSum_76
  refine k_if (fun _ => key h P) (fun _ => k_b (pb_write P) (fun h1 P1 => key h1 P1))
theorem pb_sum (K : gK T n m) (P : pb s0 W T n m w h) (hw : ¬ w = -1) : k_ok (F7_readSum 206 h) (pb s0 W T n m w) := by
  unfold F7_readSum F7_readSum_0 F7_readSum_4
  refine k_g (nz_io206 P.N) ?_
  refine wh_i (n := 400) (fun (k : Nat) (z : Int32 × Int32 × m_H) => z.2.1 = nI k ∧ pb s0 W T n m w z.2.2) _ ?_ ?_ m_N 0 _ (N_lt (by decide)) (Nat.zero_le _) ⟨rfl, P⟩
  · rintro k ⟨x, y, h1⟩ hk ⟨q1, P1⟩
    dsimp only at q1 P1
    subst q1
    have fin : k_ok (F7_readSum_76 206 (nI k) h1) (m_KK (fun (z : Int32 × Int32 × m_H) => z.2.1 = nI (k + 1) ∧ pb s0 W T n m w z.2.2) (pb s0 W T n m w)) := by
      refine k_m (pb_76 K P1 hw) ?_
      rintro _ ⟨h', rfl, P'⟩
      exact ⟨rfl, P'⟩
    have fin2 : ∀ v, k_ok (m_b (F7_write 206 v h1) fun h2 => F7_readSum_76 206 (nI k) h2) (m_KK (fun (z : Int32 × Int32 × m_H) => z.2.1 = nI (k + 1) ∧ pb s0 W T n m w z.2.2) (pb s0 W T n m w)) := by
      intro v
      refine k_b (pb_write P1) (fun h2 P2 => k_m (pb_76 K P2 hw) ?_)
      rintro _ ⟨h', rfl, P'⟩
      exact ⟨rfl, P'⟩
    obtain ⟨th, eth⟩ := P1.th
    unfold F7_readSum_4b
    dsimp only
    refine k_f (show ¬ (400 : Int32) ≤ nI k from nI_ge (b := 400) hk (by decide)) (k_if (fun _ => k_s P1) (fun _ => k_e eth (k_if (fun _ => ?_) (fun _ => k_e eth (k_if (fun _ => ?_) (fun _ => k_e eth (fin2 _)))))))
    · obtain ⟨x1, e1⟩ := P1.at
      obtain ⟨v, ev⟩ := pb_numAt P1 K.1 K.2.1 (x := x1)
      exact k_e (nz_gr206_0 P1.N) (k_e e1 (k_e ev (fin2 v)))
    · exact k_e (pb_refuse P1 hw) fin
  · rintro ⟨x, y, h1⟩ ⟨q1, P1⟩
    dsimp only at q1 P1
    subst q1
    unfold F7_readSum_4b
    dsimp only
    exact k_t (show (400 : Int32) ≤ nI 400 by decide) (k_s P1)
theorem gS_F {F q : Nat} (hF : F = 400) : gSum T n q c = gB (gPart T n q c) (gLoop T n 43 101 (gPart T n) F) := by
  subst hF
  rfl
theorem cz_sumF (K : gK T n m) (P : pr s0 W T n m Y i c h) (hi : i ≤ m) (hl : c.length ≤ lx_q T n i) {F : Nat} (hF : F = 400) : k_ok (F7_readSum 206 h) (gR s0 W T n m Y (gSum T n (lx_q T n i) c)) := by
  have hn := K.2.1
  obtain ⟨r0, er⟩ : ∃ r, gSum T n (lx_q T n i) c = r := ⟨_, rfl⟩
  rw [er]
  unfold F7_readSum F7_readSum_0 F7_readSum_4
  refine k_g (nz_io206 P.N) ?_
  refine wh_i (n := 400) (fun (k : Nat) (z : Int32 × Int32 × m_H) => z.2.1 = nI k ∧ ((z.1 = 1 ∧ ∃ i c, i ≤ m ∧ pr s0 W T n m Y i c z.2.2 ∧ c.length + (if k = 0 then 0 else 1) ≤ lx_q T n i ∧ 2 * k ≤ lx_q T n i ∧ (if k = 0 then gSum T n (lx_q T n i) c else gB (gPart T n (lx_q T n i) c) (fun q' c' => gLoop T n 43 101 (gPart T n) (F - k) q' (c' ++ [(101, 0)]))) = r0) ∨ (z.1 = 0 ∧ gR s0 W T n m Y r0 z.2.2))) _ ?_ ?_ m_N 0 _ (N_lt (by decide)) (Nat.zero_le _) ⟨rfl, Or.inl ⟨rfl, i, c, hi, P, by rw [if_pos rfl]; exact hl, Nat.zero_le _, by rw [if_pos rfl]; exact er⟩⟩
  · rintro k ⟨x, y, h1⟩ hk ⟨q1, q2⟩
    dsimp only at q1 q2
    subst q1
    unfold F7_readSum_4b
    dsimp only
    refine k_f (show ¬ (400 : Int32) ≤ nI k from nI_ge (b := 400) hk (by decide)) ?_
    rcases q2 with ⟨rfl, i, c, hi, P, hl, hk2, e0⟩ | ⟨rfl, G⟩
    case inr => exact k_t rfl (k_s G)
    refine k_f (by decide) (k_e P.th ?_)
    have l0 : c.length ≤ lx_q T n i := by split at hl <;> omega
    -- what follows a part
    have after : ∀ z : Int32 × Int32, gPart T n (lx_q T n i) c = .inl (lx_n T n (lx_q T n i), c ++ [z]) → ¬ lx_t T n (lx_q T n i) = 0 → ∀ h2, pr s0 W T n m Y i (c ++ [z]) h2 → k_ok (F7_readSum_76 206 (nI k) h2) (m_KK (fun (z : Int32 × Int32 × m_H) => z.2.1 = nI (k + 1) ∧ ((z.1 = 1 ∧ ∃ i c, i ≤ m ∧ pr s0 W T n m Y i c z.2.2 ∧ c.length + (if k + 1 = 0 then 0 else 1) ≤ lx_q T n i ∧ 2 * (k + 1) ≤ lx_q T n i ∧ (if k + 1 = 0 then gSum T n (lx_q T n i) c else gB (gPart T n (lx_q T n i) c) (fun q' c' => gLoop T n 43 101 (gPart T n) (F - (k + 1)) q' (c' ++ [(101, 0)]))) = r0) ∨ (z.1 = 0 ∧ gR s0 W T n m Y r0 z.2.2))) (gR s0 W T n m Y r0)) := by
      intro z ep ht h2 P2
      have len : (c ++ [z]).length = c.length + 1 := by rw [List.length_append]; rfl
      have next : ∀ c2 h3, pr s0 W T n m Y i c2 h3 → c2.length ≤ lx_n T n (lx_q T n i) → gLoop T n 43 101 (gPart T n) (F - (k + 1) + 1) (lx_n T n (lx_q T n i)) c2 = r0 → k_ok (F7_readSum_85 206 (nI k) h3) (m_KK (fun (z : Int32 × Int32 × m_H) => z.2.1 = nI (k + 1) ∧ ((z.1 = 1 ∧ ∃ i c, i ≤ m ∧ pr s0 W T n m Y i c z.2.2 ∧ c.length + (if k + 1 = 0 then 0 else 1) ≤ lx_q T n i ∧ 2 * (k + 1) ≤ lx_q T n i ∧ (if k + 1 = 0 then gSum T n (lx_q T n i) c else gB (gPart T n (lx_q T n i) c) (fun q' c' => gLoop T n 43 101 (gPart T n) (F - (k + 1)) q' (c' ++ [(101, 0)]))) = r0) ∨ (z.1 = 0 ∧ gR s0 W T n m Y r0 z.2.2))) (gR s0 W T n m Y r0)) := by
        intro c2 h3 P3 hl2 e2
        unfold F7_readSum_85
        obtain ⟨pa, i1, eq1, qn, qlt, qle⟩ := pr_pass K P3 hi ht
        refine k_bb pa (fun _ h4 P4 => ?_)
        refine k_e P4.wr (k_t rfl (k_e P4.th ?_))
        rw [← eq1] at e2 hl2 qle qlt
        unfold gLoop at e2
        refine k_if (fun t43 => ?_) (fun t43 => ?_)
        · rw [if_pos t43] at e2
          unfold F7_readSum_117
          obtain ⟨pa, i2, eq2, qn2, qlt2, qle2⟩ := pr_pass K P4 i1 (by rw [t43]; decide)
          refine k_f (by decide) (k_bb pa (fun _ h5 P5 => ?_))
          rw [← eq2] at e2 qlt2
          refine k_s ⟨by rw [nI_succ], Or.inl ⟨rfl, i + 1 + 1, c2, i2, P5, by rw [if_neg (by omega)]; omega, by omega, by rw [if_neg (by omega)]; exact e2⟩⟩
        · rw [if_neg t43] at e2
          unfold F7_readSum_116 F7_readSum_117
          refine k_t rfl (k_s ⟨by rw [nI_succ], Or.inr ⟨rfl, ?_⟩⟩)
          rw [← e2]
          exact ⟨i + 1, i1, rfl, P4⟩
      have qn := K.1.1 i (K.ii hi ht)
      have nn := lx_n_lt (T := T) qn
      unfold F7_readSum_76
      by_cases k0 : k = 0
      · subst k0
        rw [if_pos rfl] at e0
        refine k_t (by decide) (next _ h2 P2 (by rw [len]; omega) ?_)
        rw [← e0]
        rw [gS_F hF, ep, gB_l, show F - (0 + 1) + 1 = F by omega]
      · rw [if_neg k0] at e0 hl
        refine k_f (nI_nle (by omega) (by omega)) (k_b (pr_write P2 (st := 101) (nm := 0) (by rw [len]; omega) rfl) (fun h3 P3 => next _ h3 P3 (by rw [List.length_append, len]; show c.length + 1 + 1 ≤ _; omega) ?_))
        rw [← e0, ep, gB_l, show F - (k + 1) + 1 = F - k by omega]
    refine k_if (fun t1 => ?_) (fun t1 => k_e P.th (k_if (fun t2 => ?_) (fun t2 => k_e P.th ?_)))
    · have ht : ¬ lx_t T n (lx_q T n i) = 0 := by rw [t1]; decide
      have ep : gPart T n (lx_q T n i) c = .inl (lx_n T n (lx_q T n i), c ++ [(100, lx_v T n (lx_q T n i))]) := if_pos t1
      have qn := K.1.1 i (K.ii hi ht)
      refine k_e (nz_gr206_0 P.N) (k_e P.at (k_e (pr_numAt P K.1 hn (K.ii hi ht)) (k_b (pr_write P (st := 100) (nm := lx_v T n (lx_q T n i)) (by omega) en_n) (fun h2 P2 => after _ ep ht h2 P2))))
    · have ep : gPart T n (lx_q T n i) c = .inr (lx_q T n i) := by unfold gPart; rw [if_neg t1, if_pos t2]
      have er0 : r0 = .inr (lx_q T n i) := by
        rw [← e0]
        split
        · rw [gS_F hF, ep, gB_r]
        · rw [ep, gB_r]
      have qle := lx_q_le (T := T) (n := n) i
      have hm := K.mm
      refine k_b (pr_refuse P K.1 hn (by omega) (by omega)) (fun h2 P2 => k_m (pb_76 K P2 (nI_m1 (by omega))) ?_)
      rintro _ ⟨h', rfl, P'⟩
      refine ⟨rfl, Or.inr ⟨rfl, ?_⟩⟩
      rw [er0]
      exact ⟨qle, P'⟩
    · have ep : gPart T n (lx_q T n i) c = .inl (lx_n T n (lx_q T n i), c ++ [(lx_t T n (lx_q T n i) - 264, 0)]) := by unfold gPart; rw [if_neg t1, if_neg t2]
      obtain ⟨k1, hk1, ek1⟩ := lx_t_f K.2.2 t2
      have ht : ¬ lx_t T n (lx_q T n i) = 0 := fun z => t2 (by rw [z]; decide)
      have qn := K.1.1 i (K.ii hi ht)
      have en : (-10 : Int32) - (lx_t T n (lx_q T n i) - 256 - 8) = tz_en (lx_t T n (lx_q T n i) - 264) 0 := by
        rw [ek1]
        exact en_f k1 (List.mem_range.mpr hk1)
      refine k_b (pr_write P (st := lx_t T n (lx_q T n i) - 264) (nm := 0) (by omega) en) (fun h2 P2 => after _ ep ht h2 P2)
  · rintro ⟨x, y, h1⟩ ⟨q1, q2⟩
    dsimp only at q1 q2
    subst q1
    unfold F7_readSum_4b
    dsimp only
    refine k_t (show (400 : Int32) ≤ nI 400 by decide) (k_s ?_)
    rcases q2 with ⟨rfl, i, c, hi, P, hl, hk2, e0⟩ | ⟨rfl, G⟩
    · have := lx_q_le (T := T) (n := n) i
      omega
    · exact G
theorem cz_sum (K : gK T n m) (P : pr s0 W T n m Y i c h) (hi : i ≤ m) (hl : c.length ≤ lx_q T n i) : k_ok (F7_readSum 206 h) (gR s0 W T n m Y (gSum T n (lx_q T n i) c)) := cz_sumF K P hi hl rfl
end
