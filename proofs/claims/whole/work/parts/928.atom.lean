/-! ===== a text: the class reads conditions, whole ===== -/
noncomputable def rd_b (X : m_H → Option m_H) (sg op : Int32) (s : Int32 × m_H) : Option ((Int32 × m_H) ⊕ m_H) :=
  m_if (400 ≤ s.1) (some (.inr s.2)) (m_b (m_gi s.2 206 5 3) fun v2 => m_if (v2 = (-1)) (m_b (m_gi s.2 206 5 2) fun v5 => m_if (v5 = sg) (m_b (m_gi s.2 206 5 1) fun v8 => m_b (F7_lookAt 206 (v8 + 1) s.2) fun h11 => m_b (X h11) fun h13 => m_b (F7_write 206 op h13) fun h15 => some (.inl ((s.1 + 1), h15))) (some (.inr s.2))) (some (.inr s.2)))
def gA (s0 : tz_S) (W : m_W) (T : Nat → Nat) (n m : Nat) (Y : gY) (A : m_H → Option m_H) (a : Nat → gC → gG) : Prop := (∀ {i c h}, i ≤ m → c.length ≤ lx_q T n i → pr s0 W T n m Y i c h → k_ok (A h) (gR s0 W T n m Y (a (lx_q T n i) c))) ∧ (∀ {w h}, ¬ w = -1 → pb s0 W T n m w h → k_ok (A h) (pb s0 W T n m w)) ∧ ∀ q c, q ≤ n → gP T n q c 1 (a q c)
section
variable {s0 : tz_S} {W : m_W} {T : Nat → Nat} {n m : Nat} {Y : gY} {i : Nat} {c : gC} {w : Int32} {h : m_H} {X B : m_H → Option m_H} {st a : Nat → gC → gG}
theorem gA.good (G : gA s0 W T n m Y X a) : i ≤ m → c.length ≤ lx_q T n i → pr s0 W T n m Y i c h → k_ok (X h) (gR s0 W T n m Y (a (lx_q T n i) c)) := G.1
theorem gA.bad (G : gA s0 W T n m Y X a) : ¬ w = -1 → pb s0 W T n m w h → k_ok (X h) (pb s0 W T n m w) := G.2.1
theorem gA.fit (G : gA s0 W T n m Y X a) : ∀ q c, q ≤ n → gP T n q c 1 (a q c) := G.2.2
theorem gR_b (K : gK T n m) {x : Option m_H} {r : gG} {f : Nat → gC → gG} {q y : Nat} (E : k_ok x (gR s0 W T n m Y r)) (fit : gP T n q c y r) (g : ∀ i' c' h', i' ≤ m → pr s0 W T n m Y i' c' h' → q + y ≤ lx_q T n i' → c'.length + q ≤ c.length + lx_q T n i' → k_ok (B h') (gR s0 W T n m Y (f (lx_q T n i') c'))) (b : ∀ w h', ¬ w = -1 → pb s0 W T n m w h' → k_ok (B h') (pb s0 W T n m w)) : k_ok (m_b x B) (gR s0 W T n m Y (gB r f)) := by
  cases r with
  | inl z =>
    obtain ⟨q', c'⟩ := z
    refine k_b E (fun h' R => ?_)
    obtain ⟨i', hi', eq, P⟩ := R
    dsimp only at eq P
    subst eq
    exact g i' c' h' hi' P fit.1 fit.2.2.2
  | inr e =>
    refine k_b E (fun h' R => ?_)
    exact k_m (b _ h' (nI_m1 (by have := K.2.1; have := R.1; omega)) R.2) (fun h2 P2 => ⟨R.1, P2⟩)
theorem pb_loop (P : pb s0 W T n m w h) (hw : ¬ w = -1) {sg op : Int32} : k_ok (m_wh (fun s => rd_b X sg op s) m_N (0, h)) (pb s0 W T n m w) := by
  refine wh_i (n := 400) (fun (k : Nat) (z : Int32 × m_H) => z.1 = nI k ∧ pb s0 W T n m w z.2) _ ?_ ?_ m_N 0 _ (N_lt (by decide)) (Nat.zero_le _) ⟨rfl, P⟩
  · rintro k ⟨x, h1⟩ hk ⟨q1, P1⟩
    dsimp only at q1 P1
    subst q1
    unfold rd_b
    dsimp only
    exact k_f (show ¬ (400 : Int32) ≤ nI k from nI_ge (b := 400) hk (by decide)) (k_e P1.wr (k_f hw (k_s P1)))
  · rintro ⟨x, h1⟩ ⟨q1, P1⟩
    dsimp only at q1 P1
    subst q1
    unfold rd_b
    dsimp only
    exact k_t (show (400 : Int32) ≤ nI 400 by decide) (k_s P1)
theorem cz_loop (K : gK T n m) (G : gA s0 W T n m Y X st) {sg opv op : Int32} (hv : opv = tz_en op 0) (hs : ¬ sg = 0) (hi : i ≤ m) (hl : c.length ≤ lx_q T n i) (P : pr s0 W T n m Y i c h) {F : Nat} (hF : F = 400) : k_ok (m_wh (fun s => rd_b X sg opv s) m_N (0, h)) (gR s0 W T n m Y (gLoop T n sg op st F (lx_q T n i) c)) := by
  have hn := K.2.1
  obtain ⟨r0, er⟩ : ∃ r, gLoop T n sg op st F (lx_q T n i) c = r := ⟨_, rfl⟩
  rw [er]
  refine wh_i (n := 400) (fun (k : Nat) (z : Int32 × m_H) => z.1 = nI k ∧ ((∃ i c, i ≤ m ∧ c.length ≤ lx_q T n i ∧ pr s0 W T n m Y i c z.2 ∧ gLoop T n sg op st (F - k) (lx_q T n i) c = r0) ∨ ∃ e, r0 = .inr e ∧ e ≤ n ∧ pb s0 W T n m (nI e) z.2)) _ ?_ ?_ m_N 0 _ (N_lt (by decide)) (Nat.zero_le _) ⟨rfl, Or.inl ⟨i, c, hi, hl, P, er⟩⟩
  · rintro k ⟨x, h1⟩ hk ⟨q1, q2⟩
    dsimp only at q1 q2
    subst q1
    unfold rd_b
    dsimp only
    refine k_f (show ¬ (400 : Int32) ≤ nI k from nI_ge (b := 400) hk (by decide)) ?_
    rcases q2 with ⟨i, c, hi, hl, P, e0⟩ | ⟨e, e0, he, P⟩
    case inr =>
      refine k_e P.wr (k_f (nI_m1 (by omega)) (k_s ?_))
      subst e0
      exact ⟨he, P⟩
    refine k_e P.wr (k_t rfl (k_e P.th ?_))
    obtain ⟨f, hf⟩ : ∃ f, F - k = f + 1 := ⟨F - k - 1, by omega⟩
    have hf' : F - (k + 1) = f := by omega
    rw [hf] at e0
    unfold gLoop at e0
    refine k_if (fun t => ?_) (fun t => ?_)
    case refine_2 =>
      rw [if_neg t] at e0
      refine k_s ?_
      rw [← e0]
      exact ⟨i, hi, rfl, P⟩
    rw [if_pos t] at e0
    have ht : ¬ lx_t T n (lx_q T n i) = 0 := by rw [t]; exact hs
    obtain ⟨pa, i1, eq1, qn, qlt, qle⟩ := pr_pass K P hi ht
    rw [← eq1] at e0 qlt qle
    refine k_bb pa (fun _ h2 P2 => ?_)
    have E := G.good i1 (show c.length ≤ _ by omega) P2
    have ft := G.fit (lx_q T n (i + 1)) c qle
    cases ea : st (lx_q T n (i + 1)) c with
    | inl z =>
      obtain ⟨q', c'⟩ := z
      rw [ea] at E ft e0
      rw [gB_l] at e0
      refine k_b E (fun h3 R => ?_)
      obtain ⟨i', hi', eq, P3⟩ := R
      dsimp only at eq P3
      subst eq
      have f4 := ft.2.2.2
      have f2 := ft.2.1
      dsimp only at f4 f2
      have len : (c' ++ [(op, (0 : Int32))]).length = c'.length + 1 := by rw [List.length_append]; rfl
      refine k_b (pr_write P3 (st := op) (nm := 0) (by omega) hv) (fun h4 P4 => k_s ⟨by rw [nI_succ], Or.inl ⟨i', _, hi', ?_, P4, ?_⟩⟩)
      · rw [len]; omega
      · rw [hf']; exact e0
    | inr e =>
      rw [ea] at E e0
      rw [gB_r] at e0
      refine k_b E (fun h3 R => ?_)
      exact k_b (pb_write R.2) (fun h4 P4 => k_s ⟨by rw [nI_succ], Or.inr ⟨e, e0.symm, R.1, P4⟩⟩)
  · rintro ⟨x, h1⟩ ⟨q1, q2⟩
    dsimp only at q1 q2
    subst q1
    unfold rd_b
    dsimp only
    refine k_t (show (400 : Int32) ≤ nI 400 by decide) (k_s ?_)
    rcases q2 with ⟨i, c, hi, hl, P, e0⟩ | ⟨e, e0, he, P⟩
    · rw [show F - 400 = 0 by omega] at e0
      rw [← e0]
      exact ⟨i, hi, rfl, P⟩
    · subst e0
      exact ⟨he, P⟩
variable {A : Nat → Int32 → m_H → Option m_H} {d : Int32}
theorem cz_all (K : gK T n m) (G : gA s0 W T n m Y (A 206 d) a) : gA s0 W T n m Y (F7_readAll A 206 d) (gAll T n a) := by
  refine ⟨fun {i c h} hi hl P => ?_, fun {w h} hw P => ?_, fun q c hq => gP_all G.fit hq⟩
  · unfold F7_readAll F7_readAll_0
    refine k_g (nz_io206 P.N) (gR_b K (G.good hi hl P) (G.fit _ c (lx_q_le (T := T) (n := n) i)) (fun i' c' h' hi' P' h1 h2 => ?_) (fun w h' hw P' => ?_))
    · exact cz_loop K G (op := 105) rfl (by decide) hi' (by omega) P' rfl
    · exact pb_loop P' hw
  · unfold F7_readAll F7_readAll_0
    exact k_g (nz_io206 P.N) (k_b (G.bad hw P) (fun h1 P1 => pb_loop P1 hw))
theorem cz_any (K : gK T n m) (G : gA s0 W T n m Y (A 206 d) a) : gA s0 W T n m Y (F7_readAny A 206 d) (gCond T n a) := by
  have G2 := cz_all K G
  refine ⟨fun {i c h} hi hl P => ?_, fun {w h} hw P => ?_, fun q c hq => gP_cond G.fit hq⟩
  · unfold F7_readAny F7_readAny_0
    refine k_g (nz_io206 P.N) (gR_b K (G2.good hi hl P) (G2.fit _ c (lx_q_le (T := T) (n := n) i)) (fun i' c' h' hi' P' h1 h2 => ?_) (fun w h' hw P' => ?_))
    · exact cz_loop K G2 (op := 106) rfl (by decide) hi' (by omega) P' rfl
    · exact pb_loop P' hw
  · unfold F7_readAny F7_readAny_0
    exact k_g (nz_io206 P.N) (k_b (G2.bad hw P) (fun h1 P1 => pb_loop P1 hw))
end
