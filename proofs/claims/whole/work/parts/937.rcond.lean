/-! ===== a text: the reference reads conditions ===== -/
noncomputable def rd_r (G X : m_H → Option (Int32 × m_H)) (op : Int32) (s : m_H) : Option (m_H ⊕ (Int32 × m_H)) :=
  m_b (G s) fun z2 => m_if (z2.1 = 0) (some (.inr (1, z2.2))) (m_b (X z2.2) fun z5 => m_if (z5.1 = 0) (some (.inr (0, z5.2))) (m_b (F12_emits 317 op 0 z5.2) fun h8 => some (.inl h8)))
def rA (s0 : tz_S) (W : m_W) (T : Nat → Nat) (n : Nat) (Y : gY) (d : Nat) (X : m_H → Option (Int32 × m_H)) (a : Nat → gC → gG) : Prop := (∀ {q c h}, c.length ≤ q → rq s0 W T n Y q d c h → k_ok (X h) (rR s0 W T n Y d (a q c))) ∧ ∀ q c, q ≤ n → gP T n q c 1 (a q c)
def rG (s0 : tz_S) (W : m_W) (T : Nat → Nat) (n : Nat) (Y : gY) (d : Nat) (G : m_H → Option (Int32 × m_H)) (sg : Int32) : Prop := ∀ {q c h}, rq s0 W T n Y q d c h → k_ok (G h) (fun z => (lx_t T n q = sg ∧ z.1 = 1 ∧ rg s0 W T n Y (lx_x T n q) q d c z.2) ∨ (¬ lx_t T n q = sg ∧ z.1 = 0 ∧ rg s0 W T n Y q q d c z.2))
section
variable {s0 s : tz_S} {W : m_W} {T : Nat → Nat} {n p b d q : Nat} {Y : gY} {c : gC} {h : m_H} {G X : m_H → Option (Int32 × m_H)} {a st : Nat → gC → gG}
theorem rA.good (g : rA s0 W T n Y d X a) : c.length ≤ q → rq s0 W T n Y q d c h → k_ok (X h) (rR s0 W T n Y d (a q c)) := g.1
theorem rA.fit (g : rA s0 W T n Y d X a) : ∀ q c, q ≤ n → gP T n q c 1 (a q c) := g.2
theorem rG.go {sg : Int32} (g : rG s0 W T n Y d G sg) : rq s0 W T n Y q d c h → k_ok (G h) (fun z => (lx_t T n q = sg ∧ z.1 = 1 ∧ rg s0 W T n Y (lx_x T n q) q d c z.2) ∨ (¬ lx_t T n q = sg ∧ z.1 = 0 ∧ rg s0 W T n Y q q d c z.2)) := g
theorem rz_rloop (hn : n ≤ 400) {sg op : Int32} (hG : rG s0 W T n Y d G sg) (hX : rA s0 W T n Y d X st) (hs : ¬ sg = 0) (hl : c.length ≤ q) (P : rq s0 W T n Y q d c h) {F : Nat} (hF : F = 400) : k_ok (m_wh (fun s => rd_r G X op s) m_N h) (rR s0 W T n Y d (gLoop T n sg op st F q c)) := by
  obtain ⟨r0, er⟩ : ∃ r, gLoop T n sg op st F q c = r := ⟨_, rfl⟩
  rw [er]
  have none : ∀ k q c, ¬ lx_t T n q = sg → gLoop T n sg op st k q c = .inl (q, c) := by
    intro k q c t
    cases k with
    | zero => rfl
    | succ k => unfold gLoop; rw [if_neg t]
  refine wh_i (n := 401) (fun (k : Nat) (z : m_H) => ∃ q c, c.length ≤ q ∧ k ≤ q ∧ rq s0 W T n Y q d c z ∧ gLoop T n sg op st (F - k) q c = r0) _ ?_ ?_ m_N 0 _ (N_lt (by decide)) (Nat.zero_le _) ⟨q, c, hl, Nat.zero_le _, P, er⟩
  · rintro k h1 hk ⟨q, c, hl, hkq, P, e0⟩
    have ql := P.le
    have kk := P.kk
    unfold rd_r
    refine k_b (hG.go P) ?_
    rintro ⟨v, h2⟩ (⟨t, ev, P2⟩ | ⟨t, ev, P2⟩)
    · dsimp only at ev P2 ⊢
      subst ev
      have qn := lx_t_n (T := T) (n := n) (q := q) (by rw [t]; exact hs)
      have l := lx_n_lt (T := T) qn
      obtain ⟨f, hf⟩ : ∃ f, F - k = f + 1 := ⟨F - k - 1, by omega⟩
      have hf' : F - (k + 1) = f := by omega
      rw [hf] at e0
      unfold gLoop at e0
      rw [if_pos t] at e0
      have E := hX.good (show c.length ≤ lx_n T n q by omega) (P2.x qn)
      have ft := hX.fit (lx_n T n q) c l.2
      refine k_f (by decide) ?_
      cases ea : st (lx_n T n q) c with
      | inr e =>
        rw [ea] at E e0
        rw [gB_r] at e0
        refine k_b E ?_
        rintro ⟨v, h3⟩ ⟨ev, R⟩
        dsimp only at ev R ⊢
        subst ev
        refine k_t rfl (k_s ?_)
        rw [← e0]
        exact ⟨rfl, R⟩
      | inl z =>
        obtain ⟨q', c'⟩ := z
        rw [ea] at E e0 ft
        rw [gB_l] at e0
        refine k_b E ?_
        rintro ⟨v, h3⟩ ⟨ev, R⟩
        dsimp only at ev R ⊢
        subst ev
        have f1 := ft.1
        have f2 := ft.2.1
        have f4 := ft.2.2.2
        dsimp only at f1 f2 f4
        have ql' := R.le
        have len : (c' ++ [(op, (0 : Int32))]).length = c'.length + 1 := by rw [List.length_append]; rfl
        obtain ⟨p', b', hp', ek, R⟩ := R
        refine k_f (by decide) (k_b (rg_emits R (by omega)) (fun h4 P4 => k_s ⟨q', _, ?_, ?_, ⟨p', b', hp', ek, P4⟩, ?_⟩))
        · rw [len]; omega
        · omega
        · rw [hf']; exact e0
    · dsimp only at ev P2 ⊢
      subst ev
      refine k_t rfl (k_s ?_)
      rw [← e0, none _ q c t]
      exact ⟨rfl, P2.qq ql kk⟩
  · rintro h1 ⟨q, c, hl, hkq, P, e0⟩
    have := P.le
    omega
theorem rR_b {x : Option (Int32 × m_H)} {B : Int32 × m_H → Option (Int32 × m_H)} {r : gG} {f : Nat → gC → gG} {y d' : Nat} (E : k_ok x (rR s0 W T n Y d r)) (fit : gP T n q c y r) (g : ∀ q' c' h', rq s0 W T n Y q' d c' h' → q + y ≤ q' → c'.length + q ≤ c.length + q' → k_ok (B (1, h')) (rR s0 W T n Y d' (f q' c'))) (b : ∀ e h', rf s0 W e h' → k_ok (B (0, h')) (rR s0 W T n Y d' (.inr e))) : k_ok (m_b x B) (rR s0 W T n Y d' (gB r f)) := by
  cases r with
  | inl z =>
    obtain ⟨q', c'⟩ := z
    refine k_b E ?_
    rintro ⟨v, h'⟩ ⟨ev, R⟩
    dsimp only at ev R
    subst ev
    exact g q' c' h' R fit.1 fit.2.2.2
  | inr e =>
    refine k_b E ?_
    rintro ⟨v, h'⟩ ⟨ev, R⟩
    dsimp only at ev R
    subst ev
    exact b e h' R
theorem rz_no (R : rf s0 W q h) : k_ok (some ((0 : Int32), h)) (rR s0 W T n Y d (.inr q)) := k_s ⟨rfl, R⟩
theorem rz_rsum (hn : n ≤ 400) (hT : ∀ j, j < n → T j < 256) : rA s0 W T n Y d (F12_readSum 317) (gSum T n) := by
  refine ⟨fun {q c h} hl P => ?_, fun q c hq => gP_sum hq⟩
  have ql := P.le
  have hX : rA s0 W T n Y d (F12_readPart 317) (gPart T n) := ⟨fun {q c h} hl P => rz_part P hn hT hl, fun q c hq => gP_part hq⟩
  have hG : rG s0 W T n Y d (F12_sign 317 43) 43 := fun P => rg_sign P hn hT (x := 43) (by unfold lx_sg; omega)
  unfold F12_readSum F12_readSum_0 gSum
  refine k_g P.io (rR_b (hX.good hl P) (gP_part ql) (fun q' c' h' P' h1 h2 => k_f (show ¬ (1 : Int32) = 0 by decide) ?_) (fun e h' R => k_t rfl (rz_no R)))
  exact rz_rloop hn hG hX (op := 101) (by decide) (by omega) P' rfl
variable {A : Nat → m_H → Option (Int32 × m_H)}
theorem rz_rall (hn : n ≤ 400) (hT : ∀ j, j < n → T j < 256) (hX : rA s0 W T n Y d (A 317) a) : rA s0 W T n Y d (F12_readAllOf A 317) (gAll T n a) := by
  refine ⟨fun {q c h} hl P => ?_, fun q c hq => gP_all hX.fit hq⟩
  have hG : rG s0 W T n Y d (F12_passes 317 75) 262 := fun P => rg_passes P hn hT (k := 6) (by decide)
  unfold F12_readAllOf F12_readAllOf_0 gAll
  refine k_g P.io (rR_b (hX.good hl P) (hX.fit q c P.le) (fun q' c' h' P' h1 h2 => k_f (show ¬ (1 : Int32) = 0 by decide) ?_) (fun e h' R => k_t rfl (rz_no R)))
  exact rz_rloop hn hG hX (op := 105) (by decide) (by omega) P' rfl
theorem rz_rcond (hn : n ≤ 400) (hT : ∀ j, j < n → T j < 256) (hX : rA s0 W T n Y d (A 317) a) : rA s0 W T n Y d (F12_readCond A 317) (gCond T n a) := by
  have hX2 := rz_rall hn hT hX
  refine ⟨fun {q c h} hl P => ?_, fun q c hq => gP_cond hX.fit hq⟩
  have hG : rG s0 W T n Y d (F12_passes 317 76) 261 := fun P => rg_passes P hn hT (k := 5) (by decide)
  unfold F12_readCond F12_readCond_0 gCond
  refine k_g P.io (rR_b (hX2.good hl P) (hX2.fit q c P.le) (fun q' c' h' P' h1 h2 => k_f (show ¬ (1 : Int32) = 0 by decide) ?_) (fun e h' R => k_t rfl (rz_no R)))
  exact rz_rloop hn hG hX2 (op := 106) (by decide) (by omega) P' rfl
end
