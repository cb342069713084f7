/-! ===== a text: the reference looks at bytes ===== -/
def sgb (b : Nat) : Int32 := if b < 128 then nI b else nI b - 256
theorem sgb_n : ∀ b ∈ List.range 128, nI (128 + b) - 256 < 0 := by decide +kernel
theorem sgb_lt {b lo : Nat} (hb : b < 256) (hlo : lo < 128) : sgb b < nI lo ↔ b < lo ∨ 128 ≤ b := by
  unfold sgb
  by_cases q : b < 128
  · rw [if_pos q]
    constructor
    · intro z
      rcases Nat.lt_or_ge b lo with a | a
      · exact Or.inl a
      · exact absurd z (nI_nlt a (by omega))
    · rintro (a | a)
      · exact nI_lt a (by omega)
      · omega
  · rw [if_neg q]
    refine ⟨fun _ => Or.inr (by omega), fun _ => ?_⟩
    have h := sgb_n (b - 128) (List.mem_range.mpr (by omega))
    rw [show 128 + (b - 128) = b by omega] at h
    exact Int32.lt_of_lt_of_le h (Int32.not_lt.mp (nI_pos (by omega)))
def rgc (s : tz_S) (c : gC) : Prop := s.1 317 14 = nI c.length ∧ ∀ j, j < c.length → s.2.1 318 (36877 + 2 * j) = (c.getD j (0, 0)).1 ∧ s.2.1 318 (36878 + 2 * j) = (c.getD j (0, 0)).2
def rgy (s : tz_S) (Y : gY) : Prop := Y.1 ≤ 12 ∧ ∀ j, j < Y.1 → s.2.1 318 (36829 + 4 * j) = (Y.2 j).1 ∧ s.2.1 318 (36830 + 4 * j) = (Y.2 j).2.1 ∧ s.2.1 318 (36831 + 4 * j) = (if j = 0 then 0 else (Y.2 (j - 1)).2.2) ∧ s.2.1 318 (36832 + 4 * j) = (Y.2 j).2.2
def rgt (s : tz_S) (T : Nat → Nat) (n : Nat) : Prop := s.1 317 0 = 0 ∧ s.1 317 9 = nI n ∧ ∀ j, j < n → s.2.1 321 j = sgb (T j)
/-- the reference reads: its point, the begin of a thing, how deep, the code so far -/
def rg (s0 : tz_S) (W : m_W) (T : Nat → Nat) (n : Nat) (Y : gY) (p b d : Nat) (c : gC) (h : m_H) : Prop := ∃ s, h = tz_H s ∧ tz_WR s 318 W ∧ tz_fq s0 s ∧ rgt s T n ∧ s.1 317 8 = nI p ∧ s.1 317 10 = nI b ∧ s.1 317 11 = nI d ∧ rgc s c ∧ rgy s Y
section
variable {s0 : tz_S} {W : m_W} {T : Nat → Nat} {n p b d : Nat} {Y : gY} {c : gC} {h : m_H}
theorem rg_uf {s : tz_S} {k j : Nat} {v : Int32} (q : ¬ j = k) : (tz_uf s 317 k v).1 317 j = s.1 317 j := if_neg (fun z => q z.2)
theorem rgt.uf {s : tz_S} (t : rgt s T n) {k : Nat} {v : Int32} (h0 : ¬ 0 = k) (h9 : ¬ 9 = k) : rgt (tz_uf s 317 k v) T n := ⟨(rg_uf h0).trans t.1, (rg_uf h9).trans t.2.1, t.2.2⟩
theorem rgc.uf {s : tz_S} (t : rgc s c) {k : Nat} {v : Int32} (h14 : ¬ 14 = k) : rgc (tz_uf s 317 k v) c := ⟨(rg_uf h14).trans t.1, t.2⟩
theorem rg.put8 (P : rg s0 W T n Y p b d c h) {p' : Nat} : k_ok (m_pf m_ft h 317 9 8 (.int (nI p'))) (rg s0 W T n Y p' b d c) := by
  obtain ⟨s, rfl, H, F, t, e8, e10, e11, ec, ey⟩ := P
  exact ⟨_, pf_317_8, _, rfl, H, F.trans (tz_fq.uf (by decide)), t.uf (by decide) (by decide), tz_uf_s, (rg_uf (by decide)).trans e10, (rg_uf (by decide)).trans e11, ec.uf (by decide), ey⟩
theorem rg.put10 (P : rg s0 W T n Y p b d c h) {b' : Nat} : k_ok (m_pf m_ft h 317 9 10 (.int (nI b'))) (rg s0 W T n Y p b' d c) := by
  obtain ⟨s, rfl, H, F, t, e8, e10, e11, ec, ey⟩ := P
  exact ⟨_, pf_317_10, _, rfl, H, F.trans (tz_fq.uf (by decide)), t.uf (by decide) (by decide), (rg_uf (by decide)).trans e8, tz_uf_s, (rg_uf (by decide)).trans e11, ec.uf (by decide), ey⟩
theorem rg.put11 (P : rg s0 W T n Y p b d c h) {d' : Nat} : k_ok (m_pf m_ft h 317 9 11 (.int (nI d'))) (rg s0 W T n Y p b d' c) := by
  obtain ⟨s, rfl, H, F, t, e8, e10, e11, ec, ey⟩ := P
  exact ⟨_, pf_317_11, _, rfl, H, F.trans (tz_fq.uf (by decide)), t.uf (by decide) (by decide), (rg_uf (by decide)).trans e8, (rg_uf (by decide)).trans e10, tz_uf_s, ec.uf (by decide), ey⟩
theorem rg.io (P : rg s0 W T n Y p b d c h) : m_isO h 9 317 = true := by
  obtain ⟨s, rfl, -⟩ := P
  exact io_317
theorem rg.pt (P : rg s0 W T n Y p b d c h) : m_gi h 317 9 8 = some (nI p) := by
  obtain ⟨s, rfl, H, F, t, e8, -⟩ := P
  exact gi_317_8.trans (congrArg some e8)
theorem rg.en (P : rg s0 W T n Y p b d c h) : m_gi h 317 9 9 = some (nI n) := by
  obtain ⟨s, rfl, H, F, t, e8, -⟩ := P
  exact gi_317_9.trans (congrArg some t.2.1)
theorem rg.be (P : rg s0 W T n Y p b d c h) : m_gi h 317 9 10 = some (nI b) := by
  obtain ⟨s, rfl, H, F, t, e8, e10, -⟩ := P
  exact gi_317_10.trans (congrArg some e10)
theorem rg.de (P : rg s0 W T n Y p b d c h) : m_gi h 317 9 11 = some (nI d) := by
  obtain ⟨s, rfl, H, F, t, e8, e10, e11, -⟩ := P
  exact gi_317_11.trans (congrArg some e11)
theorem rg.st (P : rg s0 W T n Y p b d c h) : m_gi h 317 9 14 = some (nI c.length) := by
  obtain ⟨s, rfl, H, F, t, e8, e10, e11, ec, -⟩ := P
  exact gi_317_14.trans (congrArg some ec.1)
theorem rg.g1 (P : rg s0 W T n Y p b d c h) : m_gr h 317 9 1 = some 318 := by
  obtain ⟨s, rfl, -⟩ := P
  exact gr_317_1
theorem rg.g6 (P : rg s0 W T n Y p b d c h) : m_gr h 317 9 6 = some 321 := by
  obtain ⟨s, rfl, -⟩ := P
  exact gr_317_6
theorem rg.by (P : rg s0 W T n Y p b d c h) (hn : n ≤ 400) {j : Nat} (hj : j < n) : m_ai h 2 321 (nI j) = some (sgb (T j)) := by
  obtain ⟨s, rfl, H, F, t, -⟩ := P
  exact (tz_ai sh_321 ⟨rfl, rfl⟩ (nI_in1 (show j < 400 by omega) (by decide))).trans (by rw [nI_clamp (by omega), t.2.2 j hj])
theorem rg_isAt (P : rg s0 W T n Y p b d c h) (hn : n ≤ 400) (hT : ∀ j, j < n → T j < 256) (hp : p ≤ n) {lo hi : Nat} (hl : lo < 128) (hh : hi < 127) : F12_isAt 317 (nI lo) (nI hi) h = some (if p < n ∧ lo ≤ T p ∧ T p ≤ hi then 1 else 0) := by
  unfold F12_isAt F12_isAt_0
  rw [P.io, gz_s, P.pt, bz_s, P.en, bz_s]
  by_cases q : p < n
  · have bT := hT p q
    rw [iz_f (nI_ge q (by omega)), P.g6, bz_s, bz_s, P.by hn q, bz_s]
    by_cases q2 : T p < lo ∨ 128 ≤ T p
    · rw [iz_t ((sgb_lt bT hl).mpr q2), if_neg (fun z => by omega)]
    · rw [iz_f (fun z => q2 ((sgb_lt bT hl).mp z)), bz_s, bz_s, P.by hn q, bz_s, show (sgb (T p)) = nI (T p) from if_pos (by omega)]
      by_cases q3 : hi < T p
      · rw [iz_t (nI_lt q3 (by omega)), if_neg (fun z => by omega)]
      · rw [iz_f (nI_nlt (by omega) (by omega)), if_pos ⟨q, by omega, by omega⟩]
  · rw [iz_t (nI_le (by omega) (by omega)), if_neg (fun z => q z.1)]
theorem rg_blanks (P : rg s0 W T n Y p b d c h) (hn : n ≤ 400) (hT : ∀ j, j < n → T j < 256) (hp : p ≤ n) : k_ok (F12_blanks 317 h) (rg s0 W T n Y (lx_k0 T n p) (lx_k0 T n p) d c) := by
  unfold F12_blanks F12_blanks_0
  refine k_g P.io ?_
  have fin : ∀ i h1, rg s0 W T n Y (p + i) b d c h1 → p + i ≤ n → (∀ j, p ≤ j → j < p + i → j < n ∧ lx_b (T j) = true) → (n ≤ p + i ∨ lx_b (T (p + i)) = false) → k_ok (m_b (m_gi h1 317 9 8) fun v4 => m_b (m_pf m_ft h1 317 9 10 (.int v4)) fun h6 => some (.inr h6 : m_H ⊕ m_H)) (fun z => ∃ h6, z = .inr h6 ∧ rg s0 W T n Y (lx_k0 T n p) (lx_k0 T n p) d c h6) := by
    intro i h1 P1 hi q2 q3
    refine k_e P1.pt (k_b P1.put10 (fun h6 P6 => k_s ⟨h6, rfl, ?_⟩))
    rw [show lx_k0 T n p = p + i from lx_u (by omega) q2 q3]
    exact P6
  refine wh_i (n := n) (fun (i : Nat) (z : m_H) => rg s0 W T n Y (p + i) b d c z ∧ p + i ≤ n ∧ ∀ j, p ≤ j → j < p + i → j < n ∧ lx_b (T j) = true) _ ?_ ?_ m_N 0 _ (N_lt (by omega)) (Nat.zero_le _) ⟨P, hp, fun j a b => absurd b (by omega)⟩
  · rintro i h1 hi ⟨P1, hpi, q2⟩
    unfold F12_blanks_0b
    refine k_e (rg_isAt P1 hn hT hpi (lo := 32) (hi := 32) (by decide) (by decide)) ?_
    by_cases e : p + i < n ∧ 32 ≤ T (p + i) ∧ T (p + i) ≤ 32
    · rw [if_pos e]
      refine k_f (by decide) (k_e P1.pt ?_)
      rw [nI_1]
      refine k_b P1.put8 (fun h2 P2 => k_s ⟨P2, by omega, fun j a b => ?_⟩)
      by_cases w : j = p + i
      · subst w; exact ⟨e.1, lx_bl.mpr (by omega)⟩
      · exact q2 j a (by omega)
    · rw [if_neg e]
      refine k_t rfl (k_m (fin i h1 P1 hpi q2 ?_) ?_)
      · rcases Nat.lt_or_ge (p + i) n with a | a
        · right
          cases hb : lx_b (T (p + i)) with
          | false => rfl
          | true => exact absurd ⟨a, by rw [lx_bl.mp hb]; exact ⟨Nat.le_refl _, Nat.le_refl _⟩⟩ e
        · left; exact a
      · rintro _ ⟨h6, rfl, P6⟩
        exact P6
  · rintro h1 ⟨P1, hpi, q2⟩
    unfold F12_blanks_0b
    refine k_e (rg_isAt P1 hn hT hpi (lo := 32) (hi := 32) (by decide) (by decide)) ?_
    rw [if_neg (fun z => by omega)]
    refine k_t rfl (k_m (fin n h1 P1 hpi q2 (Or.inl (by omega))) ?_)
    rintro _ ⟨h6, rfl, P6⟩
    exact P6
end
