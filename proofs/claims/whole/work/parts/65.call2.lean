/-! ===== the call; the reference's marks and who is next ===== -/
def sp_cP (W : m_W) (x : Int32) (i : Nat) : Bool := decide (i < wz_n W 3 ∧ ¬ W 3 i 2 - W 3 i 4 ≤ 0 ∧ W 3 i 1 = x)
theorem sp_cP_iff {W : m_W} {x : Int32} {i : Nat} : sp_cP W x i = true ↔ i < wz_n W 3 ∧ ¬ W 3 i 2 - W 3 i 4 ≤ 0 ∧ W 3 i 1 = x := decide_eq_true_iff
noncomputable def sp_cM (W : m_W) (i : Nat) : Int32 := sp_marks W (sp_fx W (W 3 i 0).toNatClampNeg (W 3 i 1).toNatClampNeg (W 3 i 2) 0)
section
variable {s0 s1 : tz_S} {th : Int32} {W : m_W} {h : m_H}
theorem cz_lack (R : cz_N s0 W h) {r : Nat} (hr : r < wz_n W 3) : F3_lackOf 223 (nI r) h = some (W 3 r 2 - W 3 r 4) := by
  unfold F3_lackOf F3_lackOf_0
  rw [nz_io223 R, gz_s, nz_gr223_9 R, bz_s, cz_g3_2 R rfl hr, bz_s, bz_s, cz_g3_4 R rfl hr, bz_s]
def cz_cI (s0 : tz_S) (W : m_W) (x : Int32) (i : Nat) (h : m_H) : Prop := ∃ s1, tz_fc s0 s1 ∧ cz_N s1 W h ∧ ∀ j, j < i → s1.2.1 213 j = (if sp_cP W x j = true then 1 else 0) ∧ (sp_cP W x j = true → s1.2.1 212 j = sp_cM W j)
theorem cz_call62 (V : vz W) {x : Int32} {i : Nat} {v : Int32} (hi : i < 60) (I : cz_cI s0 W x i h) (hv : v = if sp_cP W x i = true then 1 else 0) : k_ok (F2_call_62 211 223 x (nI i) v (nI i) 213 h) (m_KK (fun z => z.1 = nI (i + 1) ∧ cz_cI s0 W x (i + 1) z.2) (fun _ => False)) := by
  obtain ⟨s1, fc, R, A⟩ := I
  unfold F2_call_62
  refine k_b (cz_as R (Or.inr rfl) sh_213 ⟨rfl, rfl⟩ hi (by decide)) ?_
  intro h1 R1
  have nv : vp_nar (m_ty 3) v = v := by
    rw [hv]
    split
    · exact nr3_1
    · exact nr3_0
  rw [nv] at R1
  have fc1 := fc.ui (f := upd (s1.2.1 213) i v) (Or.inr rfl)
  have A1 : ∀ j, j < i → (tz_ui s1 213 (upd (s1.2.1 213) i v)).2.1 213 j = (if sp_cP W x j = true then 1 else 0) ∧ (sp_cP W x j = true → (tz_ui s1 213 (upd (s1.2.1 213) i v)).2.1 212 j = sp_cM W j) := by
    intro j hj
    rw [tz_ui_a, pk_un (by omega), tz_ui_n (by decide)]
    exact A j hj
  have A2 : (tz_ui s1 213 (upd (s1.2.1 213) i v)).2.1 213 i = v := by rw [tz_ui_a, pk_us]
  generalize tz_ui s1 213 (upd (s1.2.1 213) i v) = s2 at R1 fc1 A1 A2
  have w := cz_ar R1 (Or.inr rfl) sh_213 ⟨rfl, rfl⟩ hi (by decide)
  rw [A2] at w
  refine k_e (nz_gr211_1 R1) (k_e w ?_)
  by_cases p : sp_cP W x i = true
  · rw [if_pos p] at hv
    refine k_f (by rw [hv]; decide) ?_
    have pr := sp_cP_iff.mp p
    obtain ⟨l, t, el, hl1, hl, et, ht⟩ := V.ask pr.1
    refine k_e (nz_gr223_9 R1) (k_e (cz_g3_2 R1 rfl pr.1) (k_b (cz_hear R1 V rfl pr.1 el hl et ht) ?_))
    rintro h2 ⟨w2, K, L⟩
    refine k_e (nz_gr211_0 K.N) (k_b (cz_marks K L V) ?_)
    rintro _ ⟨h3, rfl, K3⟩
    refine k_b (cz_as K3.N (Or.inl rfl) sh_212 ⟨rfl, rfl⟩ hi (by decide)) ?_
    intro h4 R4
    refine k_s ⟨(nI_succ i).symm, _, fc1.ui (Or.inl rfl), R4, fun j hj => ?_⟩
    rw [tz_ui_n (by decide), tz_ui_a]
    by_cases q : j = i
    · subst q
      rw [A2, pk_us, hv, if_pos p]
      refine ⟨rfl, fun _ => ?_⟩
      unfold sp_cM
      rw [el, et, nI_clamp (n := l) (by omega), nI_clamp (n := t) (by omega)]
      rfl
    · rw [pk_un q]
      exact A1 j (by omega)
  · rw [if_neg p] at hv
    refine k_t hv (k_s ⟨(nI_succ i).symm, s2, fc1, R1, fun j hj => ?_⟩)
    by_cases q : j = i
    · subst q
      rw [A2, hv, if_neg p]
      exact ⟨rfl, fun x => absurd x p⟩
    · exact A1 j (by omega)
theorem cz_call (R : cz_N s0 W h) (V : vz W) {x : Int32} : k_ok (F2_call 211 223 x h) (fun h1 => ∃ s1, tz_fc s0 s1 ∧ cz_N s1 W h1 ∧ cz_W s1 (sp_cP W x) (sp_cM W)) := by
  have hn : wz_n W 3 ≤ 60 := V.c (k := 3) (by omega)
  unfold F2_call F2_call_0 F2_call_2
  refine k_g (nz_io211 R) ?_
  refine wh_i (n := 60) (fun (i : Nat) (z : Int32 × m_H) => z.1 = nI i ∧ cz_cI s0 W x i z.2) _ ?_ ?_ m_N 0 _ (N_lt (by decide)) (Nat.zero_le _) ⟨rfl, s0, ⟨rfl, fun _ _ => rfl, rfl⟩, R, fun j hj => absurd hj (by omega)⟩
  · rintro i ⟨y, h1⟩ hi ⟨q1, I⟩
    dsimp only at q1 I
    subst q1
    have R1 : ∃ s1, cz_N s1 W h1 := by obtain ⟨s1, -, R1, -⟩ := I; exact ⟨s1, R1⟩
    obtain ⟨s1, R1⟩ := R1
    have le0 : m_len h1 212 = some 60 := by obtain ⟨s, rfl, -⟩ := R1; exact le_212
    have le1 : m_len h1 213 = some 60 := by obtain ⟨s, rfl, -⟩ := R1; exact le_213
    have g60 : ¬ (60 : Int32) ≤ nI i := nI_ge hi (by decide)
    have fin : ∀ {o : Option ((Int32 × m_H) ⊕ m_H)}, k_ok o (m_KK (fun z => z.1 = nI (i + 1) ∧ cz_cI s0 W x (i + 1) z.2) (fun _ => False)) → k_ok o (m_KK (fun z => z.1 = nI (i + 1) ∧ cz_cI s0 W x (i + 1) z.2) (fun h1 => ∃ s1, tz_fc s0 s1 ∧ cz_N s1 W h1 ∧ cz_W s1 (sp_cP W x) (sp_cM W))) := by
      intro o hk
      refine k_m hk (fun z hz => ?_)
      cases z with
      | inl z => exact hz
      | inr z => exact hz.elim
    have no : ∀ {v}, ¬ (i < wz_n W 3 ∧ ¬ W 3 i 2 - W 3 i 4 ≤ 0 ∧ W 3 i 1 = x) → v = (0 : Int32) → v = if sp_cP W x i = true then 1 else 0 := by
      intro v h e
      rw [e, if_neg (fun y => h (sp_cP_iff.mp y))]
    unfold F2_call_2b
    dsimp only
    refine k_e (nz_gr211_0 R1) (k_e le0 (k_f g60 (k_e (nz_gr211_1 R1) (k_e le1 (k_f g60 (k_e (nz_gr211_1 R1) (k_e (nz_gr223_9 R1) (k_e (cz_has R1 (k := 3) (by decide) rfl) ?_))))))))
    by_cases c1 : i < wz_n W 3
    · rw [if_neg (fun y => y.elim (nI_pos (by omega)) (nI_ge c1 (by omega)))]
      refine k_f (by decide) (k_e (cz_lack R1 c1) (k_if (fun q => ?_) (fun q => ?_)))
      · unfold F2_call_61
        exact fin (cz_call62 V hi I (no (fun y => y.2.1 q) rfl))
      · refine k_e (nz_gr223_9 R1) (k_e (cz_g3_1 R1 rfl c1) (k_if (fun q2 => ?_) (fun q2 => ?_)))
        · exact fin (cz_call62 V hi I (by rw [if_pos (sp_cP_iff.mpr ⟨c1, q, q2⟩)]))
        · unfold F2_call_61
          exact fin (cz_call62 V hi I (no (fun y => q2 y.2.2) rfl))
    · rw [if_pos (Or.inr (nI_le (by omega) (by omega)))]
      refine k_t rfl ?_
      unfold F2_call_61
      exact fin (cz_call62 V hi I (no (fun y => c1 y.1) rfl))
  · rintro ⟨y, h1⟩ ⟨q1, s1, fc, R1, A⟩
    dsimp only at q1 R1
    subst q1
    have le0 : m_len h1 212 = some 60 := by obtain ⟨s, rfl, -⟩ := R1; exact le_212
    unfold F2_call_2b
    dsimp only
    exact k_e (nz_gr211_0 R1) (k_e le0 (k_t (show (60 : Int32) ≤ nI 60 by decide) (k_s ⟨s1, fc, R1, A⟩)))
end
