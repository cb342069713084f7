/-! ===== a text: the class reads lines ===== -/
abbrev gL : Type := (Nat × gC × gY) ⊕ Nat
noncomputable def gHead (T : Nat → Nat) (n q : Nat) : (Int32 × Int32 × Nat) ⊕ Nat :=
  if lx_t T n q - 256 < 0 then .inr q else if lx_t T n q - 256 ≤ 3 then (if lx_t T n q - 256 = 1 ∨ lx_t T n q - 256 = 2 then (if lx_t T n (lx_n T n q) = 1 then (if lx_t T n q - 256 = 2 ∧ ¬ lx_v T n (lx_n T n q) ≤ 100 then .inr (lx_n T n q) else .inl (lx_t T n q - 256, lx_v T n (lx_n T n q), lx_n T n (lx_n T n q))) else .inr (lx_n T n q)) else .inl (lx_t T n q - 256, 0, lx_n T n q)) else .inr q
noncomputable def gTail (T : Nat → Nat) (n q : Nat) (c : gC) : gG := if lx_t T n q = 260 then gCond T n (gAtom T n m_FD 0) (lx_n T n q) c else .inl (q, c)
def gY_add (Y : gY) (a b e : Int32) : gY := (Y.1 + 1, fun j => if j = Y.1 then (a, b, e) else Y.2 j)
noncomputable def gEnd (a b : Int32) (Y : gY) (r : gG) : gL := match r with
  | .inl z => .inl (z.1, z.2, gY_add Y a b (nI z.2.length))
  | .inr e => .inr e
noncomputable def gLine (T : Nat → Nat) (n q : Nat) (c : gC) (Y : gY) : gL := match gHead T n q with
  | .inl z => gEnd z.1 z.2.1 Y (gTail T n z.2.2 c)
  | .inr e => .inr e
def gLR (s0 : tz_S) (W : m_W) (T : Nat → Nat) (n m : Nat) (r : gL) (h : m_H) : Prop := match r with
  | .inl z => ∃ i, i ≤ m ∧ lx_q T n i = z.1 ∧ pr s0 W T n m z.2.2 i z.2.1 h
  | .inr e => e ≤ n ∧ pb s0 W T n m (nI e) h
section
variable {s0 : tz_S} {W : m_W} {T : Nat → Nat} {n m : Nat} {Y : gY} {i : Nat} {c : gC} {w : Int32} {h : m_H}
theorem pr_numAt' (P : pr s0 W T n m Y i c h) (C : lx_c T n m) (hn : n ≤ 400) (hi : i ≤ m) : F9_numberAt 201 (nI i) h = some (lx_v T n (lx_q T n i)) := by
  have hm := lx_c_m C hn
  obtain ⟨s, rfl, H, b, t, -⟩ := P
  unfold F9_numberAt F9_numberAt_0
  rw [io_201, gz_s, iz_f (nI_pos (by omega)), gi_201_7, bz_s, t.2.1, iz_f (nI_ge (by omega) (by omega)), gr_201_6, bz_s, le_205, bz_s, iz_f (show ¬ (401 : Int32) ≤ nI i from nI_ge (b := 401) (by omega) (by decide)), bz_s, tz_ai sh_205 ⟨rfl, rfl⟩ (nI_in1 (show i < 401 by omega) (by decide)), bz_s, nI_clamp (by omega), (t.2.2 i (by omega)).2.2]
theorem cz_addLine (K : gK T n m) (P : pr s0 W T n m Y i c h) (hy : Y.1 < 12) {a b : Int32} : k_ok (F7_addLine 206 a b h) (pr s0 W T n m (gY_add Y a b (nI c.length)) i c) := by
  have N := P.N
  obtain ⟨s, rfl, H, fr, t, e1, e2, e3, e4, e5⟩ := P
  have g7 : m_gi (tz_H s) 206 5 7 = some (nI Y.1) := gi_206_7.trans (congrArg some e5.1)
  have l12 : ¬ (12 : Int32) ≤ nI Y.1 := nI_ge (b := 12) hy (by decide)
  unfold F7_addLine F7_addLine_0
  refine k_g io_206 (k_e (gi_206_3.trans (congrArg some e3)) (k_t rfl (k_e g7 (k_f (nI_pos (by omega)) (k_e g7 (k_e gr_206_4 (k_e le_208 (k_f l12 (k_e g7 (k_e gr_206_5 (k_e le_209 (k_f l12 (k_e g7 (k_e gr_206_6 (k_e le_210 (k_f l12 (k_e gr_206_4 (k_e g7 (k_e (tz_si sh_208 ⟨rfl, rfl⟩ (nI_in1 hy (by decide))) ?_)))))))))))))))))))
  rw [nI_clamp (by omega)]
  refine k_e gr_206_5 (k_e (gi_206_7.trans (congrArg some e5.1)) (k_e (tz_si sh_209 ⟨rfl, rfl⟩ (nI_in1 hy (by decide))) ?_))
  rw [nI_clamp (by omega)]
  refine k_e gr_206_6 (k_e (gi_206_7.trans (congrArg some e5.1)) (k_e (gi_206_9.trans (congrArg some e4.1)) (k_e (tz_si sh_210 ⟨rfl, rfl⟩ (nI_in1 hy (by decide))) ?_)))
  rw [nI_clamp (by omega)]
  refine k_e (gi_206_7.trans (congrArg some e5.1)) ?_
  rw [nI_1]
  have HR := hz_HRi (a := 210) (f := upd (s.2.1 210) Y.1 (nI c.length)) (hz_HRi (a := 209) (f := upd (s.2.1 209) Y.1 b) (hz_HRi (a := 208) (f := upd (s.2.1 208) Y.1 a) H (by decide)) (by decide)) (by decide)
  refine k_e pf_206_7 (k_s ⟨_, rfl, pr_HR HR, pr_fr (((fr.trans (tz_fr.ui (by decide) (by decide) (by decide))).trans (tz_fr.ui (by decide) (by decide) (by decide))).trans (tz_fr.ui (by decide) (by decide) (by decide))), (((t.ui (by decide)).ui (by decide)).ui (by decide)).uf, (tz_uf_n (by decide)).trans e1, (tz_uf_n (by decide)).trans e2, (tz_uf_n (by decide)).trans e3, ⟨(tz_uf_n (by decide)).trans e4.1, fun j hj => ?_⟩, tz_uf_s, fun j hj => ?_⟩)
  · show (tz_ui (tz_ui (tz_ui s 208 _) 209 _) 210 _).2.1 207 j = _
    rw [tz_ui_n (by decide), tz_ui_n (by decide), tz_ui_n (by decide)]
    exact e4.2 j hj
  · have hj : j < Y.1 + 1 := hj
    show (tz_ui (tz_ui (tz_ui s 208 _) 209 _) 210 _).2.1 208 j = _ ∧ (tz_ui (tz_ui (tz_ui s 208 _) 209 _) 210 _).2.1 209 j = _ ∧ (tz_ui (tz_ui (tz_ui s 208 _) 209 _) 210 _).2.1 210 j = _
    rw [tz_ui_a, tz_ui_n (by decide), tz_ui_n (by decide), tz_ui_a, tz_ui_n (by decide), tz_ui_a]
    unfold gY_add
    dsimp only
    by_cases q : j = Y.1
    · subst q
      rw [pk_us, pk_us, pk_us, if_pos rfl]
      exact ⟨rfl, rfl, rfl⟩
    · rw [pk_un q, pk_un q, pk_un q, if_neg q]
      exact e5.2 j (by omega)
theorem pb_addLine (P : pb s0 W T n m w h) (hw : ¬ w = -1) {a b : Int32} : k_ok (F7_addLine 206 a b h) (pb s0 W T n m w) := by
  unfold F7_addLine F7_addLine_0
  exact k_g (nz_io206 P.N) (k_e P.wr (k_f hw (k_s P)))
end
