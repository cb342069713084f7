/-! ===== act: the reference, whole, with what it leaves as it was ===== -/
/-- what act of the reference leaves as it was -/
def AF (s s' : tz_S) : Prop := RF s s' ∧ (∀ k, k = 4 ∨ k = 5 → s'.1 317 k = s.1 317 k) ∧ s'.2.1 319 = s.2.1 319 ∧ s'.2.1 320 = s.2.1 320 ∧ s'.2.2.1 333 = s.2.2.1 333
section
variable {s s1 : tz_S} {W : m_W} {T : Nat → Nat} {n t : Nat} {x : Int32}
theorem AF.trans {s2 : tz_S} (a : AF s s1) (c : AF s1 s2) : AF s s2 := ⟨a.1.trans c.1, fun k hk => (c.2.1 k hk).trans (a.2.1 k hk), c.2.2.1.trans a.2.2.1, c.2.2.2.1.trans a.2.2.2.1, c.2.2.2.2.trans a.2.2.2.2⟩
theorem AF.uf {k : Nat} {v : Int32} (h : ¬ (k = 4 ∨ k = 5)) : AF s (tz_uf s 317 k v) := ⟨⟨fun a j z => if_neg (fun y => z y.1), fun _ _ => rfl, rfl⟩, fun j hj => if_neg (fun y : 317 = 317 ∧ j = k => h (y.2 ▸ hj)), rfl, rfl, rfl⟩
theorem AF.q (F : tz_fq s s1) : AF s s1 := ⟨⟨fun a k z => F.1 a k (fun y => z y.1), fun a z => F.2.1 a (by omega), F.2.2.2⟩, fun k hk => F.1 317 k (by omega), F.2.1 319 (by omega), F.2.1 320 (by omega), F.2.2.1 333 (by omega)⟩
theorem AF.o (h1 : s1.1 = s.1) (h2 : ∀ a, ¬ a = 318 → s1.2.1 a = s.2.1 a) (h3 : s1.2.2 = s.2.2) : AF s s1 := ⟨⟨fun a k z => by rw [h1], fun a z => h2 a (by omega), by rw [h3]⟩, fun k hk => by rw [h1], h2 319 (by decide), h2 320 (by decide), by rw [h3]⟩
def rz_A2 (s : tz_S) (W : m_W) (T : Nat → Nat) (n t : Nat) (x : Int32) (z : Int32 × m_H) : Prop := ∃ s', z.2 = tz_H s' ∧ AF s s' ∧ s'.1 317 7 = 0 ∧ s'.2.1 321 = s.2.1 321 ∧
  ((¬ (W 14 0 0 ≤ x ∧ x ≤ 500) ∧ z.1 = 0 ∧ s'.1 317 0 = 1 ∧ s'.1 317 12 = s.1 317 12 ∧ tz_WR s' 318 W) ∨
   ((W 14 0 0 ≤ x ∧ x ≤ 500) ∧ ∃ e, gText T n = .inr e ∧ z.1 = 0 ∧ s'.1 317 0 = 1 ∧ s'.1 317 12 = nI e ∧ tz_WR s' 318 W) ∨
   ((W 14 0 0 ≤ x ∧ x ≤ 500) ∧ ∃ q c Y, gText T n = .inl (q, c, Y) ∧ t = 10 ∧ z.1 = 0 ∧ s'.1 317 0 = 2 ∧ s'.1 317 12 = -1 ∧ tz_WR s' 318 W) ∨
   ((W 14 0 0 ≤ x ∧ x ≤ 500) ∧ ∃ q c Y D, gText T n = .inl (q, c, Y) ∧ t < 10 ∧ z.1 = nI Y.1 ∧ s'.1 317 0 = 0 ∧ s'.1 317 12 = -1 ∧ tx_R (fun j => if j = 0 then x else if j = 1 then nI Y.1 else D j) c Y ∧ tz_WR s' 318 (sp_act W t x (nI Y.1) D)))
theorem rz_act2 (H : tz_WR s 318 W) (t0 : tpr s T n) (hn : n ≤ 400) (hT : ∀ j, j < n → T j < 256) (ht : t ≤ 10) (hW : W 37 0 0 = nI t) : k_ok (F12_act 317 x (tz_H s)) (rz_A2 s W T n t x) := by
  obtain ⟨s1, e1, f1, f2, g7, rt, g8⟩ := rz_uses t0
  have f21 : s1.2.1 = s.2.1 := congrArg Prod.fst f2
  have A1 : AF s s1 := ⟨⟨fun a k z => f1 a k (fun y => z y.1), fun a z => by rw [f21], by rw [f2]⟩, fun k hk => f1 317 k (by omega), by rw [f21], by rw [f21], by rw [f2]⟩
  have H1 : tz_WR s1 318 W := fun k r c hv => by rw [f21]; exact H k r c hv
  have R1 : rz_N s1 0 W (tz_H s1) := ⟨s1, rfl, H1, rt.1, tz_fq.refl⟩
  have b1 : s1.2.1 321 = s.2.1 321 := by rw [f21]
  have g12 : s1.1 317 12 = s.1 317 12 := f1 317 12 (by decide)
  have v37 : wz_v 37 0 0 := ⟨by decide, by decide, by decide⟩
  have r : ∀ s1 : tz_S, tz_WR s1 318 W → m_ai (tz_H s1) 0 318 (nI 28326) = some (nI t) := fun s1 H1 => (dr_ai (by decide)).trans (congrArg some ((H1 37 0 0 v37).trans hW))
  unfold F12_act F12_act_0
  refine k_g io_317 (k_e e1 (k_e (k_wk R1) (k_i (fun hin => ?_) (fun hin => ?_))))
  · unfold F12_act_24
    refine k_e th_0 (k_t rfl (k_b (rz_read H1 tz_fq.refl rt g8 hn hT) ?_))
    rintro ⟨v, h2⟩ R
    cases eT : gText T n with
    | inr e =>
      rw [eT] at R
      obtain ⟨ev, s2, e2, H2, F2, e0, e10⟩ := R
      dsimp only at ev e2 ⊢
      subst ev e2
      have c7 : s2.1 317 7 = 0 := (F2.1 317 7 (by decide)).trans g7
      have c321 : s2.2.1 321 = s.2.1 321 := (F2.2.1 321 (by decide)).trans b1
      unfold F12_act_51 F12_act_64
      refine k_f (by decide) (k_e (gi_317_10.trans (congrArg some e10)) (k_e pf_317_12 (k_f (by decide) (k_e th_1 (k_f (show ¬ (1 : Int32) = 0 by decide) (k_s ⟨_, rfl, ((A1.trans (AF.q F2)).trans (AF.uf (by decide))).trans (AF.uf (by decide)), (rg_uf (by decide)).trans ((rg_uf (by decide)).trans c7), c321, Or.inr (Or.inl ⟨hin, e, eT, rfl, tz_uf_s, (rg_uf (by decide)).trans tz_uf_s, H2⟩)⟩))))))
    | inl z =>
      obtain ⟨q, c, Y⟩ := z
      rw [eT] at R
      obtain ⟨ev, h12, d, p, b, hp, ek, s2, e2, H2, F2, rt2, e8, e10, e11, ec, ey⟩ := R
      dsimp only at ev e2 h12 ec ey ⊢
      subst ev e2
      have c7 : s2.1 317 7 = 0 := (F2.1 317 7 (by decide)).trans g7
      have c321 : s2.2.1 321 = s.2.1 321 := (F2.2.1 321 (by decide)).trans b1
      have pos : (0 : Int32) ≤ nI Y.1 := Int32.not_lt.mp (nI_pos (by omega))
      have H3 : tz_WR (tz_uf s2 317 12 (-1)) 318 W := H2
      unfold F12_act_51 F12_act_64
      refine k_t pos (k_e pf_317_12 (k_t pos (k_e th_0 (k_t rfl (k_e gr_317_1 (k_e (r _ H3) ?_))))))
      by_cases t10 : t = 10
      · unfold F12_act_90
        refine k_t (by rw [t10]; rfl) (k_e th_1 (k_f (show ¬ (1 : Int32) = 0 by decide) (k_s ⟨_, rfl, ((A1.trans (AF.q F2)).trans (AF.uf (by decide))).trans (AF.uf (by decide)), (rg_uf (by decide)).trans ((rg_uf (by decide)).trans c7), c321, Or.inr (Or.inr (Or.inl ⟨hin, q, c, Y, eT, t10, rfl, tz_uf_s, (rg_uf (by decide)).trans tz_uf_s, H2⟩))⟩)))
      · refine k_f (fun z => t10 (nI_e (m := 10) (by omega) (by decide) z)) (k_m (rz_act90 H3 (by omega) hW) ?_)
        rintro _ ⟨s', rfl, H4, j1, j2, j3⟩
        refine ⟨s', rfl, ((A1.trans (AF.q F2)).trans (AF.uf (by decide))).trans (AF.o j1 j2 j3), ?_, (j2 321 (by decide)).trans c321, Or.inr (Or.inr (Or.inr ⟨hin, q, c, Y, _, eT, by omega, rfl, ?_, ?_, ?_, H4⟩))⟩
        · rw [j1]; exact (rg_uf (by decide)).trans c7
        · rw [j1]; exact (rg_uf (by decide)).trans rt2.1
        · rw [j1]; exact tz_uf_s
        · refine ⟨rfl, fun j hj => ?_, fun j hj => ?_⟩
          · have y := ey.2 j hj
            dsimp only
            rw [if_neg (show ¬ 2 + 4 * j = 0 by omega), if_neg (show ¬ 2 + 4 * j = 1 by omega), if_neg (show ¬ 3 + 4 * j = 0 by omega), if_neg (show ¬ 3 + 4 * j = 1 by omega), if_neg (show ¬ 4 + 4 * j = 0 by omega), if_neg (show ¬ 4 + 4 * j = 1 by omega), if_neg (show ¬ 5 + 4 * j = 0 by omega), if_neg (show ¬ 5 + 4 * j = 1 by omega)]
            rw [show 36827 + (2 + 4 * j) = 36829 + 4 * j by omega, show 36827 + (3 + 4 * j) = 36830 + 4 * j by omega, show 36827 + (4 + 4 * j) = 36831 + 4 * j by omega, show 36827 + (5 + 4 * j) = 36832 + 4 * j by omega]
            exact y
          · have y := ec.2 j hj
            dsimp only
            rw [if_neg (by omega), if_neg (by omega), if_neg (by omega), if_neg (by omega)]
            rw [show 36827 + (50 + 2 * j) = 36877 + 2 * j by omega, show 36827 + (51 + 2 * j) = 36878 + 2 * j by omega]
            exact y
  · unfold F12_act_24
    exact k_e th_1 (k_f (show ¬ (1 : Int32) = 0 by decide) (k_s ⟨_, rfl, A1.trans (AF.uf (by decide)), (rg_uf (by decide)).trans g7, b1, Or.inl ⟨hin, rfl, tz_uf_s, (rg_uf (by decide)).trans g12, H1⟩⟩))
end
