/-! ===== HULLS: the class plans ===== -/
def sp_h1 (W : m_W) (s : Nat) (z : Nat × (Nat → Nat)) : Nat × (Nat → Nat) := if W 4 s 2 = 0 ∧ z.1 < 6 then (z.1 + 1, hP z.2 z.1 s) else z
def sp_hs (W : m_W) (i : Nat) : Nat × (Nat → Nat) := sp_it (sp_h1 W) i (0, fun _ => 0)
def sp_hk (W : m_W) : Nat := (sp_hs W (wz_n W 4)).1
def sp_hD (W : m_W) : Nat → Nat := (sp_hs W (wz_n W 4)).2
def sp_hh (W : m_W) (z : Nat × (Nat → Nat)) (m : Nat) : Int := if m < z.1 then (W 4 (z.2 m) 0).toInt else 0
def sp_hH (W : m_W) : Nat → Int := sp_hh W (sp_hs W (wz_n W 4))
def sp_hR (W : m_W) (l : Nat) : Int := if 1 ≤ l ∧ l < 6 then (sp_told W 7 (nI l) (W 14 0 0 + 1)).toInt else 0
def sp_hL (W : m_W) (l : Nat) : Int := (W 5 l 3).toInt
def sp_hq (W : m_W) : Option (Int × (Nat → Nat)) := hS (sp_hH W) (sp_hR W) (sp_hk W) 0 (sp_hL W) 0 (fun _ => 0) none
def sp_fd (D : Nat → Nat) (x : Int32) (b : Nat → Nat) : Nat → Nat → Int32
  | 0, _ => -1
  | j + 1, i => if nI (D i) = x then nI (b i) else sp_fd D x b j (i + 1)
def sp_hulls (W : m_W) (x : Int32) : Int32 := match sp_hq W with
  | none => -1
  | some z => if x = -1 then nI z.1.toNat else sp_fd (sp_hD W) x z.2 (sp_hk W) 0
theorem hR_cong {H H' : Nat → Int} : ∀ j i, (∀ m, i ≤ m → m < i + j → H m = H' m) → hR H i j = hR H' i j
  | 0, _, _ => rfl
  | j + 1, i, h => by
    show H i + hR H (i + 1) j = H' i + hR H' (i + 1) j
    rw [h i (Nat.le_refl _) (by omega), hR_cong j (i + 1) (fun m h1 h2 => h m (by omega) (by omega))]
theorem hR_last {H : Nat → Int} : ∀ j i, hR H i (j + 1) = hR H i j + H (i + j)
  | 0, i => by
    show H i + 0 = 0 + H (i + 0)
    rw [Nat.add_zero]
    omega
  | j + 1, i => by
    show H i + hR H (i + 1) (j + 1) = H i + hR H (i + 1) j + H (i + (j + 1))
    rw [hR_last j (i + 1), show i + 1 + j = i + (j + 1) by omega]
    omega
theorem hS_b {H R : Nat → Int} (h : ∀ i l, 0 ≤ H i * R l) : ∀ j i L c p q, 0 ≤ c → (∀ z, q = some z → 0 ≤ z.1 ∧ z.1 < hBIG) → ∀ z, hS H R j i L c p q = some z → 0 ≤ z.1 ∧ z.1 < hBIG
  | 0, i, L, c, p, q, hc, hq => by
    unfold hS
    split
    · next f =>
      intro z e
      cases e
      refine ⟨hc, ?_⟩
      have f2 : c < hV q := f.2
      cases q with
      | none => exact f2
      | some y =>
        have := hq y rfl
        have f2 : c < y.1 := f2
        show c < hBIG
        omega
    · exact hq
  | j + 1, i, L, c, p, q, hc, hq => by
    rw [hW_6]
    have key : ∀ n, ∀ z, hW H R j i L c p q n = some z → 0 ≤ z.1 ∧ z.1 < hBIG := by
      intro n
      induction n with
      | zero => exact hq
      | succ n ih =>
        rw [hW_s]
        have := h i n
        exact hS_b h j (i + 1) _ _ _ _ (by omega) ih
    exact key 6
theorem hV_le {q : Option (Int × (Nat → Nat))} (h : ∀ z, q = some z → 0 ≤ z.1 ∧ z.1 < hBIG) : hV q ≤ hBIG := by
  cases q with
  | none => exact Int.le_refl _
  | some y => have := h y rfl; show y.1 ≤ hBIG; omega
theorem sp_told_p {W : m_W} {k : Nat} {a b : Int32} {P : Int32 → Prop} (h0 : P 0) (h : ∀ r, r < wz_n W k → W k r 0 = a → P (W k r 2)) : P (sp_told W k a b) := by
  unfold sp_told
  have key : ∀ n, n ≤ wz_n W k → P (sp_it (sp_tf W k a b) n (-1, 0)).2 := by
    intro n
    induction n with
    | zero => intro _; exact h0
    | succ n ih =>
      intro hn
      rw [sp_it_s]
      unfold sp_tf
      split
      · next e =>
        split
        · exact ih (by omega)
        · split
          · exact ih (by omega)
          · exact h n (by omega) e
      · exact ih (by omega)
  exact key _ (Nat.le_refl _)
section
variable {s0 : tz_S} {th : Int32} {W : m_W} {h : m_H}
theorem sp_hs_6 : ∀ i, (sp_hs W i).1 ≤ 6
  | 0 => Nat.zero_le _
  | i + 1 => by
    have := sp_hs_6 i
    show (sp_h1 W i (sp_hs W i)).1 ≤ 6
    unfold sp_h1
    split
    · next c => exact c.2
    · exact this
theorem sp_hs_D : ∀ i, ∀ m, m < (sp_hs W i).1 → (sp_hs W i).2 m < i
  | 0, m, hm => absurd hm (Nat.not_lt_zero m)
  | i + 1, m, hm => by
    have ih := sp_hs_D i
    have e : sp_hs W (i + 1) = sp_h1 W i (sp_hs W i) := rfl
    rw [e] at hm ⊢
    unfold sp_h1 at hm ⊢
    split
    · next c =>
      rw [if_pos c] at hm
      show hP _ _ _ m < i + 1
      unfold hP
      split
      · omega
      · next q =>
        have hm : m < (sp_hs W i).1 + 1 := hm
        have := ih m (by omega)
        omega
    · next c =>
      rw [if_neg c] at hm
      have := ih m hm
      omega
theorem sp_hH_b (V : vz W) (m : Nat) : 0 ≤ sp_hH W m ∧ sp_hH W m ≤ 5000 := by
  unfold sp_hH sp_hh
  split
  · next q =>
    have r := (V.row (k := 4) (by omega) (sp_hs_D (W := W) _ m q)).1
    have a := Int32.le_iff_toInt_le.mp r.1
    have b := Int32.le_iff_toInt_le.mp r.2
    have e1 : (1 : Int32).toInt = 1 := rfl
    have e2 : (5000 : Int32).toInt = 5000 := rfl
    omega
  · exact ⟨Int.le_refl _, by decide⟩
theorem sp_hR_b (V : vz W) (l : Nat) : 0 ≤ sp_hR W l ∧ sp_hR W l ≤ 100 := by
  unfold sp_hR
  split
  · exact sp_told_p (P := fun v => 0 ≤ v.toInt ∧ v.toInt ≤ 100) ⟨by decide, by decide⟩ (fun r hr _ => by
      have R := (V.row (k := 7) (by omega) hr).2.1
      exact ⟨i_nn R.1, Int32.le_iff_toInt_le.mp R.2⟩)
  · exact ⟨by decide, by decide⟩
theorem sp_hR_0 (V : vz W) : sp_told W 7 (nI 0) (W 14 0 0 + 1) = 0 := sp_told_p (P := fun v => v = 0) rfl (fun r hr e => absurd e (V.row (k := 7) (by omega) hr).2.2)
theorem sp_hR_e (V : vz W) {l : Nat} (hl : l < 6) : (sp_told W 7 (nI l) (W 14 0 0 + 1)).toInt = sp_hR W l := by
  unfold sp_hR
  by_cases q : 1 ≤ l
  · rw [if_pos ⟨q, hl⟩]
  · rw [if_neg (fun x => q x.1), show l = 0 by omega, sp_hR_0 V]
    rfl
def hz_A (s0 : tz_S) (W : m_W) (c a b : Nat) (D : Nat → Nat) (h : m_H) : Prop := ∃ s, h = tz_H s ∧ tz_HR s 223 W ∧ tz_fr s0 s ∧ s.1 216 6 = nI c ∧ s.1 216 7 = 1000000000 ∧ (∀ m, m < a → s.2.1 218 m = W 4 (D m) 0) ∧ ∀ m, m < b → s.2.1 217 m = nI (D m)
section
variable {c a b : Nat} {D : Nat → Nat}
theorem hz_A.N (A : hz_A s0 W c a b D h) : cz_N s0 W h := by
  obtain ⟨s, e, a, b, -⟩ := A
  exact ⟨s, e, a, b⟩
theorem hz_A.k (A : hz_A s0 W c a b D h) : m_gi h 216 4 6 = some (nI c) := by
  obtain ⟨s, rfl, a, b, c1, -⟩ := A
  rw [gi_216_6, c1]
theorem hz_A.hold (A : hz_A s0 W c a b D h) {m : Nat} (hm : m < a) (h6 : m < 6) : m_ai h 0 218 (nI m) = some (W 4 (D m) 0) := by
  obtain ⟨s, rfl, x, y, c1, c2, c3, c4⟩ := A
  exact (tz_ai sh_218 ⟨rfl, rfl⟩ (nI_in1 h6 (by decide))).trans (by rw [nI_clamp (by omega), c3 m hm])
theorem hz_A.ps (A : hz_A s0 W c a b D h) (hb : b < 6) (hab : a ≤ b) {t : Nat} : k_ok (m_si h 0 217 (nI b) (nI t)) (hz_A s0 W c a (b + 1) (hP D b t)) := by
  obtain ⟨s, rfl, x, y, c1, c2, c3, c4⟩ := A
  refine ⟨_, (tz_si sh_217 ⟨rfl, rfl⟩ (nI_in1 hb (by decide))).trans (by rw [nI_clamp (by omega)]; rfl), tz_ui s 217 (upd (s.2.1 217) b (nI t)), rfl, hz_HRi x (by decide), y.trans (tz_fr.ui (by decide) (by decide) (by decide)), c1, c2, fun m hm => ?_, fun m hm => ?_⟩
  · rw [tz_ui_n (by decide), c3 m hm]
    unfold hP
    rw [if_neg (by omega)]
  · rw [tz_ui_a]
    unfold hP
    by_cases q : m = b
    · subst q; rw [pk_us, if_pos rfl]
    · rw [pk_un q, if_neg q]; exact c4 m (by omega)
theorem hz_A.ph (A : hz_A s0 W c a b D h) (ha : a < 6) {v : Int32} (hv : W 4 (D a) 0 = v) : k_ok (m_si h 0 218 (nI a) v) (hz_A s0 W c (a + 1) b D) := by
  obtain ⟨s, rfl, x, y, c1, c2, c3, c4⟩ := A
  refine ⟨_, (tz_si sh_218 ⟨rfl, rfl⟩ (nI_in1 ha (by decide))).trans (by rw [nI_clamp (by omega)]; rfl), tz_ui s 218 (upd (s.2.1 218) a v), rfl, hz_HRi x (by decide), y.trans (tz_fr.ui (by decide) (by decide) (by decide)), c1, c2, fun m hm => ?_, fun m hm => ?_⟩
  · rw [tz_ui_a]
    by_cases q : m = a
    · subst q; rw [pk_us, hv]
    · rw [pk_un q]; exact c3 m (by omega)
  · rw [tz_ui_n (by decide)]; exact c4 m hm
theorem hz_A.pk (A : hz_A s0 W c a b D h) {c' : Nat} : k_ok (m_pf m_ft h 216 4 6 (.int (nI c'))) (hz_A s0 W c' a b D) := by
  obtain ⟨s, rfl, x, y, c1, c2, c3, c4⟩ := A
  exact ⟨_, pf_216_6, _, rfl, x.cong (fun y j h1 _ => if_neg (by omega)) (fun _ _ _ => rfl) rfl rfl, y.trans (tz_fr.uf (by decide) (by decide) (by decide)), tz_uf_s, (tz_uf_n (by decide)).trans c2, c3, c4⟩
end
/-- the lands' part -/
def hz_L (s0 : tz_S) (W : m_W) (c : Nat) (D : Nat → Nat) (i j : Nat) (h : m_H) : Prop := ∃ s, h = tz_H s ∧ tz_HR s 223 W ∧ tz_fr s0 s ∧ s.1 216 6 = nI c ∧ s.1 216 7 = 1000000000 ∧ (∀ m, m < c → s.2.1 218 m = W 4 (D m) 0) ∧ (∀ m, m < c → s.2.1 217 m = nI (D m)) ∧ (∀ l, l < i → s.2.1 222 l = W 5 l 3) ∧ ∀ l, l < j → s.2.1 221 l = sp_told W 7 (nI l) (W 14 0 0 + 1)
section
variable {c i j : Nat} {D : Nat → Nat}
theorem hz_L.N (A : hz_L s0 W c D i j h) : cz_N s0 W h := by
  obtain ⟨s, e, a, b, -⟩ := A
  exact ⟨s, e, a, b⟩
theorem hz_L.p1 (A : hz_L s0 W c D i j h) (hi : i < 6) : k_ok (m_si h 0 222 (nI i) (W 5 i 3)) (hz_L s0 W c D (i + 1) j) := by
  obtain ⟨s, rfl, x, y, c1, c2, c3, c4, c5, c6⟩ := A
  refine ⟨_, (tz_si sh_222 ⟨rfl, rfl⟩ (nI_in1 hi (by decide))).trans (by rw [nI_clamp (by omega)]; rfl), tz_ui s 222 (upd (s.2.1 222) i (W 5 i 3)), rfl, hz_HRi x (by decide), y.trans (tz_fr.ui (by decide) (by decide) (by decide)), c1, c2, fun m hm => ?_, fun m hm => ?_, fun m hm => ?_, fun m hm => ?_⟩
  · rw [tz_ui_n (by decide)]; exact c3 m hm
  · rw [tz_ui_n (by decide)]; exact c4 m hm
  · rw [tz_ui_a]
    by_cases q : m = i
    · subst q; rw [pk_us]
    · rw [pk_un q]; exact c5 m (by omega)
  · rw [tz_ui_n (by decide)]; exact c6 m hm
theorem hz_L.p2 (A : hz_L s0 W c D i j h) (hj : j < 6) : k_ok (m_si h 0 221 (nI j) (sp_told W 7 (nI j) (W 14 0 0 + 1))) (hz_L s0 W c D i (j + 1)) := by
  obtain ⟨s, rfl, x, y, c1, c2, c3, c4, c5, c6⟩ := A
  refine ⟨_, (tz_si sh_221 ⟨rfl, rfl⟩ (nI_in1 hj (by decide))).trans (by rw [nI_clamp (by omega)]; rfl), tz_ui s 221 (upd (s.2.1 221) j (sp_told W 7 (nI j) (W 14 0 0 + 1))), rfl, hz_HRi x (by decide), y.trans (tz_fr.ui (by decide) (by decide) (by decide)), c1, c2, fun m hm => ?_, fun m hm => ?_, fun m hm => ?_, fun m hm => ?_⟩
  · rw [tz_ui_n (by decide)]; exact c3 m hm
  · rw [tz_ui_n (by decide)]; exact c4 m hm
  · rw [tz_ui_n (by decide)]; exact c5 m hm
  · rw [tz_ui_a]
    by_cases q : m = j
    · subst q; rw [pk_us]
    · rw [pk_un q]; exact c6 m (by omega)
theorem hz_L.C (A : hz_L s0 W (sp_hk W) (sp_hD W) 6 6 h) (V : vz W) : hz_C s0 W (sp_hk W) (sp_hH W) (sp_hR W) (sp_hD W) (sp_hL W) (fun _ => 0) 0 none h := by
  obtain ⟨s, rfl, x, y, c1, c2, c3, c4, c5, c6⟩ := A
  refine ⟨s, rfl, x, y, c1, fun m hm => ?_, fun m hm => ?_, fun m hm => ?_, fun m hm => absurd hm (Nat.not_lt_zero m), c4, ?_, fun x e => by cases e⟩
  · rw [c3 m hm]
    exact (if_pos hm).symm
  · rw [c6 m hm]
    exact sp_hR_e V hm
  · rw [c5 m hm]
    rfl
  · rw [c2]
    rfl
end
theorem cz_plan120 (A : hz_L s0 W (sp_hk W) (sp_hD W) 0 0 h) (V : vz W) {x : Int32} (hx : x.toInt = hR (sp_hH W) 0 (sp_hk W)) : k_ok (F4_plan_120 216 223 x 0 h) (hz_C s0 W (sp_hk W) (sp_hH W) (sp_hR W) (sp_hD W) (sp_hL W) (fun _ => 0) 0 (sp_hq W)) := by
  have n5 := V.n5
  have k6 : sp_hk W ≤ 6 := sp_hs_6 _
  unfold F4_plan_120
  refine wh_i (n := 6) (fun (l : Nat) (z : Int32 × m_H) => z.1 = nI l ∧ hz_L s0 W (sp_hk W) (sp_hD W) l l z.2) _ ?_ ?_ m_N 0 _ (N_lt (by decide)) (Nat.zero_le _) ⟨rfl, A⟩
  · rintro l ⟨y, h1⟩ hl6 ⟨e1, A1⟩
    dsimp only at e1 A1
    subst e1
    unfold F4_plan_120b
    dsimp only
    refine k_f (i6f hl6) (k_e (nz_gr216_5 A1.N) (k_e (nz_le222 A1.N) (k_f (i6f hl6) (k_e (nz_gr216_4 A1.N) (k_e (nz_le221 A1.N) (k_f (i6f hl6) ?_))))))
    refine k_e (nz_gr216_5 A1.N) (k_e (nz_gr223_11 A1.N) (k_e (cz_g5_3 A1.N rfl (show l < wz_n W 5 by omega)) (k_b (A1.p1 hl6) ?_)))
    intro h2 A2
    refine k_e (nz_gr216_4 A2.N) (k_e (cz_i0 A2.N) (k_e (cz_riskIn A2.N) (k_b (A2.p2 hl6) ?_)))
    intro h3 A3
    exact k_s ⟨(nI_succ l).symm, A3⟩
  · rintro ⟨y, h1⟩ ⟨e1, A1⟩
    dsimp only at e1 A1
    subst e1
    unfold F4_plan_120b
    dsimp only
    refine k_t i6t ?_
    suffices P : k_ok (F4_plan_182 216 x h1) (hz_C s0 W (sp_hk W) (sp_hH W) (sp_hR W) (sp_hD W) (sp_hL W) (fun _ => 0) 0 (sp_hq W)) by
      obtain ⟨z, e, hz⟩ := P
      exact ⟨.inr z, by rw [e]; rfl, hz⟩
    unfold F4_plan_182
    have r0 : sp_hR W 0 = 0 := if_neg (fun q => absurd q.1 (by decide))
    refine k_b (cz_send k6 (sp_hH_b V) (sp_hR_b V) r0 (sp_hk W) m_FD 0 (by show sp_hk W + 1 ≤ 60; omega) (Nat.zero_add _) (sp_hL W) 0 (fun _ => 0) none h1 x 0 (fun l hl => ?_) hx rfl ⟨by decide, by decide⟩ (Int.le_refl _) (A1.C V)) ?_
    · have r5 : W 5 l 1 ≤ 0 ∧ (0 ≤ W 5 l 3 ∧ W 5 l 3 ≤ 100000) ∧ -100 ≤ W 5 l 1 := V.r5 hl
      have a1 := i_nn r5.2.1.1
      have a2 : (W 5 l 3).toInt ≤ 100000 := Int32.le_iff_toInt_le.mp r5.2.1.2
      unfold sp_hL
      exact ⟨by omega, a2⟩
    · intro h2 C2
      exact k_s C2
theorem cz_plan (R : cz_N s0 W h) (V : vz W) : k_ok (F4_plan 216 223 h) (hz_C s0 W (sp_hk W) (sp_hH W) (sp_hR W) (sp_hD W) (sp_hL W) (fun _ => 0) 0 (sp_hq W)) := by
  have hn : wz_n W 4 ≤ 12 := V.c (k := 4) (by omega)
  unfold F4_plan F4_plan_0
  refine k_g (nz_io216 R) ?_
  obtain ⟨s, rfl, H, fr⟩ := R
  have A0 : hz_A s0 W 0 0 0 (fun _ => 0) (tz_H (tz_uf (tz_uf s 216 6 0) 216 7 1000000000)) := by
    refine ⟨_, rfl, ?_, fr.trans ((tz_fr.uf (by decide) (by decide) (by decide)).trans (tz_fr.uf (by decide) (by decide) (by decide))), (tz_uf_n (by decide)).trans tz_uf_s, tz_uf_s, fun m hm => absurd hm (Nat.not_lt_zero m), fun m hm => absurd hm (Nat.not_lt_zero m)⟩
    exact (H.cong (s' := tz_uf s 216 6 0) (fun y j h1 _ => if_neg (by omega)) (fun _ _ _ => rfl) rfl rfl).cong (fun y j h1 _ => if_neg (by omega)) (fun _ _ _ => rfl) rfl rfl
  refine k_e pf_216_6 (k_e pf_216_7 ?_)
  generalize tz_H (tz_uf (tz_uf s 216 6 0) 216 7 1000000000) = h0 at A0
  unfold F4_plan_15
  refine wh_i (n := wz_n W 4) (fun (i : Nat) (z : Int32 × Int32 × m_H) => z.2.1 = nI i ∧ z.1.toInt = hR (sp_hh W (sp_hs W i)) 0 (sp_hs W i).1 ∧ hz_A s0 W (sp_hs W i).1 (sp_hs W i).1 (sp_hs W i).1 (sp_hs W i).2 z.2.2) _ ?_ ?_ m_N 0 _ (N_lt (by omega)) (Nat.zero_le _) ⟨rfl, rfl, A0⟩
  · rintro i ⟨x, y, h1⟩ hi ⟨q1, q2, A1⟩
    dsimp only at q1 q2 A1
    subst q1
    have z6 := sp_hs_6 (W := W) i
    have es : sp_hs W (i + 1) = sp_h1 W i (sp_hs W i) := rfl
    have fb : ∀ j, 0 ≤ hR (sp_hh W (sp_hs W i)) 0 j ∧ hR (sp_hh W (sp_hs W i)) 0 j ≤ 5000 * j := by
      intro j
      induction j with
      | zero => exact ⟨Int.le_refl _, Int.le_refl _⟩
      | succ n ih =>
        rw [hR_last]
        have : 0 ≤ sp_hh W (sp_hs W i) (0 + n) ∧ sp_hh W (sp_hs W i) (0 + n) ≤ 5000 := by
          unfold sp_hh
          split
          · next q =>
            have r := (V.row (k := 4) (by omega) (Nat.lt_trans (sp_hs_D (W := W) _ _ q) hi)).1
            have a := Int32.le_iff_toInt_le.mp r.1
            have b := Int32.le_iff_toInt_le.mp r.2
            have e1 : (1 : Int32).toInt = 1 := rfl
            have e2 : (5000 : Int32).toInt = 5000 := rfl
            omega
          · exact ⟨Int.le_refl _, by decide⟩
        omega
    have fb := fb (sp_hs W i).1
    rw [es]
    generalize sp_hs W i = z at q2 A1 z6 fb
    obtain ⟨c, D⟩ := z
    dsimp only at q2 A1 z6 fb
    have skip : ¬ (W 4 i 2 = 0 ∧ c < 6) → k_ok (some (.inl (x, nI i + 1, h1))) (m_KK (fun (z : Int32 × Int32 × m_H) => z.2.1 = nI (i + 1) ∧ z.1.toInt = hR (sp_hh W (sp_h1 W i (c, D))) 0 (sp_h1 W i (c, D)).1 ∧ hz_A s0 W (sp_h1 W i (c, D)).1 (sp_h1 W i (c, D)).1 (sp_h1 W i (c, D)).1 (sp_h1 W i (c, D)).2 z.2.2) (hz_C s0 W (sp_hk W) (sp_hH W) (sp_hR W) (sp_hD W) (sp_hL W) (fun _ => 0) 0 (sp_hq W))) := by
      intro q
      have e : sp_h1 W i (c, D) = (c, D) := if_neg q
      rw [e]
      exact k_s ⟨(nI_succ i).symm, q2, A1⟩
    unfold F4_plan_15b
    dsimp only
    refine k_e (nz_gr223_10 A1.N) (k_e (cz_z4 A1.N) (k_f (nI_ge hi (by omega)) (k_e (nz_gr223_10 A1.N) (k_e (cz_g4_2 A1.N rfl hi) (k_if (fun c0 => ?_) (fun c0 => skip (fun q => c0 q.1)))))))
    refine k_e A1.k (k_e (nz_gr216_0 A1.N) (k_e (nz_le217 A1.N) ?_))
    by_cases c6 : c < 6
    case neg =>
      exact k_t (nI_le (a := 6) (by omega) (by omega)) (skip (fun q => c6 q.2))
    refine k_f (i6f c6) (k_e A1.k (k_e (nz_gr216_1 A1.N) (k_e (nz_le218 A1.N) (k_f (i6f c6) (k_e (nz_gr216_0 A1.N) (k_e A1.k (k_b (A1.ps c6 (Nat.le_refl _)) ?_)))))))
    intro h2 A2
    refine k_e (nz_gr216_1 A2.N) (k_e A2.k (k_e (nz_gr223_10 A2.N) (k_e (cz_g4_0 A2.N rfl hi) (k_b (A2.ph c6 (show W 4 (hP D c i c) 0 = _ by unfold hP; rw [if_pos rfl])) ?_))))
    intro h3 A3
    refine k_e (nz_gr216_1 A3.N) (k_e A3.k (k_e (A3.hold (m := c) (by omega) c6) (k_e A3.k ?_)))
    rw [nI_1]
    refine k_b A3.pk ?_
    intro h4 A4
    have e : sp_h1 W i (c, D) = (c + 1, hP D c i) := if_pos ⟨c0, c6⟩
    rw [e]
    refine k_s ⟨(nI_succ i).symm, ?_, A4⟩
    dsimp only
    have hc : hP D c i c = i := if_pos rfl
    have r := (V.row (k := 4) (by omega) hi).1
    have a := Int32.le_iff_toInt_le.mp r.1
    have b := Int32.le_iff_toInt_le.mp r.2
    have e1 : (1 : Int32).toInt = 1 := rfl
    have e2 : (5000 : Int32).toInt = 5000 := rfl
    rw [hc, i_add (by omega) (by omega), hR_last, q2]
    have e3 : sp_hh W (c + 1, hP D c i) (0 + c) = (W 4 i 0).toInt := by
      unfold sp_hh
      dsimp only
      rw [if_pos (by omega), Nat.zero_add, hc]
    rw [e3]
    congr 1
    refine hR_cong c 0 (fun m h1 h2 => ?_)
    unfold sp_hh
    dsimp only
    rw [if_pos (by omega), if_pos (by omega)]
    unfold hP
    rw [if_neg (by omega)]
  · rintro ⟨x, y, h1⟩ ⟨q1, q2, A1⟩
    dsimp only at q1 q2 A1
    subst q1
    unfold F4_plan_15b
    dsimp only
    refine k_e (nz_gr223_10 A1.N) (k_e (cz_z4 A1.N) (k_t (nI_le (Nat.le_refl _) (by omega)) ?_))
    obtain ⟨s1, rfl, x1, x2, x3, x4, x5, x6⟩ := A1
    obtain ⟨z, e, hz⟩ := cz_plan120 (s0 := s0) (W := W) (h := tz_H s1) ⟨s1, rfl, x1, x2, x3, x4, x5, x6, fun l hl => absurd hl (Nat.not_lt_zero l), fun l hl => absurd hl (Nat.not_lt_zero l)⟩ V q2
    exact ⟨.inr z, by rw [e]; rfl, hz⟩
theorem sp_hq_b (V : vz W) : ∀ z, sp_hq W = some z → 0 ≤ z.1 ∧ z.1 < hBIG := hS_b (fun m l => Int.mul_nonneg (sp_hH_b V m).1 (sp_hR_b V l).1) _ _ _ _ _ _ (Int.le_refl 0) (fun z e => by cases e)
theorem cz_hulls (R : cz_N s0 W h) (V : vz W) {x : Int32} : k_ok (F11_hulls 200 x h) (fun z => ∃ h1, z = (sp_hulls W x, h1) ∧ cz_N s0 W h1) := by
  have k6 : sp_hk W ≤ 6 := sp_hs_6 _
  unfold F11_hulls F11_hulls_0
  refine k_g (nz_io200 R) (k_e (nz_gr200_3 R) (k_e (nz_gr200_4 R) (k_b (cz_plan R V) ?_)))
  intro h1 C
  have qb := sp_hq_b V
  obtain ⟨v, ev, hv⟩ := C.v
  have vb : (v = 1000000000 ↔ sp_hq W = none) ∧ ∀ z, sp_hq W = some z → v = nI z.1.toNat := by
    cases hq : sp_hq W with
    | none =>
      rw [hq] at hv
      exact ⟨⟨fun _ => rfl, fun _ => Int32.toInt_inj.mp hv⟩, fun z e => by cases e⟩
    | some y =>
      rw [hq] at hv
      have b := qb y hq
      have hv : v.toInt = y.1 := hv
      unfold hBIG at b
      refine ⟨⟨fun e => ?_, fun e => by cases e⟩, fun z e => ?_⟩
      · rw [e] at hv
        have : (1000000000 : Int32).toInt = 1000000000 := rfl
        omega
      · cases e
        apply Int32.toInt_inj.mp
        rw [hv, nI_toInt (by omega)]
        omega
  refine k_if (fun q => ?_) (fun q => ?_)
  · refine k_e (nz_gr200_3 C.N) ?_
    unfold F4_leastLost F4_leastLost_0
    have e : (m_gd (m_isO h1 4 216) (m_b (m_gi h1 216 4 7) fun v1 => m_if (v1 = 1000000000) (some (-1)) (m_b (m_gi h1 216 4 7) fun v4 => some v4))) = some (sp_hulls W x) := by
      rw [nz_io216 C.N, gz_s, ev, bz_s]
      unfold sp_hulls
      cases hq : sp_hq W with
      | none => rw [iz_t (vb.1.mpr hq)]
      | some y =>
        rw [iz_f (fun z => by rw [vb.1.mp z] at hq; cases hq), bz_s, vb.2 y hq]
        show _ = some (if x = -1 then nI y.1.toNat else _)
        rw [if_pos q]
    exact k_e e (k_s ⟨h1, rfl, C.N⟩)
  · refine k_e (nz_gr200_3 C.N) ?_
    suffices e : F4_landOf 216 x h1 = some (sp_hulls W x) from k_e e (k_s ⟨h1, rfl, C.N⟩)
    unfold F4_landOf F4_landOf_0 sp_hulls
    rw [nz_io216 C.N, gz_s, ev, bz_s]
    cases hq : sp_hq W with
    | none => rw [iz_t (vb.1.mpr hq)]
    | some y =>
      rw [iz_f (fun z => by rw [vb.1.mp z] at hq; cases hq)]
      dsimp only
      rw [if_neg q]
      rw [hq] at C
      have gs : ∀ m, m < sp_hk W → m_ai h1 0 217 (nI m) = some (nI (sp_hD W m)) ∧ m_ai h1 0 220 (nI m) = some (nI (y.2 m)) := by
        obtain ⟨s, rfl, x1, x2, x3, x4, x5, x6, x7, x8, x9, x10⟩ := C
        intro m hm
        exact ⟨(tz_ai sh_217 ⟨rfl, rfl⟩ (nI_in1 (show m < 6 by omega) (by decide))).trans (by rw [nI_clamp (by omega), x8 m hm]), (tz_ai sh_220 ⟨rfl, rfl⟩ (nI_in1 (show m < 6 by omega) (by decide))).trans (by rw [nI_clamp (by omega), x10 y rfl m hm])⟩
      have key : ∀ j i N, j < N → i + j = sp_hk W → m_wh (fun s => F4_landOf_13b 216 x h1 s) N (nI i) = some (sp_fd (sp_hD W) x y.2 j i) := by
        intro j
        induction j with
        | zero =>
          intro i N hN hij
          obtain ⟨N, rfl⟩ : ∃ M, N = M + 1 := ⟨N - 1, by omega⟩
          unfold m_wh F4_landOf_13b
          rw [C.cn, bz_s, iz_t (nI_le (by omega) (by omega))]
          rfl
        | succ j ih =>
          intro i N hN hij
          obtain ⟨N, rfl⟩ : ∃ M, N = M + 1 := ⟨N - 1, by omega⟩
          obtain ⟨g1, g2⟩ := gs i (by omega)
          unfold m_wh sp_fd
          have e : F4_landOf_13b 216 x h1 (nI i) = if nI (sp_hD W i) = x then some (.inr (nI (y.2 i))) else some (.inl (nI (i + 1))) := by
            unfold F4_landOf_13b
            rw [C.cn, bz_s, iz_f (nI_ge (by omega) (by omega)), nz_gr216_0 C.N, bz_s, nz_le217 C.N, bz_s, iz_f (i6f (by omega)), nz_gr216_3 C.N, bz_s, nz_le220 C.N, bz_s, iz_f (i6f (by omega)), bz_s, g1, bz_s]
            by_cases z : nI (sp_hD W i) = x
            · rw [iz_t z, if_pos z, bz_s, g2, bz_s]
            · rw [iz_f z, if_neg z, nI_1]
          rw [e]
          by_cases z : nI (sp_hD W i) = x
          · rw [if_pos z, if_pos z]
          · rw [if_neg z, if_neg z]
            exact ih (i + 1) N (by omega) (by omega)
      exact key (sp_hk W) 0 m_N (N_lt (by omega)) (Nat.zero_add _)
end
