/-! ===== HULLS: the reference searches ===== -/
def hz_v (q : Option (Int × (Nat → Nat))) (v : Int32) : Prop := match q with
  | none => v = -1
  | some z => v.toInt = z.1
def hz_R (s0 : tz_S) (th : Int32) (W : m_W) (k : Nat) (D : Nat → Nat) (T L : Nat → Int) (p : Nat → Nat) (i : Nat) (q : Option (Int × (Nat → Nat))) (h : m_H) : Prop :=
  ∃ s, h = tz_H s ∧ tz_WR s 318 W ∧ s.1 317 0 = th ∧ tz_fq s0 s ∧ (∀ m, m < k → s.2.1 327 m = nI (D m)) ∧ (∀ l, l < 6 → (s.2.1 330 l).toInt = T l - L l) ∧ (∀ m, m < i → s.2.1 328 m = nI (p m)) ∧ hz_v q (s.1 317 23) ∧ ∀ x, q = some x → ∀ m, m < k → s.2.1 329 m = nI (x.2 m)
section
variable {s0 : tz_S} {th : Int32} {W : m_W} {k : Nat} {H R : Nat → Int} {D : Nat → Nat} {T L : Nat → Int} {p : Nat → Nat} {i : Nat} {q : Option (Int × (Nat → Nat))} {h : m_H}
theorem hz_R.N (C : hz_R s0 th W k D T L p i q h) : rz_N s0 th W h := by
  obtain ⟨s, e, a, b, c, -⟩ := C
  exact ⟨s, e, a, b, c⟩
theorem hz_R.at (C : hz_R s0 th W k D T L p i q h) (hk : k ≤ 6) {m : Nat} (hm : m < k) : m_ai h 0 327 (nI m) = some (nI (D m)) := by
  obtain ⟨s, rfl, a, b, c, c1, -⟩ := C
  exact (tz_ai sh_327 ⟨rfl, rfl⟩ (nI_in1 (show m < 6 by omega) (by decide))).trans (by rw [nI_clamp (by omega), c1 m hm])
theorem hz_R.g (C : hz_R s0 th W k D T L p i q h) {m : Nat} (hm : m < 6) : ∃ v, m_ai h 0 330 (nI m) = some v ∧ v.toInt = T m - L m := by
  obtain ⟨s, rfl, a, b, c, c1, c2, -⟩ := C
  exact ⟨_, (tz_ai sh_330 ⟨rfl, rfl⟩ (nI_in1 hm (by decide))).trans (by rw [nI_clamp (by omega)]), c2 m hm⟩
theorem hz_R.to (C : hz_R s0 th W k D T L p i q h) {m : Nat} (hm : m < i) (h6 : m < 6) : m_ai h 0 328 (nI m) = some (nI (p m)) := by
  obtain ⟨s, rfl, a, b, c, c1, c2, c3, -⟩ := C
  exact (tz_ai sh_328 ⟨rfl, rfl⟩ (nI_in1 h6 (by decide))).trans (by rw [nI_clamp (by omega), c3 m hm])
theorem hz_R.v (C : hz_R s0 th W k D T L p i q h) : ∃ v, m_gi h 317 9 23 = some v ∧ hz_v q v := by
  obtain ⟨s, rfl, a, b, c, c1, c2, c3, c4, -⟩ := C
  exact ⟨_, gi_317_23, c4⟩
theorem hz_WRi {s : tz_S} {a : Nat} {f : Nat → Int32} (H : tz_WR s 318 W) (h : ¬ a = 318) : tz_WR (tz_ui s a f) 318 W := fun k r c hv => (congrFun (tz_ui_n (fun e => h e.symm)) _).trans (H k r c hv)
theorem hz_R.goal (C : hz_R s0 th W k D T L p i q h) (hi : i < 6) {l : Nat} : k_ok (m_si h 0 328 (nI i) (nI l)) (hz_R s0 th W k D T L (hP p i l) (i + 1) q) := by
  obtain ⟨s, rfl, a, b, c, c1, c2, c3, c4, c5⟩ := C
  have hx : ∀ x, ¬ x = 328 → (tz_ui s 328 (upd (s.2.1 328) i (nI l))).2.1 x = s.2.1 x := fun x h => tz_ui_n h
  refine ⟨_, (tz_si sh_328 ⟨rfl, rfl⟩ (nI_in1 hi (by decide))).trans (by rw [nI_clamp (by omega)]; rfl), tz_ui s 328 (upd (s.2.1 328) i (nI l)), rfl, hz_WRi a (by decide), b, c.trans (tz_fq.ui (by decide)), fun m hm => ?_, fun m hm => ?_, fun m hm => ?_, c4, fun x e m hm => ?_⟩
  · rw [hx _ (by decide)]; exact c1 m hm
  · rw [hx _ (by decide)]; exact c2 m hm
  · rw [tz_ui_a]
    unfold hP
    by_cases z : m = i
    · subst z; rw [pk_us, if_pos rfl]
    · rw [pk_un z, if_neg z]; exact c3 m (by omega)
  · rw [hx _ (by decide)]; exact c5 x e m hm
theorem hz_R.gath (C : hz_R s0 th W k D T L p i q h) {l : Nat} (hl : l < 6) {v : Int32} {x : Int} (hv : v.toInt = T l - x) : k_ok (m_si h 0 330 (nI l) v) (hz_R s0 th W k D T (hT L l x) p i q) := by
  obtain ⟨s, rfl, a, b, c, c1, c2, c3, c4, c5⟩ := C
  have hx : ∀ x, ¬ x = 330 → (tz_ui s 330 (upd (s.2.1 330) l v)).2.1 x = s.2.1 x := fun x h => tz_ui_n h
  refine ⟨_, (tz_si sh_330 ⟨rfl, rfl⟩ (nI_in1 hl (by decide))).trans (by rw [nI_clamp (by omega)]; rfl), tz_ui s 330 (upd (s.2.1 330) l v), rfl, hz_WRi a (by decide), b, c.trans (tz_fq.ui (by decide)), fun m hm => ?_, fun m hm => ?_, fun m hm => ?_, c4, fun x e m hm => ?_⟩
  · rw [hx _ (by decide)]; exact c1 m hm
  · rw [tz_ui_a]
    unfold hT
    by_cases z : m = l
    · subst z; rw [pk_us, if_pos rfl]; exact hv
    · rw [pk_un z, if_neg z]; exact c2 m hm
  · rw [hx _ (by decide)]; exact c3 m hm
  · rw [hx _ (by decide)]; exact c5 x e m hm
theorem hz_R.cut (C : hz_R s0 th W k D T L p (i + 1) q h) : hz_R s0 th W k D T L p i q h := by
  obtain ⟨s, rfl, a, b, c, c1, c2, c3, c4⟩ := C
  exact ⟨s, rfl, a, b, c, c1, c2, fun m hm => c3 m (by omega), c4⟩
theorem hz_R.unP {l : Nat} (C : hz_R s0 th W k D T L (hP p i l) i q h) : hz_R s0 th W k D T L p i q h := by
  obtain ⟨s, rfl, a, b, c, c1, c2, c3, c4⟩ := C
  exact ⟨s, rfl, a, b, c, c1, c2, fun m hm => (c3 m hm).trans (by unfold hP; rw [if_neg (by omega)]), c4⟩
/-- the best so far, being copied -/
theorem rz_send78 (C : hz_R s0 th W k D T L p k q h) (hk : k ≤ 6) {A : Nat → Int32 → Int32 → Int32 → m_H → Option m_H} {c : Int} {x : Int32} (hx : x.toInt = c) : k_ok (F12_sends_78 A 317 (nI k) x h) (hz_R s0 th W k D T L p k (some (c, p))) := by
  obtain ⟨s, rfl, a, b, fr, c1, c2, c3, c4, c5⟩ := C
  unfold F12_sends_78
  refine k_e pf_317_23 ?_
  have hx0 : (tz_uf s 317 23 x).2 = s.2 := rfl
  have hx1 : (tz_uf s 317 23 x).1 317 23 = x := tz_uf_s
  have hx2 : (tz_uf s 317 23 x).1 317 0 = th := (tz_uf_n (by decide)).trans b
  have fr1 : tz_fq s0 (tz_uf s 317 23 x) := fr.trans (tz_fq.uf (by decide))
  generalize tz_uf s 317 23 x = s1 at hx0 hx1 hx2 fr1
  have a1 : tz_WR s1 318 W := fun k r c hv => by rw [hx0]; exact a k r c hv
  unfold F12_sends_86
  refine wh_i (n := k) (fun (i : Nat) (z : Int32 × m_H) => z.1 = nI i ∧ ∃ s2, z.2 = tz_H s2 ∧ tz_fq s0 s2 ∧ s2.1 = s1.1 ∧ (∀ y, ¬ y = 329 → s2.2.1 y = s1.2.1 y) ∧ ∀ m, m < i → s2.2.1 329 m = nI (p m)) _ ?_ ?_ m_N 0 _ (N_lt (by omega)) (Nat.zero_le _) ⟨rfl, s1, rfl, fr1, rfl, fun _ _ => rfl, fun m hm => absurd hm (Nat.not_lt_zero m)⟩
  · rintro i ⟨y, h1⟩ hi ⟨e1, s2, e2, d1, d2, d3, d4⟩
    dsimp only at e1 e2
    subst e1 e2
    have ea : m_ai (tz_H s2) 0 328 (nI i) = some (nI (p i)) := (tz_ai sh_328 ⟨rfl, rfl⟩ (nI_in1 (show i < 6 by omega) (by decide))).trans (by rw [nI_clamp (by omega), d3 _ (by decide), hx0, c3 i hi])
    unfold F12_sends_86b
    dsimp only
    refine k_f (nI_ge hi (by omega)) (k_e gr_317_21 (k_e gr_317_20 (k_e ea (k_e (tz_si sh_329 ⟨rfl, rfl⟩ (nI_in1 (show i < 6 by omega) (by decide))) (k_s ⟨(nI_succ i).symm, _, rfl, d1.trans (tz_fq.ui (by decide)), d2, fun y hy => (tz_ui_n hy).trans (d3 y hy), fun m hm => ?_⟩)))))
    rw [tz_ui_a, nI_clamp (by omega)]
    by_cases z : m = i
    · subst z; rw [pk_us]; rfl
    · rw [pk_un z]; exact d4 m (by omega)
  · rintro ⟨y, h1⟩ ⟨e1, s2, e2, d1, d2, d3, d4⟩
    dsimp only at e1 e2
    subst e1 e2
    unfold F12_sends_86b
    dsimp only
    refine k_t (nI_le (Nat.le_refl _) (by omega)) (k_s ⟨s2, rfl, fun k r c hv => (congrFun (d3 318 (by decide)) _).trans (a1 k r c hv), by rw [d2]; exact hx2, d1, fun m hm => ?_, fun m hm => ?_, fun m hm => ?_, ?_, fun x e m hm => ?_⟩)
    · rw [d3 _ (by decide), hx0]; exact c1 m hm
    · rw [d3 _ (by decide), hx0]; exact c2 m hm
    · rw [d3 _ (by decide), hx0]; exact c3 m hm
    · show (s2.1 317 23).toInt = c
      rw [d2, hx1]
      exact hx
    · cases e
      exact d4 m hm
theorem rz_leaf (C : hz_R s0 th W k D T L p k q h) (hk : k ≤ 6) (hT : ∀ l, l < 6 → (W 5 l 3).toInt = T l) (hqb : ∀ z, q = some z → 0 ≤ z.1 ∧ z.1 < hBIG) {A : Nat → Int32 → Int32 → Int32 → m_H → Option m_H} {c : Int} {x : Int32} (hx : x.toInt = c) (hc : 0 ≤ c ∧ c < hBIG) : k_ok (F12_sends_11 A 317 (nI k) x 1 1 h) (hz_R s0 th W k D T L p k (hS H R 0 k L c p q)) := by
  have gt : ∀ l, l < 6 → ∃ v, m_ai h 0 330 (nI l) = some v ∧ (¬ v < W 5 l 3 ↔ L l ≤ 0) := by
    intro l hl
    obtain ⟨v, ev, hv⟩ := C.g hl
    refine ⟨v, ev, ?_⟩
    rw [Int32.lt_iff_toInt_lt, hv, hT l hl]
    omega
  unfold F12_sends_11
  refine wh_i (n := 5) (fun (i : Nat) (z : Int32 × Int32) => z.2 = nI (i + 1) ∧ (z.1 = 1 ∧ (∀ l, 1 ≤ l → l ≤ i → L l ≤ 0) ∨ z.1 = 0 ∧ ∃ l, 1 ≤ l ∧ l ≤ i ∧ ¬ L l ≤ 0)) _ ?_ ?_ m_N 0 _ (N_lt (by decide)) (Nat.zero_le _) ⟨rfl, Or.inl ⟨rfl, fun l h1 h2 => absurd h1 (by omega)⟩⟩
  · rintro i ⟨f, y⟩ hi ⟨e1, e2⟩
    dsimp only at e1 e2
    subst e1
    unfold F12_sends_11b
    dsimp only
    refine k_f (i6f (by omega)) ?_
    rcases e2 with ⟨rfl, e2⟩ | ⟨rfl, l, l1, l2, l3⟩
    · obtain ⟨v, ev, hv⟩ := gt (i + 1) (by omega)
      refine k_f (by decide) (k_e (rz_gr22 C.N) (k_e ev (k_e (rz_gr1 C.N) (k_e (rz_l5 C.N (c := 3) (show i + 1 < 6 by omega) (by decide)).1 (k_e (rz_l5 C.N (c := 3) (show i + 1 < 6 by omega) (by decide)).2 (k_if (fun z => k_s ⟨(nI_succ _).symm, Or.inr ⟨rfl, i + 1, by omega, Nat.le_refl _, fun w => hv.mpr w z⟩⟩) (fun z => k_s ⟨(nI_succ _).symm, Or.inl ⟨rfl, fun l h1 h2 => ?_⟩⟩)))))))
      by_cases w : l = i + 1
      · subst w; exact hv.mp z
      · exact e2 l h1 (by omega)
    · exact k_t rfl (k_s ⟨(nI_succ _).symm, Or.inr ⟨rfl, l, l1, by omega, l3⟩⟩)
  · rintro ⟨f, y⟩ ⟨e1, e2⟩
    dsimp only at e1 e2
    subst e1
    unfold F12_sends_11b
    dsimp only
    refine k_t i6t ?_
    have up : c < hV q → hF L → k_ok ((F12_sends_78 A 317 (nI k) x h).map (Sum.inr : m_H → (Int32 × Int32) ⊕ m_H)) (m_KK (fun _ => False) (hz_R s0 th W k D T L p k (hS H R 0 k L c p q))) := by
      intro w f
      obtain ⟨z, e, hz⟩ := rz_send78 (A := A) C hk hx
      refine ⟨.inr z, by rw [e]; rfl, ?_⟩
      show hz_R s0 th W k D T L p k (hS H R 0 k L c p q) z
      unfold hS
      rw [if_pos ⟨f, w⟩]
      exact hz
    have no : ¬ (hF L ∧ c < hV q) → k_ok (some (Sum.inr h : (Int32 × Int32) ⊕ m_H)) (m_KK (fun _ => False) (hz_R s0 th W k D T L p k (hS H R 0 k L c p q))) := by
      intro w
      refine k_s ?_
      show hz_R s0 th W k D T L p k (hS H R 0 k L c p q) h
      unfold hS
      rw [if_neg w]
      exact C
    rcases e2 with ⟨rfl, e2⟩ | ⟨rfl, l, l1, l2, l3⟩
    · have f : hF L := ⟨e2 1 (by decide) (by decide), e2 2 (by decide) (by decide), e2 3 (by decide) (by decide), e2 4 (by decide) (by decide), e2 5 (by decide) (by decide)⟩
      obtain ⟨v, ev, hv⟩ := C.v
      refine k_f (by decide) (k_e ev ?_)
      cases q with
      | none =>
        have hv : v = -1 := hv
        subst hv
        exact k_t (by decide) (up hc.2 f)
      | some z =>
        have hv : v.toInt = z.1 := hv
        have zb := hqb z rfl
        refine k_f (fun w => ?_) (k_e ev (k_if (fun w => up ?_ f) (fun w => no (fun u => w ?_))))
        · have := Int32.lt_iff_toInt_lt.mp w
          have e0 : (0 : Int32).toInt = 0 := rfl
          omega
        · have := Int32.lt_iff_toInt_lt.mp w
          show c < z.1
          omega
        · have u : c < z.1 := u.2
          exact Int32.lt_iff_toInt_lt.mpr (by omega)
    · refine k_t rfl (no (fun u => l3 ?_))
      obtain ⟨f1, f2, f3, f4, f5⟩ := u.1
      have : l = 1 ∨ l = 2 ∨ l = 3 ∨ l = 4 ∨ l = 5 := by omega
      rcases this with rfl | rfl | rfl | rfl | rfl <;> assumption
end
