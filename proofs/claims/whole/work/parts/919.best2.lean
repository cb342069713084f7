/-! ===== BEST ORDERS: the reference ===== -/
section
variable {s0 : tz_S} {th : Int32} {W : m_W} {h : m_H}
def hz_O (s0 : tz_S) (th : Int32) (W : m_W) (c : Nat) (D : Nat → Nat) (h : m_H) : Prop := ∃ s, h = tz_H s ∧ tz_WR s 318 W ∧ s.1 317 0 = th ∧ tz_fq s0 s ∧ ∀ m, m < c → s.2.1 331 m = nI (D m)
theorem hz_O.N {c : Nat} {D : Nat → Nat} (B : hz_O s0 th W c D h) : rz_N s0 th W h := by
  obtain ⟨s, e, a, b, c, -⟩ := B
  exact ⟨s, e, a, b, c⟩
theorem hz_O.at {c : Nat} {D : Nat → Nat} (B : hz_O s0 th W c D h) {m : Nat} (hm : m < c) (h8 : m < 8) : m_ai h 0 331 (nI m) = some (nI (D m)) := by
  obtain ⟨s, rfl, a, b, fr, c1⟩ := B
  exact (tz_ai sh_331 ⟨rfl, rfl⟩ (nI_in1 h8 (by decide))).trans (by rw [nI_clamp (by omega), c1 m hm])
theorem hz_O.p {c : Nat} {D : Nat → Nat} (B : hz_O s0 th W c D h) (hc : c < 8) {t : Nat} : k_ok (m_si h 0 331 (nI c) (nI t)) (hz_O s0 th W (c + 1) (hP D c t)) := by
  obtain ⟨s, rfl, a, b, fr, c1⟩ := B
  refine ⟨_, (tz_si sh_331 ⟨rfl, rfl⟩ (nI_in1 hc (by decide))).trans (by rw [nI_clamp (by omega)]; rfl), tz_ui s 331 (upd (s.2.1 331) c (nI t)), rfl, hz_WRi a (by decide), b, fr.trans (tz_fq.ui (by decide)), fun m hm => ?_⟩
  rw [tz_ui_a]
  unfold hP
  by_cases z : m = c
  · subst z; rw [pk_us, if_pos rfl]
  · rw [pk_un z, if_neg z]; exact c1 m (by omega)
theorem sp_os_stop {i : Nat} (h8 : (sp_os W i).1 = 8) : ∀ m, sp_os W (i + m) = sp_os W i
  | 0 => rfl
  | m + 1 => by
    show sp_o1 W (i + m) (sp_os W (i + m)) = _
    rw [sp_os_stop h8 m]
    unfold sp_o1
    rw [if_neg (fun x => by omega)]
theorem rz_best94 {k : Nat} {D : Nat → Nat} (B : hz_O s0 th W k D h) (V : vz W) (k8 : k ≤ 8) (hD : ∀ m, m < k → D m < wz_n W 2) {b : Nat} (hb : b < 512) {a : Int32 × Int32 × Int32} : F12_bestOrders_94 317 (nI k) a.1 a.2.1 a.2.2 (nI b) 0 0 0 0 h = some (.inl ((sp_bb W b (sp_bs W D b k) a).1, (sp_bb W b (sp_bs W D b k) a).2.1, (sp_bb W b (sp_bs W D b k) a).2.2, nI (b + 1))) := by
  have hn : wz_n W 2 ≤ 100 := V.c (k := 2) (by omega)
  have R := B.N
  obtain ⟨a1, a2, a3⟩ := a
  dsimp only
  unfold F12_bestOrders_94
  refine wh_s (fun i => ((sp_bs W D b i).1, (sp_bs W D b i).2.1, (sp_bs W D b i).2.2, nI i)) _ k 0 m_N (N_lt (by omega)) (Nat.zero_le _) ?_ ?_
  · intro i _ hi
    have hDi := hD i hi
    obtain ⟨-, bit⟩ := bt_u b (List.mem_range.mpr hb) i (List.mem_range.mpr (by omega))
    have e : sp_bs W D b (i + 1) = sp_b1 W D b i (sp_bs W D b i) := rfl
    rw [e]
    generalize sp_bs W D b i = u
    obtain ⟨u1, u2, u3⟩ := u
    unfold F12_bestOrders_94b sp_b1
    dsimp only
    rw [iz_f (nI_ge hi (by omega)), nI_succ i]
    by_cases q : ((nI b >>> (nI i &&& 31)) &&& 1) = 1
    · rw [if_pos q, iz_f (by rw [q]; decide), rz_gr24 R, bz_s, B.at hi (by omega), bz_s, rz_o1 R rfl (by omega), bz_s, rz_o0 R rfl (by omega), bz_s, rz_lsort R V (y := 1) (c := 1) hDi rfl (by decide), bz_s, bz_s, bz_s, rz_lsort R V (y := 2) (c := 2) hDi rfl (by decide), bz_s, bz_s, bz_s, k_wk R, bz_s, rz_priceOf R V, bz_s]
      rfl
    · rw [if_neg q, iz_t (bit.resolve_right q)]
  · generalize sp_bs W D b k = X
    obtain ⟨X, Y, Z⟩ := X
    unfold F12_bestOrders_94b F12_bestOrders_250 sp_bb
    dsimp only
    rw [iz_t (Int32.le_refl _), rz_gr1 R, bz_s, rz_w1 R, bz_s, nI_succ]
    by_cases c1 : W 14 0 1 < X
    · rw [iz_t c1, if_neg (fun z => z.1.1 c1)]
    rw [iz_f c1, bz_s, rz_w2 R, bz_s]
    by_cases c2 : W 14 0 2 < Y
    · rw [iz_t c2, if_neg (fun z => z.1.2 c2)]
    rw [iz_f c2]
    by_cases d2 : Z < a2
    · have d3 : ¬ a2 < Z := fun z => Int32.lt_irrefl (Int32.lt_trans d2 z)
      have d4 : ¬ Z = a2 := fun z => by rw [z] at d2; exact Int32.lt_irrefl d2
      rw [iz_t d2, if_neg (fun z => z.2.elim d3 (fun z => d4 z.1))]
    rw [iz_f d2]
    by_cases d4 : Z = a2
    · rw [iz_t d4]
      have d3 : ¬ a2 < Z := fun z => by rw [d4] at z; exact Int32.lt_irrefl z
      by_cases d5 : X < a3
      · rw [iz_t d5, if_pos ⟨⟨c1, c2⟩, Or.inr ⟨d4, Int32.not_le.mpr d5⟩⟩]
        rfl
      · rw [iz_f d5, if_neg (fun z => z.2.elim d3 (fun z => d5 (Int32.not_le.mp z.2)))]
    · have d3 : a2 < Z := Int32.not_le.mp (fun z => (Int32.lt_or_eq_of_le z).elim d2 d4)
      rw [iz_f d4, if_pos ⟨⟨c1, c2⟩, Or.inl d3⟩]
      rfl
theorem rz_bestOrders (R : rz_N s0 th W h) (V : vz W) : k_ok (F12_bestOrders 317 h) (fun z => ∃ h1, z = (sp_bestO W, h1) ∧ rz_N s0 0 W h1) := by
  have hcn := V.cap (k := 2) (by omega)
  have hn : wz_n W 2 ≤ 100 := hcn.2
  have e22 : W 22 0 0 = nI (wz_n W 2) := hcn.1
  have k8 := sp_os_8 (W := W) (wz_n W 2)
  have hD := sp_os_D (W := W) (wz_n W 2)
  unfold F12_bestOrders F12_bestOrders_0
  refine k_g (rz_io R) (k_b (rz_th R) ?_)
  intro h0 R0
  have fin : ∀ h1, hz_O s0 0 W (sp_os W (wz_n W 2)).1 (sp_os W (wz_n W 2)).2 h1 → k_ok ((F12_bestOrders_64 317 (nI (sp_os W (wz_n W 2)).1) h1).map (Sum.inr : Int32 × m_H → (Int32 × Int32 × m_H) ⊕ (Int32 × m_H))) (fun z => ∃ h2, z = .inr (sp_bestO W, h2) ∧ rz_N s0 0 W h2) := by
    intro h1 B
    unfold sp_bestO
    generalize sp_os W (wz_n W 2) = z at B k8 hD
    obtain ⟨k, D⟩ := z
    dsimp only at B k8 hD ⊢
    obtain ⟨e2, -⟩ := bt_2 k (List.mem_range.mpr (by omega))
    obtain ⟨l2, l1⟩ := bt_28 k (List.mem_range.mpr (by omega))
    unfold F12_bestOrders_64 F12_bestOrders_74
    have P : m_wh (fun s => F12_bestOrders_74b 317 (nI k) h1 s) m_N (0, 0, 0, 1) = some ((sp_bf W (k, D) (2 ^ k - 1)).1, h1) := by
      refine wh_s (fun j => ((sp_bf W (k, D) j).1, (sp_bf W (k, D) j).2.1, (sp_bf W (k, D) j).2.2, nI (j + 1))) _ (2 ^ k - 1) 0 m_N (N_lt (by omega)) (Nat.zero_le _) ?_ ?_
      · intro j _ hj
        have e : sp_bf W (k, D) (j + 1) = sp_bb W (j + 1) (sp_bs W D (j + 1) k) (sp_bf W (k, D) j) := rfl
        rw [e]
        generalize sp_bf W (k, D) j = a
        unfold F12_bestOrders_74b
        dsimp only
        rw [e2, iz_f (nI_ge (by omega) (by omega)), rz_best94 B V k8 hD (by omega)]
      · unfold F12_bestOrders_74b
        dsimp only
        rw [e2, show 2 ^ k - 1 + 1 = 2 ^ k by omega, iz_t (Int32.le_refl _)]
    rw [P]
    exact k_s ⟨h1, rfl, B.N⟩
  unfold F12_bestOrders_9
  have B0 : hz_O s0 0 W 0 (fun _ => 0) h0 := by
    obtain ⟨s, e, a, b, c⟩ := R0
    exact ⟨s, e, a, b, c, fun m hm => absurd hm (Nat.not_lt_zero m)⟩
  refine wh_i (n := wz_n W 2) (fun (i : Nat) (z : Int32 × Int32 × m_H) => z.1 = nI (sp_os W i).1 ∧ z.2.1 = nI i ∧ hz_O s0 0 W (sp_os W i).1 (sp_os W i).2 z.2.2) _ ?_ ?_ m_N 0 _ (N_lt (by omega)) (Nat.zero_le _) ⟨rfl, rfl, B0⟩
  · rintro i ⟨c, y, h1⟩ hi ⟨q1, q2, B1⟩
    dsimp only at q1 q2 B1
    subst q1 q2
    have i100 : i < 100 := by omega
    have z8 := sp_os_8 (W := W) i
    have es : sp_os W (i + 1) = sp_o1 W i (sp_os W i) := rfl
    have st := fun h8 => sp_os_stop (W := W) (i := i) h8 (wz_n W 2 - i)
    rw [show i + (wz_n W 2 - i) = wz_n W 2 by omega] at st
    unfold F12_bestOrders_9b
    dsimp only
    refine k_e (rz_gr1 B1.N) (k_e (rz_c2 B1.N) ?_)
    rw [e22]
    refine k_f (nI_ge hi (by omega)) ?_
    by_cases c8 : (sp_os W i).1 < 8
    case neg =>
      have st := st (by omega)
      refine k_t (nI_le (a := 8) (by omega) (by omega)) ?_
      rw [← st] at B1 ⊢
      obtain ⟨z, e, h2, rfl, hz⟩ := fin h1 B1
      exact ⟨_, e, h2, rfl, hz⟩
    refine k_f (show ¬ (8 : Int32) ≤ nI (sp_os W i).1 from nI_ge (b := 8) c8 (by decide)) (k_e (rz_isOrder B1.N i100) ?_)
    rw [es]
    generalize sp_os W i = z at B1 z8 c8
    obtain ⟨c, D⟩ := z
    dsimp only at B1 z8 c8
    have L := V.lot hi
    have skip : ¬ (W 2 i 2 = 0 ∧ W 2 i 5 = 0) → k_ok (some (.inl (nI c, nI i + 1, h1))) (m_KK (fun (z : Int32 × Int32 × m_H) => z.1 = nI (sp_o1 W i (c, D)).1 ∧ z.2.1 = nI (i + 1) ∧ hz_O s0 0 W (sp_o1 W i (c, D)).1 (sp_o1 W i (c, D)).2 z.2.2) (fun (z : Int32 × m_H) => ∃ h1, z = (sp_bestO W, h1) ∧ rz_N s0 0 W h1)) := by
      intro q
      have e : sp_o1 W i (c, D) = (c, D) := if_neg (fun x => q x.1)
      rw [e]
      exact k_s ⟨rfl, (nI_succ i).symm, B1⟩
    by_cases c1 : W 2 i 2 = 0 ∧ ¬ W 2 i 10 ≤ 0
    case neg =>
      rw [if_neg c1]
      refine k_t rfl (skip (fun q => c1 ⟨q.1, fun y => ?_⟩))
      have a := (L.2.2.2.2.2.2.2.2.2.1 q.1).2.1 q.2
      rw [a.1] at y
      exact absurd (Int32.le_trans a.2.1 y) (by decide)
    rw [if_pos c1]
    refine k_f (by decide) (k_e (rz_o5 B1.N rfl i100) (k_if (fun c5 => skip (fun q => by rw [q.2] at c5; exact absurd c5 (by decide))) (fun c5 => ?_)))
    have c5 : W 2 i 5 = 0 := L.2.2.2.2.1.elim id (fun y => absurd y c5)
    have e : sp_o1 W i (c, D) = (c + 1, hP D c i) := if_pos ⟨⟨c1.1, c5⟩, c8⟩
    rw [e]
    refine k_e (rz_gr24 B1.N) (k_b (B1.p c8) ?_)
    intro h2 B2
    exact k_s ⟨(nI_succ c).symm, (nI_succ i).symm, B2⟩
  · rintro ⟨c, y, h1⟩ ⟨q1, q2, B1⟩
    dsimp only at q1 q2 B1
    subst q1 q2
    unfold F12_bestOrders_9b
    dsimp only
    refine k_e (rz_gr1 B1.N) (k_e (rz_c2 B1.N) ?_)
    rw [e22]
    obtain ⟨z, e, h2, rfl, hz⟩ := fin h1 B1
    exact k_t (nI_le (Nat.le_refl _) (by omega)) ⟨_, e, h2, rfl, hz⟩
end
