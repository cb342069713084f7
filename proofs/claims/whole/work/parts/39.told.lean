/-! ===== what was told for a week; tellings ===== -/
theorem wz_cm {W : m_W} {k r c k' r' c' : Nat} {v v' : Int32} (h : ¬ k = k') : wz_up (wz_up W k r c v) k' r' c' v' = wz_up (wz_up W k' r' c' v') k r c v := by
  funext x y z
  unfold wz_up
  by_cases q : x = k ∧ y = r ∧ z = c
  · by_cases q' : x = k' ∧ y = r' ∧ z = c'
    · exact absurd (q.1.symm.trans q'.1) h
    · simp only [if_pos q, if_neg q']
  · simp only [if_neg q]
def sp_tf (W : m_W) (k : Nat) (a b : Int32) (r : Nat) (p : Int32 × Int32) : Int32 × Int32 := if W k r 0 = a then (if b < W k r 1 then p else if W k r 1 < p.1 then p else (W k r 1, W k r 2)) else p
def sp_told (W : m_W) (k : Nat) (a b : Int32) : Int32 := (sp_it (sp_tf W k a b) (wz_n W k) (-1, 0)).2
def sp_tells (W : m_W) (k : Nat) (a b n : Int32) : Int32 × m_W := if wz_n W k < 100 then (nI (wz_n W k + 1), wz_up (wz_up (wz_up (wz_up W (20 + k) 0 0 (nI (wz_n W k + 1))) k (wz_n W k) 0 a) k (wz_n W k) 1 b) k (wz_n W k) 2 n) else (-1, W)
section
variable {s0 : tz_S} {th : Int32} {W : m_W} {h : m_H}
theorem cz_told (R : cz_N s0 W h) {k v : Nat} {a b : Int32} (hk : k = 1 ∨ k = 7) (hv : v = 223 + 2 + 2 * k) : F3_toldFor v a b h = some (sp_told W k a b) := by
  have hk14 : k < 14 := by omega
  have hw : wz_wid k = 3 := by rcases hk with rfl | rfl <;> rfl
  have hp : ∀ c, wz_pi k c = c := by rcases hk with rfl | rfl <;> exact fun _ => rfl
  have hn : wz_n W k ≤ 100 := by
    obtain ⟨s, -, H, -⟩ := R
    exact Nat.le_trans (H.2.2 k hk14).2.2 (wz_cap_le k (List.mem_range.mpr hk14))
  unfold F3_toldFor F3_toldFor_0 F3_toldFor_8
  refine wh_s (fun i => ((sp_it (sp_tf W k a b) i (-1, 0)).1, (sp_it (sp_tf W k a b) i (-1, 0)).2, nI i)) _ (wz_n W k) 0 m_N (N_lt (by omega)) (Nat.zero_le _) ?_ ?_
  · intro i _ hi
    unfold F3_toldFor_8b
    dsimp only
    rw [cz_size R hk14 hv, bz_s, iz_f (nI_ge hi (by omega)), cz_get R (r := i) (c := 1) (y := 1) hk14 hv rfl hi rfl (by omega), bz_s, cz_get R (r := i) (c := 0) (y := 0) hk14 hv rfl hi rfl (by omega), bz_s, hp, hp, ← nI_succ]
    show _ = some (Sum.inl ((sp_tf W k a b i (sp_it (sp_tf W k a b) i (-1, 0))).1, (sp_tf W k a b i (sp_it (sp_tf W k a b) i (-1, 0))).2, nI (i + 1)))
    generalize sp_it (sp_tf W k a b) i (-1, 0) = p
    unfold sp_tf
    by_cases c1 : W k i 0 = a
    · rw [iz_t c1, if_pos c1]
      by_cases c2 : b < W k i 1
      · rw [iz_t c2, if_pos c2]
      · rw [iz_f c2, if_neg c2]
        by_cases c3 : W k i 1 < p.1
        · rw [iz_t c3]
          rw [if_pos c3]
        · rw [iz_f c3, cz_get R (r := i) (c := 2) (y := 2) hk14 hv rfl hi rfl (by omega), bz_s, hp]
          rw [if_neg c3]
    · rw [iz_f c1, if_neg c1]
  · unfold F3_toldFor_8b
    dsimp only
    rw [cz_size R hk14 hv, bz_s, iz_t (nI_le (Nat.le_refl _) (by omega))]
    rfl
theorem rz_told (R : rz_N s0 th W h) {k lo : Nat} {a b : Int32} (hk : k = 1 ∧ lo = 205 ∨ k = 7 ∧ lo = 506) (hn : W (20 + k) 0 0 = nI (wz_n W k)) (hn2 : wz_n W k ≤ 100) (hz : ∀ r, r < wz_n W k → ¬ W k r 1 < -1) : F12_toldOf 317 (nI lo) a b h = some (sp_told W k a b) := by
  have hix : ∀ r c, wz_ix k r c = lo + 1 + 3 * r + c := by
    rcases hk with ⟨rfl, rfl⟩ | ⟨rfl, rfl⟩
    · intro r c; show 206 + (3 * r + c) = 205 + 1 + 3 * r + c; omega
    · intro r c; show 507 + (3 * r + c) = 506 + 1 + 3 * r + c; omega
  have hv : ∀ r c, r < 100 → c < 3 → wz_v k r c := by
    rcases hk with ⟨rfl, rfl⟩ | ⟨rfl, rfl⟩ <;> exact fun r c h1 h2 => ⟨by decide, h1, h2⟩
  have hlo : lo ≤ 506 := by omega
  have hc : m_ai h 0 318 (nI lo) = some (nI (wz_n W k)) := by
    rcases hk with ⟨rfl, rfl⟩ | ⟨rfl, rfl⟩
    · rw [← hn]; exact rz_c1 R
    · rw [← hn]; exact rz_c7 R
  have hg : ∀ r c, r < 100 → c < 3 → ∀ j, j = nI (lo + 1 + 3 * r + c) → m_ai h 0 318 j = some (W k r c) := fun r c h1 h2 j hj => rz_get R (by rw [hix]; exact hj) (hv r c h1 h2)
  unfold F12_toldOf F12_toldOf_0 F12_toldOf_8
  rw [rz_io R, gz_s]
  have e1 : nI lo + 1 = nI (lo + 1) := (nI_succ lo).symm
  have key : k_ok (m_wh (fun s => F12_toldOf_8b 317 (nI lo) a b h s) m_N (-1, nI lo + 1)) (fun x => x = sp_told W k a b) := by
    refine wh_i (n := wz_n W k) (fun i s => s.2 = nI (lo + 1 + 3 * i) ∧ ((s.1 = -1 ∧ sp_it (sp_tf W k a b) i (-1, 0) = (-1, 0)) ∨ ∃ r, r < i ∧ s.1 = nI (lo + 1 + 3 * r) ∧ sp_it (sp_tf W k a b) i (-1, 0) = (W k r 1, W k r 2))) _ ?_ ?_ m_N 0 _ (N_lt (by omega)) (Nat.zero_le _) ⟨e1, Or.inl ⟨rfl, rfl⟩⟩
    · rintro i ⟨f, x⟩ hi ⟨a1, a2⟩
      dsimp only at a1 a2
      subst a1
      unfold F12_toldOf_8b
      dsimp only
      have e2 : nI (lo + 1 + 3 * i) + 3 = nI (lo + 1 + 3 * (i + 1)) := by
        show nI (lo + 1 + 3 * i) + nI 3 = _
        rw [nI_add]; congr 1
      refine k_e (rz_gr1 R) (k_e hc (k_f ?_ ?_))
      · show ¬ (nI lo + nI 1 + nI 3 * nI (wz_n W k) ≤ nI (lo + 1 + 3 * i))
        rw [nI_mul, nI_add, nI_add]
        exact nI_ge (by omega) (by omega)
      refine k_e (rz_gr1 R) (k_e (hg i 0 (by omega) (by omega) _ rfl) ?_)
      have hs : sp_it (sp_tf W k a b) (i + 1) (-1, 0) = sp_tf W k a b i (sp_it (sp_tf W k a b) i (-1, 0)) := rfl
      refine k_if (fun c1 => ?_) (fun c1 => k_s ⟨e2, ?_⟩)
      · refine k_e (rz_gr1 R) (k_e (hg i 1 (by omega) (by omega) _ (nI_succ _).symm) ?_)
        refine k_if (fun c2 => k_s ⟨e2, ?_⟩) (fun c2 => ?_)
        · rw [hs, sp_tf, if_pos c1, if_pos c2]
          exact a2.imp_right fun ⟨r, h1, h2⟩ => ⟨r, by omega, h2⟩
        · rcases a2 with ⟨rfl, a2⟩ | ⟨r, hr, rfl, a2⟩
          · refine k_t (by decide) (k_s ⟨e2, Or.inr ⟨i, by omega, rfl, ?_⟩⟩)
            rw [hs, sp_tf, if_pos c1, if_neg c2, a2, if_neg (hz i hi)]
          · refine k_f (nI_pos (by omega)) ?_
            refine k_e (rz_gr1 R) (k_e (hg i 1 (by omega) (by omega) _ (nI_succ _).symm) (k_e (rz_gr1 R) (k_e (hg r 1 (by omega) (by omega) _ (nI_succ _).symm) ?_)))
            refine k_if (fun c3 => k_s ⟨e2, ?_⟩) (fun c3 => k_s ⟨e2, ?_⟩)
            · refine Or.inr ⟨r, by omega, rfl, ?_⟩
              rw [hs, sp_tf, if_pos c1, if_neg c2, a2, if_pos c3]
            · refine Or.inr ⟨i, by omega, rfl, ?_⟩
              rw [hs, sp_tf, if_pos c1, if_neg c2, a2, if_neg c3]
      · rw [hs, sp_tf, if_neg c1]
        exact a2.imp_right fun ⟨r, h1, h2⟩ => ⟨r, by omega, h2⟩
    · rintro ⟨f, x⟩ ⟨a1, a2⟩
      dsimp only at a1 a2
      subst a1
      unfold F12_toldOf_8b
      dsimp only
      refine k_e (rz_gr1 R) (k_e hc (k_t ?_ ?_))
      · show nI lo + nI 1 + nI 3 * nI (wz_n W k) ≤ nI (lo + 1 + 3 * wz_n W k)
        rw [nI_mul, nI_add, nI_add]
        exact nI_le (Nat.le_refl _) (by omega)
      rcases a2 with ⟨rfl, a2⟩ | ⟨r, hr, rfl, a2⟩
      · refine k_f (by decide) (k_s ?_)
        show (0 : Int32) = sp_told W k a b
        unfold sp_told
        rw [a2]
      · refine k_t (nI_pos' (by omega)) ?_
        refine k_e (rz_gr1 R) (k_e (hg r 2 (by omega) (by omega) _ ?_) (k_s ?_))
        · show nI (lo + 1 + 3 * r) + nI 2 = _
          rw [nI_add]
        · show W k r 2 = sp_told W k a b
          unfold sp_told
          rw [a2]
  obtain ⟨x, e, rfl⟩ := key
  exact e
theorem cz_tell (R : cz_N s0 W h) {k v : Nat} {a b n : Int32} (hk : k = 1 ∨ k = 7) (hv : v = 223 + 2 + 2 * k) (hz : wz_n W k < 100 → ∀ c, c < 3 → W k (wz_n W k) c = 0) : k_ok (F3_tell v a b n h) (fun z => ∃ h1, z = ((sp_tells W k a b n).1, h1) ∧ cz_N s0 (sp_tells W k a b n).2 h1) := by
  have hk14 : k < 14 := by omega
  have hw : wz_wid k = 3 := by rcases hk with rfl | rfl <;> rfl
  have hp : ∀ c, wz_pi k c = c := by rcases hk with rfl | rfl <;> exact fun _ => rfl
  have hcap : wz_cap k = 100 := by rcases hk with rfl | rfl <;> rfl
  unfold F3_tell F3_tell_0 sp_tells
  by_cases q : wz_n W k < 100
  · rw [if_pos q]
    refine k_b (cz_add R hk14 hv (by omega) (by rw [hw]; exact hz q)) ?_
    rintro _ ⟨h1, rfl, R1⟩
    have hn1 : wz_n (wz_up W (20 + k) 0 0 (nI (wz_n W k + 1))) k = wz_n W k + 1 := by
      show (wz_up W (20 + k) 0 0 (nI (wz_n W k + 1)) (20 + k) 0 0).toNatClampNeg = _
      rw [wz_up_s, nI_clamp (by omega)]
    refine k_f (fun e => ?_) ?_
    · have := nI_pos (n := wz_n W k) (by omega)
      rw [show nI (wz_n W k) = -1 from e] at this
      exact this (by decide)
    refine k_b (cz_set R1 (k := k) (r := wz_n W k) (c := 0) (u := a) hk14 hv rfl (by omega) rfl (by omega)) ?_
    intro h2 R2
    refine k_b (cz_set R2 (k := k) (r := wz_n W k) (c := 1) (u := b) hk14 hv rfl (by rw [wz_n_up (by omega)]; omega) rfl (by omega)) ?_
    intro h3 R3
    refine k_b (cz_set R3 (k := k) (r := wz_n W k) (c := 2) (u := n) hk14 hv rfl (by rw [wz_n_up (by omega), wz_n_up (by omega)]; omega) rfl (by omega)) ?_
    intro h4 R4
    refine k_e (cz_size R4 hk14 hv) (k_s ?_)
    rw [wz_n_up (by omega), wz_n_up (by omega), wz_n_up (by omega), hn1]
    rw [hp, hp, hp] at R4
    exact ⟨h4, rfl, R4⟩
  · rw [if_neg q]
    refine k_e (cz_add0 R hk14 hv (by omega)) (k_t rfl (k_s ⟨h, rfl, R⟩))
theorem rz_tells (R : rz_N s0 th W h) {k lo : Nat} {a b n : Int32} (hk : k = 1 ∧ lo = 205 ∨ k = 7 ∧ lo = 506) (hn : W (20 + k) 0 0 = nI (wz_n W k)) (hn2 : wz_n W k ≤ 100) : k_ok (F12_tells 317 (nI lo) a b n h) (fun z => ∃ h1, z = ((sp_tells W k a b n).1, h1) ∧ rz_N s0 th (sp_tells W k a b n).2 h1) := by
  have hix : ∀ r c, wz_ix k r c = lo + 1 + 3 * r + c := by
    rcases hk with ⟨rfl, rfl⟩ | ⟨rfl, rfl⟩
    · intro r c; show 206 + (3 * r + c) = 205 + 1 + 3 * r + c; omega
    · intro r c; show 507 + (3 * r + c) = 506 + 1 + 3 * r + c; omega
  have hv : ∀ r c, r < 100 → c < 3 → wz_v k r c := by
    rcases hk with ⟨rfl, rfl⟩ | ⟨rfl, rfl⟩ <;> exact fun r c h1 h2 => ⟨by decide, h1, h2⟩
  have hvc : wz_v (20 + k) 0 0 ∧ wz_ix (20 + k) 0 0 = lo := by
    rcases hk with ⟨rfl, rfl⟩ | ⟨rfl, rfl⟩ <;> exact ⟨⟨by decide, by decide, by decide⟩, rfl⟩
  have hc : m_ai h 0 318 (nI lo) = some (nI (wz_n W k)) := by
    rw [← hn]
    exact rz_get R (by rw [hvc.2]) hvc.1
  have hix2 : ∀ (c m : Nat), m = c + 1 → nI lo + nI m + 3 * nI (wz_n W k) = nI (wz_ix k (wz_n W k) c) := by
    intro c m hm
    rw [hix]
    show nI lo + nI m + nI 3 * nI (wz_n W k) = _
    rw [nI_mul, nI_add, nI_add]
    congr 1
    omega
  unfold F12_tells F12_tells_0 sp_tells
  refine k_g (rz_io R) (k_e (rz_gr1 R) (k_e hc ?_))
  by_cases q : wz_n W k < 100
  · rw [if_pos q]
    refine k_f (fun e => ?_) ?_
    · have := (nI_eq (a := wz_n W k) (b := 100) (by omega) (by omega)).mp e
      omega
    refine k_e (rz_gr1 R) (k_b (rz_set R (k := k) (r := wz_n W k) (c := 0) (hix2 0 1 rfl) (hv _ _ q (by omega))) ?_)
    intro h1 R1
    refine k_e (rz_gr1 R1) (k_b (rz_set R1 (k := k) (r := wz_n W k) (c := 1) (hix2 1 2 rfl) (hv _ _ q (by omega))) ?_)
    intro h2 R2
    refine k_e (rz_gr1 R2) (k_b (rz_set R2 (k := k) (r := wz_n W k) (c := 2) (hix2 2 3 rfl) (hv _ _ q (by omega))) ?_)
    intro h3 R3
    refine k_e (rz_gr1 R3) (k_e (rz_get R3 (k := 20 + k) (r := 0) (c := 0) (by rw [hvc.2]) hvc.1) ?_)
    rw [wz_up_k (by omega), wz_up_k (by omega), wz_up_k (by omega), hn, ← nI_succ]
    refine k_b (rz_set R3 (k := 20 + k) (r := 0) (c := 0) (by rw [hvc.2]) hvc.1) ?_
    intro h4 R4
    refine k_s ⟨h4, rfl, ?_⟩
    rw [wz_cm (show ¬ k = 20 + k by omega), wz_cm (show ¬ k = 20 + k by omega), wz_cm (show ¬ k = 20 + k by omega)] at R4
    exact R4
  · rw [if_neg q]
    refine k_t ?_ (k_s ⟨h, rfl, R⟩)
    rw [show wz_n W k = 100 by omega]
    rfl
end
