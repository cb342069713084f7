/-! ===== a text: the class's reader, its steps ===== -/
abbrev gY : Type := Nat × (Nat → Int32 × Int32 × Int32)
def pr_t (s : tz_S) (T : Nat → Nat) (n m : Nat) : Prop := s.1 201 2 = nI n ∧ s.1 201 7 = nI (m + 1) ∧ ∀ i, i < m + 1 → s.2.1 203 i = lx_t T n (lx_q T n i) ∧ s.2.1 204 i = nI (lx_q T n i) ∧ s.2.1 205 i = lx_v T n (lx_q T n i)
def pr_c (s : tz_S) (c : gC) : Prop := s.1 206 9 = nI c.length ∧ ∀ j, j < c.length → s.2.1 207 j = tz_en (c.getD j (0, 0)).1 (c.getD j (0, 0)).2
def pr_y (s : tz_S) (Y : gY) : Prop := s.1 206 7 = nI Y.1 ∧ ∀ j, j < Y.1 → s.2.1 208 j = (Y.2 j).1 ∧ s.2.1 209 j = (Y.2 j).2.1 ∧ s.2.1 210 j = (Y.2 j).2.2
/-- reading goes well: at the i-th thing, so much code -/
def pr (s0 : tz_S) (W : m_W) (T : Nat → Nat) (n m : Nat) (Y : gY) (i : Nat) (c : gC) (h : m_H) : Prop := ∃ s, h = tz_H s ∧ tz_HR s 223 W ∧ tz_fr s0 s ∧ pr_t s T n m ∧ s.1 206 1 = nI i ∧ s.1 206 2 = lx_t T n (lx_q T n i) ∧ s.1 206 3 = -1 ∧ pr_c s c ∧ pr_y s Y
/-- a wrong byte was found -/
def pb (s0 : tz_S) (W : m_W) (T : Nat → Nat) (n m : Nat) (w : Int32) (h : m_H) : Prop := ∃ s, h = tz_H s ∧ tz_HR s 223 W ∧ tz_fr s0 s ∧ pr_t s T n m ∧ s.1 206 3 = w ∧ ∃ k, k ≤ 400 ∧ s.1 206 9 = nI k
section
variable {s0 : tz_S} {W : m_W} {T : Nat → Nat} {n m : Nat} {Y : gY} {i : Nat} {c : gC} {w : Int32} {h : m_H}
theorem pr.N (P : pr s0 W T n m Y i c h) : cz_N s0 W h := by
  obtain ⟨s, e, a, b, -⟩ := P
  exact ⟨s, e, a, b⟩
theorem pb.N (P : pb s0 W T n m w h) : cz_N s0 W h := by
  obtain ⟨s, e, a, b, -⟩ := P
  exact ⟨s, e, a, b⟩
theorem pr.at (P : pr s0 W T n m Y i c h) : m_gi h 206 5 1 = some (nI i) := by
  obtain ⟨s, rfl, a, b, d, e, -⟩ := P
  rw [gi_206_1, e]
theorem pr.th (P : pr s0 W T n m Y i c h) : m_gi h 206 5 2 = some (lx_t T n (lx_q T n i)) := by
  obtain ⟨s, rfl, a, b, d, e, f, -⟩ := P
  rw [gi_206_2, f]
theorem pr.wr (P : pr s0 W T n m Y i c h) : m_gi h 206 5 3 = some (-1) := by
  obtain ⟨s, rfl, a, b, d, e, f, g, -⟩ := P
  rw [gi_206_3, g]
theorem pb.at (P : pb s0 W T n m w h) : ∃ x, m_gi h 206 5 1 = some x := by
  obtain ⟨s, rfl, -⟩ := P
  exact ⟨_, gi_206_1⟩
theorem pb.th (P : pb s0 W T n m w h) : ∃ x, m_gi h 206 5 2 = some x := by
  obtain ⟨s, rfl, -⟩ := P
  exact ⟨_, gi_206_2⟩
theorem pb.wr (P : pb s0 W T n m w h) : m_gi h 206 5 3 = some w := by
  obtain ⟨s, rfl, a, b, d, e, -⟩ := P
  rw [gi_206_3, e]
theorem uf_201 {s : tz_S} {k j : Nat} {v : Int32} : (tz_uf s 206 k v).1 201 j = s.1 201 j := by
  show (if 201 = 206 ∧ j = k then v else s.1 201 j) = _
  rw [if_neg (fun q => absurd q.1 (by decide))]
theorem pr_t.uf {s : tz_S} (t : pr_t s T n m) {k : Nat} {v : Int32} : pr_t (tz_uf s 206 k v) T n m := ⟨uf_201.trans t.1, uf_201.trans t.2.1, t.2.2⟩
theorem pr_t.ui {s : tz_S} (t : pr_t s T n m) {a : Nat} {f : Nat → Int32} (ha : 207 ≤ a) : pr_t (tz_ui s a f) T n m := ⟨t.1, t.2.1, fun i hi => by rw [tz_ui_n (by omega), tz_ui_n (by omega), tz_ui_n (by omega)]; exact t.2.2 i hi⟩
theorem pr_c.uf {s : tz_S} (t : pr_c s c) {k : Nat} {v : Int32} (hk : ¬ 9 = k) : pr_c (tz_uf s 206 k v) c := ⟨(tz_uf_n hk).trans t.1, t.2⟩
theorem pr_y.uf {s : tz_S} (t : pr_y s Y) {k : Nat} {v : Int32} (hk : ¬ 7 = k) : pr_y (tz_uf s 206 k v) Y := ⟨(tz_uf_n hk).trans t.1, t.2⟩
theorem pr_y.ui {s : tz_S} (t : pr_y s Y) {f : Nat → Int32} : pr_y (tz_ui s 207 f) Y := ⟨t.1, fun j hj => by rw [tz_ui_n (by decide), tz_ui_n (by decide), tz_ui_n (by decide)]; exact t.2 j hj⟩
theorem pr_HR {s : tz_S} (H : tz_HR s 223 W) {k : Nat} {v : Int32} : tz_HR (tz_uf s 206 k v) 223 W := H.cong (fun y j h1 _ => if_neg (by omega)) (fun _ _ _ => rfl) rfl rfl
theorem pr_fr {s : tz_S} (b : tz_fr s0 s) {k : Nat} {v : Int32} : tz_fr s0 (tz_uf s 206 k v) := b.trans (tz_fr.uf (by decide) (by decide) (fun q => absurd q.1 (by decide)))
theorem lx_c_ge (C : lx_c T n m) : ∀ k, lx_q T n (m + k) = n
  | 0 => C.2
  | k + 1 => by
    show lx_n T n (lx_q T n (m + k)) = n
    rw [lx_c_ge C k]
    exact lx_n_end (Nat.le_refl _)
theorem lx_c_m (C : lx_c T n m) (hn : n ≤ 400) : m ≤ 400 := by
  rcases Nat.eq_zero_or_pos m with e | e
  · omega
  · have h1 := C.1 (m - 1) (by omega)
    have := lx_q_i h1
    omega
/-- a thing is looked at; what there is there -/
theorem pr_look {s : tz_S} (H : tz_HR s 223 W) (b : tz_fr s0 s) (t : pr_t s T n m) (C : lx_c T n m) (hn : n ≤ 400) {x : Int32} : ∃ v, F7_lookAt 206 x (tz_H s) = some (tz_H (tz_uf (tz_uf s 206 1 x) 206 2 v)) ∧ ∀ j, x = nI j → j < 2000 → v = lx_t T n (lx_q T n j) := by
  have hm := lx_c_m C hn
  have N : cz_N s0 W (tz_H (tz_uf s 206 1 x)) := ⟨_, rfl, pr_HR H, pr_fr b⟩
  have t1 := t.uf (k := 1) (v := x)
  have cn : m_gi (tz_H (tz_uf s 206 1 x)) 201 7 7 = some (nI (m + 1)) := by rw [gi_201_7, t1.2.1]
  unfold F7_lookAt F7_lookAt_0
  rw [io_206, gz_s, pf_206_1, bz_s]
  by_cases q : x < 0
  · refine ⟨0, by rw [iz_t q, pf_206_2, bz_s], fun j e hj => ?_⟩
    rw [e] at q
    exact absurd q (nI_pos (by omega))
  · obtain ⟨j0, hj0, rfl⟩ := nI_of q
    rw [iz_f q, nz_gr206_0 N, bz_s, cn, bz_s]
    by_cases q2 : m + 1 ≤ j0
    · refine ⟨0, by rw [iz_t (nI_le q2 hj0), pf_206_2, bz_s], fun j e hj => ?_⟩
      have e := nI_e hj0 (by omega) e
      subst e
      have := lx_c_ge C (j0 - m)
      rw [show m + (j0 - m) = j0 by omega] at this
      rw [this, lx_t_0 (Nat.le_refl _)]
    · refine ⟨lx_t T n (lx_q T n j0), ?_, fun j e hj => by rw [nI_e hj0 (by omega) e]⟩
      have e : m_ai (tz_H (tz_uf s 206 1 (nI j0))) 0 203 (nI j0) = some (lx_t T n (lx_q T n j0)) := (tz_ai sh_203 ⟨rfl, rfl⟩ (nI_in1 (show j0 < 401 by omega) (by decide))).trans (by rw [nI_clamp (by omega), (t1.2.2 j0 (by omega)).1])
      rw [iz_f (nI_ge (by omega) (by omega)), bz_s, nz_gr201_4 N, bz_s, nz_le203 N, bz_s, iz_f (show ¬ (401 : Int32) ≤ nI j0 from nI_ge (b := 401) (by omega) (by decide)), bz_s, nz_gr201_4 N, bz_s, e, bz_s, pf_206_2, bz_s]
theorem pr_next (P : pr s0 W T n m Y i c h) (C : lx_c T n m) (hn : n ≤ 400) {j : Nat} (hj : j < 2000) : k_ok (F7_lookAt 206 (nI j) h) (pr s0 W T n m Y j c) := by
  obtain ⟨s, rfl, H, b, t, e1, e2, e3, e4, e5⟩ := P
  obtain ⟨v, e, hv⟩ := pr_look H b t C hn (x := nI j)
  exact ⟨_, e, _, rfl, pr_HR (pr_HR H), pr_fr (pr_fr b), t.uf.uf, (tz_uf_n (by decide)).trans tz_uf_s, tz_uf_s.trans (hv j rfl hj), (tz_uf_n (by decide)).trans ((tz_uf_n (by decide)).trans e3), (e4.uf (by decide)).uf (by decide), (e5.uf (by decide)).uf (by decide)⟩
theorem pb_next (P : pb s0 W T n m w h) (C : lx_c T n m) (hn : n ≤ 400) {x : Int32} : k_ok (F7_lookAt 206 x h) (pb s0 W T n m w) := by
  obtain ⟨s, rfl, H, b, t, e3, k, hk, e4⟩ := P
  obtain ⟨v, e, hv⟩ := pr_look H b t C hn (x := x)
  exact ⟨_, e, _, rfl, pr_HR (pr_HR H), pr_fr (pr_fr b), t.uf.uf, (tz_uf_n (by decide)).trans ((tz_uf_n (by decide)).trans e3), k, hk, (tz_uf_n (by decide)).trans ((tz_uf_n (by decide)).trans e4)⟩
theorem pr_refuse (P : pr s0 W T n m Y i c h) (C : lx_c T n m) (hn : n ≤ 400) (hi : i < 2000) (hc : c.length ≤ 400) : k_ok (F7_refuse 206 h) (pb s0 W T n m (nI (lx_q T n i))) := by
  have hm := lx_c_m C hn
  have N := P.N
  unfold F7_refuse F7_refuse_0
  refine k_g (nz_io206 N) (k_e P.wr (k_t rfl (k_e P.at (k_f (nI_pos (by omega)) (k_e P.at (k_e (nz_gr206_0 N) ?_))))))
  obtain ⟨s, rfl, H, b, t, e1, e2, e3, e4, e5⟩ := P
  have fin : ∀ v : Int32, v = nI (lx_q T n i) → k_ok (m_b (m_pf m_ft (tz_H s) 206 5 3 (.int v)) fun h11 => some h11) (pb s0 W T n m (nI (lx_q T n i))) := fun v hv =>
    k_e pf_206_3 (k_s ⟨_, rfl, pr_HR H, pr_fr b, t.uf, tz_uf_s.trans hv, c.length, hc, (tz_uf_n (by decide)).trans e4.1⟩)
  refine k_e (gi_201_7.trans (congrArg some t.2.1)) ?_
  by_cases q : m + 1 ≤ i
  · refine k_t (nI_le q (by omega)) (k_e gr_206_0 (k_e (gi_201_2.trans (congrArg some t.1)) (fin _ ?_)))
    have := lx_c_ge C (i - m)
    rw [show m + (i - m) = i by omega] at this
    rw [this]
  · refine k_f (nI_ge (by omega) (by omega)) (k_e (gi_206_1.trans (congrArg some e1)) (k_e gr_206_0 (k_e gr_201_5 (k_e le_204 (k_f (show ¬ (401 : Int32) ≤ nI i from nI_ge (b := 401) (by omega) (by decide)) (k_e gr_206_0 (k_e gr_201_5 (k_e (gi_206_1.trans (congrArg some e1)) (k_e ((tz_ai sh_204 ⟨rfl, rfl⟩ (nI_in1 (show i < 401 by omega) (by decide))).trans (by rw [nI_clamp (by omega)])) (fin _ ?_))))))))))
    exact (t.2.2 i (by omega)).2.1
theorem pb_refuse (P : pb s0 W T n m w h) (hw : ¬ w = -1) : F7_refuse 206 h = some h := by
  unfold F7_refuse F7_refuse_0
  rw [nz_io206 P.N, gz_s, P.wr, bz_s, iz_f hw]
theorem pr_write (P : pr s0 W T n m Y i c h) (hc : c.length < 400) {v st nm : Int32} (hv : v = tz_en st nm) : k_ok (F7_write 206 v h) (pr s0 W T n m Y i (c ++ [(st, nm)])) := by
  have N := P.N
  obtain ⟨s, rfl, H, b, t, e1, e2, e3, e4, e5⟩ := P
  have g9 : m_gi (tz_H s) 206 5 9 = some (nI c.length) := gi_206_9.trans (congrArg some e4.1)
  unfold F7_write F7_write_0
  refine k_g io_206 (k_e g9 (k_f (nI_pos (by omega)) (k_e g9 (k_e gr_206_8 (k_e le_207 (k_f (show ¬ (400 : Int32) ≤ nI c.length from nI_ge (b := 400) hc (by decide)) (k_e gr_206_8 (k_e g9 (k_e (tz_si sh_207 ⟨rfl, rfl⟩ (nI_in1 hc (by decide))) ?_)))))))))
  rw [nI_clamp (by omega)]
  refine k_e (gi_206_9.trans (congrArg some e4.1)) ?_
  rw [nI_1]
  refine k_e pf_206_9 (k_s ⟨_, rfl, pr_HR (hz_HRi H (by decide)), pr_fr (b.trans (tz_fr.ui (by decide) (by decide) (by decide))), (t.ui (by decide)).uf, (tz_uf_n (by decide)).trans e1, (tz_uf_n (by decide)).trans e2, (tz_uf_n (by decide)).trans e3, ⟨tz_uf_s.trans (by rw [List.length_append]; rfl), fun j hj => ?_⟩, (e5.ui).uf (by decide)⟩)
  rw [List.length_append] at hj
  have hj : j < c.length + 1 := hj
  show (tz_ui s 207 (upd (s.2.1 207) c.length v)).2.1 207 j = _
  rw [tz_ui_a]
  by_cases q : j = c.length
  · subst q
    rw [pk_us, List.getD_eq_getElem?_getD, List.getElem?_append_right (Nat.le_refl _), Nat.sub_self]
    exact hv
  · rw [pk_un q, e4.2 j (by omega), List.getD_eq_getElem?_getD, List.getD_eq_getElem?_getD, List.getElem?_append_left (by omega)]
theorem pb_write (P : pb s0 W T n m w h) {v : Int32} : k_ok (F7_write 206 v h) (pb s0 W T n m w) := by
  obtain ⟨s, rfl, H, b, t, e3, k, hk, e4⟩ := P
  have g9 : m_gi (tz_H s) 206 5 9 = some (nI k) := gi_206_9.trans (congrArg some e4)
  unfold F7_write F7_write_0
  refine k_g io_206 (k_e g9 (k_f (nI_pos (by omega)) (k_e g9 (k_e gr_206_8 (k_e le_207 ?_)))))
  by_cases q : k < 400
  · refine k_f (show ¬ (400 : Int32) ≤ nI k from nI_ge (b := 400) q (by decide)) (k_e gr_206_8 (k_e g9 (k_e (tz_si sh_207 ⟨rfl, rfl⟩ (nI_in1 q (by decide))) (k_e (gi_206_9.trans (congrArg some e4)) ?_))))
    rw [nI_1]
    exact k_e pf_206_9 (k_s ⟨_, rfl, pr_HR (hz_HRi H (by decide)), pr_fr (b.trans (tz_fr.ui (by decide) (by decide) (by decide))), (t.ui (by decide)).uf, (tz_uf_n (by decide)).trans e3, k + 1, q, tz_uf_s⟩)
  · refine k_t (show (400 : Int32) ≤ nI k from nI_le (a := 400) (by omega) (by omega)) (k_s ⟨s, rfl, H, b, t, e3, k, hk, e4⟩)
theorem pr_numAt (P : pr s0 W T n m Y i c h) (C : lx_c T n m) (hn : n ≤ 400) (hi : i < m) : F9_numberAt 201 (nI i) h = some (lx_v T n (lx_q T n i)) := by
  have hm := lx_c_m C hn
  have N := P.N
  obtain ⟨s, rfl, H, b, t, -⟩ := P
  unfold F9_numberAt F9_numberAt_0
  rw [io_201, gz_s, iz_f (nI_pos (by omega)), gi_201_7, bz_s, t.2.1, iz_f (nI_ge (by omega) (by omega)), gr_201_6, bz_s, le_205, bz_s, iz_f (show ¬ (401 : Int32) ≤ nI i from nI_ge (b := 401) (by omega) (by decide)), bz_s, tz_ai sh_205 ⟨rfl, rfl⟩ (nI_in1 (show i < 401 by omega) (by decide)), bz_s, nI_clamp (by omega), (t.2.2 i (by omega)).2.2]
theorem pb_numAt (P : pb s0 W T n m w h) (C : lx_c T n m) (hn : n ≤ 400) {x : Int32} : ∃ v, F9_numberAt 201 x h = some v := by
  have hm := lx_c_m C hn
  obtain ⟨s, rfl, H, b, t, -⟩ := P
  unfold F9_numberAt F9_numberAt_0
  rw [io_201, gz_s]
  by_cases q : x < 0
  · exact ⟨0, by rw [iz_t q]⟩
  · obtain ⟨j, hj, rfl⟩ := nI_of q
    rw [iz_f q, gi_201_7, bz_s, t.2.1]
    by_cases q2 : m + 1 ≤ j
    · exact ⟨0, by rw [iz_t (nI_le q2 hj)]⟩
    · exact ⟨s.2.1 205 j, by rw [iz_f (nI_ge (by omega) (by omega)), gr_201_6, bz_s, le_205, bz_s, iz_f (show ¬ (401 : Int32) ≤ nI j from nI_ge (b := 401) (by omega) (by decide)), bz_s, tz_ai sh_205 ⟨rfl, rfl⟩ (nI_in1 (show j < 401 by omega) (by decide)), bz_s, nI_clamp (by omega)]⟩
end
