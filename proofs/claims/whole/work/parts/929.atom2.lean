/-! ===== a text: the class reads atoms ===== -/
section
variable {s0 : tz_S} {W : m_W} {T : Nat → Nat} {n m : Nat} {Y : gY} {i : Nat} {c : gC} {w : Int32} {h : m_H} {A : Nat → Int32 → m_H → Option m_H} {d f : Nat}
theorem gR_em (K : gK T n m) {q0 : Nat} (P : pr s0 W T n m Y i c h) (hi : i ≤ m) (hl : c.length < 400) {v op : Int32} (hv : v = tz_en op 0) : k_ok (m_b (F7_write 206 v h) fun h' => some h') (gR s0 W T n m Y (.inl (lx_q T n i, c ++ [(op, 0)]))) :=
  k_b (pr_write P (st := op) (nm := 0) hl hv) (fun h4 P4 => k_s ⟨i, hi, rfl, P4⟩)
theorem pb_em (P : pb s0 W T n m w h) {v : Int32} : k_ok (m_b (F7_write 206 v h) fun h' => some h') (pb s0 W T n m w) :=
  k_b (pb_write P) (fun h4 P4 => k_s P4)
theorem gR_no (K : gK T n m) (P : pr s0 W T n m Y i c h) (hi : i ≤ m) (hl : c.length ≤ 400) : k_ok (m_b (F7_refuse 206 h) fun h' => some h') (gR s0 W T n m Y (.inr (lx_q T n i))) := by
  have hm := K.mm
  exact k_b (pr_refuse P K.1 K.2.1 (by omega) hl) (fun h' P' => k_s ⟨lx_q_le (T := T) (n := n) i, P'⟩)
theorem cz_55 (K : gK T n m) (P : pr s0 W T n m Y i c h) (hi : i ≤ m) (hl : c.length ≤ lx_q T n i) {x op : Int32} (ht : ¬ lx_t T n (lx_q T n i) = 0) (hx : x = 60 ∧ op = 102 ∨ x = 62 ∧ op = 103) : k_ok (F7_readAtom_55 A 206 x h) (gR s0 W T n m Y (gB (gSum T n (lx_n T n (lx_q T n i)) c) (fun q2 c2 => .inl (q2, c2 ++ [(op, 0)])))) := by
  have hn := K.2.1
  unfold F7_readAtom_55
  obtain ⟨pa, i1, eq1, qn, qlt, qle⟩ := pr_pass K P hi ht
  rw [← eq1] at qlt qle ⊢
  refine k_bb pa (fun _ h2 P2 => gR_b K (cz_sum K P2 i1 (by omega)) (gP_sum qle) (fun i' c' h' hi' P' h1 h2 => ?_) (fun w h' hw P' => k_if (fun _ => pb_em P') (fun _ => pb_em P')))
  have q' := lx_q_le (T := T) (n := n) i'
  rcases hx with ⟨rfl, rfl⟩ | ⟨rfl, rfl⟩
  · exact k_t rfl (gR_em K P' hi' (by omega) rfl (q0 := 0))
  · exact k_f (by decide) (gR_em K P' hi' (by omega) rfl (q0 := 0))
theorem pb_55 (K : gK T n m) (P : pb s0 W T n m w h) (hw : ¬ w = -1) {x : Int32} : k_ok (F7_readAtom_55 A 206 x h) (pb s0 W T n m w) := by
  unfold F7_readAtom_55
  exact k_bb (pb_pass K P) (fun _ h2 P2 => k_b (pb_sum K P2 hw) (fun h3 P3 => k_if (fun _ => pb_em P3) (fun _ => pb_em P3)))
theorem cz_cmp (K : gK T n m) (P : pr s0 W T n m Y i c h) (hi : i ≤ m) (hl : c.length ≤ lx_q T n i) : k_ok (m_b (F7_readSum 206 h) fun h6 => m_b (m_gi h6 206 5 2) fun v7 => m_if (v7 = 60) (F7_readAtom_55 A 206 v7 h6) (m_if (v7 = 62) (F7_readAtom_55 A 206 v7 h6) (m_b (F7_refuse 206 h6) fun h12 => some h12))) (gR s0 W T n m Y (gCmp T n (lx_q T n i) c)) := by
  have hn := K.2.1
  have ql := lx_q_le (T := T) (n := n) i
  unfold gCmp
  refine gR_b K (cz_sum K P hi hl) (gP_sum ql) (fun i' c' h' hi' P' h1 h2 => ?_) (fun w h' hw P' => ?_)
  · have q' := lx_q_le (T := T) (n := n) i'
    refine k_e P'.th (k_if (fun t1 => ?_) (fun t1 => k_if (fun t2 => ?_) (fun t2 => ?_)))
    · rw [if_pos t1]
      exact cz_55 K P' hi' (by omega) (by rw [t1]; decide) (Or.inl ⟨t1, rfl⟩)
    · rw [if_neg t1, if_pos t2]
      exact cz_55 K P' hi' (by omega) (by rw [t2]; decide) (Or.inr ⟨t2, rfl⟩)
    · rw [if_neg t1, if_neg t2]
      exact gR_no K P' hi' (by omega)
  · obtain ⟨x, ex⟩ := P'.th
    exact k_e ex (k_if (fun _ => pb_55 K P' hw) (fun _ => k_if (fun _ => pb_55 K P' hw) (fun _ => k_e (pb_refuse P' hw) (k_s P'))))
theorem pb_cmp (K : gK T n m) (P : pb s0 W T n m w h) (hw : ¬ w = -1) : k_ok (m_b (F7_readSum 206 h) fun h6 => m_b (m_gi h6 206 5 2) fun v7 => m_if (v7 = 60) (F7_readAtom_55 A 206 v7 h6) (m_if (v7 = 62) (F7_readAtom_55 A 206 v7 h6) (m_b (F7_refuse 206 h6) fun h12 => some h12))) (pb s0 W T n m w) := by
  refine k_b (pb_sum K P hw) (fun h' P' => ?_)
  obtain ⟨x, ex⟩ := P'.th
  exact k_e ex (k_if (fun _ => pb_55 K P' hw) (fun _ => k_if (fun _ => pb_55 K P' hw) (fun _ => k_e (pb_refuse P' hw) (k_s P'))))
theorem pb_146 (K : gK T n m) (P : pb s0 W T n m w h) : k_ok (F7_readAtom_146 A 206 h) (pb s0 W T n m w) := by
  unfold F7_readAtom_146
  exact k_bb (pb_pass K P) (fun _ h2 P2 => k_s P2)
theorem d_lt (hd : d ≤ 6) (d6 : ¬ d = 6) : nI d < 6 := nI_lt (b := 6) (by omega) (by decide)
theorem cz_87 (K : gK T n m) (hd : d ≤ 6) (G : d < 6 → gA s0 W T n m Y (A 206 (nI (d + 1))) (gAtom T n f (d + 1))) (P : pr s0 W T n m Y i c h) (hi : i ≤ m) (hl : c.length ≤ lx_q T n i) (ht : ¬ lx_t T n (lx_q T n i) = 0) : k_ok (F7_readAtom_87 A 206 (nI d) 0 h) (gR s0 W T n m Y (if d = 6 then .inr (lx_q T n i) else gB (gCond T n (gAtom T n f (d + 1)) (lx_n T n (lx_q T n i)) c) (fun q' c' => if lx_t T n q' = 41 then .inl (lx_n T n q', c') else .inr q'))) ∧ k_ok (F7_readAtom_87 A 206 (nI d) 1 h) (gR s0 W T n m Y (if d = 6 then .inr (lx_q T n i) else gB (gAtom T n f (d + 1) (lx_n T n (lx_q T n i)) c) (fun q' c' => .inl (q', c' ++ [(104, 0)])))) := by
  have hn := K.2.1
  have ql := lx_q_le (T := T) (n := n) i
  unfold F7_readAtom_87
  by_cases d6 : d = 6
  · subst d6
    rw [if_pos rfl, if_pos rfl]
    exact ⟨k_f (by decide) (gR_no K P hi (by omega)), k_f (by decide) (gR_no K P hi (by omega))⟩
  · rw [if_neg d6, if_neg d6]
    have G := G (by omega)
    obtain ⟨pa, i1, eq1, qn, qlt, qle⟩ := pr_pass K P hi ht
    rw [← eq1] at qlt qle ⊢
    rw [nI_1]
    refine ⟨k_t (d_lt hd d6) (k_bb pa (fun _ h2 P2 => k_t rfl ?_)), k_t (d_lt hd d6) (k_bb pa (fun _ h2 P2 => k_f (by decide) ?_))⟩
    · have G2 := cz_any K G
      refine gR_b K (G2.good i1 (by omega) P2) (G2.fit _ c qle) (fun i' c' h' hi' P' h1 h2 => ?_) (fun w h' hw P' => ?_)
      · have q' := lx_q_le (T := T) (n := n) i'
        refine k_e P'.th (k_if (fun t1 => ?_) (fun t1 => ?_))
        · rw [if_pos t1]
          obtain ⟨pa, i2, eq2, qn2, qlt2, qle2⟩ := pr_pass K P' hi' (by rw [t1]; decide)
          rw [← eq2]
          unfold F7_readAtom_146
          exact k_bb pa (fun _ h3 P3 => k_s ⟨i' + 1, i2, rfl, P3⟩)
        · rw [if_neg t1]
          have hm := K.mm
          refine k_b (pr_refuse P' K.1 hn (by omega) (by omega)) (fun h3 P3 => k_m (pb_146 K P3) (fun h4 P4 => ⟨q', P4⟩))
      · obtain ⟨x, ex⟩ := P'.th
        exact k_e ex (k_if (fun _ => pb_146 K P') (fun _ => k_e (pb_refuse P' hw) (pb_146 K P')))
    · refine gR_b K (G.good i1 (by omega) P2) (G.fit _ c qle) (fun i' c' h' hi' P' h1 h2 => ?_) (fun w h' hw P' => pb_em P')
      have q' := lx_q_le (T := T) (n := n) i'
      exact gR_em K P' hi' (by omega) rfl (q0 := 0)
theorem pb_87 (K : gK T n m) (hd : d ≤ 6) (G : d < 6 → gA s0 W T n m Y (A 206 (nI (d + 1))) (gAtom T n f (d + 1))) (P : pb s0 W T n m w h) (hw : ¬ w = -1) {x : Int32} : k_ok (F7_readAtom_87 A 206 (nI d) x h) (pb s0 W T n m w) := by
  unfold F7_readAtom_87
  by_cases d6 : d = 6
  · subst d6
    exact k_f (by decide) (k_e (pb_refuse P hw) (k_s P))
  · have G := G (by omega)
    rw [nI_1]
    refine k_t (d_lt hd d6) (k_bb (pb_pass K P) (fun _ h2 P2 => k_if (fun _ => k_b ((cz_any K G).bad hw P2) (fun h' P' => ?_)) (fun _ => k_b (G.bad hw P2) (fun h' P' => pb_em P'))))
    obtain ⟨y, ey⟩ := P'.th
    exact k_e ey (k_if (fun _ => pb_146 K P') (fun _ => k_e (pb_refuse P' hw) (pb_146 K P')))
theorem cz_atomS (K : gK T n m) (hd : d ≤ 6) (G : d < 6 → gA s0 W T n m Y (A 206 (nI (d + 1))) (gAtom T n f (d + 1))) : gA s0 W T n m Y (F7_readAtoms A 206 (nI d)) (gAtom T n (f + 1) d) := by
  refine ⟨fun {i c h} hi hl P => ?_, fun {w h} hw P => ?_, fun q c hq => gP_atom (f + 1) d q c hq⟩
  · unfold F7_readAtoms F7_readAtom_0 gAtom
    refine k_g (nz_io206 P.N) (k_e P.th (k_if (fun t1 => ?_) (fun t1 => ?_)))
    · have ht : ¬ lx_t T n (lx_q T n i) = 0 := by rw [t1]; decide
      rw [if_neg (show ¬ lx_t T n (lx_q T n i) = 40 by rw [t1]; decide), if_pos t1]
      unfold F7_readAtom_15
      exact k_f (by decide) (cz_87 K hd G P hi hl ht).2
    · rw [if_neg t1]
      unfold F7_readAtom_15
      refine k_t rfl (k_e P.th (k_if (fun t2 => ?_) (fun t2 => ?_)))
      · rw [if_pos t2]
        exact (cz_87 K hd G P hi hl (by rw [t2]; decide)).1
      · rw [if_neg t2]
        exact cz_cmp K P hi hl
  · obtain ⟨x, ex⟩ := P.th
    unfold F7_readAtoms F7_readAtom_0 F7_readAtom_15
    exact k_g (nz_io206 P.N) (k_e ex (k_if (fun _ => k_f (by decide) (pb_87 K hd G P hw)) (fun _ => k_t rfl (k_e ex (k_if (fun _ => pb_87 K hd G P hw) (fun _ => pb_cmp K P hw))))))
theorem cz_atom (K : gK T n m) : ∀ f d, d ≤ 6 → 7 ≤ f + d → gA s0 W T n m Y (F7_readAtom f 206 (nI d)) (gAtom T n f d)
  | 0, d, hd, hf => by omega
  | f + 1, d, hd, hf => cz_atomS K hd (fun d6 => cz_atom K f (d + 1) d6 (by omega))
end
