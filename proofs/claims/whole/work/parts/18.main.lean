/-! ===== m_: calls, handlers, and the whole ===== -/
theorem m_cells_pos {hp hp' : m_H} (h : m_G hp hp') : m_cells hp + (m_cells hp' - m_cells hp) = m_cells hp' ∧ m_slots hp + (m_slots hp' - m_slots hp) = m_slots hp' := by
  obtain ⟨h1, h2⟩ := h
  omega
section MA
variable {p : Program} {l : Launch} {e : Env} {R : Room} {s : State} {m : MethodId} {args : Array Value} {below : List Frame} {meth : Method} {c : Code} {H : Heap} {locs : List Loc} {cells slots : Nat} {Q : State → Prop}
variable {dC : Nat → ClassId} {dI : Nat → Nat → Nat} {tys : List (ClassId × FieldType)} {ex : Nat → Nat} {sl : Nat → List Int32} {B0 L : Nat} {xs : Nat → Int32} {strs : List (String × Nat × String × Nat)} {Z : m_PR}
/-- behind a call -/
theorem m_after {ls : Array Slot} {pc mc ms : Nat} {st0 rest : List Value} {ws : va_W} {o : m_O} {hp1 : m_H} {a : Array Value}
    (hrun : vx_Run p l e R s m args below meth c H locs cells slots mc ms (F0 m pc ls st0) rest (m_Qc dC dI tys ex B0 ws o hp1 a) (m_XC dC dI tys ex B0 ws o hp1) (fun q => B0 ≤ q)) (hS : va_S (fun q => B0 ≤ q) s.heap H locs)
    (kr : ∀ (v w : Option Value) (ws' : va_W) (t : State) (locs1 : List Loc), o = .inl v → m_Bw dC dI tys ex B0 ws hp1 ws' t → m_Vs (m_ad ex ws') v.toList w.toList → va_S (fun q => B0 ≤ q) s.heap t.heap locs1 →
      W p l e R s m args below meth c t.heap locs1 (cells + mc) (slots + ms) Q (F0 m (pc + 3) ls (w.toList ++ rest)))
    (kx : ∀ (k : Nat) (ws' : va_W) (t : State) (locs1 : List Loc) (q : Nat) (ce : Cell), o = .inr k → k < 5 → m_Bw dC dI tys ex B0 ws hp1 ws' t → va_S (fun q => B0 ≤ q) s.heap t.heap locs1 → t.heap[q]? = some ce → ce.vm = .none → s.vm.findClass (m_en k) = some ce.cls →
      vx_W p l e R s m args below meth c t.heap locs1 (cells + mc) (slots + ms) Q (F0 m pc ls rest) q) : W p l e R s m args below meth c H locs cells slots Q (F0 m pc ls st0) := by
  intro T hT X
  rcases hrun T hT X with ⟨v, st₀, t, T', L, h0, X', hL, e1, e2, ⟨⟨v', w, ho, hvw, ws', hb, hvs⟩, hF⟩, st⟩ | ⟨q, st₀, t, T', L, E, ce, h0, X', hL, e1, e2, ⟨⟨k, ho, hk, hE, ws', hb⟩, hF⟩, hce, hcv, hcl, st⟩
  · cases hvw
    obtain ⟨k1, k2, k3⟩ := vx_keep h0 e1 hS (fun q _ h => h) (fun q h => h) hL hF
    rw [e1] at k3
    obtain ⟨t2, a1, b1⟩ := kr v' v ws' t (locs ++ L) ho hb hvs k3 T' e1 X'
    exact ⟨t2, st t2 a1, b1⟩
  · obtain ⟨k1, k2, k3⟩ := vx_keep h0 e1 hS (fun q _ h => h) (fun q h => h) hL hF
    rw [e1] at k3
    subst hE
    obtain ⟨t2, a1, b1⟩ := kx k ws' t (locs ++ L) q ce ho hk hb k3 hce hcv hcl T' e1 X'
    exact ⟨t2, st.trans a1, b1⟩
theorem m_cov (z : Nat × Nat × Nat × Nat × Nat) (pc : Nat) : covers ⟨z.1, z.2.1, z.2.2.1, z.2.2.2.1⟩ pc = (decide (z.1 ≤ pc) && decide (pc < z.2.1)) := by
  first
    | rfl
    | simp [covers]
/-- an exception that comes out of a call: a handler of the method's own -/
theorem m_catch {i pc k t q : Nat} {ls : Array Slot} {rest : List Value} {ce : Cell} (hF : m_Fx l dC dI tys ex sl B0 L xs strs Z i p s m args meth c) (hok : m_mok Z strs i) (hk : k < 5) (h : m_hdl (Z.1 i) pc k = some t)
    (hce : H[q]? = some ce) (hcv : ce.vm = .none) (hcl : s.vm.findClass (m_en k) = some ce.cls) (kk : W p l e R s m args below meth c H locs cells slots Q (F0 m t ls [.ref q])) : vx_W p l e R s m args below meth c H locs cells slots Q (F0 m pc ls rest) q := by
  obtain ⟨⟨hx, hb, hml, hown, hts, hnt⟩, hW, hX, hr, hlk, hnm, htb⟩ := hF
  unfold m_hdl at h
  obtain ⟨z, hz, rfl⟩ := Option.map_eq_some_iff.mp h
  obtain ⟨hp, as, bs, hsp, hno⟩ := List.find?_eq_some_iff_append.mp hz
  simp only [Bool.and_eq_true, decide_eq_true_eq, beq_iff_eq] at hp
  obtain ⟨⟨hp1, hp2⟩, hp3⟩ := hp
  have hall := hok.2.2.2.2
  rw [hsp] at hall
  have hz2 := hall z (List.mem_append_right _ List.mem_cons_self)
  refine vx_catch (own := (Z.2.1 i).cls) (E := m_en k) (name := m_en k) hown (tableOf (as.map (fun z => (z.1, z.2.1, z.2.2.1, z.2.2.2.1)))) ⟨z.1, z.2.1, z.2.2.1, z.2.2.2.1⟩ (tableOf (bs.map (fun z => (z.1, z.2.1, z.2.2.1, z.2.2.2.1)))) ?_ ?_ ?_ hz2.1 ?_ ?_ hce hcv hcl kk
  · rw [htb]
    unfold m_hh
    rw [hsp]
    simp [tableOf]
  · intro y hy
    unfold tableOf at hy
    rw [List.map_map] at hy
    obtain ⟨y0, hy0, rfl⟩ := List.mem_map.mp hy
    have h1 := hno y0 hy0
    have h2 := hall y0 (List.mem_append_left _ hy0)
    by_cases hcv2 : covers ⟨y0.1, y0.2.1, y0.2.2.1, y0.2.2.2.1⟩ pc = true
    · right
      refine ⟨h2.1, m_en y0.2.2.2.2, hts _ h2.2.2, (hX k y0.2.2.2.2 hk h2.2.1).2 ?_⟩
      intro he
      rw [m_cov] at hcv2
      simp only [Bool.and_eq_true, decide_eq_true_eq] at hcv2
      simp [hcv2.1, hcv2.2, he] at h1
    · left
      exact Bool.eq_false_iff.mpr hcv2
  · rw [m_cov]
    simp [hp1, hp2]
  · rw [← hp3]
    exact hts _ hz2.2.2
  · exact (hX k k hk hk).1 rfl
/-- an exception that comes out of a call, and out of the method -/
theorem m_out {i pc k q : Nat} {ls : Array Slot} {rest : List Value} {ce : Cell} {hp1 hp0 : m_H} {ws0 ws' : va_W} {t : State} (hF : m_Fx l dC dI tys ex sl B0 L xs strs Z i p s m args meth c) (hok : m_mok Z strs i) (hk : k < 5) (h : m_hdl (Z.1 i) pc k = none)
    (hce : t.heap[q]? = some ce) (hcv : ce.vm = .none) (hcl : s.vm.findClass (m_en k) = some ce.cls) (hB : m_Bw dC dI tys ex B0 ws0 hp1 ws' t) (hS : va_S (fun q => B0 ≤ q) s.heap t.heap locs) (hc1 : cells + m_cells hp0 = m_cells hp1) (hc2 : slots + m_slots hp0 = m_slots hp1) :
    vx_W p l e R s m args below meth c t.heap locs cells slots (vx_MQ below (m_Qc dC dI tys ex B0 ws0 (.inr k) hp1) (m_XC dC dI tys ex B0 ws0 (.inr k) hp1) args s (m_cells hp1 - m_cells hp0) (m_slots hp1 - m_slots hp0) (fun q => B0 ≤ q)) (F0 m pc ls rest) q := by
  obtain ⟨⟨hx, hb, hml, hown, hts, hnt⟩, hW, hX, hr, hlk, hnm, htb⟩ := hF
  refine vx_outP (own := (Z.2.1 i).cls) (E := m_en k) hown hlk ?_ hce hcv hcl (fun t' ht' _ => ?_) hS.2.2 (by omega) (by omega)
  · intro y hy
    rw [htb] at hy
    unfold tableOf m_hh at hy
    rw [List.map_map] at hy
    obtain ⟨y0, hy0, rfl⟩ := List.mem_map.mp hy
    have h2 := hok.2.2.2.2 y0 hy0
    unfold m_hdl at h
    rw [Option.map_eq_none_iff, List.find?_eq_none] at h
    have h1 := h y0 hy0
    by_cases hcv2 : covers ⟨y0.1, y0.2.1, y0.2.2.1, y0.2.2.2.1⟩ pc = true
    · right
      refine ⟨h2.1, m_en y0.2.2.2.2, hts _ h2.2.2, (hX k y0.2.2.2.2 hk h2.2.1).2 ?_⟩
      intro he
      rw [m_cov] at hcv2
      simp only [Bool.and_eq_true, decide_eq_true_eq] at hcv2
      simp [hcv2.1, hcv2.2, he] at h1
    · left
      exact Bool.eq_false_iff.mpr hcv2
  · refine ⟨⟨k, rfl, hk, rfl, ws', ?_⟩, hS.F ht'⟩
    obtain ⟨b1, b2, b3, b4⟩ := hB
    exact ⟨b1, by rw [ht']; exact b2, b3, b4⟩
end MA
