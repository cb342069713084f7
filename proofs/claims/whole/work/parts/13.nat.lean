/-! ===== m_: others' methods that are taken as one step ===== -/
def m_nins (code k : Nat) : Instr := match code with
  | 0 => .invokespecial k
  | 6 => .invokevirtual k
  | 7 => .invokevirtual k
  | _ => .invokestatic k
/-- copyOf, length, charAt as the tables name them -/
def m_nname (code : Nat) : MethodName := match code with
  | 0 => Lib.objectInit
  | 1 => Lib.Math.max.name
  | 2 => Lib.Math.min.name
  | 3 => Lib.MathLoose.max_long.x
  | 4 => arraycopyName
  | 5 => yJ7_copyOf_59c91
  | 6 => yJ0_length_8abf5
  | _ => yJ0_charAt_5068e
/-- what is to be shown of the method with this code -/
def m_NS (code : Nat) : Prop :=
  ∀ {p : Program} {l : Launch} {e : Env} {R : Room} {s : State} {m : MethodId} {args : Array Value} {below : List Frame} {meth : Method} {c : Code} {H : Heap} {locs : List Loc} {cells slots : Nat} {Q : State → Prop}
    {cc : ByteArray} {pc nL : Nat} {ls : Array Slot} {own : String} {lv : m_L} {st vs : List Value} {dC : Nat → ClassId} {dI : Nat → Nat → Nat} {tys : List (ClassId × FieldType)} {ex : Nat → Nat} {sl : Nat → List Int32} {B0 L c0 s0 : Nat} {xs : Nat → Int32} {strs : List (String × Nat × String × Nat)} {ws0 ws : va_W} {hp : m_H} {k : Nat} {z : List Value × m_H},
    m_Cx p s m args c cc nL own → m_Wo s dC dI tys ex sl B0 L xs strs → decode cc pc = .ok (m_nins code k, 3) → Cond.methodLink own k (m_nname code) ∈ m_Ts → 7 ≤ R.frames → 287 ≤ R.locals → m_cat st ≤ 12 →
    m_nat sl code st hp = some z → m_cells z.2 ≤ R.cells + c0 ∧ m_slots z.2 ≤ R.slots + s0 → m_Rl (m_ad ex ws) nL lv ls → m_Vs (m_ad ex ws) st vs → m_Rh s dC dI tys ex B0 c0 s0 ws0 hp H locs cells slots ws →
    m_Kh p l e R s m args below meth c Q dC dI tys ex B0 c0 s0 ws0 nL (pc + 3) lv z.1 z.2 → W p l e R s m args below meth c H locs cells slots Q (F0 m pc ls vs)
theorem m_Rl.size {ad : Nat → Option Nat} {nL : Nat} {lv : m_L} {ls : Array Slot} (h : m_Rl ad nL lv ls) : ls.size = nL := by
  obtain ⟨lc, h1, -⟩ := h
  exact h1.1
theorem m_w_obj : Cond.instanceMethod Lib.objectInit ∈ m_Ts ∧ Cond.code Lib.objectInit ⟨#[0xb1]⟩ 1 none ∈ m_Ts := ⟨m_Ts_of (by decide +kernel) rfl, m_Ts_of (by decide +kernel) rfl⟩
theorem m_w_math : Cond.initialized "java/lang/Math" ∈ m_Ts := m_Ts_of (by decide +kernel) rfl
theorem m_w_max : Cond.static Lib.Math.max.name ∈ m_Ts ∧ Cond.code Lib.Math.max.name Lib.Math.max.code 2 (some .int) ∈ m_Ts := ⟨m_Ts_of (by decide +kernel) rfl, m_Ts_of (by decide +kernel) rfl⟩
theorem m_w_min : Cond.static Lib.Math.min.name ∈ m_Ts ∧ Cond.code Lib.Math.min.name Lib.Math.min.code 2 (some .int) ∈ m_Ts := ⟨m_Ts_of (by decide +kernel) rfl, m_Ts_of (by decide +kernel) rfl⟩
theorem m_w_maxl : Cond.static Lib.MathLoose.max_long.x ∈ m_Ts ∧ Cond.code Lib.MathLoose.max_long.x Lib.MathLoose.max_long.code 4 (some .long) ∈ m_Ts := ⟨m_Ts_of (by decide +kernel) rfl, m_Ts_of (by decide +kernel) rfl⟩
theorem m_w_cpy : Cond.native arraycopyName ∈ m_Ts ∧ Cond.static arraycopyName ∈ m_Ts ∧ Cond.initialized "java/lang/System" ∈ m_Ts := ⟨m_Ts_of (by decide +kernel) rfl, m_Ts_of (by decide +kernel) rfl, m_Ts_of (by decide +kernel) rfl⟩
theorem m_cat_le {as : List Value} {ad : Nat → Option Nat} {vs : List Value} (h : m_Vs ad as vs) {n : Nat} (hn : m_cat as ≤ n) : (vs.map fun v => v.category).sum ≤ n := by rw [h.cat]; exact hn
theorem m_cat_c (v : Value) (r : List Value) : m_cat (v :: r) = v.category + m_cat r := by simp [m_cat]
theorem m_ns0 : m_NS 0 := by
  intro p l e R s m args below meth c H locs cells slots Q cc pc nL ls own lv st vs dC dI tys ex sl B0 L c0 s0 xs strs ws0 ws hp k z hC hW hd hk hf hlo hcat h hr hl hv hh kk
  obtain ⟨hx, hb, hml, hown, hts, hnt⟩ := hC
  have h : m_n0 st hp = some z := h
  unfold m_n0 at h
  split at h
  · next a r =>
    cases h
    obtain ⟨w, v1, rfl, ⟨b, -, rfl⟩, hv1⟩ := hv.hd
    simp only [m_cat_c, Value.category] at hcat
    have hc2 := m_cat_le hv1 (n := 12) (by omega)
    exact W.objInit hx hb hown (hts _ hk) (hts _ m_w_obj.1) (hts _ m_w_obj.2) rfl (by rw [hml]; exact hl.size) rfl hd (by omega) (by show 2 * 0 + _ + 12 ≤ _; omega) (kk ls _ _ _ _ _ _ hl hv1 hh)
  · cases h
theorem m_ns1 : m_NS 1 := by
  intro p l e R s m args below meth c H locs cells slots Q cc pc nL ls own lv st vs dC dI tys ex sl B0 L c0 s0 xs strs ws0 ws hp k z hC hW hd hk hf hlo hcat h hr hl hv hh kk
  obtain ⟨hx, hb, hml, hown, hts, hnt⟩ := hC
  have h : m_n1 st hp = some z := h
  unfold m_n1 at h
  split at h
  · next y x r =>
    cases h
    obtain ⟨w, v1, rfl, hw, hv1⟩ := hv.hd
    obtain ⟨w2, v2, rfl, hw2, hv2⟩ := hv1.hd
    cases hw
    cases hw2
    simp only [m_cat_c, Value.category] at hcat
    have hc2 := m_cat_le hv2 (n := 12) (by omega)
    obtain ⟨hr1, hr2⟩ := hr
    have q1 := hh.2.2.2.2.1
    have q2 := hh.2.2.2.2.2.1
    dsimp only at hr1 hr2
    exact va_mmax hx hb (by rw [hml]; exact hl.size.symm) hown (hts _ hk) (hts _ m_w_max.1) (hts _ m_w_math) (hts _ m_w_max.2) (by omega) (by omega) (by omega) (by omega) hd (kk ls _ _ _ _ _ _ hl ⟨rfl, hv2⟩ hh)
  · cases h
theorem m_ns2 : m_NS 2 := by
  intro p l e R s m args below meth c H locs cells slots Q cc pc nL ls own lv st vs dC dI tys ex sl B0 L c0 s0 xs strs ws0 ws hp k z hC hW hd hk hf hlo hcat h hr hl hv hh kk
  obtain ⟨hx, hb, hml, hown, hts, hnt⟩ := hC
  have h : m_n2 st hp = some z := h
  unfold m_n2 at h
  split at h
  · next y x r =>
    cases h
    obtain ⟨w, v1, rfl, hw, hv1⟩ := hv.hd
    obtain ⟨w2, v2, rfl, hw2, hv2⟩ := hv1.hd
    cases hw
    cases hw2
    simp only [m_cat_c, Value.category] at hcat
    have hc2 := m_cat_le hv2 (n := 12) (by omega)
    obtain ⟨hr1, hr2⟩ := hr
    have q1 := hh.2.2.2.2.1
    have q2 := hh.2.2.2.2.2.1
    dsimp only at hr1 hr2
    exact va_mmin hx hb (by rw [hml]; exact hl.size.symm) hown (hts _ hk) (hts _ m_w_min.1) (hts _ m_w_math) (hts _ m_w_min.2) (by omega) (by omega) (by omega) (by omega) hd (kk ls _ _ _ _ _ _ hl ⟨rfl, hv2⟩ hh)
  · cases h
theorem m_ns3 : m_NS 3 := by
  intro p l e R s m args below meth c H locs cells slots Q cc pc nL ls own lv st vs dC dI tys ex sl B0 L c0 s0 xs strs ws0 ws hp k z hC hW hd hk hf hlo hcat h hr hl hv hh kk
  obtain ⟨hx, hb, hml, hown, hts, hnt⟩ := hC
  have h : m_n3 st hp = some z := h
  unfold m_n3 at h
  split at h
  · next y x r =>
    cases h
    obtain ⟨w, v1, rfl, hw, hv1⟩ := hv.hd
    obtain ⟨w2, v2, rfl, hw2, hv2⟩ := hv1.hd
    cases hw
    cases hw2
    simp only [m_cat_c, Value.category] at hcat
    have hc2 := m_cat_le hv2 (n := 12) (by omega)
    obtain ⟨hr1, hr2⟩ := hr
    have q1 := hh.2.2.2.2.1
    have q2 := hh.2.2.2.2.2.1
    dsimp only at hr1 hr2
    exact va_mmax_long hx hb (by rw [hml]; exact hl.size.symm) hown (hts _ hk) (hts _ m_w_maxl.1) (hts _ m_w_math) (hts _ m_w_maxl.2) (by omega) (by omega) (by omega) (by omega) hd (kk ls _ _ _ _ _ _ hl ⟨rfl, hv2⟩ hh)
  · cases h
theorem m_ns4 : m_NS 4 := by
  intro p l e R s m args below meth c H locs cells slots Q cc pc nL ls own lv st vs dC dI tys ex sl B0 L c0 s0 xs strs ws0 ws hp k z hC hW hd hk hf hlo hcat h hr hl hv hh kk
  obtain ⟨hx, hb, hml, hown, hts, hnt⟩ := hC
  have h : m_n4 st hp = some z := h
  unfold m_n4 at h
  split at h
  · obtain ⟨h', hy, rfl⟩ := Option.map_eq_some_iff.mp h
    obtain ⟨w, v1, rfl, hw, hv1⟩ := hv.hd
    obtain ⟨w2, v2, rfl, hw2, hv2⟩ := hv1.hd
    obtain ⟨w3, v3, rfl, ⟨b, hb3, rfl⟩, hv3⟩ := hv2.hd
    obtain ⟨w4, v4, rfl, hw4, hv4⟩ := hv3.hd
    obtain ⟨w5, v5, rfl, ⟨b5, hb5, rfl⟩, hv5⟩ := hv4.hd
    cases hw
    cases hw2
    cases hw4
    simp only [m_cat_c, Value.category] at hcat
    have hc2 := m_cat_le hv5 (n := 12) (by omega)
    unfold m_cpy at hy
    split at hy
    · next n0 f n1 g ho0 ho1 =>
      split at hy
      · next hcnd =>
        cases hy
        obtain ⟨h1, h2, h3, h4, h5⟩ := hcnd
        obtain ⟨a', e', g1, g2, c0', rfl, g3⟩ := hh.1.c ho0
        obtain ⟨a'', e'', k1, k2, c1', rfl, k3⟩ := hh.1.c ho1
        cases Option.some.inj (hb5.symm.trans g1)
        cases Option.some.inj (hb3.symm.trans k1)
        refine va_copyi (ty := .int) hx hb (by rw [hml]; exact hl.size.symm) hown (hts _ hk) (hts _ m_w_cpy.1) (hts _ m_w_cpy.2.1) (hts _ m_w_cpy.2.2) hW.1 hh.2.1 hh.2.2.1 hh.2.2.2.1 _ _ 0 0 g2 k2 g3 k3 rfl h1 h2 h3 h4 h5 (fun _ _ => rfl) (by omega) ?_ hd fun H1 locs1 hP hD hS => ?_
        · have : nativeFrameWords "java/lang/System" "arraycopy" 5 ≤ 200 := by decide +kernel
          omega
        · have hR := hh.w (e := .inl (0, n1, .inl (va_cpy f g _ _ _))) ho1 rfl k2 ⟨c1', rfl, k3⟩ hP hD hS
          refine kk ls v5 H1 locs1 cells slots _ ?_ ?_ hR
          · rw [m_ad_set k2]; exact hl
          · rw [m_ad_set k2]; exact hv5
      · cases hy
    · cases hy
  · cases h
