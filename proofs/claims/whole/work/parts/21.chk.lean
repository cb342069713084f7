/-! ===== m_: how a method is held against the tables ===== -/
theorem m_lk {α : Type} {l : List (Nat × α)} {k : Nat} {v : α} (h : l.lookup k = some v) : (k, v) ∈ l := by
  induction l with
  | nil => simp at h
  | cons x l ih =>
    obtain ⟨a, b⟩ := x
    rw [List.lookup_cons] at h
    split at h
    · next q =>
      have q : k = a := by simpa using q
      cases h
      subst q
      exact List.mem_cons_self
    · exact List.mem_cons_of_mem _ (ih h)
theorem m_ch1 {w : Cond} (h : w ∈ tables_1_1) : w ∈ lw_tbl := List.mem_append_right _ (by
  show w ∈ tables_1
  unfold tables_1
  simp only [List.mem_append]
  exact Or.inl h)
theorem m_gi1 (n : Nat) {w : Cond} (h : tables_1_1[n]? = some w) (g : goodWord w = true) : w ∈ m_Ts := m_Ts_of (m_ch1 (List.mem_of_getElem? h)) g
theorem m_gx1 (n : Nat) {w : Cond} (h : tables_1_1[n]? = some w) (g : m_isN w = true) : w ∈ m_Nt := List.mem_filter.mpr ⟨m_ch1 (List.mem_of_getElem? h), g⟩
theorem m_ch2 {w : Cond} (h : w ∈ tables_1_2) : w ∈ lw_tbl := List.mem_append_right _ (by
  show w ∈ tables_1
  unfold tables_1
  simp only [List.mem_append]
  exact Or.inr (Or.inl h))
theorem m_gi2 (n : Nat) {w : Cond} (h : tables_1_2[n]? = some w) (g : goodWord w = true) : w ∈ m_Ts := m_Ts_of (m_ch2 (List.mem_of_getElem? h)) g
theorem m_gx2 (n : Nat) {w : Cond} (h : tables_1_2[n]? = some w) (g : m_isN w = true) : w ∈ m_Nt := List.mem_filter.mpr ⟨m_ch2 (List.mem_of_getElem? h), g⟩
theorem m_ch3 {w : Cond} (h : w ∈ tables_1_3) : w ∈ lw_tbl := List.mem_append_right _ (by
  show w ∈ tables_1
  unfold tables_1
  simp only [List.mem_append]
  exact Or.inr (Or.inr (Or.inl h)))
theorem m_gi3 (n : Nat) {w : Cond} (h : tables_1_3[n]? = some w) (g : goodWord w = true) : w ∈ m_Ts := m_Ts_of (m_ch3 (List.mem_of_getElem? h)) g
theorem m_gx3 (n : Nat) {w : Cond} (h : tables_1_3[n]? = some w) (g : m_isN w = true) : w ∈ m_Nt := List.mem_filter.mpr ⟨m_ch3 (List.mem_of_getElem? h), g⟩
theorem m_ch4 {w : Cond} (h : w ∈ tables_1_4) : w ∈ lw_tbl := List.mem_append_right _ (by
  show w ∈ tables_1
  unfold tables_1
  simp only [List.mem_append]
  exact Or.inr (Or.inr (Or.inr (Or.inl h))))
theorem m_gi4 (n : Nat) {w : Cond} (h : tables_1_4[n]? = some w) (g : goodWord w = true) : w ∈ m_Ts := m_Ts_of (m_ch4 (List.mem_of_getElem? h)) g
theorem m_gx4 (n : Nat) {w : Cond} (h : tables_1_4[n]? = some w) (g : m_isN w = true) : w ∈ m_Nt := List.mem_filter.mpr ⟨m_ch4 (List.mem_of_getElem? h), g⟩
theorem m_ch5 {w : Cond} (h : w ∈ tables_1_5) : w ∈ lw_tbl := List.mem_append_right _ (by
  show w ∈ tables_1
  unfold tables_1
  simp only [List.mem_append]
  exact Or.inr (Or.inr (Or.inr (Or.inr (Or.inl h)))))
theorem m_gi5 (n : Nat) {w : Cond} (h : tables_1_5[n]? = some w) (g : goodWord w = true) : w ∈ m_Ts := m_Ts_of (m_ch5 (List.mem_of_getElem? h)) g
theorem m_gx5 (n : Nat) {w : Cond} (h : tables_1_5[n]? = some w) (g : m_isN w = true) : w ∈ m_Nt := List.mem_filter.mpr ⟨m_ch5 (List.mem_of_getElem? h), g⟩
theorem m_ch6 {w : Cond} (h : w ∈ tables_1_6) : w ∈ lw_tbl := List.mem_append_right _ (by
  show w ∈ tables_1
  unfold tables_1
  simp only [List.mem_append]
  exact Or.inr (Or.inr (Or.inr (Or.inr (Or.inr (Or.inl h))))))
theorem m_gi6 (n : Nat) {w : Cond} (h : tables_1_6[n]? = some w) (g : goodWord w = true) : w ∈ m_Ts := m_Ts_of (m_ch6 (List.mem_of_getElem? h)) g
theorem m_gx6 (n : Nat) {w : Cond} (h : tables_1_6[n]? = some w) (g : m_isN w = true) : w ∈ m_Nt := List.mem_filter.mpr ⟨m_ch6 (List.mem_of_getElem? h), g⟩
theorem m_ch7 {w : Cond} (h : w ∈ tables_1_7) : w ∈ lw_tbl := List.mem_append_right _ (by
  show w ∈ tables_1
  unfold tables_1
  simp only [List.mem_append]
  exact Or.inr (Or.inr (Or.inr (Or.inr (Or.inr (Or.inr (Or.inl h)))))))
theorem m_gi7 (n : Nat) {w : Cond} (h : tables_1_7[n]? = some w) (g : goodWord w = true) : w ∈ m_Ts := m_Ts_of (m_ch7 (List.mem_of_getElem? h)) g
theorem m_gx7 (n : Nat) {w : Cond} (h : tables_1_7[n]? = some w) (g : m_isN w = true) : w ∈ m_Nt := List.mem_filter.mpr ⟨m_ch7 (List.mem_of_getElem? h), g⟩
theorem m_ch8 {w : Cond} (h : w ∈ tables_1_8) : w ∈ lw_tbl := List.mem_append_right _ (by
  show w ∈ tables_1
  unfold tables_1
  simp only [List.mem_append]
  exact Or.inr (Or.inr (Or.inr (Or.inr (Or.inr (Or.inr (Or.inr (Or.inl h))))))))
theorem m_gi8 (n : Nat) {w : Cond} (h : tables_1_8[n]? = some w) (g : goodWord w = true) : w ∈ m_Ts := m_Ts_of (m_ch8 (List.mem_of_getElem? h)) g
theorem m_gx8 (n : Nat) {w : Cond} (h : tables_1_8[n]? = some w) (g : m_isN w = true) : w ∈ m_Nt := List.mem_filter.mpr ⟨m_ch8 (List.mem_of_getElem? h), g⟩
theorem m_ch9 {w : Cond} (h : w ∈ tables_1_9) : w ∈ lw_tbl := List.mem_append_right _ (by
  show w ∈ tables_1
  unfold tables_1
  simp only [List.mem_append]
  exact Or.inr (Or.inr (Or.inr (Or.inr (Or.inr (Or.inr (Or.inr (Or.inr (Or.inl h)))))))))
theorem m_gi9 (n : Nat) {w : Cond} (h : tables_1_9[n]? = some w) (g : goodWord w = true) : w ∈ m_Ts := m_Ts_of (m_ch9 (List.mem_of_getElem? h)) g
theorem m_gx9 (n : Nat) {w : Cond} (h : tables_1_9[n]? = some w) (g : m_isN w = true) : w ∈ m_Nt := List.mem_filter.mpr ⟨m_ch9 (List.mem_of_getElem? h), g⟩
theorem m_ch10 {w : Cond} (h : w ∈ tables_1_10) : w ∈ lw_tbl := List.mem_append_right _ (by
  show w ∈ tables_1
  unfold tables_1
  simp only [List.mem_append]
  exact Or.inr (Or.inr (Or.inr (Or.inr (Or.inr (Or.inr (Or.inr (Or.inr (Or.inr (h))))))))))
theorem m_gi10 (n : Nat) {w : Cond} (h : tables_1_10[n]? = some w) (g : goodWord w = true) : w ∈ m_Ts := m_Ts_of (m_ch10 (List.mem_of_getElem? h)) g
theorem m_gx10 (n : Nat) {w : Cond} (h : tables_1_10[n]? = some w) (g : m_isN w = true) : w ∈ m_Nt := List.mem_filter.mpr ⟨m_ch10 (List.mem_of_getElem? h), g⟩
theorem m_pv1 {q : MethodName × Nat} (h : q ∈ lw_privs_1) : q ∈ lw_privs := by
  unfold lw_privs
  simp only [List.mem_append]
  exact Or.inl h
theorem m_gs1 (n : Nat) {q : MethodName × Nat} (h : lw_privs_1[n]? = some q) : Cond.selects q.1.cls q.1 q.1 ∈ m_Ts := m_Ts_of (List.mem_append_left _ (List.mem_map.mpr ⟨q, m_pv1 (List.mem_of_getElem? h), rfl⟩)) rfl
theorem m_pv2 {q : MethodName × Nat} (h : q ∈ lw_privs_2) : q ∈ lw_privs := by
  unfold lw_privs
  simp only [List.mem_append]
  exact Or.inr (Or.inl h)
theorem m_gs2 (n : Nat) {q : MethodName × Nat} (h : lw_privs_2[n]? = some q) : Cond.selects q.1.cls q.1 q.1 ∈ m_Ts := m_Ts_of (List.mem_append_left _ (List.mem_map.mpr ⟨q, m_pv2 (List.mem_of_getElem? h), rfl⟩)) rfl
theorem m_pv3 {q : MethodName × Nat} (h : q ∈ lw_privs_3) : q ∈ lw_privs := by
  unfold lw_privs
  simp only [List.mem_append]
  exact Or.inr (Or.inr (Or.inl h))
theorem m_gs3 (n : Nat) {q : MethodName × Nat} (h : lw_privs_3[n]? = some q) : Cond.selects q.1.cls q.1 q.1 ∈ m_Ts := m_Ts_of (List.mem_append_left _ (List.mem_map.mpr ⟨q, m_pv3 (List.mem_of_getElem? h), rfl⟩)) rfl
theorem m_pv4 {q : MethodName × Nat} (h : q ∈ lw_privs_4) : q ∈ lw_privs := by
  unfold lw_privs
  simp only [List.mem_append]
  exact Or.inr (Or.inr (Or.inr (Or.inl h)))
theorem m_gs4 (n : Nat) {q : MethodName × Nat} (h : lw_privs_4[n]? = some q) : Cond.selects q.1.cls q.1 q.1 ∈ m_Ts := m_Ts_of (List.mem_append_left _ (List.mem_map.mpr ⟨q, m_pv4 (List.mem_of_getElem? h), rfl⟩)) rfl
theorem m_pv5 {q : MethodName × Nat} (h : q ∈ lw_privs_5) : q ∈ lw_privs := by
  unfold lw_privs
  simp only [List.mem_append]
  exact Or.inr (Or.inr (Or.inr (Or.inr (Or.inl h))))
theorem m_gs5 (n : Nat) {q : MethodName × Nat} (h : lw_privs_5[n]? = some q) : Cond.selects q.1.cls q.1 q.1 ∈ m_Ts := m_Ts_of (List.mem_append_left _ (List.mem_map.mpr ⟨q, m_pv5 (List.mem_of_getElem? h), rfl⟩)) rfl
theorem m_pv6 {q : MethodName × Nat} (h : q ∈ lw_privs_6) : q ∈ lw_privs := by
  unfold lw_privs
  simp only [List.mem_append]
  exact Or.inr (Or.inr (Or.inr (Or.inr (Or.inr (Or.inl h)))))
theorem m_gs6 (n : Nat) {q : MethodName × Nat} (h : lw_privs_6[n]? = some q) : Cond.selects q.1.cls q.1 q.1 ∈ m_Ts := m_Ts_of (List.mem_append_left _ (List.mem_map.mpr ⟨q, m_pv6 (List.mem_of_getElem? h), rfl⟩)) rfl
theorem m_pv7 {q : MethodName × Nat} (h : q ∈ lw_privs_7) : q ∈ lw_privs := by
  unfold lw_privs
  simp only [List.mem_append]
  exact Or.inr (Or.inr (Or.inr (Or.inr (Or.inr (Or.inr (h))))))
theorem m_gs7 (n : Nat) {q : MethodName × Nat} (h : lw_privs_7[n]? = some q) : Cond.selects q.1.cls q.1 q.1 ∈ m_Ts := m_Ts_of (List.mem_append_left _ (List.mem_map.mpr ⟨q, m_pv7 (List.mem_of_getElem? h), rfl⟩)) rfl
theorem m_ne0 : RX0 ≠ "java/lang/invoke/MethodHandle" ∧ RX0 ≠ "java/lang/invoke/VarHandle" := ⟨by decide +kernel, by decide +kernel⟩
theorem m_ne1 : RX1 ≠ "java/lang/invoke/MethodHandle" ∧ RX1 ≠ "java/lang/invoke/VarHandle" := ⟨by decide +kernel, by decide +kernel⟩
theorem m_ne2 : RX2 ≠ "java/lang/invoke/MethodHandle" ∧ RX2 ≠ "java/lang/invoke/VarHandle" := ⟨by decide +kernel, by decide +kernel⟩
theorem m_ne3 : RX3 ≠ "java/lang/invoke/MethodHandle" ∧ RX3 ≠ "java/lang/invoke/VarHandle" := ⟨by decide +kernel, by decide +kernel⟩
theorem m_ne4 : RX4 ≠ "java/lang/invoke/MethodHandle" ∧ RX4 ≠ "java/lang/invoke/VarHandle" := ⟨by decide +kernel, by decide +kernel⟩
theorem m_ne5 : RX5 ≠ "java/lang/invoke/MethodHandle" ∧ RX5 ≠ "java/lang/invoke/VarHandle" := ⟨by decide +kernel, by decide +kernel⟩
theorem m_ne6 : RX6 ≠ "java/lang/invoke/MethodHandle" ∧ RX6 ≠ "java/lang/invoke/VarHandle" := ⟨by decide +kernel, by decide +kernel⟩
theorem m_ne7 : RX7 ≠ "java/lang/invoke/MethodHandle" ∧ RX7 ≠ "java/lang/invoke/VarHandle" := ⟨by decide +kernel, by decide +kernel⟩
theorem m_ne8 : RX8 ≠ "java/lang/invoke/MethodHandle" ∧ RX8 ≠ "java/lang/invoke/VarHandle" := ⟨by decide +kernel, by decide +kernel⟩
theorem m_ne9 : RX9 ≠ "java/lang/invoke/MethodHandle" ∧ RX9 ≠ "java/lang/invoke/VarHandle" := ⟨by decide +kernel, by decide +kernel⟩
theorem m_ne10 : RX10 ≠ "java/lang/invoke/MethodHandle" ∧ RX10 ≠ "java/lang/invoke/VarHandle" := ⟨by decide +kernel, by decide +kernel⟩
theorem m_ne11 : RX11 ≠ "java/lang/invoke/MethodHandle" ∧ RX11 ≠ "java/lang/invoke/VarHandle" := ⟨by decide +kernel, by decide +kernel⟩
theorem m_ne12 : RX12 ≠ "java/lang/invoke/MethodHandle" ∧ RX12 ≠ "java/lang/invoke/VarHandle" := ⟨by decide +kernel, by decide +kernel⟩
theorem m_ne13 : RL ≠ "java/lang/invoke/MethodHandle" ∧ RL ≠ "java/lang/invoke/VarHandle" := ⟨by decide +kernel, by decide +kernel⟩
theorem m_ne14 : RJ6 ≠ "java/lang/invoke/MethodHandle" ∧ RJ6 ≠ "java/lang/invoke/VarHandle" := ⟨by decide +kernel, by decide +kernel⟩
noncomputable def m_kd (j : Nat) : Nat := (m_LK.getD (j / 200) []).getD (j % 200) 9
def m_fin (f : Nat × Nat) : Bool := match m_cl[f.1]? with
  | some r => (r.2.1 f.2).2.2.2
  | none => false
def m_own (own : String) (f : Nat × Nat) : Bool := match m_cl[f.1]? with
  | some r => decide (r.1 = own)
  | none => false
/-- a called method by the tables, but for the call's own entry -/
def m_jc (j : Nat) : Prop := m_cw m_Z j ∈ m_Ts ∧ Cond.initialized (m_Y j).cls ∈ m_Ts ∧ ((m_Y j).cls ≠ "java/lang/invoke/MethodHandle" ∧ (m_Y j).cls ≠ "java/lang/invoke/VarHandle" ∧ (parseMethodDescriptor (m_Y j).desc).map (fun d => d.parameters.length) = some (m_P j).2.2.2.1)
def m_jV (j : Nat) : Prop := (m_P j).2.2.2.2.2.1 = [] ∧ Cond.instanceMethod (m_Y j) ∈ m_Ts ∧ Cond.selects (m_Y j).cls (m_Y j) (m_Y j) ∈ m_Ts ∧ ∃ r, m_cl[(m_P j).2.2.2.2.2.2]? = some r ∧ r.1 = (m_Y j).cls
def m_jI (j : Nat) : Prop := (m_P j).2.2.2.2.2.1 = [] ∧ Cond.instanceMethod (m_Y j) ∈ m_Ts ∧ (m_Y j).name = "<init>" ∧ (m_P j).2.2.2.2.1 = none
def m_jS (j : Nat) : Prop := Cond.static (m_Y j) ∈ m_Ts
/-- an entry of a pool by the tables -/
def m_eok (own : String) (k : Nat) (x : Nat ⊕ Nat) : Prop := match x with
  | .inl j => Cond.methodLink own k (m_Y j) ∈ m_Ts ∧ m_jc j ∧ ((m_kd j = 0 ∧ m_jV j) ∨ (m_kd j = 1 ∧ m_jI j) ∨ (m_kd j = 2 ∧ m_jS j))
  | .inr c => c < 8 ∧ Cond.methodLink own k (m_nname c) ∈ m_Ts
/-- a class's pool by the tables -/
def m_Pok (own : String) (q : m_Q) : Prop :=
  (∀ k f, q.1 k = some f → m_fok own k f ∧ ((m_own own f = true ∧ m_fin f = true) → ∀ r : vw_C, m_cl[f.1]? = some r → Cond.fieldLink own k r.1 (r.2.1 f.2).2.1 (r.2.1 f.2).2.2.1 ∈ m_Ts)) ∧
  (∀ k ci, q.2.1 k = some ci → ∃ r, m_cl[ci]? = some r ∧ Cond.classLink own k r.1 ∈ m_Ts) ∧
  (∀ k a, q.2.2.1 k = some a → ∃ tx, (own, k, tx, a) ∈ m_strs) ∧
  (∀ k v, q.2.2.2.1 k = some v → Cond.constantLong own k v ∈ m_Ts) ∧
  (∀ k v, q.2.2.2.2.1 k = some v → Cond.constant own k v ∈ m_Ts) ∧
  (∀ k x, q.2.2.2.2.2.1 k = some x → m_eok own k x)
/-- one instruction, what of it is decided -/
noncomputable def m_ick (S : List (Nat × Nat × Nat)) (I : m_I) (own mn : String) (z : Nat × Instr × Nat) : Bool := (m_isT z.2.1 || z.2.2 == m_il z.2.1) && (match z.2.1 with
  | .putfield k => (match I.2.1.1 k with
    | some f => !(m_fin f) || (mn == "<init>" && m_own own f)
    | none => true)
  | .invokevirtual k => (match I.2.1.2.2.2.2.2.1 k with
    | some (.inl j) => m_kd j == 0
    | some (.inr c) => decide (m_nins c k = .invokevirtual k)
    | none => true)
  | .invokespecial k => (match I.2.1.2.2.2.2.2.1 k with
    | some (.inl j) => m_kd j == 1
    | some (.inr c) => decide (m_nins c k = .invokespecial k)
    | none => true)
  | .invokestatic k => (match I.2.1.2.2.2.2.2.1 k with
    | some (.inl j) => m_kd j == 2
    | some (.inr c) => decide (m_nins c k = .invokestatic k)
    | none => true)
  | .new k => (match I.2.1.2.2.2.2.2.2 k with
    | some E => decide (I.2.2.2.2.2.1 = []) && decide ((z.1, k, E) ∈ S)
    | none => true)
  | _ => true)
theorem m_w_arr : ∀ (a : ArrayType) (t : Nat), m_tof a = some t → Cond.arrayClass (m_ty t) ∈ m_Ts := by
  intro a t h
  cases a <;> first | (cases h; done) | (cases h; exact m_Ts_of (by decide +kernel) rfl)
theorem m_mok_of {i : Nat} {own mn : String} {I : m_I} {S : List (Nat × Nat × Nat)} (hI : m_P i = I) (hY : (m_Y i).cls = own) (hn : (m_Y i).name = mn) (hpl : plainName own = true) (hmx : I.2.2.1 ≤ 22) (hq : m_Pok own I.2.1)
    (hdec : ∀ z ∈ I.1, decode (m_B i) z.1 = .ok (z.2.1, z.2.2)) (hchk : I.1.all (m_ick S I own mn) = true) (hS : ∀ x ∈ S, m_tok m_strs own (m_B i) x.2.1 x.2.2 x.1)
    (hh : ∀ h ∈ I.2.2.2.2.2.1, h.2.2.2.1 ≠ 0 ∧ h.2.2.2.2 < 5 ∧ Cond.classLink own h.2.2.2.1 (m_en h.2.2.2.2) ∈ m_Ts) : m_mok m_Z m_strs i := by
  obtain ⟨q1, q2, q3, q4, q5, q6⟩ := hq
  have e1 : m_Z.1 i = I := hI
  have e2 : (m_Z.2.1 i).cls = own := hY
  have e3 : (m_Z.2.1 i).name = mn := hn
  refine ⟨by rw [e2]; exact hpl, trivial, by rw [e1]; exact hmx, fun z hz => ?_, fun h hh1 => ?_⟩
  · rw [e1] at hz
    have hc := List.all_eq_true.mp hchk z hz
    unfold m_ick at hc
    rw [Bool.and_eq_true, Bool.or_eq_true] at hc
    obtain ⟨c1, c2⟩ := hc
    refine ⟨hdec z hz, c1.imp id (fun h => by simpa using h), ?_, ?_⟩
    · rw [e1, e2, e3]
      unfold m_qok
      split
      · next k hk => exact fun f hf => (q1 k f hf).1
      · next k hk =>
        intro f hf
        refine ⟨(q1 k f hf).1, fun r hr => ?_⟩
        rw [hk] at c2
        dsimp only at c2
        rw [hf] at c2
        dsimp only at c2
        cases hfin : m_fin f with
        | false =>
          left
          unfold m_fin at hfin
          rw [hr] at hfin
          exact hfin
        | true =>
          right
          rw [hfin] at c2
          simp only [Bool.not_true, Bool.false_or, Bool.and_eq_true, beq_iff_eq] at c2
          have g2 := (q1 k f hf).2 ⟨c2.2, hfin⟩ r hr
          have g1 := c2.2
          unfold m_own at g1
          rw [hr] at g1
          unfold m_fin at hfin
          rw [hr] at hfin
          exact ⟨hfin, c2.1, of_decide_eq_true g1, g2⟩
      · next k hk => exact fun ci hci => q2 k ci hci
      · next k hk =>
        intro h0
        obtain ⟨r, hr, hl⟩ := q2 k 0 h0
        cases hr
        exact hl
      · next k hk => exact ⟨fun a ha => q3 k a ha, fun v hv => q5 k v hv⟩
      · next k hk => exact fun v hv => q5 k v hv
      · next k hk => exact fun v hv => q4 k v hv
      · next a hk => exact fun t ht => m_w_arr a t ht
      · trivial
    · rw [e1, e2]
      split
      · next k hk =>
        intro x hx
        rw [hk] at c2
        dsimp only at c2
        rw [hx] at c2
        have hx6 := q6 k x hx
        cases x with
        | inl j =>
          have c2 : m_kd j = 0 := by simpa using c2
          obtain ⟨g1, g2, g3⟩ := hx6
          rcases g3 with ⟨-, g3⟩ | ⟨g4, -⟩ | ⟨g4, -⟩
          · exact ⟨⟨g1, g2⟩, g3⟩
          · omega
          · omega
        | inr c =>
          have c2 : m_nins c k = .invokevirtual k := by simpa using c2
          exact ⟨c2, hx6⟩
      · next k hk =>
        intro x hx
        rw [hk] at c2
        dsimp only at c2
        rw [hx] at c2
        have hx6 := q6 k x hx
        cases x with
        | inl j =>
          have c2 : m_kd j = 1 := by simpa using c2
          obtain ⟨g1, g2, g3⟩ := hx6
          rcases g3 with ⟨g4, -⟩ | ⟨-, g3⟩ | ⟨g4, -⟩
          · omega
          · exact ⟨⟨g1, g2⟩, g3⟩
          · omega
        | inr c =>
          have c2 : m_nins c k = .invokespecial k := by simpa using c2
          exact ⟨c2, hx6⟩
      · next k hk =>
        intro x hx
        rw [hk] at c2
        dsimp only at c2
        rw [hx] at c2
        have hx6 := q6 k x hx
        cases x with
        | inl j =>
          have c2 : m_kd j = 2 := by simpa using c2
          obtain ⟨g1, g2, g3⟩ := hx6
          rcases g3 with ⟨g4, -⟩ | ⟨g4, -⟩ | ⟨-, g3⟩
          · omega
          · omega
          · exact ⟨⟨g1, g2⟩, g3⟩
        | inr c =>
          have c2 : m_nins c k = .invokestatic k := by simpa using c2
          exact ⟨c2, hx6⟩
      · next k hk =>
        intro E hE
        rw [hk] at c2
        dsimp only at c2
        rw [hE] at c2
        simp only [Bool.and_eq_true, decide_eq_true_eq] at c2
        exact ⟨c2.1, hS _ c2.2⟩
      · trivial
  · rw [e1] at hh1
    rw [e2]
    exact hh h hh1
