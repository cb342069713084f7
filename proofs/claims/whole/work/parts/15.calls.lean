/-! ===== m_: contracts of methods in the small machine's words; calls ===== -/
def m_en (E : Nat) : String := match E with
  | 0 => "java/lang/IndexOutOfBoundsException"
  | 1 => "java/lang/IllegalArgumentException"
  | 2 => "java/lang/UnsupportedOperationException"
  | 3 => "java/lang/IllegalStateException"
  | _ => "java/util/NoSuchElementException"
def m_Xs (s : State) : Prop := ∀ a b, a < 5 → b < 5 → (a = b → va_Nw (.castable (m_en a) (m_en b)) s) ∧ (a ≠ b → va_Nc (m_en a) (m_en b) s)
theorem m_Nc_moved {C T : String} {u U : State} (hvm : u.vm.Alike U.vm) (h : va_Nc C T u) : va_Nc C T U := by
  first
    | exact h.moved hvm
    | exact va_Nc.moved hvm h
theorem m_Xs.warm {s U : State} (hW : s.WarmedH U.vm) (h : m_Xs s) : m_Xs U := fun a b ha hb => ⟨fun e => va_Nw.warmC hW ((h a b ha hb).1 e), fun e => m_Nc_moved hW.alike ((h a b ha hb).2 e)⟩
theorem m_Nt_warm {s U : State} (hW : s.WarmedH U.vm) (h : ∀ w ∈ m_Nt, va_Nw w s) : ∀ w ∈ m_Nt, va_Nw w U := by
  intro w hw
  have h1 := h w hw
  have h2 := (List.mem_filter.mp hw).2
  unfold m_isN at h2
  split at h2
  · exact va_Nw.warmF hW h1
  · exact va_Nw.warmD hW h1
  · exact va_Nw.warmC hW h1
  · cases h2
theorem m_Wo.warm {s U : State} {dC : Nat → ClassId} {dI : Nat → Nat → Nat} {tys : List (ClassId × FieldType)} {ex : Nat → Nat} {sl : Nat → List Int32} {B0 L : Nat} {xs : Nat → Int32} {strs : List (String × Nat × String × Nat)} {H : Heap} {locs : List Loc}
    (h : m_Wo s dC dI tys ex sl B0 L xs strs) (hW : s.WarmedH U.vm) (hU : U.heap = H) (hS : va_S (fun q => B0 ≤ q) s.heap H locs) : m_Wo U dC dI tys ex sl B0 L xs strs := by
  obtain ⟨h1, h2, h3, h4, h5, h6, h7, h8, h9⟩ := h
  have hk : ∀ a : Nat, a < s.heap.size → ¬ B0 ≤ a → H[a]? = s.heap[a]? := fun a q1 q2 => hS.2.1 a q1 q2
  subst hU
  exact ⟨h1.moved hW.alike, (h2.moved hW.alike).kept (hk _ (Nat.lt_of_lt_of_le h3 h4) (Nat.not_le.mpr h3)), h3, Nat.le_trans h4 hS.1, h5, h6.moved hW.alike, fun q hq => ⟨(h7 q hq).1.warm hW, (h7 q hq).2⟩, va_Nw.warmC hW h8, (h9.moved hW.alike).kept hk⟩
def m_Pc (dC : Nat → ClassId) (dI : Nat → Nat → Nat) (tys : List (ClassId × FieldType)) (ex : Nat → Nat) (sl : Nat → List Int32) (B0 L : Nat) (xs : Nat → Int32) (strs : List (String × Nat × String × Nat)) (vs : List Value) (ws : va_W) : Array Value → State → Prop :=
  fun a U => a = vs.toArray ∧ m_Wo U dC dI tys ex sl B0 L xs strs ∧ m_Xs U ∧ (∀ w ∈ m_Nt, va_Nw w U) ∧ va_P (dC, dI) m_cl ws U.heap ∧ va_D (fun q => B0 ≤ q) ws
/-- the world behind a method -/
def m_Bw (dC : Nat → ClassId) (dI : Nat → Nat → Nat) (tys : List (ClassId × FieldType)) (ex : Nat → Nat) (B0 : Nat) (ws : va_W) (hp' : m_H) (ws' : va_W) (t : State) : Prop :=
  m_Hr ex tys hp' ws' ∧ va_P (dC, dI) m_cl ws' t.heap ∧ va_D (fun q => B0 ≤ q) ws' ∧ m_Le (m_ad ex ws) (m_ad ex ws')
def m_Qc (dC : Nat → ClassId) (dI : Nat → Nat → Nat) (tys : List (ClassId × FieldType)) (ex : Nat → Nat) (B0 : Nat) (ws : va_W) (o : m_O) (hp' : m_H) : Array Value → State → Outcome → State → Prop :=
  fun _ st oc t => (∃ v w, o = .inl v ∧ oc = .returned w ∧ ∃ ws', m_Bw dC dI tys ex B0 ws hp' ws' t ∧ m_Vs (m_ad ex ws') v.toList w.toList) ∧ va_F (fun q => B0 ≤ q) st t
def m_XC (dC : Nat → ClassId) (dI : Nat → Nat → Nat) (tys : List (ClassId × FieldType)) (ex : Nat → Nat) (B0 : Nat) (ws : va_W) (o : m_O) (hp' : m_H) : String → State → State → Prop :=
  fun E st t => (∃ k, o = .inr k ∧ k < 5 ∧ E = m_en k ∧ ∃ ws', m_Bw dC dI tys ex B0 ws hp' ws' t) ∧ va_F (fun q => B0 ≤ q) st t
theorem m_Pc_blind {dC : Nat → ClassId} {dI : Nat → Nat → Nat} {tys : List (ClassId × FieldType)} {ex : Nat → Nat} {sl : Nat → List Int32} {B0 L : Nat} {xs : Nat → Int32} {strs : List (String × Nat × String × Nat)} {vs : List Value} {ws : va_W} : FrameBlind (m_Pc dC dI tys ex sl B0 L xs strs vs ws) := by
  intro a U g mk h
  obtain ⟨h1, h2, h3, h4, h5, h6⟩ := h
  have hW : U.WarmedH (U.calling g mk a).vm := State.WarmedH.refl U
  exact ⟨h1, h2.warm (locs := []) hW rfl va_S.rf, h3.warm hW, m_Nt_warm hW h4, h5, h6⟩
