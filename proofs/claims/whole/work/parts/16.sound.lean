/-! ===== m_: what the small machine does, the JVM does ===== -/
/-- a program: its methods, their names and bytes -/
abbrev m_PR : Type := (Nat → m_I) × (Nat → MethodName) × (Nat → ByteArray)
def m_hh (I : m_I) : List (Nat × Nat × Nat × Nat) := I.2.2.2.2.2.1.map (fun z => (z.1, z.2.1, z.2.2.1, z.2.2.2.1))
def m_cw (Z : m_PR) (i : Nat) : Cond := if (Z.1 i).2.2.2.2.2.1 = [] then .code (Z.2.1 i) (Z.2.2 i) (Z.1 i).2.2.1 (Z.1 i).2.2.2.2.1 else .codeWith (Z.2.1 i) (Z.2.2 i) (Z.1 i).2.2.1 (Z.1 i).2.2.2.2.1 (m_hh (Z.1 i))
/-- what a call's entry is by the tables: an instance's, a constructor's, a static -/
def m_cok (Z : m_PR) (own : String) (k j : Nat) : Prop := Cond.methodLink own k (Z.2.1 j) ∈ m_Ts ∧ m_cw Z j ∈ m_Ts ∧ Cond.initialized (Z.2.1 j).cls ∈ m_Ts ∧ ((Z.2.1 j).cls ≠ "java/lang/invoke/MethodHandle" ∧ (Z.2.1 j).cls ≠ "java/lang/invoke/VarHandle" ∧ (parseMethodDescriptor (Z.2.1 j).desc).map (fun d => d.parameters.length) = some (Z.1 j).2.2.2.1)
def m_cokV (Z : m_PR) (own : String) (k j : Nat) : Prop := m_cok Z own k j ∧ (Z.1 j).2.2.2.2.2.1 = [] ∧ Cond.instanceMethod (Z.2.1 j) ∈ m_Ts ∧ Cond.selects (Z.2.1 j).cls (Z.2.1 j) (Z.2.1 j) ∈ m_Ts ∧ ∃ r, m_cl[(Z.1 j).2.2.2.2.2.2]? = some r ∧ r.1 = (Z.2.1 j).cls
def m_cokI (Z : m_PR) (own : String) (k j : Nat) : Prop := m_cok Z own k j ∧ (Z.1 j).2.2.2.2.2.1 = [] ∧ Cond.instanceMethod (Z.2.1 j) ∈ m_Ts ∧ (Z.2.1 j).name = "<init>" ∧ (Z.1 j).2.2.2.2.1 = none
def m_cokS (Z : m_PR) (own : String) (k j : Nat) : Prop := m_cok Z own k j ∧ Cond.static (Z.2.1 j) ∈ m_Ts
def m_nmsX : List String := ["java/lang/RuntimeException", "java/lang/Exception"]
def m_xi (E : Nat) : Nat := if E = 4 then 13 else 7
def m_xr (E : Nat) : ByteArray := if E = 4 then ⟨#[0x2a, 0x2b, 0xb7, 0x00, 0x0d, 0xb1]⟩ else ⟨#[0x2a, 0x2b, 0xb7, 0x00, 0x07, 0xb1]⟩
/-- an exception that is made and thrown at pc -/
def m_tok (strs : List (String × Nat × String × Nat)) (own : String) (bytes : ByteArray) (k E pc : Nat) : Prop := E < 5 ∧ ∃ (is ic id : Nat) (tx : String), (own, is, tx, id) ∈ strs ∧ Cond.classLink own k (m_en E) ∈ m_Ts ∧ Cond.initialized (m_en E) ∈ m_Ts ∧
  (∀ w ∈ m_atX own ic (m_en E) (m_xi E) (m_xr E) m_nmsX, w ∈ m_Ts ∨ w ∈ m_Nt) ∧ (∀ w ∈ Cond.classLink own k (m_en E) :: Cond.initialized (m_en E) :: m_atX own ic (m_en E) (m_xi E) (m_xr E) m_nmsX, vx_ot w = true) ∧
  decode bytes (pc + 3) = .ok (.dup, 1) ∧ ((decode bytes (pc + 4) = .ok (.ldc is, 2) ∧ decode bytes (pc + 6) = .ok (.invokespecial ic, 3) ∧ decode bytes (pc + 9) = .ok (.athrow, 1)) ∨ (decode bytes (pc + 4) = .ok (.ldc_w is, 3) ∧ decode bytes (pc + 7) = .ok (.invokespecial ic, 3) ∧ decode bytes (pc + 10) = .ok (.athrow, 1)))
/-- one instruction of a method, by the tables -/
def m_iok (Z : m_PR) (strs : List (String × Nat × String × Nat)) (i : Nat) (z : Nat × Instr × Nat) : Prop :=
  decode (Z.2.2 i) z.1 = .ok (z.2.1, z.2.2) ∧ (m_isT z.2.1 = true ∨ z.2.2 = m_il z.2.1) ∧ m_qok (Z.2.1 i).cls (Z.2.1 i).name strs (Z.1 i).2.1 z.2.1 ∧ (match z.2.1 with
    | .invokevirtual k => ∀ x, (Z.1 i).2.1.2.2.2.2.2.1 k = some x → (match x with
      | .inl j => m_cokV Z (Z.2.1 i).cls k j
      | .inr c => m_nins c k = .invokevirtual k ∧ c < 8 ∧ Cond.methodLink (Z.2.1 i).cls k (m_nname c) ∈ m_Ts)
    | .invokespecial k => ∀ x, (Z.1 i).2.1.2.2.2.2.2.1 k = some x → (match x with
      | .inl j => m_cokI Z (Z.2.1 i).cls k j
      | .inr c => m_nins c k = .invokespecial k ∧ c < 8 ∧ Cond.methodLink (Z.2.1 i).cls k (m_nname c) ∈ m_Ts)
    | .invokestatic k => ∀ x, (Z.1 i).2.1.2.2.2.2.2.1 k = some x → (match x with
      | .inl j => m_cokS Z (Z.2.1 i).cls k j
      | .inr c => m_nins c k = .invokestatic k ∧ c < 8 ∧ Cond.methodLink (Z.2.1 i).cls k (m_nname c) ∈ m_Ts)
    | .new k => ∀ E, (Z.1 i).2.1.2.2.2.2.2.2 k = some E → (Z.1 i).2.2.2.2.2.1 = [] ∧ m_tok strs (Z.2.1 i).cls (Z.2.2 i) k E z.1
    | _ => True)
/-- a method by the tables -/
def m_mok (Z : m_PR) (strs : List (String × Nat × String × Nat)) (i : Nat) : Prop := plainName (Z.2.1 i).cls = true ∧ True ∧ (Z.1 i).2.2.1 ≤ 22 ∧ (∀ z ∈ (Z.1 i).1, m_iok Z strs i z) ∧ ∀ h ∈ (Z.1 i).2.2.2.2.2.1, h.2.2.2.1 ≠ 0 ∧ h.2.2.2.2 < 5 ∧ Cond.classLink (Z.2.1 i).cls h.2.2.2.1 (m_en h.2.2.2.2) ∈ m_Ts
def m_wl (Z : m_PR) (i : Nat) : List Cond := m_cw Z i :: m_Ts
theorem m_f_mem {I : m_I} {pc : Nat} {x : Instr × Nat} (h : m_f I pc = some x) : (pc, x.1, x.2) ∈ I.1 := by
  unfold m_f at h
  obtain ⟨z, h1, rfl⟩ := Option.map_eq_some_iff.mp h
  have h2 := List.mem_of_find?_eq_some h1
  have h3 := List.find?_some h1
  have h3 : z.1 = pc := by simpa using h3
  subst h3
  exact h2
theorem m_good_in {ws : List Cond} (h : ∀ w ∈ ws, w ∈ m_Ts) : GoodIn m_Ts ws := fun w hw => ⟨h w hw, good_of_word (m_Ts_good w (h w hw))⟩
section MF
variable {l : Launch} {dC : Nat → ClassId} {dI : Nat → Nat → Nat} {tys : List (ClassId × FieldType)} {ex : Nat → Nat} {sl : Nat → List Int32} {B0 L : Nat} {xs : Nat → Int32} {strs : List (String × Nat × String × Nat)} {Z : m_PR}
/-- a method's contract for one run of the small machine: d calls deep at most -/
def m_Ct (l : Launch) (dC : Nat → ClassId) (dI : Nat → Nat → Nat) (tys : List (ClassId × FieldType)) (ex : Nat → Nat) (sl : Nat → List Int32) (B0 L : Nat) (xs : Nat → Int32) (strs : List (String × Nat × String × Nat)) (Z : m_PR) (i d : Nat) (as : List Value) (hp : m_H) (o : m_O) (hp' : m_H) : Prop :=
  ∀ (ws : va_W) (vs : List Value), m_Vs (m_ad ex ws) as vs → m_Hr ex tys hp ws → vx_Met l (Z.2.1 i) (m_wl Z i) { frames := d, cells := m_cells hp' - m_cells hp, slots := m_slots hp' - m_slots hp, locals := 41 * d }
    (m_Pc dC dI tys ex sl B0 L xs strs vs ws) (m_Qc dC dI tys ex B0 ws o hp') (m_XC dC dI tys ex B0 ws o hp') (m_cells hp' - m_cells hp) (m_slots hp' - m_slots hp) (fun q => B0 ≤ q)
/-- the method that is being run -/
def m_Fx (l : Launch) (dC : Nat → ClassId) (dI : Nat → Nat → Nat) (tys : List (ClassId × FieldType)) (ex : Nat → Nat) (sl : Nat → List Int32) (B0 L : Nat) (xs : Nat → Int32) (strs : List (String × Nat × String × Nat)) (Z : m_PR) (i : Nat) (p : Program) (s : State) (m : MethodId) (args : Array Value) (meth : Method) (c : Code) : Prop :=
  m_Cx p s m args c (Z.2.2 i) (Z.1 i).2.2.1 (Z.2.1 i).cls ∧ m_Wo s dC dI tys ex sl B0 L xs strs ∧ m_Xs s ∧ meth.sig.returnType = (Z.1 i).2.2.2.2.1 ∧ meth.locks = false ∧ meth.name = (Z.2.1 i).name ∧ c.exceptionTable.toList = tableOf (m_hh (Z.1 i))
/-- the claim on a run of n steps from a place within a method -/
def m_FS (l : Launch) (dC : Nat → ClassId) (dI : Nat → Nat → Nat) (tys : List (ClassId × FieldType)) (ex : Nat → Nat) (sl : Nat → List Int32) (B0 L : Nat) (xs : Nat → Int32) (strs : List (String × Nat × String × Nat)) (Z : m_PR) (n : Nat) : Prop :=
  ∀ (d i pc : Nat) (lv : m_L) (st : List Value) (hp : m_H) (o : m_O) (hpF hp0 : m_H), m_run m_ft m_fn sl xs L Z.1 n d i pc lv st hp = some (o, hpF) → m_mok Z strs i →
    ∀ {p : Program} {e : Env} {R : Room} {s : State} {m : MethodId} {args : Array Value} {below : List Frame} {meth : Method} {c : Code} {H : Heap} {locs : List Loc} {cells slots : Nat} {ls : Array Slot} {vs : List Value} {ws0 ws : va_W},
      m_Fx l dC dI tys ex sl B0 L xs strs Z i p s m args meth c → R.frames = d → R.locals = 41 * d → R.cells + m_cells hp0 = m_cells hpF → R.slots + m_slots hp0 = m_slots hpF →
      m_Rl (m_ad ex ws) (Z.1 i).2.2.1 lv ls → m_Vs (m_ad ex ws) st vs → m_Rh s dC dI tys ex B0 (m_cells hp0) (m_slots hp0) ws0 hp H locs cells slots ws →
      W p l e R s m args below meth c H locs cells slots (vx_MQ below (m_Qc dC dI tys ex B0 ws0 o hpF) (m_XC dC dI tys ex B0 ws0 o hpF) args s (m_cells hpF - m_cells hp0) (m_slots hpF - m_slots hp0) (fun q => B0 ≤ q)) (F0 m pc ls vs)
/-- the end of a method -/
theorem m_end_ret {i pc len : Nat} {ins : Instr} {st : List Value} {v : Option Value} {hp hp0 : m_H} (hd : decode (Z.2.2 i) pc = .ok (ins, len)) (hlen : m_isT ins = true ∨ len = m_il ins) (hs : m_ret (Z.1 i).2.2.2.2.1 ins st = some v)
    {p : Program} {e : Env} {R : Room} {s : State} {m : MethodId} {args : Array Value} {below : List Frame} {meth : Method} {c : Code} {H : Heap} {locs : List Loc} {cells slots : Nat} {ls : Array Slot} {vs : List Value} {ws0 ws : va_W}
    (hF : m_Fx l dC dI tys ex sl B0 L xs strs Z i p s m args meth c) (hv : m_Vs (m_ad ex ws) st vs) (hh : m_Rh s dC dI tys ex B0 (m_cells hp0) (m_slots hp0) ws0 hp H locs cells slots ws) :
    W p l e R s m args below meth c H locs cells slots (vx_MQ below (m_Qc dC dI tys ex B0 ws0 (.inl v) hp) (m_XC dC dI tys ex B0 ws0 (.inl v) hp) args s (m_cells hp - m_cells hp0) (m_slots hp - m_slots hp0) (fun q => B0 ≤ q)) (F0 m pc ls vs) := by
  obtain ⟨⟨hx, hb, hml, hown, hts, hnt⟩, hW, hX, hr, hlk, hnm, htb⟩ := hF
  obtain ⟨q1, q2, q3, q4, q5, q6, q7⟩ := hh
  have e1 : m_cells hp - m_cells hp0 = cells := by omega
  have e2 : m_slots hp - m_slots hp0 = slots := by omega
  rw [e1, e2]
  have hl1 : len = m_il ins := by
    rcases hlen with h | h
    · cases ins <;> first | (cases h; done) | (simp [m_ret] at hs)
    · exact h
  refine vx_ret (m_ret_ok hx hb hd hl1 hr hlk hs hv q4.2.2 fun w hw t ht _ => ?_)
  exact ⟨⟨v, w, rfl, rfl, ws, ⟨q1, by rw [ht]; exact q2, q3, q7⟩, hw⟩, q4.F ht⟩
end MF
