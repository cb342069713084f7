/-! ===== m_: what one instruction does, the JVM does: those that don't touch the heap ===== -/
/-- the classes whose objects there are; field types; numbers of fields -/
abbrev m_cl : List vw_C := [(RX0, TX0, 6), (RX1, TX1, 1), (RX2, TX2, 6), (RX3, TX3, 20), (RX4, TX4, 8), (RX7, TX7, 10), (RX8, TX8, 3), (RX9, TX9, 8), (RX11, TX11, 12), (RX12, TX12, 26)]
def m_ft (ci : Nat) : Nat → FieldType := match ci with
  | 0 => tyX0
  | 1 => tyX1
  | 2 => tyX2
  | 3 => tyX3
  | 4 => tyX4
  | 5 => tyX7
  | 6 => tyX8
  | 7 => tyX9
  | 8 => tyX11
  | _ => tyX12
def m_fn (ci : Nat) : Nat := match ci with
  | 0 => 6
  | 1 => 1
  | 2 => 6
  | 3 => 20
  | 4 => 8
  | 5 => 10
  | 6 => 3
  | 7 => 8
  | 8 => 12
  | _ => 26
/-- the tables' words that hold wherever the tables do, and the others -/
def m_Ts : List Cond := lw_tbl.filter goodWord
def m_isN (w : Cond) : Bool := match w with
  | .fieldLinkNest _ _ _ _ _ _ => true
  | .declares _ => true
  | .castable _ _ => true
  | _ => false
def m_Nt : List Cond := lw_tbl.filter m_isN
/-- the method that is run: the machine, its code, its locals, its class, the words -/
def m_Cx (p : Program) (s : State) (m : MethodId) (args : Array Value) (c : Code) (cc : ByteArray) (nL : Nat) (own : String) : Prop :=
  p.tables.exec = Jvm.exec ∧ c.code = cc ∧ c.maxLocals = nL ∧ s.vm.findClass own = some m.cls ∧ (∀ w ∈ m_Ts, w.before args s = true) ∧ ∀ w ∈ m_Nt, va_Nw w s
def m_Rl (ad : Nat → Option Nat) (nL : Nat) (lv : m_L) (ls : Array Slot) : Prop := ∃ lc, lv_has ls nL lc ∧ m_Ls ad lv lc
theorem m_Rl.at {ad : Nat → Option Nat} {nL : Nat} {lv : m_L} {ls : Array Slot} (h : m_Rl ad nL lv ls) {i : Nat} {v : Value} (hi : m_at i lv = some v) : ∃ w, ls[i]? = some (.val w) ∧ m_V ad v w := by
  obtain ⟨lc, h1, h2⟩ := h
  obtain ⟨w, h3, h4⟩ := h2.at hi
  exact ⟨w, h1.2.2 _ h3, h4⟩
section MP
variable {p : Program} {l : Launch} {e : Env} {R : Room} {s : State} {m : MethodId} {args : Array Value} {below : List Frame} {meth : Method} {c : Code} {H : Heap} {locs : List Loc} {cells slots : Nat} {Q : State → Prop}
variable {cc : ByteArray} {pc nL : Nat} {ls : Array Slot} {own : String} {ad : Nat → Option Nat} {lv : m_L} {st vs : List Value}
/-- the state behind, as the goal wants it -/
def m_K (p : Program) (l : Launch) (e : Env) (R : Room) (s : State) (m : MethodId) (args : Array Value) (below : List Frame) (meth : Method) (c : Code) (H : Heap) (locs : List Loc) (cells slots : Nat) (Q : State → Prop) (ad : Nat → Option Nat) (nL pc : Nat) (lv : m_L) (st : List Value) : Prop :=
  ∀ (ls : Array Slot) (vs : List Value), m_Rl ad nL lv ls → m_Vs ad st vs → W p l e R s m args below meth c H locs cells slots Q (F0 m pc ls vs)
theorem m_Vs.hd {a : Value} {as : List Value} (h : m_Vs ad (a :: as) vs) : ∃ w ws, vs = w :: ws ∧ m_V ad a w ∧ m_Vs ad as ws := by
  cases vs with
  | nil => exact h.elim
  | cons w ws => exact ⟨w, ws, rfl, h.1, h.2⟩
/-- the instructions that touch no cell: which -/
def m_il (ins : Instr) : Nat := match ins with
  | .bipush _ | .iload _ | .lload _ | .aload _ | .istore _ | .lstore _ | .astore _ | .ldc _ | .newarray _ => 2
  | .sipush _ | .iinc _ _ | .getfield _ | .putfield _ | .new _ | .anewarray _ | .ldc_w _ | .ldc2_w _ | .invokevirtual _ | .invokespecial _ | .invokestatic _ | .goto _ | .if_icmp _ _ | .ifCond _ _ | .ifnull _ | .ifnonnull _ => 3
  | _ => 1
theorem m_ld_i {i k : Nat} {z : List Value} (hl : m_Rl ad nL lv ls) (hv : m_Vs ad st vs) (h : m_ldi i lv st = some z) (kk : m_K p l e R s m args below meth c H locs cells slots Q ad nL k lv z)
    (row : ∀ x : Int32, ls[i]? = some (.val (.int x)) → W p l e R s m args below meth c H locs cells slots Q (F0 m k ls (.int x :: vs)) → W p l e R s m args below meth c H locs cells slots Q (F0 m pc ls vs)) : W p l e R s m args below meth c H locs cells slots Q (F0 m pc ls vs) := by
  unfold m_ldi at h
  split at h
  · next x hx =>
    cases h
    obtain ⟨w, h1, h2⟩ := hl.at hx
    cases h2
    exact row x h1 (kk ls _ hl ⟨rfl, hv⟩)
  · cases h
theorem m_ld_l {i k : Nat} {z : List Value} (hl : m_Rl ad nL lv ls) (hv : m_Vs ad st vs) (h : m_ldl i lv st = some z) (kk : m_K p l e R s m args below meth c H locs cells slots Q ad nL k lv z)
    (row : ∀ x : Int64, ls[i]? = some (.val (.long x)) → W p l e R s m args below meth c H locs cells slots Q (F0 m k ls (.long x :: vs)) → W p l e R s m args below meth c H locs cells slots Q (F0 m pc ls vs)) : W p l e R s m args below meth c H locs cells slots Q (F0 m pc ls vs) := by
  unfold m_ldl at h
  split at h
  · next x hx =>
    cases h
    obtain ⟨w, h1, h2⟩ := hl.at hx
    cases h2
    exact row x h1 (kk ls _ hl ⟨rfl, hv⟩)
  · cases h
theorem m_ld_a {i k : Nat} {z : List Value} (hl : m_Rl ad nL lv ls) (hv : m_Vs ad st vs) (h : m_lda i lv st = some z) (kk : m_K p l e R s m args below meth c H locs cells slots Q ad nL k lv z)
    (row : ∀ x : Nat, ls[i]? = some (.val (.ref x)) → W p l e R s m args below meth c H locs cells slots Q (F0 m k ls (.ref x :: vs)) → W p l e R s m args below meth c H locs cells slots Q (F0 m pc ls vs))
    (rowN : ls[i]? = some (.val .null) → W p l e R s m args below meth c H locs cells slots Q (F0 m k ls (.null :: vs)) → W p l e R s m args below meth c H locs cells slots Q (F0 m pc ls vs)) : W p l e R s m args below meth c H locs cells slots Q (F0 m pc ls vs) := by
  unfold m_lda at h
  split at h
  · next x hx =>
    cases h
    obtain ⟨w, h1, a, h2, rfl⟩ := hl.at hx
    exact row a h1 (kk ls _ hl ⟨⟨a, h2, rfl⟩, hv⟩)
  · next hx =>
    cases h
    obtain ⟨w, h1, h2⟩ := hl.at hx
    cases h2
    exact rowN h1 (kk ls _ hl ⟨rfl, hv⟩)
  · cases h
theorem m_st_i {i k : Nat} {z : m_L × List Value} (hl : m_Rl ad nL lv ls) (hv : m_Vs ad st vs) (h : m_sti i nL lv st = some z) (kk : m_K p l e R s m args below meth c H locs cells slots Q ad nL k z.1 z.2)
    (row : ∀ (x : Int32) (r : List Value) (lc : m_L), lv_has ls nL lc → i < nL → (∀ ls' : Array Slot, lv_has ls' nL (m_sv i (.int x) lc) → W p l e R s m args below meth c H locs cells slots Q (F0 m k ls' r)) → W p l e R s m args below meth c H locs cells slots Q (F0 m pc ls (.int x :: r))) : W p l e R s m args below meth c H locs cells slots Q (F0 m pc ls vs) := by
  unfold m_sti at h
  split at h
  · next x r =>
    split at h
    · next hi =>
      cases h
      obtain ⟨w, ws, rfl, h1, h2⟩ := hv.hd
      cases h1
      obtain ⟨lc, h3, h4⟩ := hl
      exact row x ws lc h3 hi (fun ls' h5 => kk ls' ws ⟨_, h5, h4.sv i rfl⟩ h2)
    · cases h
  · cases h
theorem m_st_l {i k : Nat} {z : m_L × List Value} (hl : m_Rl ad nL lv ls) (hv : m_Vs ad st vs) (h : m_stl i nL lv st = some z) (kk : m_K p l e R s m args below meth c H locs cells slots Q ad nL k z.1 z.2)
    (row : ∀ (x : Int64) (r : List Value) (lc : m_L), lv_has ls nL lc → i + 1 < nL → (∀ ls' : Array Slot, lv_has ls' nL (m_sw i (.long x) lc) → W p l e R s m args below meth c H locs cells slots Q (F0 m k ls' r)) → W p l e R s m args below meth c H locs cells slots Q (F0 m pc ls (.long x :: r))) : W p l e R s m args below meth c H locs cells slots Q (F0 m pc ls vs) := by
  unfold m_stl at h
  split at h
  · next x r =>
    split at h
    · next hi =>
      cases h
      obtain ⟨w, ws, rfl, h1, h2⟩ := hv.hd
      cases h1
      obtain ⟨lc, h3, h4⟩ := hl
      exact row x ws lc h3 hi (fun ls' h5 => kk ls' ws ⟨_, h5, h4.sw i rfl⟩ h2)
    · cases h
  · cases h
theorem m_st_a {i k : Nat} {z : m_L × List Value} (hl : m_Rl ad nL lv ls) (hv : m_Vs ad st vs) (h : m_sta i nL lv st = some z) (kk : m_K p l e R s m args below meth c H locs cells slots Q ad nL k z.1 z.2)
    (row : ∀ (x : Nat) (r : List Value) (lc : m_L), lv_has ls nL lc → i < nL → (∀ ls' : Array Slot, lv_has ls' nL (m_sv i (.ref x) lc) → W p l e R s m args below meth c H locs cells slots Q (F0 m k ls' r)) → W p l e R s m args below meth c H locs cells slots Q (F0 m pc ls (.ref x :: r)))
    (rowN : ∀ (r : List Value) (lc : m_L), lv_has ls nL lc → i < nL → (∀ ls' : Array Slot, lv_has ls' nL (m_sv i .null lc) → W p l e R s m args below meth c H locs cells slots Q (F0 m k ls' r)) → W p l e R s m args below meth c H locs cells slots Q (F0 m pc ls (.null :: r))) : W p l e R s m args below meth c H locs cells slots Q (F0 m pc ls vs) := by
  unfold m_sta at h
  split at h
  · next x r =>
    split at h
    · next hi =>
      cases h
      obtain ⟨w, ws, rfl, ⟨a, h1, rfl⟩, h2⟩ := hv.hd
      obtain ⟨lc, h3, h4⟩ := hl
      exact row a ws lc h3 hi (fun ls' h5 => kk ls' ws ⟨_, h5, h4.sv i ⟨a, h1, rfl⟩⟩ h2)
    · cases h
  · next r =>
    split at h
    · next hi =>
      cases h
      obtain ⟨w, ws, rfl, h1, h2⟩ := hv.hd
      cases h1
      obtain ⟨lc, h3, h4⟩ := hl
      exact rowN ws lc h3 hi (fun ls' h5 => kk ls' ws ⟨_, h5, h4.sv i rfl⟩ h2)
    · cases h
  · next x r =>
    split at h
    · next hi =>
      cases h
      obtain ⟨w, ws, rfl, ⟨a, rfl⟩, h2⟩ := hv.hd
      obtain ⟨lc, h3, h4⟩ := hl
      exact row a ws lc h3 hi (fun ls' h5 => kk ls' ws ⟨_, h5, h4.sv i ⟨a, rfl⟩⟩ h2)
    · cases h
  · cases h
theorem m_b_i {f : Int32 → Int32 → Int32} {k : Nat} {z : List Value} (hl : m_Rl ad nL lv ls) (hv : m_Vs ad st vs) (h : m_i2 f st = some z) (kk : m_K p l e R s m args below meth c H locs cells slots Q ad nL k lv z)
    (row : ∀ (x y : Int32) (r : List Value), W p l e R s m args below meth c H locs cells slots Q (F0 m k ls (.int (f x y) :: r)) → W p l e R s m args below meth c H locs cells slots Q (F0 m pc ls (.int y :: .int x :: r))) : W p l e R s m args below meth c H locs cells slots Q (F0 m pc ls vs) := by
  unfold m_i2 at h
  split at h
  · next y x r =>
    cases h
    obtain ⟨w, ws, rfl, h1, h2⟩ := hv.hd
    obtain ⟨w2, ws2, rfl, h3, h4⟩ := h2.hd
    cases h1
    cases h3
    exact row x y ws2 (kk ls _ hl ⟨rfl, h4⟩)
  · cases h
theorem m_b_l {f : Int64 → Int64 → Int64} {k : Nat} {z : List Value} (hl : m_Rl ad nL lv ls) (hv : m_Vs ad st vs) (h : m_l2 f st = some z) (kk : m_K p l e R s m args below meth c H locs cells slots Q ad nL k lv z)
    (row : ∀ (x y : Int64) (r : List Value), W p l e R s m args below meth c H locs cells slots Q (F0 m k ls (.long (f x y) :: r)) → W p l e R s m args below meth c H locs cells slots Q (F0 m pc ls (.long y :: .long x :: r))) : W p l e R s m args below meth c H locs cells slots Q (F0 m pc ls vs) := by
  unfold m_l2 at h
  split at h
  · next y x r =>
    cases h
    obtain ⟨w, ws, rfl, h1, h2⟩ := hv.hd
    obtain ⟨w2, ws2, rfl, h3, h4⟩ := h2.hd
    cases h1
    cases h3
    exact row x y ws2 (kk ls _ hl ⟨rfl, h4⟩)
  · cases h
theorem m_u_i {f : Int32 → Value} {k : Nat} {z : List Value} (hf : ∀ x, m_V ad (f x) (f x)) (hl : m_Rl ad nL lv ls) (hv : m_Vs ad st vs) (h : m_i1 f st = some z) (kk : m_K p l e R s m args below meth c H locs cells slots Q ad nL k lv z)
    (row : ∀ (x : Int32) (r : List Value), W p l e R s m args below meth c H locs cells slots Q (F0 m k ls (f x :: r)) → W p l e R s m args below meth c H locs cells slots Q (F0 m pc ls (.int x :: r))) : W p l e R s m args below meth c H locs cells slots Q (F0 m pc ls vs) := by
  unfold m_i1 at h
  split at h
  · next x r =>
    cases h
    obtain ⟨w, ws, rfl, h1, h2⟩ := hv.hd
    cases h1
    exact row x ws (kk ls _ hl ⟨hf x, h2⟩)
  · cases h
end MP
