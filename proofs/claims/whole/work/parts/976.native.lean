/-! ===== n_: the JDK's methods that are walked: length, charAt, copyOf ===== -/
def n_ws (y : MethodName) (b : ByteArray) (k : Nat) (ret : Option FieldType) : List Cond := Cond.code y b k ret :: m_Ts
/-- room for d calls -/
def n_rm (d mc ms : Nat) : Room := { frames := d, cells := mc, slots := ms, locals := 41 * d }
theorem n_callB {R : Room} {s : State} {args : Array Value} {own : String} {index : Nat} {y : MethodName} {b : ByteArray} {k d n mc ms : Nat} {ret : Option FieldType} (hts : ∀ w ∈ m_Ts, w.before args s = true)
    (hl : Cond.methodLink own index y ∈ m_Ts) (hc : Cond.code y b k ret ∈ m_Ts) (hi : Cond.initialized y.cls ∈ m_Ts)
    (hd : y.cls ≠ "java/lang/invoke/MethodHandle" ∧ y.cls ≠ "java/lang/invoke/VarHandle" ∧ (parseMethodDescriptor y.desc).map (fun d => d.parameters.length) = some n) (h1 : d + 1 ≤ R.frames) (h2 : 8 + (k + 11) + 41 * d ≤ R.locals) :
    CallB R s args own index y b k ret (n_ws y b k ret) (n_rm d mc ms) mc ms n :=
  callB_of n hts (m_good_in fun w hw => (List.mem_cons.mp hw).elim (fun h => by rw [h]; exact hc) id) rfl rfl rfl (hts _ hi) (hts _ hl) hd ⟨h1, h2⟩
section NN
variable {l : Launch} {dC : Nat → ClassId} {dI : Nat → Nat → Nat} {tys : List (ClassId × FieldType)} {ex : Nat → Nat} {sl : Nat → List Int32} {B0 L : Nat} {xs : Nat → Int32} {strs : List (String × Nat × String × Nat)}
/-- what the walked methods stand on -/
def n_Pc (dC : Nat → ClassId) (dI : Nat → Nat → Nat) (tys : List (ClassId × FieldType)) (ex : Nat → Nat) (sl : Nat → List Int32) (B0 L : Nat) (xs : Nat → Int32) (strs : List (String × Nat × String × Nat)) (vs : List Value) (ws : va_W) : Array Value → State → Prop :=
  fun a U => a = vs.toArray ∧ m_Wo U dC dI tys ex sl B0 L xs strs ∧ (∀ w ∈ m_Nt, va_Nw w U) ∧ va_P (dC, dI) m_cl ws U.heap ∧ va_D (fun q => B0 ≤ q) ws
theorem n_Pc_blind {vs : List Value} {ws : va_W} : FrameBlind (n_Pc dC dI tys ex sl B0 L xs strs vs ws) := by
  intro a U g mk h
  obtain ⟨h1, h2, h4, h5, h6⟩ := h
  have hW : U.WarmedH (U.calling g mk a).vm := State.WarmedH.refl U
  exact ⟨h1, h2.warm (locs := []) hW rfl va_S.rf, m_Nt_warm hW h4, h5, h6⟩
/-- an answer: an int -/
abbrev n_Qi (v : Int32) : Array Value → State → Outcome → State → Prop := va_Qi (fun r (_ : Unit) => r = v) (fun _ _ => True) (fun _ => False)
abbrev n_Qv : Array Value → State → Outcome → State → Prop := va_Qv (fun (_ : Unit) => True) (fun _ _ => True) (fun _ => False)
/-- a method's body, from its words -/
theorem n_met {y : MethodName} {cc : ByteArray} {k d mc ms : Nat} {ret : Option FieldType} {vs : List Value} {ws : va_W} {Qc : Array Value → State → Outcome → State → Prop} {free : Addr → Prop} (hy : plainName y.cls = true) (hlen : (lg_sl vs).length ≤ k)
    (body : ∀ (p : Program) (e : Env) (s : State) (m : MethodId) (below : List Frame) (meth : Method) (c : Code) (ls : Array Slot), m_Cx p s m vs.toArray c cc k y.cls → m_Wo s dC dI tys ex sl B0 L xs strs → meth.sig.returnType = ret → meth.locks = false → lv_has ls k (lv_args 0 vs) → va_P (dC, dI) m_cl ws s.heap → va_D (fun q => B0 ≤ q) ws →
      W p l e (n_rm d mc ms) s m vs.toArray below meth c s.heap [] 0 0 (MQ below Qc vs.toArray s mc ms free) (F0 m 0 ls [])) :
    Met l y (n_ws y cc k ret) (n_rm d mc ms) (n_Pc dC dI tys ex sl B0 L xs strs vs ws) Qc mc ms free := by
  refine Met.ofW (cc := cc) (maxL := k) (ret := ret) hy rfl ?_
  intro p e s m args below meth c s₁ B hml hP
  obtain ⟨rfl, hWo, hNt, hPw, hDw⟩ := hP
  have hts0 : ∀ w ∈ n_ws y cc k ret, w.before vs.toArray s = true := atoms_spec (ws := n_ws y cc k ret) B.pre
  have hown : s.vm.findClass y.cls = some m.cls := findClass_of_methodNamed B.named
  rw [lg_entry_eq]
  exact body p e s m below meth c _ ⟨B.exec, B.bytes, hml, hown, fun w hw => hts0 w (List.mem_cons_of_mem _ hw), hNt⟩ hWo B.returns B.notSynchronized (lv_entry vs hlen) hPw hDw
theorem n_F0 {s t : State} (ht : t.heap = s.heap) : va_F (fun _ => False) s t := ⟨by rw [ht]; exact Nat.le_refl _, fun q _ _ => by rw [ht]⟩
theorem n_pre {p : Program} {s : State} {m : MethodId} {args : Array Value} {c : Code} {cc : ByteArray} {nL : Nat} {own : String} {H : Heap} {vs : List Value} {ws : va_W} {U : State} (hC : m_Cx p s m args c cc nL own) (hW : m_Wo s dC dI tys ex sl B0 L xs strs) {locs : List Loc} (hS : va_S (fun q => B0 ≤ q) s.heap H locs) (hP : va_P (dC, dI) m_cl ws H) (hD : va_D (fun q => B0 ≤ q) ws) (hU : U.heap = H) (hWa : s.WarmedH U.vm) : n_Pc dC dI tys ex sl B0 L xs strs vs ws vs.toArray U :=
  ⟨rfl, hW.warm hWa hU hS, m_Nt_warm hWa hC.2.2.2.2.2, by rw [hU]; exact hP, hD⟩
theorem n_words0 : Cond.fieldLink RJ0 38 "java/lang/String" "COMPACT_STRINGS" "Z" ∈ m_Ts ∧ Cond.fieldLink RJ0 15 "java/lang/String" "coder" "B" ∈ m_Ts ∧ Cond.fieldLink RJ0 9 "java/lang/String" "value" "[B" ∈ m_Ts := ⟨m_Ts_of (by decide +kernel) rfl, m_Ts_of (by decide +kernel) rfl, m_Ts_of (by decide +kernel) rfl⟩
/-- coder(): a constant's is 0 -/
theorem n_coder {a : Nat} {ws : va_W} (ha : 0 < (sl a).length) : Met l yJ0_coder_7d493 (n_ws yJ0_coder_7d493 cJ0_coder_7d493 1 (some .byte)) (n_rm 0 0 0) (n_Pc dC dI tys ex sl B0 L xs strs [.ref (ex a)] ws) (n_Qi 0) 0 0 (fun q => B0 ≤ q) := by
  refine n_met rfl (by show 1 ≤ 1; exact Nat.le_refl _) ?_
  intro p e s m below meth c ls hC hW hr hlk hl hP hD
  obtain ⟨hx, hb, hml, hown, hts, hnt⟩ := hC
  obtain ⟨hJ, hCS, -⟩ := hW.2.2.2.2.2.2.2.2
  obtain ⟨-, -, v, g3, g4, g5, g6⟩ := hJ a ha
  refine va_gets hx hb hCS va_S.rf hown (hts _ n_words0.1) (fun _ h => h) (by decide +kernel) ?_
  refine lv_if_eq hx hb (off := 10) (tgt := 13) (by decide +kernel) (by decide) (fun h => absurd h (by decide)) fun _ => ?_
  refine lv_aload_n hx hb (k := 0) (i := 0) (by decide +kernel) rfl (lv_at hl 0 rfl) ?_
  refine vk_getf hx hb g4 va_S.rf hown (hts _ n_words0.2.1) (fun _ h => h) (by decide +kernel) ?_
  refine lv_goto hx hb (off := 4) (tgt := 14) (by decide +kernel) (by decide) ?_
  exact W.zret hx hb hr (by decide) (fun t ht _ => ⟨⟨0, (), rfl, rfl, trivial⟩, n_F0 ht⟩) (fun q hq => nomatch hq) (by decide +kernel) hlk

theorem n_str {s : State} {H : Heap} {locs : List Loc} {a : Nat} (hW : m_Wo s dC dI tys ex sl B0 L xs strs) (ha : 0 < (sl a).length) (hS : va_S (fun q => B0 ≤ q) s.heap H locs) : ∃ cellB : Cell, H[ex a]? = some cellB ∧ cellB.vm.isStatics = false ∧ s.vm.findClass RJ0 = some cellB.cls := by
  obtain ⟨-, -, v, g3, -⟩ := hW.2.2.2.2.2.2.2.2.1 a ha
  obtain ⟨cell, h1, h2, h3, -⟩ := g3.kept hS.2.1
  exact ⟨cell, h1, h2, h3⟩
/-- isLatin1() -/
theorem n_latin {a : Nat} {ws : va_W} (ha : 0 < (sl a).length) : Met l yJ0_isLatin1_aae02 (n_ws yJ0_isLatin1_aae02 cJ0_isLatin1_aae02 1 (some .boolean)) (n_rm 0 0 0) (n_Pc dC dI tys ex sl B0 L xs strs [.ref (ex a)] ws) (n_Qi 1) 0 0 (fun q => B0 ≤ q) := by
  refine n_met rfl (by show 1 ≤ 1; exact Nat.le_refl _) ?_
  intro p e s m below meth c ls hC hW hr hlk hl hP hD
  obtain ⟨hx, hb, hml, hown, hts, hnt⟩ := hC
  obtain ⟨hJ, hCS, -⟩ := hW.2.2.2.2.2.2.2.2
  obtain ⟨-, -, v, g3, g4, g5, g6⟩ := hJ a ha
  refine va_gets hx hb hCS va_S.rf hown (hts _ n_words0.1) (fun _ h => h) (by decide +kernel) ?_
  refine lv_if_eq hx hb (off := 14) (tgt := 17) (by decide +kernel) (by decide) (fun h => absurd h (by decide)) fun _ => ?_
  refine lv_aload_n hx hb (k := 0) (i := 0) (by decide +kernel) rfl (lv_at hl 0 rfl) ?_
  refine vk_getf hx hb g4 va_S.rf hown (hts _ n_words0.2.1) (fun _ h => h) (by decide +kernel) ?_
  refine lv_if_ne hx hb (off := 7) (tgt := 17) (by decide +kernel) (by decide) (fun h => absurd rfl h) fun _ => ?_
  refine lv_iconst hx hb (n := 1) (v := 1) (by decide +kernel) rfl ?_
  refine lv_goto hx hb (off := 4) (tgt := 18) (by decide +kernel) (by decide) ?_
  exact W.zret hx hb hr (by decide) (fun t ht _ => ⟨⟨1, (), rfl, rfl, trivial⟩, n_F0 ht⟩) (fun q hq => nomatch hq) (by decide +kernel) hlk
theorem n_words1 : (Cond.methodLink RJ0 335 yJ0_coder_7d493 ∈ m_Ts ∧ Cond.instanceMethod yJ0_coder_7d493 ∈ m_Ts ∧ Cond.selects RJ0 yJ0_coder_7d493 yJ0_coder_7d493 ∈ m_Ts ∧ Cond.initialized RJ0 ∈ m_Ts ∧ Cond.code yJ0_coder_7d493 cJ0_coder_7d493 1 (some .byte) ∈ m_Ts) :=
  ⟨m_Ts_of (by decide +kernel) rfl, m_Ts_of (by decide +kernel) rfl, m_Ts_of (by decide +kernel) rfl, m_Ts_of (by decide +kernel) rfl, m_Ts_of (by decide +kernel) rfl⟩
theorem n_keep {s : State} {H H1 : Heap} (hk : ∀ q : Nat, q < H.size → ¬ False → H1[q]? = H[q]?) : ∀ q : Nat, q < H.size → H1[q]? = H[q]? := fun q h => hk q h (fun x => x)
/-- length() -/
theorem n_length {a : Nat} {ws : va_W} (ha : 0 < (sl a).length) : Met l yJ0_length_8abf5 (n_ws yJ0_length_8abf5 cJ0_length_8abf5 1 (some .int)) (n_rm 1 0 0) (n_Pc dC dI tys ex sl B0 L xs strs [.ref (ex a)] ws) (n_Qi (Int32.ofNat (sl a).length)) 0 0 (fun q => B0 ≤ q) := by
  refine n_met rfl (by show 1 ≤ 1; exact Nat.le_refl _) ?_
  intro p e s m below meth c ls hC hW hr hlk hl hP hD
  have hC' := hC
  obtain ⟨hx, hb, hml, hown, hts, hnt⟩ := hC
  obtain ⟨hJ, hCS, -⟩ := hW.2.2.2.2.2.2.2.2
  obtain ⟨hlt, -, v, g3, g4, g5, g6⟩ := hJ a ha
  obtain ⟨w1, w2, w3, w4, w5⟩ := n_words1
  refine lv_aload_n hx hb (k := 0) (i := 0) (by decide +kernel) rfl (lv_at hl 0 rfl) ?_
  refine vk_getf hx hb g5 va_S.rf hown (hts _ n_words0.2.2) (fun _ h => h) (by decide +kernel) ?_
  refine va_tlen hx hb g6 va_S.rf rfl (by decide +kernel) ?_
  refine lv_aload_n hx hb (k := 0) (i := 0) (by decide +kernel) rfl (lv_at hl 0 rfl) ?_
  refine va_calli (A0 := fun q => B0 ≤ q) (H0 := s.heap) (va_runV (Ts := m_Ts) (C := RJ0) (own := RJ0) (index := 335) (n := 0) (As := []) ⟨hx, hb, hml, hown, hts⟩ (n_coder (ws := ws) ha) ⟨n_callB hts w1 w5 w4 (by decide +kernel) (Nat.le_refl _) (by decide), hts _ w2, hts _ w3⟩ ⟨n_Pc_blind, n_str hW ha va_S.rf, fun U hU hWa => n_pre hC' hW va_S.rf hP hD hU hWa⟩ rfl rfl hl.1 rfl (Nat.le_of_ble_eq_true rfl) (show decode cJ0_length_8abf5 6 = .ok (.invokevirtual 335, 3) by decide +kernel) ⟨Nat.le_refl _, Nat.le_refl _⟩) va_S.rf (fun _ _ h => h.elim) (fun _ h => h) ?_
  intro r u t H1 locs1 _ _ hrr _ _ hk hS
  subst hrr
  refine lv_ishr hx hb (by decide +kernel) ?_
  have e : Int32.ofNat (sl a).length >>> ((0 : Int32) &&& 31) = Int32.ofNat (sl a).length := by
    have : ((0 : Int32) &&& 31) = 0 := by decide
    rw [this]
    exact Int32.shiftRight_zero
  rw [e]
  exact W.zret hx hb hr rfl (fun t ht _ => ⟨⟨_, (), rfl, rfl, trivial⟩, ⟨by rw [ht]; exact hS.1, fun q hq h => by rw [ht]; exact hk q hq h⟩⟩) hS.2.2 (by decide +kernel) hlk
theorem n_words3 : (Cond.fieldLink RJ0 1053 "jdk/internal/util/Preconditions" "SIOOBE_FORMATTER" "Ljava/util/function/BiFunction;" ∈ m_Ts) ∧ (Cond.methodLink RJ0 1059 yJ3_checkIndex_8e157 ∈ m_Ts ∧ Cond.static yJ3_checkIndex_8e157 ∈ m_Ts ∧ Cond.initialized RJ3 ∈ m_Ts ∧ Cond.code yJ3_checkIndex_8e157 cJ3_checkIndex_8e157 3 (some .int) ∈ m_Ts) ∧
    (Cond.methodLink RJ1 9 yJ0_checkIndex_df160 ∈ m_Ts ∧ Cond.static yJ0_checkIndex_df160 ∈ m_Ts ∧ Cond.code yJ0_checkIndex_df160 cJ0_checkIndex_df160 2 none ∈ m_Ts) ∧ (Cond.methodLink RJ0 495 yJ1_charAt_3b067 ∈ m_Ts ∧ Cond.static yJ1_charAt_3b067 ∈ m_Ts ∧ Cond.initialized RJ1 ∈ m_Ts ∧ Cond.code yJ1_charAt_3b067 cJ1_charAt_3b067 2 (some .char) ∈ m_Ts) ∧
    (Cond.methodLink RJ0 492 yJ0_isLatin1_aae02 ∈ m_Ts ∧ Cond.instanceMethod yJ0_isLatin1_aae02 ∈ m_Ts ∧ Cond.selects RJ0 yJ0_isLatin1_aae02 yJ0_isLatin1_aae02 ∈ m_Ts ∧ Cond.code yJ0_isLatin1_aae02 cJ0_isLatin1_aae02 1 (some .boolean) ∈ m_Ts) :=
  ⟨m_Ts_of (by decide +kernel) rfl, ⟨m_Ts_of (by decide +kernel) rfl, m_Ts_of (by decide +kernel) rfl, m_Ts_of (by decide +kernel) rfl, m_Ts_of (by decide +kernel) rfl⟩, ⟨m_Ts_of (by decide +kernel) rfl, m_Ts_of (by decide +kernel) rfl, m_Ts_of (by decide +kernel) rfl⟩, ⟨m_Ts_of (by decide +kernel) rfl, m_Ts_of (by decide +kernel) rfl, m_Ts_of (by decide +kernel) rfl, m_Ts_of (by decide +kernel) rfl⟩, ⟨m_Ts_of (by decide +kernel) rfl, m_Ts_of (by decide +kernel) rfl, m_Ts_of (by decide +kernel) rfl, m_Ts_of (by decide +kernel) rfl⟩⟩
/-- a reference or null -/
def n_isR (v : Value) : Prop := v = .null ∨ ∃ a, v = .ref a
theorem n_isR_cat {v : Value} (h : n_isR v) : v.category = 1 := by
  rcases h with rfl | ⟨a, rfl⟩ <;> rfl
theorem n_sl3 {i j : Int32} {v : Value} (h : n_isR v) : (lg_sl [.int i, .int j, v]).length ≤ 3 ∧ lv_args 0 [.int i, .int j, v] = [(0, .int i), (1, .int j), (2, v)] := by
  rcases h with rfl | ⟨a, rfl⟩
  · exact ⟨by show 3 ≤ 3; exact Nat.le_refl _, rfl⟩
  · exact ⟨by show 3 ≤ 3; exact Nat.le_refl _, rfl⟩
/-- Preconditions.checkIndex -/
theorem n_check3 {i j : Int32} {v : Value} {ws : va_W} (hv : n_isR v) (h0 : ¬ i < 0) (h1 : i < j) : Met l yJ3_checkIndex_8e157 (n_ws yJ3_checkIndex_8e157 cJ3_checkIndex_8e157 3 (some .int)) (n_rm 0 0 0) (n_Pc dC dI tys ex sl B0 L xs strs [.int i, .int j, v] ws) (n_Qi i) 0 0 (fun q => B0 ≤ q) := by
  obtain ⟨z1, z2⟩ := n_sl3 (i := i) (j := j) hv
  refine n_met rfl z1 ?_
  intro p e s m below meth c ls hC hW hr hlk hl hP hD
  rw [z2] at hl
  obtain ⟨hx, hb, hml, hown, hts, hnt⟩ := hC
  refine lv_iload_n hx hb (k := 0) (i := 0) (by decide +kernel) rfl (lv_at hl 0 rfl) ?_
  refine lv_if_lt hx hb (off := 8) (tgt := 9) (by decide +kernel) (by decide) (fun h => absurd h h0) fun _ => ?_
  refine lv_iload_n hx hb (k := 0) (i := 0) (by decide +kernel) rfl (lv_at hl 0 rfl) ?_
  refine lv_iload_n hx hb (k := 1) (i := 1) (by decide +kernel) rfl (lv_at hl 1 rfl) ?_
  refine lv_icmp_lt hx hb (off := 10) (tgt := 16) (by decide +kernel) (by decide) (fun _ => ?_) fun h => absurd h1 h
  refine lv_iload_n hx hb (k := 0) (i := 0) (by decide +kernel) rfl (lv_at hl 0 rfl) ?_
  exact W.zret hx hb hr rfl (fun t ht _ => ⟨⟨i, (), rfl, rfl, trivial⟩, n_F0 ht⟩) (fun q hq => nomatch hq) (by decide +kernel) hlk
theorem n_siob {s : State} (h : va_Zq "jdk/internal/util/Preconditions" "SIOOBE_FORMATTER" "Ljava/util/function/BiFunction;" (fun q => B0 ≤ q) s s.heap) : ∃ v, n_isR v ∧ va_Z "jdk/internal/util/Preconditions" "SIOOBE_FORMATTER" "Ljava/util/function/BiFunction;" v (fun q => B0 ≤ q) s s.heap := by
  rcases h with h | ⟨t, h⟩
  · exact ⟨_, Or.inl rfl, h⟩
  · exact ⟨_, Or.inr ⟨t, rfl⟩, h⟩
/-- String.checkIndex -/
theorem n_check2 {i j : Int32} {ws : va_W} (h0 : ¬ i < 0) (h1 : i < j) : Met l yJ0_checkIndex_df160 (n_ws yJ0_checkIndex_df160 cJ0_checkIndex_df160 2 none) (n_rm 1 0 0) (n_Pc dC dI tys ex sl B0 L xs strs [.int i, .int j] ws) n_Qv 0 0 (fun q => B0 ≤ q) := by
  refine n_met rfl (by show 2 ≤ 2; exact Nat.le_refl _) ?_
  intro p e s m below meth c ls hC hW hr hlk hl hP hD
  have hC' := hC
  obtain ⟨hx, hb, hml, hown, hts, hnt⟩ := hC
  obtain ⟨v, hv, hZ⟩ := n_siob hW.2.2.2.2.2.2.2.2.2.2.1
  obtain ⟨u1, ⟨w1, w2, w3, w4⟩, -⟩ := n_words3
  refine lv_iload_n hx hb (k := 0) (i := 0) (by decide +kernel) rfl (lv_at hl 0 rfl) ?_
  refine lv_iload_n hx hb (k := 1) (i := 1) (by decide +kernel) rfl (lv_at hl 1 rfl) ?_
  refine va_gets hx hb hZ va_S.rf hown (hts _ u1) (fun _ h => h) (by decide +kernel) ?_
  refine va_calli (A0 := fun q => B0 ≤ q) (H0 := s.heap) (va_runS (Ts := m_Ts) (own := RJ0) (index := 1059) (n := 3) (As := [.int i, .int j, v]) (rest := []) ⟨hx, hb, hml, hown, hts⟩ (n_check3 (ws := ws) hv h0 h1) ⟨n_callB hts w1 w4 w3 (by decide +kernel) (Nat.le_refl _) (by decide), hts _ w2⟩ ⟨n_Pc_blind, fun U hU hWa => n_pre hC' hW va_S.rf hP hD hU hWa⟩ rfl rfl hl.1 rfl (Nat.le_of_ble_eq_true rfl) (show decode cJ0_checkIndex_df160 5 = .ok (.invokestatic 1059, 3) by decide +kernel) ⟨Nat.le_refl _, Nat.le_refl _⟩) va_S.rf (fun _ _ h => h.elim) (fun _ h => h) ?_
  intro r u t H1 locs1 _ _ hrr _ _ hk hS
  refine lv_pop hx hb (by decide +kernel) rfl ?_
  exact W.vret hx hb hr (fun t ht _ => ⟨⟨(), rfl, trivial, trivial⟩, ⟨by rw [ht]; exact hS.1, fun q hq h => by rw [ht]; exact hk q hq h⟩⟩) hS.2.2 (by decide +kernel) hlk

theorem n_met2 {y : MethodName} {cc : ByteArray} {k d mc ms : Nat} {ret : Option FieldType} {vs : List Value} {ws : va_W} {Qc : Array Value → State → Outcome → State → Prop} {free : Addr → Prop} {X : State → Prop} (hy : plainName y.cls = true) (hlen : (lg_sl vs).length ≤ k)
    (body : ∀ (p : Program) (e : Env) (s : State) (m : MethodId) (below : List Frame) (meth : Method) (c : Code) (ls : Array Slot), m_Cx p s m vs.toArray c cc k y.cls → m_Wo s dC dI tys ex sl B0 L xs strs → X s → meth.sig.returnType = ret → meth.locks = false → lv_has ls k (lv_args 0 vs) → va_P (dC, dI) m_cl ws s.heap → va_D (fun q => B0 ≤ q) ws →
      W p l e (n_rm d mc ms) s m vs.toArray below meth c s.heap [] 0 0 (MQ below Qc vs.toArray s mc ms free) (F0 m 0 ls [])) :
    Met l y (n_ws y cc k ret) (n_rm d mc ms) (fun a U => n_Pc dC dI tys ex sl B0 L xs strs vs ws a U ∧ X U) Qc mc ms free := by
  refine Met.ofW (cc := cc) (maxL := k) (ret := ret) hy rfl ?_
  intro p e s m args below meth c s₁ B hml hP
  obtain ⟨⟨rfl, hWo, hNt, hPw, hDw⟩, hX⟩ := hP
  have hts0 : ∀ w ∈ n_ws y cc k ret, w.before vs.toArray s = true := atoms_spec (ws := n_ws y cc k ret) B.pre
  have hown : s.vm.findClass y.cls = some m.cls := findClass_of_methodNamed B.named
  rw [lg_entry_eq]
  exact body p e s m below meth c _ ⟨B.exec, B.bytes, hml, hown, fun w hw => hts0 w (List.mem_cons_of_mem _ hw), hNt⟩ hWo hX B.returns B.notSynchronized (lv_entry vs hlen) hPw hDw
theorem n_byte : ∀ n : Nat, n < 128 → ((((nI n) &&& ((255 : Int16).toInt32)).toUInt32 % 65536).toInt32 = nI n ∧ narrow .char (.int (nI n)) = .int (nI n)) := by decide +kernel
theorem n_byte2 {x : Int32} (h : 0 ≤ x ∧ x < 128) : ((x &&& ((255 : Int16).toInt32)).toUInt32 % 65536).toInt32 = x ∧ narrow .char (.int x) = .int x := by
  obtain ⟨j, hj, rfl⟩ := nI_of (Int32.not_lt.mpr h.1)
  refine n_byte j ?_
  rcases Nat.lt_or_ge j 128 with q | q
  · exact q
  · exact absurd h.2 (nI_nlt (a := j) (b := 128) q hj)
theorem n_in {i : Int32} {n : Nat} (h : m_in i n = true) : ¬ i < 0 ∧ vp_in i n ∧ i.toNatClampNeg < n := by
  unfold m_in at h
  simp only [Bool.and_eq_true, Bool.not_eq_true', decide_eq_false_iff_not, decide_eq_true_eq] at h
  exact ⟨h.1, fun q => q.elim (fun q => h.1 q) (fun q => by omega), h.2⟩
theorem n_lt {i : Int32} {n : Nat} (h : m_in i n = true) (hn : n < 1000) : i < Int32.ofNat n := by
  obtain ⟨h0, -, h2⟩ := n_in h
  obtain ⟨j, hj, rfl⟩ := nI_of h0
  rw [nI_clamp (by omega)] at h2
  exact nI_lt h2 (by omega)
/-- StringLatin1.charAt -/
theorem n_charL {v n : Nat} {i : Int32} {f : Nat → Int32} {ws : va_W} (hn : n < 1000) (hf : ∀ j, 0 ≤ f j ∧ f j < 128) (hi : m_in i n = true) :
    Met l yJ1_charAt_3b067 (n_ws yJ1_charAt_3b067 cJ1_charAt_3b067 2 (some .char)) (n_rm 2 0 0) (fun a U => n_Pc dC dI tys ex sl B0 L xs strs [.ref v, .int i] ws a U ∧ va_T .byte v n (fun j => .int (f j)) (fun q => B0 ≤ q) U U.heap) (n_Qi (f i.toNatClampNeg)) 0 0 (fun q => B0 ≤ q) := by
  refine n_met2 rfl (by show 2 ≤ 2; exact Nat.le_refl _) ?_
  intro p e s m below meth c ls hC hW hT hr hlk hl hP hD
  have hC' := hC
  obtain ⟨hx, hb, hml, hown, hts, hnt⟩ := hC
  obtain ⟨-, ⟨-, -, hi0, -⟩, ⟨w1, w2, w3⟩, -⟩ := n_words3
  obtain ⟨h0, hin, -⟩ := n_in hi
  obtain ⟨e1, e2⟩ := n_byte2 (hf i.toNatClampNeg)
  refine lv_iload_n hx hb (k := 1) (i := 1) (by decide +kernel) rfl (lv_at hl 1 rfl) ?_
  refine lv_aload_n hx hb (k := 0) (i := 0) (by decide +kernel) rfl (lv_at hl 0 rfl) ?_
  refine va_tlen hx hb hT va_S.rf rfl (by decide +kernel) ?_
  refine va_callv (A0 := fun q => B0 ≤ q) (H0 := s.heap) (va_runS (Ts := m_Ts) (own := RJ1) (index := 9) (n := 2) (As := [.int i, .int (Int32.ofNat n)]) (rest := []) ⟨hx, hb, hml, hown, hts⟩ (n_check2 (ws := ws) h0 (n_lt hi hn)) ⟨n_callB hts w1 w3 n_words1.2.2.2.1 (by decide +kernel) (Nat.le_refl _) (by decide), hts _ w2⟩ ⟨n_Pc_blind, fun U hU hWa => n_pre hC' hW va_S.rf hP hD hU hWa⟩ rfl rfl hl.1 rfl (Nat.le_of_ble_eq_true rfl) (show decode cJ1_charAt_3b067 3 = .ok (.invokestatic 9, 3) by decide +kernel) ⟨Nat.le_refl _, Nat.le_refl _⟩) va_S.rf (fun _ _ h => h.elim) (fun _ h => h) ?_
  intro u t H1 locs1 _ _ _ _ _ hk hS
  refine lv_aload_n hx hb (k := 0) (i := 0) (by decide +kernel) rfl (lv_at hl 0 rfl) ?_
  refine lv_iload_n hx hb (k := 1) (i := 1) (by decide +kernel) rfl (lv_at hl 1 rfl) ?_
  refine va_tb hx hb hT hS hin rfl (by decide +kernel) ?_
  refine lv_sipush hx hb (n := 255) (v := (255 : Int16).toInt32) (by decide +kernel) (by decide) ?_
  refine lv_iand hx hb (by decide +kernel) ?_
  refine lv_i2c hx hb (by decide +kernel) e1 ?_
  exact W.zret hx hb hr e2 (fun t ht _ => ⟨⟨_, (), rfl, rfl, trivial⟩, ⟨by rw [ht]; exact hS.1, fun q hq h => by rw [ht]; exact hk q hq h⟩⟩) hS.2.2 (by decide +kernel) hlk
theorem n_blind2 {vs : List Value} {ws : va_W} {v n : Nat} {f : Nat → Value} : FrameBlind (fun a U => n_Pc dC dI tys ex sl B0 L xs strs vs ws a U ∧ va_T .byte v n f (fun q => B0 ≤ q) U U.heap) := by
  intro a U g mk h
  have hW : U.WarmedH (U.calling g mk a).vm := State.WarmedH.refl U
  exact ⟨n_Pc_blind a U g mk h.1, h.2.moved hW.alike⟩
/-- charAt -/
theorem n_charAt {a : Nat} {i : Int32} {ws : va_W} (hi : m_in i (sl a).length = true) :
    Met l yJ0_charAt_5068e (n_ws yJ0_charAt_5068e cJ0_charAt_5068e 2 (some .char)) (n_rm 3 0 0) (n_Pc dC dI tys ex sl B0 L xs strs [.ref (ex a), .int i] ws) (n_Qi ((sl a).getD i.toNatClampNeg 0)) 0 0 (fun q => B0 ≤ q) := by
  have ha : 0 < (sl a).length := Nat.lt_of_le_of_lt (Nat.zero_le _) (n_in hi).2.2
  refine n_met rfl (by show 2 ≤ 2; exact Nat.le_refl _) ?_
  intro p e s m below meth c ls hC hW hr hlk hl hP hD
  have hC' := hC
  obtain ⟨hx, hb, hml, hown, hts, hnt⟩ := hC
  obtain ⟨hlt, hf, v, g3, g4, g5, g6⟩ := hW.2.2.2.2.2.2.2.2.1 a ha
  obtain ⟨-, -, -, ⟨x1, x2, x3, x4⟩, ⟨w1, w2, w3, w4⟩⟩ := n_words3
  obtain ⟨e1, e2⟩ := n_byte2 (hf i.toNatClampNeg)
  refine lv_aload_n hx hb (k := 0) (i := 0) (by decide +kernel) rfl (lv_at hl 0 rfl) ?_
  refine va_calli (A0 := fun q => B0 ≤ q) (H0 := s.heap) (va_runV (Ts := m_Ts) (C := RJ0) (own := RJ0) (index := 492) (n := 0) (As := []) (rest := []) ⟨hx, hb, hml, hown, hts⟩ (n_latin (ws := ws) ha) ⟨n_callB hts w1 w4 n_words1.2.2.2.1 (by decide +kernel) (show 0 + 1 ≤ 3 by decide) (by decide), hts _ w2, hts _ w3⟩ ⟨n_Pc_blind, n_str hW ha va_S.rf, fun U hU hWa => n_pre hC' hW va_S.rf hP hD hU hWa⟩ rfl rfl hl.1 rfl (Nat.le_of_ble_eq_true rfl) (show decode cJ0_charAt_5068e 1 = .ok (.invokevirtual 492, 3) by decide +kernel) ⟨Nat.le_refl _, Nat.le_refl _⟩) va_S.rf (fun _ _ h => h.elim) (fun _ h => h) ?_
  intro r u t H1 locs1 _ _ hrr _ _ hk hS
  subst hrr
  refine lv_if_eq hx hb (off := 12) (tgt := 16) (by decide +kernel) (by decide) (fun h => absurd h (by decide)) fun _ => ?_
  refine lv_aload_n hx hb (k := 0) (i := 0) (by decide +kernel) rfl (lv_at hl 0 rfl) ?_
  refine vk_getf hx hb g5 hS hown (hts _ n_words0.2.2) (fun _ h => h) (by decide +kernel) ?_
  refine lv_iload_n hx hb (k := 1) (i := 1) (by decide +kernel) rfl (lv_at hl 1 rfl) ?_
  have hP1 : va_P (dC, dI) m_cl ws H1 := hP.kept fun k x hx => hk x.1 (hP k x hx).lt (fun z => z)
  refine va_calli (A0 := fun q => B0 ≤ q) (H0 := s.heap) (va_runS (Ts := m_Ts) (own := RJ0) (index := 495) (n := 2) (As := [.ref v, .int i]) (rest := []) ⟨hx, hb, hml, hown, hts⟩ (n_charL (ws := ws) (n := (sl a).length) (f := fun j => (sl a).getD j 0) hlt hf hi) ⟨n_callB hts x1 x4 x3 (by decide +kernel) (Nat.le_refl _) (by decide), hts _ x2⟩ ⟨n_blind2, fun U hU hWa => ⟨n_pre hC' hW hS hP1 hD hU hWa, by rw [hU]; exact (g6.moved hWa.alike).kept hS.2.1⟩⟩ rfl rfl hl.1 rfl (Nat.le_of_ble_eq_true rfl) (show decode cJ0_charAt_5068e 12 = .ok (.invokestatic 495, 3) by decide +kernel) ⟨Nat.le_refl _, Nat.le_refl _⟩) hS (fun _ _ h => h.elim) (fun _ h => h) ?_
  intro r u2 t2 H2 locs2 _ _ hrr _ hz hk2 hS2
  subst hrr
  exact W.zret hx hb hr e2 (fun t ht _ => ⟨⟨_, (), rfl, rfl, trivial⟩, ⟨by rw [ht]; exact hS2.1, fun q hq h => by rw [ht, hk2 q (Nat.lt_of_lt_of_le hq hS.1) h]; exact hk q hq h⟩⟩) hS2.2.2 (by decide +kernel) hlk
end NN
