/-! ===== m_: what one instruction does, the JVM does ===== -/
/-- what of the JDK's own cells is used: the String constants' contents, statics -/
def m_Js (ex : Nat → Nat) (sl : Nat → List Int32) (B0 : Nat) (U : State) (H : Heap) : Prop :=
  (∀ a, 0 < (sl a).length → (sl a).length < 1000 ∧ (∀ j, 0 ≤ (sl a).getD j 0 ∧ (sl a).getD j 0 < 128) ∧ ∃ v, va_O "java/lang/String" (ex a) (fun q => B0 ≤ q) U H ∧ va_OF "java/lang/String" "coder" "B" (.int 0) (ex a) (fun q => B0 ≤ q) U H ∧ va_OF "java/lang/String" "value" "[B" (.ref v) (ex a) (fun q => B0 ≤ q) U H ∧ va_T .byte v (sl a).length (fun j => .int ((sl a).getD j 0)) (fun q => B0 ≤ q) U H) ∧
  va_Z "java/lang/String" "COMPACT_STRINGS" "Z" (.int 1) (fun q => B0 ≤ q) U H ∧ va_Zq "jdk/internal/util/Preconditions" "SIOOBE_FORMATTER" "Ljava/util/function/BiFunction;" (fun q => B0 ≤ q) U H ∧
  vx_Zq Bundle.tN "UNASSIGNED_STACK" Bundle.steD (fun q => B0 ≤ q) U H ∧ vx_Zq Bundle.tN "SUPPRESSED_SENTINEL" Bundle.listD (fun q => B0 ≤ q) U H
theorem m_Js.moved {ex : Nat → Nat} {sl : Nat → List Int32} {B0 : Nat} {u U : State} {H : Heap} (hvm : u.vm.Alike U.vm) (h : m_Js ex sl B0 u H) : m_Js ex sl B0 U H := by
  obtain ⟨h1, h2, h3, h4, h5⟩ := h
  refine ⟨fun a ha => ?_, h2.moved hvm, h3.moved hvm, h4.moved hvm, h5.moved hvm⟩
  obtain ⟨g1, g2, v, g3, g4, g5, g6⟩ := h1 a ha
  exact ⟨g1, g2, v, g3.moved hvm, g4.moved hvm, g5.moved hvm, g6.moved hvm⟩
theorem m_Js.kept {ex : Nat → Nat} {sl : Nat → List Int32} {B0 : Nat} {U : State} {H H1 : Heap} (h : m_Js ex sl B0 U H) (hq : ∀ a : Nat, a < H.size → ¬ B0 ≤ a → H1[a]? = H[a]?) : m_Js ex sl B0 U H1 := by
  obtain ⟨h1, h2, h3, h4, h5⟩ := h
  refine ⟨fun a ha => ?_, h2.kept hq, h3.kept hq, h4.kept hq, h5.kept hq⟩
  obtain ⟨g1, g2, v, g3, g4, g5, g6⟩ := h1 a ha
  exact ⟨g1, g2, v, g3.kept hq, g4.kept hq, g5.kept hq, g6.kept hq⟩
/-- the world at the method's beginning: classes, script, String constants -/
def m_Wo (s : State) (dC : Nat → ClassId) (dI : Nat → Nat → Nat) (tys : List (ClassId × FieldType)) (ex : Nat → Nat) (sl : Nat → List Int32) (B0 L : Nat) (xs : Nat → Int32) (strs : List (String × Nat × String × Nat)) : Prop :=
  va_K (dC, dI) m_cl tys s ∧ va_X (ex 0) L xs s s.heap ∧ ex 0 < B0 ∧ B0 ≤ s.heap.size ∧ (∀ t, t < 6 → ∃ cA, tys[t]? = some (cA, m_ty t)) ∧ va_AO "LendHouse$Act" s ∧ (∀ q ∈ strs, vk_R q.1 q.2.1 q.2.2.1 (ex q.2.2.2) s ∧ q.2.2.2 < 200) ∧ va_Nw (.castable "[I" "java/lang/Cloneable") s ∧ m_Js ex sl B0 s s.heap
/-- the heap, and what was made and written since the method began -/
def m_Rh (s : State) (dC : Nat → ClassId) (dI : Nat → Nat → Nat) (tys : List (ClassId × FieldType)) (ex : Nat → Nat) (B0 c0 s0 : Nat) (ws0 : va_W) (hp : m_H) (H : Heap) (locs : List Loc) (cells slots : Nat) (ws : va_W) : Prop :=
  m_Hr ex tys hp ws ∧ va_P (dC, dI) m_cl ws H ∧ va_D (fun q => B0 ≤ q) ws ∧ va_S (fun q => B0 ≤ q) s.heap H locs ∧ cells + c0 = m_cells hp ∧ slots + s0 = m_slots hp ∧ m_Le (m_ad ex ws0) (m_ad ex ws)
/-- what a pool's entry is by the tables -/
def m_fok (own : String) (k : Nat) (f : Nat × Nat) : Prop := ∃ r : vw_C, m_cl[f.1]? = some r ∧ f.2 < r.2.2 ∧ (Cond.fieldLink own k r.1 (r.2.1 f.2).2.1 (r.2.1 f.2).2.2.1 ∈ m_Ts ∨ ∃ host, Cond.fieldLinkNest own k r.1 (r.2.1 f.2).2.1 (r.2.1 f.2).2.2.1 host ∈ m_Nt)
def m_pok (own mn : String) (k : Nat) (f : Nat × Nat) : Prop := ∀ r : vw_C, m_cl[f.1]? = some r → (r.2.1 f.2).2.2.2 = false ∨ ((r.2.1 f.2).2.2.2 = true ∧ mn = "<init>" ∧ r.1 = own ∧ Cond.fieldLink own k r.1 (r.2.1 f.2).2.1 (r.2.1 f.2).2.2.1 ∈ m_Ts)
def m_qok (own mn : String) (strs : List (String × Nat × String × Nat)) (q : m_Q) (ins : Instr) : Prop := match ins with
  | .getfield k => ∀ f, q.1 k = some f → m_fok own k f
  | .putfield k => ∀ f, q.1 k = some f → m_fok own k f ∧ m_pok own mn k f
  | .new k => ∀ ci, q.2.1 k = some ci → ∃ r, m_cl[ci]? = some r ∧ Cond.classLink own k r.1 ∈ m_Ts
  | .anewarray k => q.2.1 k = some 0 → Cond.classLink own k "LendHouse$Act" ∈ m_Ts
  | .ldc k => (∀ a, q.2.2.1 k = some a → ∃ tx, (own, k, tx, a) ∈ strs) ∧ ∀ v, q.2.2.2.2.1 k = some v → Cond.constant own k v ∈ m_Ts
  | .ldc_w k => ∀ v, q.2.2.2.2.1 k = some v → Cond.constant own k v ∈ m_Ts
  | .ldc2_w k => ∀ v, q.2.2.2.1 k = some v → Cond.constantLong own k v ∈ m_Ts
  | .newarray a => ∀ t, m_tof a = some t → Cond.arrayClass (m_ty t) ∈ m_Ts
  | _ => True
theorem m_ok_nf {ad : Nat → Option Nat} {ty : FieldType} {v w : Value} (h : m_ok ty v = true) (hv : m_V ad v w) : narrow ty w = w ∧ fits ty w = true := by
  unfold m_ok at h
  split at h
  · cases hv; exact ⟨rfl, rfl⟩
  · next x =>
    cases hv
    simp only [Bool.or_eq_true, beq_iff_eq] at h
    rcases h with rfl | rfl <;> exact ⟨by decide, by decide⟩
  · obtain ⟨a, -, rfl⟩ := hv; exact ⟨rfl, rfl⟩
  · obtain ⟨a, -, rfl⟩ := hv; exact ⟨rfl, rfl⟩
  · cases hv; exact ⟨rfl, rfl⟩
  · cases h
section MH
variable {p : Program} {l : Launch} {e : Env} {R : Room} {s : State} {m : MethodId} {args : Array Value} {below : List Frame} {meth : Method} {c : Code} {H : Heap} {locs : List Loc} {cells slots : Nat} {Q : State → Prop}
variable {cc : ByteArray} {pc nL : Nat} {ls : Array Slot} {own : String} {lv : m_L} {st vs : List Value}
variable {dC : Nat → ClassId} {dI : Nat → Nat → Nat} {tys : List (ClassId × FieldType)} {ex : Nat → Nat} {sl : Nat → List Int32} {B0 L c0 s0 : Nat} {xs : Nat → Int32} {strs : List (String × Nat × String × Nat)} {ws0 ws : va_W} {hp : m_H}
/-- a field is read -/
theorem m_h_get {r ci k idx : Nat} {v : Value} (hC : m_Cx p s m args c cc nL own) (hW : m_Wo s dC dI tys ex sl B0 L xs strs) (hd : decode cc pc = .ok (.getfield idx, 3)) (hf : m_fok own idx (ci, k))
    (hv : m_Vs (m_ad ex ws) (.ref r :: st) vs) (hh : m_Rh s dC dI tys ex B0 c0 s0 ws0 hp H locs cells slots ws) (h : m_gf hp r ci k = some v)
    (kk : ∀ vs, m_Vs (m_ad ex ws) (v :: st) vs → W p l e R s m args below meth c H locs cells slots Q (F0 m (pc + 3) ls vs)) : W p l e R s m args below meth c H locs cells slots Q (F0 m pc ls vs) := by
  obtain ⟨hx, hb, -, hown, hts, hnt⟩ := hC
  obtain ⟨hr, hP, -⟩ := hh
  obtain ⟨w, ws2, rfl, ⟨a, ha, rfl⟩, hv2⟩ := hv.hd
  unfold m_gf at h
  split at h
  · next o ho =>
    split at h
    · next hci =>
      obtain ⟨a', e', h1, h2, fs, rfl, h3⟩ := hr.c ho
      cases Option.some.inj (ha.symm.trans h1)
      obtain ⟨w, h4, h5⟩ := h3.get h
      obtain ⟨q, hq, hk, hl⟩ := hf
      obtain ⟨g1, -, -, -, -, -, -, g8⟩ := m_cl_ok _ _ hq
      have hci : o.1 = ci := hci
      rw [hci] at h2
      have hsame : ∀ x, s.fieldFound? (q.2.1 k).1 (q.2.1 k).2.1 (q.2.1 k).2.2.1 = some x → s.fieldFound? q.1 (q.2.1 k).2.1 (q.2.1 k).2.2.1 = some x := fun x hx => by rw [g8 k hk] at hx; exact hx
      rcases hl with hl | ⟨host, hl⟩
      · exact va_get (T := q.2.1) (N := q.2.2) (C := q.1) hx hb hts g1 hown hW.1 hP (r - 200) h2 hq k hk (hts _ hl) hsame h4 hd (kk _ ⟨h5, hv2⟩)
      · refine va_getN (T := q.2.1) (N := q.2.2) (C := q.1) hx hb hts g1 hown hW.1 hP (r - 200) h2 hq k hk (host := host) ?_ hsame h4 hd (kk _ ⟨h5, hv2⟩)
        exact hnt _ hl
    · cases h
  · cases h
/-- a cell was written: the heap behind -/
theorem m_Rh.w {r a : Nat} {e0 e : m_E} {e0' e' : va_E} {H1 : Heap} {locs1 : List Loc} (hh : m_Rh s dC dI tys ex B0 c0 s0 ws0 hp H locs cells slots ws) (hc : m_c hp r = some e0) (hs : m_sz e = m_sz e0) (h2 : ws[r - 200]? = some (a, e0')) (he : m_Er (m_ad ex ws) tys e e')
    (hP : va_P (dC, dI) m_cl (ws.set (r - 200) (a, e')) H1) (hD : va_D (fun q => B0 ≤ q) (ws.set (r - 200) (a, e'))) (hS : va_S (fun q => B0 ≤ q) s.heap H1 locs1) :
    m_Rh s dC dI tys ex B0 c0 s0 ws0 (m_w hp r e) H1 locs1 cells slots (ws.set (r - 200) (a, e')) := by
  obtain ⟨q1, -, -, -, q5, q6, q7⟩ := hh
  exact ⟨q1.w h2 he, hP, hD, hS, by rw [m_cells_w]; exact q5, by rw [m_slots_w hc hs]; exact q6, by rw [m_ad_set h2]; exact q7⟩
/-- what the goal wants behind an instruction that may write or make cells -/
def m_Kh (p : Program) (l : Launch) (e : Env) (R : Room) (s : State) (m : MethodId) (args : Array Value) (below : List Frame) (meth : Method) (c : Code) (Q : State → Prop) (dC : Nat → ClassId) (dI : Nat → Nat → Nat) (tys : List (ClassId × FieldType)) (ex : Nat → Nat) (B0 c0 s0 : Nat) (ws0 : va_W) (nL pc : Nat) (lv : m_L) (st : List Value) (hp : m_H) : Prop :=
  ∀ (ls : Array Slot) (vs : List Value) (H : Heap) (locs : List Loc) (cells slots : Nat) (ws : va_W), m_Rl (m_ad ex ws) nL lv ls → m_Vs (m_ad ex ws) st vs → m_Rh s dC dI tys ex B0 c0 s0 ws0 hp H locs cells slots ws → W p l e R s m args below meth c H locs cells slots Q (F0 m pc ls vs)
theorem m_Rl.le {ad ad' : Nat → Option Nat} (h : m_Le ad ad') (hl : m_Rl ad nL lv ls) : m_Rl ad' nL lv ls := by
  obtain ⟨lc, h1, h2⟩ := hl
  exact ⟨lc, h1, h2.le h⟩
/-- a field is written -/
theorem m_h_put {r ci k idx : Nat} {v : Value} {hp' : m_H} (hC : m_Cx p s m args c cc nL own) (hW : m_Wo s dC dI tys ex sl B0 L xs strs) (hd : decode cc pc = .ok (.putfield idx, 3)) (hf : m_fok own idx (ci, k)) (hf2 : m_pok own meth.name idx (ci, k))
    (hl : m_Rl (m_ad ex ws) nL lv ls) (hv : m_Vs (m_ad ex ws) (v :: .ref r :: st) vs) (hh : m_Rh s dC dI tys ex B0 c0 s0 ws0 hp H locs cells slots ws) (h : m_pf m_ft hp r ci k v = some hp')
    (kk : m_Kh p l e R s m args below meth c Q dC dI tys ex B0 c0 s0 ws0 nL (pc + 3) lv st hp') : W p l e R s m args below meth c H locs cells slots Q (F0 m pc ls vs) := by
  obtain ⟨hx, hb, -, hown, hts, hnt⟩ := hC
  obtain ⟨w, ws1, rfl, hw, hv1⟩ := hv.hd
  obtain ⟨w2, ws2, rfl, ⟨a, ha, rfl⟩, hv2⟩ := hv1.hd
  unfold m_pf at h
  split at h
  · next o ho =>
    split at h
    · next hcnd =>
      cases h
      obtain ⟨hci, hk, hok⟩ := hcnd
      obtain ⟨a', e', h1, h2, fs, rfl, h3⟩ := hh.1.c ho
      cases Option.some.inj (ha.symm.trans h1)
      rw [hci] at h2
      obtain ⟨q, hq, hkN, hlk⟩ := hf
      obtain ⟨g1, g2, g3, g4, -, -, -, g8⟩ := m_cl_ok _ _ hq
      have hsame : ∀ x, s.fieldFound? (q.2.1 k).1 (q.2.1 k).2.1 (q.2.1 k).2.2.1 = some x → s.fieldFound? q.1 (q.2.1 k).2.1 (q.2.1 k).2.2.1 = some x := fun x hx => by rw [g8 k hkN] at hx; exact hx
      obtain ⟨n1, n2⟩ := m_ok_nf hok hw
      have hlen : k < fs.length := by rw [h3.len]; exact hk
      have fin : ∀ (H1 : Heap) (locs1 : List Loc), va_P (dC, dI) m_cl (ws.set (r - 200) (a, .inr (ci, fs.set k w))) H1 → va_D (fun q => B0 ≤ q) (ws.set (r - 200) (a, .inr (ci, fs.set k w))) → va_S (fun q => B0 ≤ q) s.heap H1 locs1 → W p l e R s m args below meth c H1 locs1 cells slots Q (F0 m (pc + 3) ls ws2) := by
        intro H1 locs1 hP hD hS
        have hR := hh.w (e := .inr (ci, o.2.set k v)) (e' := .inr (ci, fs.set k w)) ho (by simp [m_sz]) h2 ⟨_, rfl, h3.set hw⟩ hP hD hS
        have e1 := m_ad_set (ex := ex) (e := .inr (ci, fs.set k w)) h2
        exact kk ls ws2 H1 locs1 cells slots _ (by rw [e1]; exact hl) (by rw [e1]; exact hv2) hR
      rcases hf2 q hq with hfn | ⟨hfn, hin, hdc, hlk2⟩
      · rcases hlk with hlk | ⟨host, hlk⟩
        · exact va_put (T := q.2.1) (N := q.2.2) (C := q.1) hx hb hts g1 (m_ft ci) g3 g4 hown hW.1 hh.2.1 hh.2.2.1 hh.2.2.2.1 (r - 200) h2 hq k hkN (hts _ hlk) hsame hfn (g3 k hkN) n1 n2 hlen hd fin
        · exact va_putN (T := q.2.1) (N := q.2.2) (C := q.1) hx hb hts g1 (m_ft ci) g3 g4 hown hW.1 hh.2.1 hh.2.2.1 hh.2.2.2.1 (r - 200) h2 hq k hkN (host := host) (hnt _ hlk) hsame hfn (g3 k hkN) n1 n2 hlen hd fin
      · exact va_putF (T := q.2.1) (N := q.2.2) (C := q.1) hx hb hts g1 (m_ft ci) g3 g4 hown hW.1 hh.2.1 hh.2.2.1 hh.2.2.2.1 (r - 200) h2 hq k hkN (hts _ hlk2) hsame hfn hin (by rw [g8 k hkN, hdc]) (g3 k hkN) n1 n2 hlen hd fin
    · cases h
  · cases h
/-- places of arrays are read -/
theorem m_h_ai {t r : Nat} {i x : Int32} (ht : t < 6) (hh : m_Rh s dC dI tys ex B0 c0 s0 ws0 hp H locs cells slots ws) (h : m_ai hp t r i = some x) :
    ∃ (a n : Nat) (cA : ClassId) (f : Nat → Int32), m_ad ex ws r = some a ∧ ws[r - 200]? = some (a, .inl (cA, n, .inl f)) ∧ tys[t]? = some (cA, m_ty t) ∧ vp_in i n ∧ f i.toNatClampNeg = x := by
  unfold m_ai at h
  split at h
  · next t' n f ho =>
    split at h
    · next hcnd =>
      cases h
      obtain ⟨rfl, hin⟩ := hcnd
      obtain ⟨a', e', h1, h2, cA, rfl, h3⟩ := hh.1.c ho
      exact ⟨a', n, cA, f, h1, h2, h3, m_in_vp hin, rfl⟩
    · cases h
  · cases h
theorem m_h_al {r : Nat} {i : Int32} {x : Int64} (hh : m_Rh s dC dI tys ex B0 c0 s0 ws0 hp H locs cells slots ws) (h : m_al hp r i = some x) :
    ∃ (a n : Nat) (cA : ClassId) (f : Nat → Int64), m_ad ex ws r = some a ∧ ws[r - 200]? = some (a, .inl (cA, n, .inr (.inl f))) ∧ tys[1]? = some (cA, .long) ∧ vp_in i n ∧ f i.toNatClampNeg = x := by
  unfold m_al at h
  split at h
  · next t' n f ho =>
    split at h
    · next hcnd =>
      cases h
      obtain ⟨rfl, hin⟩ := hcnd
      obtain ⟨a', e', h1, h2, cA, rfl, h3⟩ := hh.1.c ho
      exact ⟨a', n, cA, f, h1, h2, h3, m_in_vp hin, rfl⟩
    · cases h
  · cases h
theorem m_h_aq {r : Nat} {i : Int32} {x : Option Nat} (hh : m_Rh s dC dI tys ex B0 c0 s0 ws0 hp H locs cells slots ws) (h : m_aq hp r i = some x) :
    ∃ (a n : Nat) (cA : ClassId) (g : Nat → Option Nat), m_ad ex ws r = some a ∧ ws[r - 200]? = some (a, .inl (cA, n, .inr (.inr (.inr (.inr g))))) ∧ tys[5]? = some (cA, m_ty 5) ∧ vp_in i n ∧ m_Or (m_ad ex ws) x (g i.toNatClampNeg) := by
  unfold m_aq at h
  split at h
  · next t' n f ho =>
    split at h
    · next hcnd =>
      cases h
      obtain ⟨rfl, hin⟩ := hcnd
      obtain ⟨a', e', h1, h2, cA, g, rfl, h3, h4⟩ := hh.1.c ho
      exact ⟨a', n, cA, g, h1, h2, h3, m_in_vp hin, h4 _⟩
    · cases h
  · cases h
theorem m_h_len {r : Nat} {x : Int32} (hh : m_Rh s dC dI tys ex B0 c0 s0 ws0 hp H locs cells slots ws) (h : m_len hp r = some x) :
    ∃ (a t : Nat) (cA : ClassId) (y : vp_A) (ty : FieldType), m_ad ex ws r = some a ∧ ws[r - 200]? = some (a, .inl (cA, y)) ∧ tys[t]? = some (cA, ty) ∧ Int32.ofNat y.1 = x := by
  unfold m_len at h
  split at h
  · next o ho =>
    split at h
    · cases h
      obtain ⟨a', e', h1, h2, h3⟩ := hh.1.c ho
      obtain ⟨t, n, f | f | f | f | f⟩ := o
      · obtain ⟨cA, rfl, h4⟩ := h3
        exact ⟨a', t, cA, _, _, h1, h2, h4, rfl⟩
      · obtain ⟨cA, rfl, h4⟩ := h3
        exact ⟨a', t, cA, _, _, h1, h2, h4, rfl⟩
      · exact h3.elim
      · exact h3.elim
      · obtain ⟨cA, g, rfl, h4, -⟩ := h3
        exact ⟨a', t, cA, _, _, h1, h2, h4, rfl⟩
    · cases h
  · cases h
theorem m_Or.v {ad : Nat → Option Nat} {x y : Option Nat} (h : m_Or ad x y) : m_V ad (va_rf x) (va_rf y) := by
  cases x with
  | none => cases h; rfl
  | some k => obtain ⟨a, h1, rfl⟩ := h; exact ⟨a, h1, rfl⟩
/-- places of arrays are written -/
theorem m_h_si {t r : Nat} {i x : Int32} {hp' : m_H} (hl : m_Rl (m_ad ex ws) nL lv ls) (hv : m_Vs (m_ad ex ws) (.int x :: .int i :: .ref r :: st) vs) (hh : m_Rh s dC dI tys ex B0 c0 s0 ws0 hp H locs cells slots ws) (h : m_si hp t r i x = some hp')
    (kk : m_Kh p l e R s m args below meth c Q dC dI tys ex B0 c0 s0 ws0 nL (pc + 1) lv st hp')
    (row : ∀ (a n : Nat) (cA : ClassId) (f : Nat → Int32) (vr : List Value), ws[r - 200]? = some (a, .inl (cA, n, .inl f)) → tys[t]? = some (cA, m_ty t) → vp_in i n →
      (∀ (H1 : Heap) (locs1 : List Loc), va_P (dC, dI) m_cl (ws.set (r - 200) (a, .inl (cA, n, .inl (upd f i.toNatClampNeg (vp_nar (m_ty t) x))))) H1 → va_D (fun q => B0 ≤ q) (ws.set (r - 200) (a, .inl (cA, n, .inl (upd f i.toNatClampNeg (vp_nar (m_ty t) x))))) → va_S (fun q => B0 ≤ q) s.heap H1 locs1 → W p l e R s m args below meth c H1 locs1 cells slots Q (F0 m (pc + 1) ls vr)) → W p l e R s m args below meth c H locs cells slots Q (F0 m pc ls (.int x :: .int i :: .ref a :: vr))) : W p l e R s m args below meth c H locs cells slots Q (F0 m pc ls vs) := by
  obtain ⟨w, v1, rfl, hw, hv1⟩ := hv.hd
  cases hw
  obtain ⟨w, v2, rfl, hw, hv2⟩ := hv1.hd
  cases hw
  obtain ⟨w, v3, rfl, ⟨a, ha, rfl⟩, hv3⟩ := hv2.hd
  unfold m_si at h
  split at h
  · next t' n f ho =>
    split at h
    · next hcnd =>
      cases h
      obtain ⟨rfl, hin⟩ := hcnd
      obtain ⟨a', e', h1, h2, cA, rfl, h3⟩ := hh.1.c ho
      cases Option.some.inj (ha.symm.trans h1)
      refine row a n cA f v3 h2 h3 (m_in_vp hin) fun H1 locs1 hP hD hS => ?_
      have hR := hh.w (e := .inl (t', n, .inl (upd f i.toNatClampNeg (vp_nar (m_ty t') x)))) ho rfl h2 ⟨cA, rfl, h3⟩ hP hD hS
      have e1 := m_ad_set (ex := ex) (e := .inl (cA, n, .inl (upd f i.toNatClampNeg (vp_nar (m_ty t') x)))) h2
      exact kk ls v3 H1 locs1 cells slots _ (by rw [e1]; exact hl) (by rw [e1]; exact hv3) hR
    · cases h
  · cases h
theorem m_h_sl {r : Nat} {i : Int32} {x : Int64} {hp' : m_H} (hl : m_Rl (m_ad ex ws) nL lv ls) (hv : m_Vs (m_ad ex ws) (.long x :: .int i :: .ref r :: st) vs) (hh : m_Rh s dC dI tys ex B0 c0 s0 ws0 hp H locs cells slots ws) (h : m_sl hp r i x = some hp')
    (kk : m_Kh p l e R s m args below meth c Q dC dI tys ex B0 c0 s0 ws0 nL (pc + 1) lv st hp')
    (row : ∀ (a n : Nat) (cA : ClassId) (f : Nat → Int64) (vr : List Value), ws[r - 200]? = some (a, .inl (cA, n, .inr (.inl f))) → tys[1]? = some (cA, .long) → vp_in i n →
      (∀ (H1 : Heap) (locs1 : List Loc), va_P (dC, dI) m_cl (ws.set (r - 200) (a, .inl (cA, n, .inr (.inl (vp_updL f i.toNatClampNeg x))))) H1 → va_D (fun q => B0 ≤ q) (ws.set (r - 200) (a, .inl (cA, n, .inr (.inl (vp_updL f i.toNatClampNeg x))))) → va_S (fun q => B0 ≤ q) s.heap H1 locs1 → W p l e R s m args below meth c H1 locs1 cells slots Q (F0 m (pc + 1) ls vr)) → W p l e R s m args below meth c H locs cells slots Q (F0 m pc ls (.long x :: .int i :: .ref a :: vr))) : W p l e R s m args below meth c H locs cells slots Q (F0 m pc ls vs) := by
  obtain ⟨w, v1, rfl, hw, hv1⟩ := hv.hd
  cases hw
  obtain ⟨w, v2, rfl, hw, hv2⟩ := hv1.hd
  cases hw
  obtain ⟨w, v3, rfl, ⟨a, ha, rfl⟩, hv3⟩ := hv2.hd
  unfold m_sl at h
  split at h
  · next t' n f ho =>
    split at h
    · next hcnd =>
      cases h
      obtain ⟨rfl, hin⟩ := hcnd
      obtain ⟨a', e', h1, h2, cA, rfl, h3⟩ := hh.1.c ho
      cases Option.some.inj (ha.symm.trans h1)
      refine row a n cA f v3 h2 h3 (m_in_vp hin) fun H1 locs1 hP hD hS => ?_
      have hR := hh.w (e := .inl (1, n, .inr (.inl (vp_updL f i.toNatClampNeg x)))) ho rfl h2 ⟨cA, rfl, h3⟩ hP hD hS
      have e1 := m_ad_set (ex := ex) (e := .inl (cA, n, .inr (.inl (vp_updL f i.toNatClampNeg x)))) h2
      exact kk ls v3 H1 locs1 cells slots _ (by rw [e1]; exact hl) (by rw [e1]; exact hv3) hR
    · cases h
  · cases h
end MH
