/-! ===== n_: the eight methods that are taken as one step ===== -/
theorem m_NS.two {c : Nat} (h : m_NS c) : m_NS2 c := by
  intro p l e R s m args below meth c H locs cells slots Q cc pc nL ls own lv st vs dC dI tys ex sl B0 L c0 s0 xs strs ws0 ws hp k z hC hW hd hk hf hlo hcat hn _ hr hl hv hh kk
  exact h hC hW hd hk hf hlo hcat hn hr hl hv hh kk
section NR
variable {p : Program} {l : Launch} {e : Env} {R : Room} {s : State} {m : MethodId} {args : Array Value} {below : List Frame} {meth : Method} {c : Code} {H : Heap} {locs : List Loc} {cells slots : Nat} {Q : State → Prop}
variable {y : MethodName} {b8 cc : ByteArray} {maxL nL d mc ms n index : Nat} {ret : Option FieldType} {Pc : Array Value → State → Prop} {Qc : Array Value → State → Outcome → State → Prop} {free : Addr → Prop} {own C : String} {b : Addr} {As rest : List Value} {g : JFrame}
theorem n_back (hts : ∀ w ∈ m_Ts, w.before args s = true) (hM : Met l y (n_ws y b8 maxL ret) (n_rm d mc ms) Pc Qc mc ms free) (hbl : FrameBlind Pc) (hcode : Cond.code y b8 maxL ret ∈ m_Ts) (hi : Cond.initialized y.cls ∈ m_Ts) (h1 : d + 1 ≤ R.frames) (h2 : 12 + (maxL + 11) + 41 * d ≤ R.locals) :
    Back l R p e below s args y 3 12 (PreOf R mc ms Pc) (PostOf Qc mc ms free) :=
  back_of (bytes := b8) (maxL := maxL) (ret := ret) hM hbl rfl rfl h1 h2 (pay_in hts (m_good_in fun w hw => (List.mem_cons.mp hw).elim (fun h => by rw [h]; exact hcode) id)) List.mem_cons_self (fun a' U hW => word_at hW (Or.inl (by first | rfl | simp [Cond.onTables, Cond.keeps, Cond.steady])) (hts _ hi))
theorem n_runV (S : CallFix p m c cc nL s args m_Ts own) (hM : Met l y (n_ws y b8 maxL ret) (n_rm d mc ms) Pc Qc mc ms free) (hcode : Cond.code y b8 maxL ret ∈ m_Ts) (hi : Cond.initialized y.cls ∈ m_Ts) (h1 : d + 1 ≤ R.frames) (h2 : 12 + (maxL + 11) + 41 * d ≤ R.locals)
    (hl : Cond.methodLink own index y ∈ m_Ts) (hin : Cond.instanceMethod y ∈ m_Ts) (hse : Cond.selects C y y ∈ m_Ts) (hdd : y.cls ≠ "java/lang/invoke/MethodHandle" ∧ y.cls ≠ "java/lang/invoke/VarHandle" ∧ (parseMethodDescriptor y.desc).map (fun d => d.parameters.length) = some n) (hp : PreV s H C b Pc As)
    (hg : g.method = m) (hn : As.length = n) (hsize : g.locals.size = nL) (hstack : g.stack = As.reverse ++ .ref b :: rest) (hW : 2 * g.monitorRoom + (rest.map fun v => v.category).sum ≤ 12) (hdg : decode cc g.pc = .ok (.invokevirtual index, 3)) (hf : cells + mc ≤ R.cells ∧ slots + ms ≤ R.slots) :
    va_Run p l e R s m args below meth c H locs cells slots mc ms g rest (Qc (Value.ref b :: As).toArray) (free) := by
  obtain ⟨hx, hb, hml, ho, hts⟩ := S
  have hK := n_back (p := p) (e := e) (R := R) (below := below) hts hM hp.1 hcode hi h1 h2
  obtain ⟨-, ⟨cellB, hcB, hoB, hclB⟩, hPc⟩ := hp
  intro T hT X
  obtain ⟨v, vm₁, ⟨U', l2, c2, s2⟩, hW₁, X', ⟨g', mk, t, L, e1, e2, hq, h1, hL, h2, h3⟩, st⟩ := callV X hx (C := C) (bytes := b8) (maxL := maxL) (ret := ret) ho (hts _ hl) (hts _ hin) (hts _ hse) (hts _ hcode) ⟨hdd.1, hdd.2.1⟩ hK (by rw [hT]; exact hcB) hoB hclB hg (hsize.trans hml.symm) (argsL := As) (rest := rest) (fun sig h => by
      have h5 := hdd.2.2
      rw [h] at h5
      exact hn.trans (Option.some.inj h5).symm) hstack hW (by rw [hb]; exact hdg)
    (fun vm₁ hW₁ => ⟨hf.1, hf.2, hPc (T.setVm vm₁) hT hW₁⟩)
  dsimp only [Pt.U, Pt.locs, Pt.cells, Pt.slots] at X' e1 e2 h1 h2 h3 st
  subst h1; subst h2; subst h3
  exact ⟨v, (T.setVm vm₁).calling g' mk (Value.ref b :: As).toArray, t, U', L, hT, X', hL, e1, e2, hq, st⟩
theorem n_runS (S : CallFix p m c cc nL s args m_Ts own) (hM : Met l y (n_ws y b8 maxL ret) (n_rm d mc ms) Pc Qc mc ms free) (hcode : Cond.code y b8 maxL ret ∈ m_Ts) (hi : Cond.initialized y.cls ∈ m_Ts) (h1 : d + 1 ≤ R.frames) (h2 : 12 + (maxL + 11) + 41 * d ≤ R.locals)
    (hl : Cond.methodLink own index y ∈ m_Ts) (hin : Cond.static y ∈ m_Ts) (hdd : y.cls ≠ "java/lang/invoke/MethodHandle" ∧ y.cls ≠ "java/lang/invoke/VarHandle" ∧ (parseMethodDescriptor y.desc).map (fun d => d.parameters.length) = some n) (hp : PreS s H Pc As)
    (hg : g.method = m) (hn : As.length = n) (hsize : g.locals.size = nL) (hstack : g.stack = As.reverse ++ rest) (hW : 2 * g.monitorRoom + (rest.map fun v => v.category).sum ≤ 12) (hdg : decode cc g.pc = .ok (.invokestatic index, 3)) (hf : cells + mc ≤ R.cells ∧ slots + ms ≤ R.slots) :
    va_Run p l e R s m args below meth c H locs cells slots mc ms g rest (Qc As.toArray) (free) := by
  obtain ⟨hx, hb, hml, ho, hts⟩ := S
  have hK := n_back (p := p) (e := e) (R := R) (below := below) hts hM hp.1 hcode hi h1 h2
  intro T hT X
  obtain ⟨v, vm₁, ⟨U', l2, c2, s2⟩, hW₁, X', ⟨g', mk, t, L, e1, e2, hq, h1, hL, h2, h3⟩, st⟩ := callS X hx (bytes := b8) (maxL := maxL) (ret := ret) ho (hts _ hl) (hts _ hin) (hts _ hi) (hts _ hcode) ⟨hdd.1, hdd.2.1⟩ hK hg (hsize.trans hml.symm) (argsL := As) (rest := rest) (fun sig h => by
      have h5 := hdd.2.2
      rw [h] at h5
      exact hn.trans (Option.some.inj h5).symm) hstack hW (by rw [hb]; exact hdg)
    (fun vm₁ hW₁ => ⟨hf.1, hf.2, hp.2 (T.setVm vm₁) hT hW₁⟩)
  dsimp only [Pt.U, Pt.locs, Pt.cells, Pt.slots] at X' e1 e2 h1 h2 h3 st
  subst h1; subst h2; subst h3
  exact ⟨v, (T.setVm vm₁).calling g' mk As.toArray, t, U', L, hT, X', hL, e1, e2, hq, st⟩
end NR
theorem n_lt200 {ex : Nat → Nat} {ws : va_W} {a : Nat} (h : a < 200) {b : Nat} (hb : m_ad ex ws a = some b) : b = ex a := by
  unfold m_ad at hb
  rw [if_pos h] at hb
  exact (Option.some.inj hb).symm
theorem n_words8 : (Cond.instanceMethod yJ0_length_8abf5 ∈ m_Ts ∧ Cond.selects RJ0 yJ0_length_8abf5 yJ0_length_8abf5 ∈ m_Ts ∧ Cond.code yJ0_length_8abf5 cJ0_length_8abf5 1 (some .int) ∈ m_Ts) ∧ (Cond.instanceMethod yJ0_charAt_5068e ∈ m_Ts ∧ Cond.selects RJ0 yJ0_charAt_5068e yJ0_charAt_5068e ∈ m_Ts ∧ Cond.code yJ0_charAt_5068e cJ0_charAt_5068e 2 (some .char) ∈ m_Ts) ∧
    (Cond.static yJ7_copyOf_59c91 ∈ m_Ts ∧ Cond.code yJ7_copyOf_59c91 cJ7_copyOf_59c91 3 (some (.array .int)) ∈ m_Ts ∧ Cond.initialized RJ7 ∈ m_Ts) :=
  ⟨⟨m_Ts_of (by decide +kernel) rfl, m_Ts_of (by decide +kernel) rfl, m_Ts_of (by decide +kernel) rfl⟩, ⟨m_Ts_of (by decide +kernel) rfl, m_Ts_of (by decide +kernel) rfl, m_Ts_of (by decide +kernel) rfl⟩, m_Ts_of (by decide +kernel) rfl, m_Ts_of (by decide +kernel) rfl, m_Ts_of (by decide +kernel) rfl⟩
theorem m_ns6 : m_NS2 6 := by
  intro p l e R s m args below meth c H locs cells slots Q cc pc nL ls own lv st vs dC dI tys ex sl B0 L c0 s0 xs strs ws0 ws hp k z hC hW hd hk hf hlo hcat h _ hr hl hv hh kk
  have hC' := hC
  obtain ⟨hx, hb, hml, hown, hts, hnt⟩ := hC
  have h : m_n6 sl st hp = some z := h
  unfold m_n6 at h
  split at h
  · next a r =>
    split at h
    · next hcd =>
      cases h
      obtain ⟨w, v1, rfl, ⟨b, hb1, rfl⟩, hv1⟩ := hv.hd
      cases n_lt200 hcd.1 hb1
      simp only [m_cat_c, Value.category] at hcat
      have hc2 := m_cat_le hv1 (n := 12) (by omega)
      obtain ⟨hr1, hr2⟩ := hr
      obtain ⟨q1, q2, q3, q4, q5, q6, q7⟩ := hh
      dsimp only at hr1 hr2
      obtain ⟨⟨w1, w2, w3⟩, -⟩ := n_words8
      refine va_calli (A0 := fun q => B0 ≤ q) (H0 := s.heap) (n_runV (C := RJ0) (n := 0) (As := []) (rest := v1) ⟨hx, hb, hml, hown, hts⟩ (n_length (ws := ws) hcd.2) w3 n_words1.2.2.2.1 (by omega) (by omega) hk w1 w2 (by decide +kernel) ⟨n_Pc_blind, n_str hW hcd.2 q4, fun U hU hWa => n_pre hC' hW q4 q2 q3 hU hWa⟩ rfl rfl hl.size rfl (by show 2 * 0 + _ ≤ 12; omega) hd ⟨by omega, by omega⟩) q4 (fun _ _ h => h.elim) (fun _ h => h) ?_
      intro rr u t H1 locs1 _ _ hrr _ _ hkk hS
      subst hrr
      exact kk ls _ H1 locs1 (cells + 0) (slots + 0) ws hl ⟨rfl, hv1⟩ ⟨q1, q2.kept fun k x hx => hkk x.1 (q2 k x hx).lt (fun z => z), q3, hS, q5, q6, q7⟩
    · cases h
  · cases h
theorem m_ns7 : m_NS2 7 := by
  intro p l e R s m args below meth c H locs cells slots Q cc pc nL ls own lv st vs dC dI tys ex sl B0 L c0 s0 xs strs ws0 ws hp k z hC hW hd hk hf hlo hcat h _ hr hl hv hh kk
  have hC' := hC
  obtain ⟨hx, hb, hml, hown, hts, hnt⟩ := hC
  have h : m_n7 sl st hp = some z := h
  unfold m_n7 at h
  split at h
  · next i a r _ =>
    split at h
    · next hcd =>
      cases h
      obtain ⟨w0, v0, rfl, hw0, hv0⟩ := hv.hd
      cases hw0
      obtain ⟨w, v1, rfl, ⟨b, hb1, rfl⟩, hv1⟩ := hv0.hd
      cases n_lt200 hcd.1 hb1
      simp only [m_cat_c, Value.category] at hcat
      have hc2 := m_cat_le hv1 (n := 12) (by omega)
      obtain ⟨hr1, hr2⟩ := hr
      obtain ⟨q1, q2, q3, q4, q5, q6, q7⟩ := hh
      dsimp only at hr1 hr2
      obtain ⟨-, ⟨w1, w2, w3⟩, -⟩ := n_words8
      have ha : 0 < (sl a).length := Nat.lt_of_le_of_lt (Nat.zero_le _) (n_in hcd.2).2.2
      refine va_calli (A0 := fun q => B0 ≤ q) (H0 := s.heap) (n_runV (C := RJ0) (n := 1) (As := [.int i]) (rest := v1) ⟨hx, hb, hml, hown, hts⟩ (n_charAt (ws := ws) hcd.2) w3 n_words1.2.2.2.1 (by omega) (by omega) hk w1 w2 (by decide +kernel) ⟨n_Pc_blind, n_str hW ha q4, fun U hU hWa => n_pre hC' hW q4 q2 q3 hU hWa⟩ rfl rfl hl.size rfl (by show 2 * 0 + _ ≤ 12; omega) hd ⟨by omega, by omega⟩) q4 (fun _ _ h => h.elim) (fun _ h => h) ?_
      intro rr u t H1 locs1 _ _ hrr _ _ hkk hS
      subst hrr
      exact kk ls _ H1 locs1 (cells + 0) (slots + 0) ws hl ⟨rfl, hv1⟩ ⟨q1, q2.kept fun k x hx => hkk x.1 (q2 k x hx).lt (fun z => z), q3, hS, q5, q6, q7⟩
    · cases h
  · cases h
theorem n_szle : ∀ (l : List m_E) (k : Nat) (e : m_E), l[k]? = some e → m_sz e ≤ (l.map m_sz).sum
  | [], k, e, h => by cases h
  | x :: l, 0, e, h => by
    cases h
    rw [List.map_cons, List.sum_cons]
    omega
  | x :: l, k + 1, e, h => by
    have := n_szle l k e h
    rw [List.map_cons, List.sum_cons]
    omega
theorem n_cle {hp : m_H} {a : Nat} {e : m_E} (h : m_c hp a = some e) : m_sz e ≤ m_slots hp := by
  unfold m_c at h
  split at h
  · cases h
  · have := n_szle _ _ _ h
    unfold m_slots
    omega
theorem m_ns5 : m_NS2 5 := by
  intro p l e R s m args below meth c H locs cells slots Q cc pc nL ls own lv st vs dC dI tys ex sl B0 L c0 s0 xs strs ws0 ws hp k z hC hW hd hk hf hlo hcat h h9 hr hl hv hh kk
  have hC' := hC
  obtain ⟨hx, hb, hml, hown, hts, hnt⟩ := hC
  have h : m_n5 st hp = some z := h
  unfold m_n5 at h
  split at h
  · next n a r _ =>
    obtain ⟨h', hy, rfl⟩ := Option.map_eq_some_iff.mp h
    unfold m_cof at hy
    split at hy
    · next n0 f ho =>
      split at hy
      · cases hy
      · next hn =>
        cases hy
        obtain ⟨w0, v0, rfl, hw0, hv0⟩ := hv.hd
        cases hw0
        obtain ⟨w, v1, rfl, ⟨b, hb1, rfl⟩, hv1⟩ := hv0.hd
        obtain ⟨a', e', g1, g2, c0', rfl, g3⟩ := hh.1.c ho
        cases Option.some.inj (hb1.symm.trans g1)
        simp only [m_cat_c, Value.category] at hcat
        have hc2 := m_cat_le hv1 (n := 12) (by omega)
        obtain ⟨hr1, hr2⟩ := hr
        dsimp only at hr1 hr2 h9
        rw [m_cells_p] at hr1
        rw [m_slots_p] at hr2 h9
        have hsz : m_sz (.inl (0, n.toNatClampNeg, .inl (fun j => if j < n0 then f j else 0)) : m_E) = n.toNatClampNeg := rfl
        rw [hsz] at hr2 h9
        have hle := n_cle ho
        have hsz0 : m_sz (.inl (0, n0, .inl f) : m_E) = n0 := rfl
        rw [hsz0] at hle
        have hh' := hh
        obtain ⟨q1, q2, q3, q4, q5, q6, q7⟩ := hh
        obtain ⟨-, -, ⟨w1, w2, w3⟩⟩ := n_words8
        refine va_callr (A0 := fun q => B0 ≤ q) (H0 := s.heap) (n_runS (n := 2) (As := [.ref b, .int n]) (rest := v1) ⟨hx, hb, hml, hown, hts⟩ (n_copyOf (ws := ws) g2 g3 hn (by omega)) w2 w3 (by omega) (by omega) hk w1 (by decide +kernel) ⟨n_Pc_blind, fun U hU hWa => n_pre hC' hW q4 q2 q3 hU hWa⟩ rfl rfl hl.size rfl (by show 2 * 0 + _ ≤ 12; omega) hd ⟨by omega, by omega⟩) q4 (fun _ _ h => h) (fun _ h => h) ?_
        intro u ra t H1 locs1 hH _ _ hB _ _ hS
        obtain ⟨hP1, hD1⟩ := hB
        rw [hH] at hP1
        refine kk ls _ H1 locs1 (cells + 1) (slots + n.toNatClampNeg) _ (hl.le m_ad_push) ⟨⟨ra, m_ad_new q1 ra _, rfl⟩, hv1.le m_ad_push⟩ ⟨q1.p ⟨c0', rfl, g3⟩, hP1, hD1, hS, ?_, ?_, q7.tr m_ad_push⟩
        · rw [m_cells_p]; omega
        · rw [m_slots_p, hsz]; omega
    · cases hy
  · cases h
theorem m_ns_all : ∀ c, c < 8 → m_NS2 c := by
  intro c h
  match c, h with
  | 0, _ => exact @m_NS.two 0 @m_ns0
  | 1, _ => exact @m_NS.two 1 @m_ns1
  | 2, _ => exact @m_NS.two 2 @m_ns2
  | 3, _ => exact @m_NS.two 3 @m_ns3
  | 4, _ => exact @m_NS.two 4 @m_ns4
  | 5, _ => exact @m_ns5
  | 6, _ => exact @m_ns6
  | 7, _ => exact @m_ns7
  | n + 8, h => omega
