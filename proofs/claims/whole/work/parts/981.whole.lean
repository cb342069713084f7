/-! ===== the claim, out of the run ===== -/
def R_law : String := "LendHouseLaw"
def lw_P (b : Addr) (xs : List Int32) (args : Array Value) (s : State) : Prop := args = #[.ref b] ∧ s.IntsAt b xs ∧ xs.length ≤ 3072 ∧ (Jvm.Cond.and given_1 narrow_1).before args s = true
def lw_Q (_ : Array Value) (s : State) (o : Outcome) (t : State) : Prop := o = .returned (some (.int 1)) ∧ Framed s o t [] 601024 7293034
def lw_rm (hf : m_H) : Room := { frames := 2048, cells := m_cells hf, slots := m_slots hf, locals := 41 * 2048 }
theorem lw_small {s : State} {pl : Platform} {hf : m_H} (h : s.hasRoom pl room_1 = true) (h1 : m_cells hf ≤ 601024) (h2 : m_slots hf ≤ 7293034) : s.hasRoom pl (lw_rm hf) = true := by
  have e1 : room_1.cells = 601024 := rfl
  have e2 : room_1.slots = 7293034 := rfl
  have e3 : room_1.frames = 2048 := rfl
  have e4 : room_1.locals = 84000 := rfl
  have k1 : (lw_rm hf).cells = m_cells hf := rfl
  have k2 : (lw_rm hf).slots = m_slots hf := rfl
  have k3 : (lw_rm hf).frames = 2048 := rfl
  have k4 : (lw_rm hf).locals = 83968 := rfl
  unfold State.hasRoom at h ⊢
  simp only [Bool.and_eq_true, decide_eq_true_eq] at h ⊢
  rw [e1, e2, e3, e4] at h
  rw [k1, k2, k3, k4]
  obtain ⟨⟨⟨⟨a1, a2⟩, a3⟩, a4⟩, a5⟩ := h
  exact ⟨⟨⟨⟨by omega, by omega⟩, by omega⟩, by omega⟩, a5⟩
theorem lw_hQ {b : Addr} {s t : State} {o : Outcome} {dC : Nat → ClassId} {dI : Nat → Nat → Nat} {tys : List (ClassId × FieldType)} {ex : Nat → Nat} {hf : m_H} {mc ms : Nat} (h1 : mc ≤ 601024) (h2 : ms ≤ 7293034)
    (h : vx_Q (m_Qc dC dI tys ex s.heap.size [] (.inl (some (.int 1))) hf) (m_XC dC dI tys ex s.heap.size [] (.inl (some (.int 1))) hf) mc ms (fun q => s.heap.size ≤ q) #[.ref b] s o t) : lw_Q #[.ref b] s o t := by
  rcases h with ⟨⟨⟨v, w, e1, rfl, ws', -, hv⟩, -⟩, L, ⟨-, hW, hS⟩, hL⟩ | ⟨q, -, E, ce, L, ⟨⟨k, e1, -⟩, -⟩, -⟩
  · cases e1
    have hw : w = some (.int 1) := by
      cases w with
      | none => exact hv.elim
      | some x =>
        obtain ⟨hx, -⟩ := hv
        cases hx
        rfl
    subst hw
    refine ⟨rfl, ⟨_, rfl⟩, hW, ?_⟩
    exact State.sameButNew.weaken hS (fun y hy hlt => absurd (hL y hy) (Nat.not_le.mpr hlt)) h1 h2
  · cases e1
theorem lw_FS {l : Launch} (hlt : l.stackTraces = false) {dC : Nat → ClassId} {dI : Nat → Nat → Nat} {tys : List (ClassId × FieldType)} {ex : Nat → Nat} {B0 L : Nat} {xs : Nat → Int32} (n : Nat) : m_FS2 l dC dI tys ex m_sls B0 L xs m_strs m_Z n := m_sound2 hlt m_ns_all m_hall n
theorem lw_run {l : Launch} (hlt : l.stackTraces = false) {p : Program} {e : Env} {s T : State} {m : MethodId} {below : List Frame} {meth : Method} {c : Code} {b L : Nat} {xs : Nat → Int32} (hL : L ≤ 3072)
    (hFx : ∃ (dC : Nat → ClassId) (dI : Nat → Nat → Nat) (tys : List (ClassId × FieldType)) (ex : Nat → Nat), ex 0 = b ∧ m_Fx l dC dI tys ex m_sls s.heap.size L xs m_strs m_Z 2635 p s m #[Value.ref b] meth c)
    (hT : T.heap = s.heap) (X : Stand p l e room_1 s m #[Value.ref b] below meth c T [] 0 0) : ∃ t o, Steps p.tables e below (T.setTop (entryFrame m #[Value.ref b] 8)) t ∧ t.status = .running ∧ Ended t below o ∧ lw_Q #[Value.ref b] s o t := by
  obtain ⟨dC, dI, tys, ex, hex, hFx⟩ := hFx
  obtain ⟨sf, hF, hJ⟩ := law_run (xs := xs) hL
  obtain ⟨r1, r2⟩ := JJ_room hJ (by omega)
  obtain ⟨n, hn⟩ := SF13_law hF
  have hrun := hn 2048 (by decide)
  dsimp only at hrun
  generalize tz_H sf = hf at r1 r2 hrun
  have X' : Stand p l e (lw_rm hf) s m #[Value.ref b] below meth c T [] 0 0 := { X with room := lw_small X.room r1 r2 }
  have hent : entryFrame m #[Value.ref b] 8 = F0 m 0 ((lg_sl [Value.ref b] ++ List.replicate (8 - (lg_sl [Value.ref b]).length) Slot.unset).toArray) [] := lg_entry_eq m [Value.ref b] 8
  have hvs : m_Vs (m_ad ex []) [.ref 0] [.ref b] := ⟨⟨b, by unfold m_ad; rw [if_pos (by decide), hex], rfl⟩, trivial⟩
  have hw := lw_FS hlt n 2048 2635 0 (lv_args 0 [.ref 0]) [] ([], 0, 0) (.inl (some (.int 1))) hf ([], 0, 0) hrun (Nat.lt_of_le_of_lt r2 (by decide)) mm2635 (R := lw_rm hf) (below := below) (e := e) (H := s.heap) (locs := []) (cells := 0) (slots := 0) (ws0 := []) (ws := []) (vs := []) hFx rfl rfl (Nat.add_zero _) (Nat.add_zero _) ⟨_, lv_entry [Value.ref b] (n := 8) (by show 1 ≤ 8; decide), m_Ls.args hvs 0⟩ trivial ⟨⟨rfl, (fun k e h => by cases h)⟩, (fun k q h => by cases h), ⟨(fun i j p q h => by cases h), (fun k q h => by cases h)⟩, va_S.rf, rfl, rfl, m_Le.rf⟩ T hT X'
  obtain ⟨t, h1, o, h2, h3, h4⟩ := hw
  rw [hent]
  exact ⟨t, o, h1, h2, h3, lw_hQ (Nat.le_trans (Nat.sub_le _ _) r1) (Nat.le_trans (Nat.sub_le _ _) r2) h4⟩
theorem lw_walk (l : Launch) (hflags : l.flags = flags0) (b : Addr) (xs : List Int32) : MetFree l x (headSpec (Jvm.Cond.code x code maxLocals ret :: tables_1) room_1) (lw_P b xs) (fun _ _ _ _ _ => True) lw_Q := by
  have hlt : l.stackTraces = false := by
    unfold Launch.stackTraces
    rw [hflags]
    decide
  refine MetFree.of_bodyS (code := code) (maxLocals := maxLocals) (ret := ret) (by decide) ?_ ?_
  · intro args s m h hn
    obtain ⟨meth, c, h1, h2, h3, h4, h5, h6, -, -⟩ := Cond.code_spec hn (atoms_spec (ws := Jvm.Cond.code x code maxLocals ret :: tables_1) h _ List.mem_cons_self)
    exact ⟨meth, c, h1, h2, h3, h4, h5, h6⟩
  · intro p e s m args below meth c s₁ B hml0 hP _
    obtain ⟨rfl, hx, hbd, hgv⟩ := hP
    obtain ⟨scr, harrAt, hlist, hof, hsmall⟩ := hx
    obtain ⟨hcb, hkn, -, -⟩ := State.arrayAt?_spec harrAt
    have hown : s.vm.findClass R_law = some m.cls := findClass_of_methodNamed B.named
    have hts0 : ∀ c ∈ (Jvm.Cond.code x code maxLocals ret :: tables_1), c.before #[Value.ref b] s = true := atoms_spec (ws := Jvm.Cond.code x code maxLocals ret :: tables_1) B.pre
    have hts : ∀ w ∈ lw_tbl, w.before #[Value.ref b] s = true := k2_hts_sels lw_privs (fun w hw => hts0 w (List.mem_cons_of_mem _ hw)) lw_privs_ok
    have hml : c.maxLocals = 8 := B.maxLocals_eq (hts0 _ List.mem_cons_self)
    have X₀ : Stand p l e room_1 s m #[Value.ref b] below meth c s₁ [] 0 0 := Stand.of_body B
    have hh0 : s₁.heap = s.heap := by rw [B.state]; rfl
    have hsz : scr.slots.size = xs.length := by rw [← Array.length_toList, hlist, List.length_map]
    have hval : ∀ j : Nat, j < xs.length → scr.slots[j]? = some (.int (xs.getD j 0)) := fun j hj => by
      rw [← Array.getElem?_toList, hlist]
      simp [hj]
    have hbl : b < s.heap.size := (Array.getElem?_eq_some_iff.mp hcb).1
    have hX : va_X b xs.length (fun j => xs.getD j 0) s s.heap := ⟨scr, hcb, hof, hkn, hsz, hval⟩
    have hg : ∀ w ∈ e_G, w.before #[Value.ref b] s = true := flat_of_before _ hgv
    have htb : c.exceptionTable.toList = tableOf (m_hh (m_Z.1 2635)) := by
      obtain ⟨meth9, c9, h1, h2, -, -, -, -, h7, -⟩ := Cond.code_spec B.named (hts0 _ List.mem_cons_self)
      cases Option.some.inj (h1.symm.trans B.method)
      cases Option.some.inj (h2.symm.trans X₀.code)
      rw [Array.isEmpty_iff.mp h7]
      rfl
    have hFx : ∃ (dC : Nat → ClassId) (dI : Nat → Nat → Nat) (tys : List (ClassId × FieldType)) (ex : Nat → Nat), ex 0 = b ∧ m_Fx l dC dI tys ex m_sls s.heap.size xs.length (fun j => xs.getD j 0) m_strs m_Z 2635 p s m #[Value.ref b] meth c := by
      obtain ⟨dC, dI, tys, hWo⟩ := e_Wo hts hg hX hbl
      exact ⟨dC, dI, tys, _, e_ex0, ⟨B.exec, B.bytes, hml, hown, fun w hw => hts w (m_Ts_in hw), e_Nt hts⟩, hWo, e_Xs hts hg, B.returns, B.notSynchronized, (name_of_methodNamed B.named B.method).1, htb⟩
    obtain ⟨t, o, a1, b1, b2, b3⟩ := lw_run hlt hbd hFx hh0 X₀
    exact ⟨t, o, a1, b1, b2, b3⟩
theorem lw_pre_spec {args : Array Value} {s : State} (h : (Jvm.Cond.and given_1 narrow_1).before args s = true) (hr : rest_1_c.before args s = true) : ∃ (b : Addr) (xs : List Int32), lw_P b xs args s := by
  have hs := flat_of_before _ h
  have hq := flat_of_before _ hr
  have hc : (Cond.count 1).before args s = true := hs _ (by decide +kernel)
  have harr : (Cond.arrayOf (.arg 0) .int).before args s = true := hs _ (by decide +kernel)
  have hle : (Cond.le (.length (.arg 0)) (.int 3072)).before args s = true := hs _ (by decide +kernel)
  have hlen : (Cond.isInt (.length (.arg 0))).before args s = true := hq _ (by decide +kernel)
  have hall : (Cond.all (.arg 0) (.isInt (.elem (.arg 0) (.index 0)))).before args s = true := hq _ (by decide +kernel)
  obtain ⟨b, xs, hb, hx⟩ := State.ints_of_pre rfl harr hlen hall
  have hsm : xs.length < 2 ^ 31 := hx.choose_spec.2.2.2
  have hev : (Term.length (.arg 0)).eval args s none [] s = some (.int xs.length.toInt32) := hx.length_eval hb
  have hv := Cond.le_ints hev (show (Term.int 3072).eval args s none [] s = some (.int 3072) from rfl)
  have hd : xs.length.toInt32 ≤ 3072 := by
    simpa [Cond.before, Cond.holds, hv] using hle
  have hN : xs.length ≤ 3072 := (Int32.ofNat_le_ofNat hsm (by decide)).mp (show Int32.ofNat xs.length ≤ Int32.ofNat 3072 from hd)
  exact ⟨b, xs, Cond.one_arg hc (show args[0]? = some (.ref b) from hb), hx, hN, h⟩
theorem lw_comes (l : Launch) (hflags : l.flags = flags0) : Comes l x (Jvm.Cond.code x code maxLocals ret :: tables_1) room_1 (fun tb e args s => Calls_1 tb e args s ∧ rest_1 tb e args s ∧ Pre_1 tb e args s)
    (fun _ _ args s o t => lw_Q args s o t) := by
  intro p e ha hc hk s m args below hf hfit hheap happ hpre
  obtain ⟨b, xs, hP⟩ := lw_pre_spec hpre.2.2 hpre.2.1
  obtain ⟨k, o, h1, h2, h3, hQ⟩ := lw_walk l hflags b xs p e ha hc hk s m args below hf ((Spec.applies_iff_loose hf).mp happ).1 hP trivial
  exact ⟨k, o, h1, h2, h3, hQ⟩
theorem lw_frame {s t : State} {o : Outcome} {args : Array Value} (h : Framed s o t [] 601024 7293034) :
    Framed s o t (fieldLocs frame_1_writes args s ++ arrayLocs frame_1_arrays args s ++ staticLocs frame_1_statics s) 601024 7293034 := h
theorem lw_limb (L : Cond) (hL : ∀ (args : Array Value) (s t : State), L.after args s (.returned (some (.int 1))) t = true) :
    ArmFor flags0 classFile x code maxLocals ret World_1 tables_1 room_1 Calls_1 rest_1 Pre_1
      (fun tb e a s o t => postC L tb e a s o t ∧ Framed s o t (fieldLocs frame_1_writes a s ++ arrayLocs frame_1_arrays a s ++ staticLocs frame_1_statics s) 601024 7293034) := by
  intro l hflags _ _ p e ha hc hk s m args below hf hfit hheap happ hpre
  obtain ⟨k, o, h1, h2, h3, rfl, hF⟩ := lw_comes l hflags p e ha hc hk s m args below hf hfit hheap happ hpre
  exact ⟨k, _, h1, h2, h3, hL args s _, lw_frame hF⟩
theorem i_vc : Claimed_1_1 ∧ Claimed_1_2 := ⟨lw_limb limb_1_1 (fun args s t => by simp [limb_1_1, Cond.after, Cond.holds, Cond.value]), lw_limb limb_1_2 (fun args s t => Cond.after_iff.mpr (by
  first | (rw [show limb_1_2 = Cond.eq .result (.int 1) from rfl, Cond.eq_ints (x := 1) (y := 1) rfl rfl]; simp; done) | (simp [limb_1_2, Cond.value, Term.eval]; done)))⟩
