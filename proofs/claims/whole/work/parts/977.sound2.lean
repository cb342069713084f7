/-! ===== m_: the whole run, with a bound of all slots ===== -/
/-- what is to be shown of the method with this code -/
def m_NS2 (code : Nat) : Prop :=
  ∀ {p : Program} {l : Launch} {e : Env} {R : Room} {s : State} {m : MethodId} {args : Array Value} {below : List Frame} {meth : Method} {c : Code} {H : Heap} {locs : List Loc} {cells slots : Nat} {Q : State → Prop}
    {cc : ByteArray} {pc nL : Nat} {ls : Array Slot} {own : String} {lv : m_L} {st vs : List Value} {dC : Nat → ClassId} {dI : Nat → Nat → Nat} {tys : List (ClassId × FieldType)} {ex : Nat → Nat} {sl : Nat → List Int32} {B0 L c0 s0 : Nat} {xs : Nat → Int32} {strs : List (String × Nat × String × Nat)} {ws0 ws : va_W} {hp : m_H} {k : Nat} {z : List Value × m_H},
    m_Cx p s m args c cc nL own → m_Wo s dC dI tys ex sl B0 L xs strs → decode cc pc = .ok (m_nins code k, 3) → Cond.methodLink own k (m_nname code) ∈ m_Ts → 7 ≤ R.frames → 287 ≤ R.locals → m_cat st ≤ 12 →
    m_nat sl code st hp = some z → m_slots z.2 < 2 ^ 31 → m_cells z.2 ≤ R.cells + c0 ∧ m_slots z.2 ≤ R.slots + s0 → m_Rl (m_ad ex ws) nL lv ls → m_Vs (m_ad ex ws) st vs → m_Rh s dC dI tys ex B0 c0 s0 ws0 hp H locs cells slots ws →
    m_Kh p l e R s m args below meth c Q dC dI tys ex B0 c0 s0 ws0 nL (pc + 3) lv z.1 z.2 → W p l e R s m args below meth c H locs cells slots Q (F0 m pc ls vs)
section MR2
variable {l : Launch} {dC : Nat → ClassId} {dI : Nat → Nat → Nat} {tys : List (ClassId × FieldType)} {ex : Nat → Nat} {sl : Nat → List Int32} {B0 L : Nat} {xs : Nat → Int32} {strs : List (String × Nat × String × Nat)} {Z : m_PR}
/-- the claim on a run of n steps from a place within a method -/
def m_FS2 (l : Launch) (dC : Nat → ClassId) (dI : Nat → Nat → Nat) (tys : List (ClassId × FieldType)) (ex : Nat → Nat) (sl : Nat → List Int32) (B0 L : Nat) (xs : Nat → Int32) (strs : List (String × Nat × String × Nat)) (Z : m_PR) (n : Nat) : Prop :=
  ∀ (d i pc : Nat) (lv : m_L) (st : List Value) (hp : m_H) (o : m_O) (hpF hp0 : m_H), m_run m_ft m_fn sl xs L Z.1 n d i pc lv st hp = some (o, hpF) → m_slots hpF < 2 ^ 31 → m_mok Z strs i →
    ∀ {p : Program} {e : Env} {R : Room} {s : State} {m : MethodId} {args : Array Value} {below : List Frame} {meth : Method} {c : Code} {H : Heap} {locs : List Loc} {cells slots : Nat} {ls : Array Slot} {vs : List Value} {ws0 ws : va_W},
      m_Fx l dC dI tys ex sl B0 L xs strs Z i p s m args meth c → R.frames = d → R.locals = 41 * d → R.cells + m_cells hp0 = m_cells hpF → R.slots + m_slots hp0 = m_slots hpF →
      m_Rl (m_ad ex ws) (Z.1 i).2.2.1 lv ls → m_Vs (m_ad ex ws) st vs → m_Rh s dC dI tys ex B0 (m_cells hp0) (m_slots hp0) ws0 hp H locs cells slots ws →
      W p l e R s m args below meth c H locs cells slots (vx_MQ below (m_Qc dC dI tys ex B0 ws0 o hpF) (m_XC dC dI tys ex B0 ws0 o hpF) args s (m_cells hpF - m_cells hp0) (m_slots hpF - m_slots hp0) (fun q => B0 ≤ q)) (F0 m pc ls vs)
/-- a method's contract out of the claim on runs -/
theorem m_ct_of2 {n d j : Nat} {as : List Value} {hp : m_H} {o : m_O} {hp' : m_H} (hFS : m_FS2 l dC dI tys ex sl B0 L xs strs Z n) (hok : m_mok Z strs j) (h : m_run m_ft m_fn sl xs L Z.1 n d j 0 (lv_args 0 as) [] hp = some (o, hp')) (hlen : (lg_sl as).length ≤ (Z.1 j).2.2.1) (hb9 : m_slots hp' < 2 ^ 31) :
    m_Ct l dC dI tys ex sl B0 L xs strs Z j d as hp o hp' := by
  intro ws vs hvs hHr
  have hg := m_cells_pos (m_run_g h)
  dsimp only at hg
  have hln : (lg_sl vs).length ≤ (Z.1 j).2.2.1 := by rw [hvs.sl]; exact hlen
  have body : ∀ (p : Program) (e : Env) (s : State) (m : MethodId) (args : Array Value) (below : List Frame) (meth : Method) (c : Code) (s₁ : State), BodyLoose p l (Z.2.1 j) (headSpec (m_wl Z j) { frames := d, cells := m_cells hp' - m_cells hp, slots := m_slots hp' - m_slots hp, locals := 41 * d }) (Z.2.2 j) (Z.1 j).2.2.1 (Z.1 j).2.2.2.2.1 e s m args below meth c s₁ → c.maxLocals = (Z.1 j).2.2.1 → c.exceptionTable.toList = tableOf (m_hh (Z.1 j)) →
      m_Pc dC dI tys ex sl B0 L xs strs vs ws args s → W p l e (headSpec (m_wl Z j) { frames := d, cells := m_cells hp' - m_cells hp, slots := m_slots hp' - m_slots hp, locals := 41 * d }).room s m args below meth c s.heap [] 0 0 (vx_MQ below (m_Qc dC dI tys ex B0 ws o hp') (m_XC dC dI tys ex B0 ws o hp') args s (m_cells hp' - m_cells hp) (m_slots hp' - m_slots hp) (fun q => B0 ≤ q)) (entryFrame m args (Z.1 j).2.2.1) := by
    intro p e s m args below meth c s₁ B hml htb hP
    obtain ⟨rfl, hWo, hXs, hNt, hPw, hDw⟩ := hP
    have hts0 : ∀ w ∈ m_wl Z j, w.before vs.toArray s = true := atoms_spec (ws := m_wl Z j) B.pre
    have hown : s.vm.findClass (Z.2.1 j).cls = some m.cls := findClass_of_methodNamed B.named
    have hFx : m_Fx l dC dI tys ex sl B0 L xs strs Z j p s m vs.toArray meth c := ⟨⟨B.exec, B.bytes, hml, hown, fun w hw => hts0 w (List.mem_cons_of_mem _ hw), hNt⟩, hWo, hXs, B.returns, B.notSynchronized, (name_of_methodNamed B.named B.method).1, htb⟩
    rw [lg_entry_eq]
    have hl := lv_entry vs (n := (Z.1 j).2.2.1) hln
    exact hFS d j 0 (lv_args 0 as) [] hp o hp' hp h hb9 hok hFx rfl rfl (by show m_cells hp' - m_cells hp + m_cells hp = m_cells hp'; omega) (by show m_slots hp' - m_slots hp + m_slots hp = m_slots hp'; omega) ⟨_, hl, m_Ls.args hvs 0⟩ trivial ⟨hHr, hPw, hDw, va_S.rf, by omega, by omega, m_Le.rf⟩
  by_cases hno : (Z.1 j).2.2.2.2.2.1 = []
  · have hcw : m_wl Z j = Cond.code (Z.2.1 j) (Z.2.2 j) (Z.1 j).2.2.1 (Z.1 j).2.2.2.2.1 :: m_Ts := by unfold m_wl m_cw; rw [if_pos hno]
    refine vx_ofW (cc := Z.2.2 j) (maxL := (Z.1 j).2.2.1) (ret := (Z.1 j).2.2.2.2.1) hok.1 hcw ?_
    intro p e s m args below meth c s₁ B hml htb hP
    refine body p e s m args below meth c s₁ B hml ?_ hP
    have : m_hh (Z.1 j) = [] := by unfold m_hh; rw [hno]; rfl
    rw [this]
    cases hq : c.exceptionTable.toList with
    | nil => rfl
    | cons x y => exact (htb x (by rw [hq]; exact List.mem_cons_self)).elim
  · have hcw : m_wl Z j = Cond.codeWith (Z.2.1 j) (Z.2.2 j) (Z.1 j).2.2.1 (Z.1 j).2.2.2.2.1 (m_hh (Z.1 j)) :: m_Ts := by unfold m_wl m_cw; rw [if_neg hno]
    refine vx_ofWH (cc := Z.2.2 j) (maxL := (Z.1 j).2.2.1) (ret := (Z.1 j).2.2.2.2.1) (hh := m_hh (Z.1 j)) hok.1 hcw ?_
    intro p e s m args below meth c s₁ B hml hP
    refine body p e s m args below meth c s₁ B hml ?_ hP
    have hts0 : ∀ w ∈ m_wl Z j, w.before args s = true := atoms_spec (ws := m_wl Z j) B.pre
    exact vx_table (x := Z.2.1 j) B (hts0 _ (by rw [hcw]; exact List.mem_cons_self))
/-- THE WHOLE: a run of the small machine is a run of the JVM -/
theorem m_sound2 (hlt : l.stackTraces = false) (hNS : ∀ c, c < 8 → m_NS2 c) (hall : ∀ i k j, (Z.1 i).2.1.2.2.2.2.2.1 k = some (.inl j) → m_mok Z strs j) : ∀ n, m_FS2 l dC dI tys ex sl B0 L xs strs Z n := by
  intro n
  induction n with
  | zero =>
    intro d i pc lv st hp o hpF hp0 h hb9
    unfold m_run at h
    cases h
  | succ n ih =>
    intro d i pc lv st hp o hpF hp0 h hb9 hok p e R s m args below meth c H locs cells slots ls vs ws0 ws hF hR1 hR2 hR3 hR4 hl hv hh
    have hg := m_run_g h
    dsimp only at hg
    unfold m_run at h
    split at h
    · cases h
    · next ins len hfe =>
      obtain ⟨hd, hlen, hq, hcl⟩ := hok.2.2.2.1 _ (m_f_mem hfe)
      dsimp only at hd hlen hq hcl
      have hC := hF.1
      have hW := hF.2.1
      have hnm : meth.name = (Z.2.1 i).name := hF.2.2.2.2.2.1
      have q5 := hh.2.2.2.2.1
      have q6 := hh.2.2.2.2.2.1
      split at h
      · next E hE =>
        split at h
        · next hcnd =>
          cases h
          unfold m_thr at hE
          split at hE
          · next k =>
            obtain ⟨hno, htok⟩ := hcl E hE
            have hlen3 : len = 3 := by
              rcases hlen with h | h
              · cases h
              · exact h
            subst hlen3
            exact m_thr_ok hlt hd hno htok hcnd.2 hcnd.1 hR1 hR2 hR3 hR4 hF hl.size hv hh
          · cases hE
        · cases h
      · split at h
        · next z hz =>
          have hg2 := m_run_g h
          have hlen2 : len = m_il ins := by
            rcases hlen with hx | hx
            · cases ins <;> first | (cases hx; done) | (simp [m_step] at hz)
            · exact hx
          subst hlen2
          refine m_step_ok hC hW hd (by rw [hnm]; exact hq) hz ⟨?_, ?_⟩ hl hv hh ?_
          · have := hg2.1
            dsimp only at this
            omega
          · have := hg2.2
            dsimp only at this
            omega
          · intro ls' vs' H' locs' cells' slots' ws' hl' hv' hh'
            exact ih d i _ _ _ _ o hpF hp0 h hb9 hok hF hR1 hR2 hR3 hR4 hl' hv' hh'
        · split at h
          · next z hz =>
            exact m_jump_ok hC.1 hC.2.1 hd hlen hz hv (fun vs' hv' => ih d i _ _ _ _ o hpF hp0 h hb9 hok hF hR1 hR2 hR3 hR4 hl hv' hh)
          · split at h
            · next v hz =>
              cases h
              exact m_end_ret hd hlen hz hF hv hh
            · split at h
              · next z hz =>
                split at h
                · next hd7 =>
                  have hg2 := m_run_g h
                  have g1 := hg2.1
                  have g2 := hg2.2
                  dsimp only at g1 g2
                  have hK : m_Kh p l e R s m args below meth c (vx_MQ below (m_Qc dC dI tys ex B0 ws0 o hpF) (m_XC dC dI tys ex B0 ws0 o hpF) args s (m_cells hpF - m_cells hp0) (m_slots hpF - m_slots hp0) (fun q => B0 ≤ q)) dC dI tys ex B0 (m_cells hp0) (m_slots hp0) ws0 (Z.1 i).2.2.1 (pc + 3) lv z.1 z.2 := by
                    intro ls' vs' H' locs' cells' slots' ws' hl' hv' hh'
                    exact ih d i _ _ _ _ o hpF hp0 h hb9 hok hF hR1 hR2 hR3 hR4 hl' hv' hh'
                  unfold m_ncall at hz
                  split at hz
                  · next k =>
                    split at hz
                    · next cd hcd =>
                      split at hz
                      · next hcat =>
                        obtain ⟨e1, e2, e3⟩ := hcl _ hcd
                        have hlen3 : len = 3 := by
                          rcases hlen with h | h
                          · cases h
                          · exact h
                        subst hlen3
                        exact hNS cd e2 hC hW (by rw [e1]; exact hd) e3 (by omega) (by omega) hcat hz (by omega) ⟨by omega, by omega⟩ hl hv hh hK
                      · cases hz
                    · cases hz
                  · next k =>
                    split at hz
                    · next cd hcd =>
                      split at hz
                      · next hcat =>
                        obtain ⟨e1, e2, e3⟩ := hcl _ hcd
                        have hlen3 : len = 3 := by
                          rcases hlen with h | h
                          · cases h
                          · exact h
                        subst hlen3
                        exact hNS cd e2 hC hW (by rw [e1]; exact hd) e3 (by omega) (by omega) hcat hz (by omega) ⟨by omega, by omega⟩ hl hv hh hK
                      · cases hz
                    · cases hz
                  · next k =>
                    split at hz
                    · next cd hcd =>
                      split at hz
                      · next hcat =>
                        obtain ⟨e1, e2, e3⟩ := hcl _ hcd
                        have hlen3 : len = 3 := by
                          rcases hlen with h | h
                          · cases h
                          · exact h
                        subst hlen3
                        exact hNS cd e2 hC hW (by rw [e1]; exact hd) e3 (by omega) (by omega) hcat hz (by omega) ⟨by omega, by omega⟩ hl hv hh hK
                      · cases hz
                    · cases hz
                  · cases hz
                · cases h
              · split at h
                · next d' z hz =>
                  obtain ⟨j, as, rest⟩ := z
                  dsimp only at h
                  cases hrj : m_run m_ft m_fn sl xs L Z.1 n d' j 0 (lv_args 0 as) [] hp with
                  | none =>
                    rw [hrj] at h
                    cases h
                  | some r1 =>
                    obtain ⟨o1, hp1⟩ := r1
                    rw [hrj] at h
                    have hgc := m_run_g hrj
                    have gc1 := hgc.1
                    have gc2 := hgc.2
                    dsimp only at gc1 gc2
                    -- the run goes on, or ends
                    have hge : m_G hp1 hpF := by
                      cases o1 with
                      | inl v => exact m_run_g h
                      | inr E =>
                        dsimp only at h
                        split at h
                        · exact m_run_g h
                        · cases h; exact m_G.rf
                    have ge1 := hge.1
                    have ge2 := hge.2
                    have fin : ∀ (a : Array Value) (vr : List Value), m_Vs (m_ad ex ws) rest vr → vx_Run p l e R s m args below meth c H locs cells slots (m_cells hp1 - m_cells hp) (m_slots hp1 - m_slots hp) (F0 m pc ls vs) vr (m_Qc dC dI tys ex B0 ws o1 hp1 a) (m_XC dC dI tys ex B0 ws o1 hp1) (fun q => B0 ≤ q) →
                        W p l e R s m args below meth c H locs cells slots (vx_MQ below (m_Qc dC dI tys ex B0 ws0 o hpF) (m_XC dC dI tys ex B0 ws0 o hpF) args s (m_cells hpF - m_cells hp0) (m_slots hpF - m_slots hp0) (fun q => B0 ≤ q)) (F0 m pc ls vs) := by
                      intro a vr hvr hrun
                      refine m_after hrun hh.2.2.2.1 (fun v w ws' t locs1 ho hB hvw hS => ?_) (fun k ws' t locs1 q ce ho hk hB hS hce hcv hcl' => ?_)
                      · subst ho
                        dsimp only at h
                        obtain ⟨b1, b2, b3, b4⟩ := hB
                        exact ih (d' + 1) i _ _ _ _ o hpF hp0 h hb9 hok hF hR1 hR2 hR3 hR4 (hl.le b4) (m_Vs.app hvw (hvr.le b4)) ⟨b1, b2, b3, hS, by omega, by omega, hh.2.2.2.2.2.2.tr b4⟩
                      · subst ho
                        dsimp only at h
                        obtain ⟨b1, b2, b3, b4⟩ := hB
                        split at h
                        · next tg htg =>
                          exact m_catch hF hok hk htg hce hcv hcl' (ih (d' + 1) i _ _ _ _ o hpF hp0 h hb9 hok hF hR1 hR2 hR3 hR4 (hl.le b4) ⟨⟨q, rfl⟩, trivial⟩ ⟨b1, b2, b3, hS, by omega, by omega, hh.2.2.2.2.2.2.tr b4⟩)
                        · next htg =>
                          cases h
                          exact m_out hF hok hk htg hce hcv hcl' ⟨b1, b2, b3, hh.2.2.2.2.2.2.tr b4⟩ hS (by omega) (by omega)
                    unfold m_call at hz
                    split at hz
                    · next k =>
                      split at hz
                      · next j' hj' =>
                        have hlen3 : len = 3 := by
                          rcases hlen with h | h
                          · cases h
                          · exact h
                        subst hlen3
                        have ej : j' = j := by
                          unfold m_callV at hz
                          split at hz
                          · split at hz
                            · cases hz; rfl
                            · cases hz
                          · cases hz
                        subst ej
                        have hcv := hcl _ hj'
                        dsimp only at hcv
                        have hokj := hall i _ j' hj'
                        have hsl : (lg_sl as).length ≤ (Z.1 j').2.2.1 := by
                          unfold m_callV at hz
                          split at hz
                          · split at hz
                            · next hcc => cases hz; exact hcc.2.1
                            · cases hz
                          · cases hz
                        obtain ⟨a, vr, hvr, hrun⟩ := m_goV hF hokj hcv hR1 hR2 hd hz (m_ct_of2 ih hokj hrj hsl (by omega)) hl.size hv hh ⟨by omega, by omega⟩
                        exact fin a vr hvr hrun
                      · cases hz
                    · next k =>
                      split at hz
                      · next j' hj' =>
                        have hlen3 : len = 3 := by
                          rcases hlen with h | h
                          · cases h
                          · exact h
                        subst hlen3
                        have ej : j' = j := by
                          unfold m_callV at hz
                          split at hz
                          · split at hz
                            · cases hz; rfl
                            · cases hz
                          · cases hz
                        subst ej
                        have hcv := hcl _ hj'
                        dsimp only at hcv
                        have hokj := hall i _ j' hj'
                        have hsl : (lg_sl as).length ≤ (Z.1 j').2.2.1 := by
                          unfold m_callV at hz
                          split at hz
                          · split at hz
                            · next hcc => cases hz; exact hcc.2.1
                            · cases hz
                          · cases hz
                        obtain ⟨a, vr, hvr, hrun⟩ := m_goI hF hokj hcv hR1 hR2 hd hz (m_ct_of2 ih hokj hrj hsl (by omega)) hl.size hv hh ⟨by omega, by omega⟩
                        exact fin a vr hvr hrun
                      · cases hz
                    · next k =>
                      split at hz
                      · next j' hj' =>
                        have hlen3 : len = 3 := by
                          rcases hlen with h | h
                          · cases h
                          · exact h
                        subst hlen3
                        have ej : j' = j := by
                          unfold m_callS at hz
                          split at hz
                          · cases hz; rfl
                          · cases hz
                        subst ej
                        have hcv := hcl _ hj'
                        dsimp only at hcv
                        have hokj := hall i _ j' hj'
                        have hsl : (lg_sl as).length ≤ (Z.1 j').2.2.1 := by
                          unfold m_callS at hz
                          split at hz
                          · next hcc => cases hz; exact hcc.2.1
                          · cases hz
                        obtain ⟨a, vr, hvr, hrun⟩ := m_goS hF hokj hcv hR1 hR2 hd hz (m_ct_of2 ih hokj hrj hsl (by omega)) hl.size hv hh ⟨by omega, by omega⟩
                        exact fin a vr hvr hrun
                      · cases hz
                    · cases hz
                · cases h
end MR2
