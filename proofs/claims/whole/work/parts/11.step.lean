/-! ===== m_: one instruction that neither jumps nor calls ===== -/
section MS
variable {p : Program} {l : Launch} {e : Env} {R : Room} {s : State} {m : MethodId} {args : Array Value} {below : List Frame} {meth : Method} {c : Code} {H : Heap} {locs : List Loc} {cells slots : Nat} {Q : State → Prop}
variable {cc : ByteArray} {pc nL : Nat} {ls : Array Slot} {own : String} {lv : m_L} {st vs : List Value}
variable {dC : Nat → ClassId} {dI : Nat → Nat → Nat} {tys : List (ClassId × FieldType)} {ex : Nat → Nat} {sl : Nat → List Int32} {B0 L c0 s0 : Nat} {xs : Nat → Int32} {strs : List (String × Nat × String × Nat)} {ws0 ws : va_W} {hp : m_H}
theorem m_K.of {lv' : m_L} {st' : List Value} {k : Nat} (hh : m_Rh s dC dI tys ex B0 c0 s0 ws0 hp H locs cells slots ws) (kk : m_Kh p l e R s m args below meth c Q dC dI tys ex B0 c0 s0 ws0 nL k lv' st' hp) : m_K p l e R s m args below meth c H locs cells slots Q (m_ad ex ws) nL k lv' st' :=
  fun ls vs hl hv => kk ls vs H locs cells slots ws hl hv hh
theorem m_step_ok {q : m_Q} {ins : Instr} {z : m_L × List Value × m_H} (hC : m_Cx p s m args c cc nL own) (hW : m_Wo s dC dI tys ex sl B0 L xs strs) (hd : decode cc pc = .ok (ins, m_il ins)) (hq : m_qok own meth.name strs q ins)
    (hs : m_step m_ft m_fn xs L q nL ins lv st hp = some z) (hr : m_cells z.2.2 ≤ R.cells + c0 ∧ m_slots z.2.2 ≤ R.slots + s0)
    (hl : m_Rl (m_ad ex ws) nL lv ls) (hv : m_Vs (m_ad ex ws) st vs) (hh : m_Rh s dC dI tys ex B0 c0 s0 ws0 hp H locs cells slots ws)
    (kk : m_Kh p l e R s m args below meth c Q dC dI tys ex B0 c0 s0 ws0 nL (pc + m_il ins) z.1 z.2.1 z.2.2) : W p l e R s m args below meth c H locs cells slots Q (F0 m pc ls vs) := by
  obtain ⟨hx, hb, hml, hown, hts, hnt⟩ := id hC
  unfold m_step at hs
  split at hs
  · cases hs; exact lv_iconst hx hb hd rfl (kk ls _ _ _ _ _ _ hl ⟨rfl, hv⟩ hh)
  · cases hs; exact lv_bipush hx hb hd rfl (kk ls _ _ _ _ _ _ hl ⟨rfl, hv⟩ hh)
  · cases hs; exact lv_sipush hx hb hd rfl (kk ls _ _ _ _ _ _ hl ⟨rfl, hv⟩ hh)
  · cases hs; exact lv_lconst hx hb hd rfl (kk ls _ _ _ _ _ _ hl ⟨rfl, hv⟩ hh)
  · cases hs; exact lv_null hx hb hd (kk ls _ _ _ _ _ _ hl ⟨rfl, hv⟩ hh)
  · next k =>
    split at hs
    · next a ha =>
      cases hs
      obtain ⟨tx, htx⟩ := hq.1 a ha
      obtain ⟨h1, h2⟩ := hW.2.2.2.2.2.2.1 _ htx
      exact va_ldcS hx hb hown h1 hd (kk ls _ _ _ _ _ _ hl ⟨⟨ex a, by unfold m_ad; rw [if_pos h2], rfl⟩, hv⟩ hh)
    · obtain ⟨v, hv1, rfl⟩ := Option.map_eq_some_iff.mp hs
      exact lv_ldc hx hb hown (hts _ (hq.2 v hv1)) hd (kk ls _ _ _ _ _ _ hl ⟨rfl, hv⟩ hh)
  · next k =>
    split at hs
    · next v hv1 =>
      cases hs
      exact lv_ldcw hx hb hown (hts _ (hq v hv1)) hd (kk ls _ _ _ _ _ _ hl ⟨rfl, hv⟩ hh)
    · cases hs
  · next k =>
    split at hs
    · next v hv1 =>
      cases hs
      exact lv_ldc2 hx hb hown (hts _ (hq v hv1)) hd (kk ls _ _ _ _ _ _ hl ⟨rfl, hv⟩ hh)
    · cases hs
  · obtain ⟨y, hy, rfl⟩ := Option.map_eq_some_iff.mp hs
    exact m_ld_i hl hv hy (m_K.of hh kk) (fun x h k => lv_iload hx hb hd h k)
  · obtain ⟨y, hy, rfl⟩ := Option.map_eq_some_iff.mp hs
    exact m_ld_i hl hv hy (m_K.of hh kk) (fun x h k => lv_iload_n hx hb hd rfl h k)
  · obtain ⟨y, hy, rfl⟩ := Option.map_eq_some_iff.mp hs
    exact m_ld_l hl hv hy (m_K.of hh kk) (fun x h k => lv_lload hx hb hd h k)
  · obtain ⟨y, hy, rfl⟩ := Option.map_eq_some_iff.mp hs
    exact m_ld_l hl hv hy (m_K.of hh kk) (fun x h k => lv_lload_n hx hb hd rfl h k)
  · obtain ⟨y, hy, rfl⟩ := Option.map_eq_some_iff.mp hs
    exact m_ld_a hl hv hy (m_K.of hh kk) (fun x h k => lv_aload hx hb hd h k) (fun h k => lv_aloadN hx hb hd h k)
  · obtain ⟨y, hy, rfl⟩ := Option.map_eq_some_iff.mp hs
    exact m_ld_a hl hv hy (m_K.of hh kk) (fun x h k => lv_aload_n hx hb hd rfl h k) (fun h k => lv_aload_nN hx hb hd rfl h k)
  · obtain ⟨y, hy, rfl⟩ := Option.map_eq_some_iff.mp hs
    exact m_st_i hl hv hy (m_K.of hh kk) (fun x r lc h1 h2 k => lv_istore hx hb hd h1 h2 rfl k)
  · obtain ⟨y, hy, rfl⟩ := Option.map_eq_some_iff.mp hs
    exact m_st_i hl hv hy (m_K.of hh kk) (fun x r lc h1 h2 k => lv_istore_n hx hb hd rfl h1 h2 rfl k)
  · obtain ⟨y, hy, rfl⟩ := Option.map_eq_some_iff.mp hs
    exact m_st_l hl hv hy (m_K.of hh kk) (fun x r lc h1 h2 k => lv_lstore hx hb hd h1 h2 rfl k)
  · obtain ⟨y, hy, rfl⟩ := Option.map_eq_some_iff.mp hs
    exact m_st_l hl hv hy (m_K.of hh kk) (fun x r lc h1 h2 k => lv_lstore_n hx hb hd rfl h1 h2 rfl k)
  · obtain ⟨y, hy, rfl⟩ := Option.map_eq_some_iff.mp hs
    exact m_st_a hl hv hy (m_K.of hh kk) (fun x r lc h1 h2 k => lv_astore hx hb hd h1 h2 rfl k) (fun r lc h1 h2 k => lv_astoreN hx hb hd h1 h2 rfl k)
  · obtain ⟨y, hy, rfl⟩ := Option.map_eq_some_iff.mp hs
    exact m_st_a hl hv hy (m_K.of hh kk) (fun x r lc h1 h2 k => lv_astore_n hx hb hd rfl h1 h2 rfl k) (fun r lc h1 h2 k => lv_astore_nN hx hb hd rfl h1 h2 rfl k)
  · next i n =>
    split at hs
    · next x hx1 =>
      split at hs
      · next hi =>
        cases hs
        obtain ⟨lc, h1, h2⟩ := hl
        obtain ⟨w, h3, h4⟩ := h2.at hx1
        cases h4
        obtain ⟨k, hk⟩ := List.getElem?_of_mem h3
        exact lv_iinc hx hb hd h1 hk rfl hi rfl (fun ls' h5 => kk ls' _ _ _ _ _ _ ⟨_, h5, h2.sv i rfl⟩ hv hh)
      · cases hs
    · cases hs
  · split at hs
    · split at hs
      · next hcat =>
        cases hs
        obtain ⟨w, v1, rfl, hw, hv1⟩ := hv.hd
        exact lv_pop hx hb hd (hw.cat.trans hcat) (kk ls _ _ _ _ _ _ hl hv1 hh)
      · cases hs
    · cases hs
  · split at hs
    · split at hs
      · next hcat =>
        cases hs
        obtain ⟨w, v1, rfl, hw, hv1⟩ := hv.hd
        exact lv_dup hx hb hd (hw.cat.trans hcat) (kk ls _ _ _ _ _ _ hl ⟨hw, hw, hv1⟩ hh)
      · cases hs
    · cases hs
  · split at hs
    · split at hs
      · next hcat =>
        cases hs
        obtain ⟨w, v1, rfl, hw, hv1⟩ := hv.hd
        obtain ⟨w2, v2, rfl, hw2, hv2⟩ := hv1.hd
        exact lv_dup2_11 hx hb hd (hw.cat.trans hcat.1) (hw2.cat.trans hcat.2) (kk ls _ _ _ _ _ _ hl ⟨hw, hw2, hw, hw2, hv2⟩ hh)
      · cases hs
    · cases hs
  · obtain ⟨y, hy, rfl⟩ := Option.map_eq_some_iff.mp hs
    exact m_b_i hl hv hy (m_K.of hh kk) (fun x y r k => lv_iadd hx hb hd k)
  · obtain ⟨y, hy, rfl⟩ := Option.map_eq_some_iff.mp hs
    exact m_b_i hl hv hy (m_K.of hh kk) (fun x y r k => lv_isub hx hb hd k)
  · obtain ⟨y, hy, rfl⟩ := Option.map_eq_some_iff.mp hs
    exact m_b_i hl hv hy (m_K.of hh kk) (fun x y r k => lv_imul hx hb hd k)
  · obtain ⟨y, hy, rfl⟩ := Option.map_eq_some_iff.mp hs
    exact m_b_i hl hv hy (m_K.of hh kk) (fun x y r k => lv_iand hx hb hd k)
  · obtain ⟨y, hy, rfl⟩ := Option.map_eq_some_iff.mp hs
    exact m_b_i hl hv hy (m_K.of hh kk) (fun x y r k => lv_ior hx hb hd k)
  · obtain ⟨y, hy, rfl⟩ := Option.map_eq_some_iff.mp hs
    exact m_b_i hl hv hy (m_K.of hh kk) (fun x y r k => lv_ixor hx hb hd k)
  · obtain ⟨y, hy, rfl⟩ := Option.map_eq_some_iff.mp hs
    exact m_b_i hl hv hy (m_K.of hh kk) (fun x y r k => lv_ishl hx hb hd k)
  · obtain ⟨y, hy, rfl⟩ := Option.map_eq_some_iff.mp hs
    exact m_b_i hl hv hy (m_K.of hh kk) (fun x y r k => lv_ishr hx hb hd k)
  · obtain ⟨y, hy, rfl⟩ := Option.map_eq_some_iff.mp hs
    exact m_b_i hl hv hy (m_K.of hh kk) (fun x y r k => lv_iushr hx hb hd rfl k)
  · split at hs
    · split at hs
      · cases hs
      · next hne =>
        cases hs
        obtain ⟨w, v1, rfl, hw, hv1⟩ := hv.hd
        obtain ⟨w2, v2, rfl, hw2, hv2⟩ := hv1.hd
        cases hw
        cases hw2
        exact lv_idiv hx hb hd hne (kk ls _ _ _ _ _ _ hl ⟨rfl, hv2⟩ hh)
    · cases hs
  · split at hs
    · split at hs
      · cases hs
      · next hne =>
        cases hs
        obtain ⟨w, v1, rfl, hw, hv1⟩ := hv.hd
        obtain ⟨w2, v2, rfl, hw2, hv2⟩ := hv1.hd
        cases hw
        cases hw2
        exact lv_irem hx hb hd hne (kk ls _ _ _ _ _ _ hl ⟨rfl, hv2⟩ hh)
    · cases hs
  · obtain ⟨y, hy, rfl⟩ := Option.map_eq_some_iff.mp hs
    exact m_u_i (f := fun x => .int (-x)) (fun _ => rfl) hl hv hy (m_K.of hh kk) (fun x r k => lv_ineg hx hb hd k)
  · obtain ⟨y, hy, rfl⟩ := Option.map_eq_some_iff.mp hs
    exact m_u_i (f := fun x => .long x.toInt64) (fun _ => rfl) hl hv hy (m_K.of hh kk) (fun x r k => lv_i2l hx hb hd rfl k)
  · obtain ⟨y, hy, rfl⟩ := Option.map_eq_some_iff.mp hs
    exact m_u_i (f := fun x => .int (x.toUInt32 % 65536).toInt32) (fun _ => rfl) hl hv hy (m_K.of hh kk) (fun x r k => lv_i2c hx hb hd rfl k)
  · obtain ⟨y, hy, rfl⟩ := Option.map_eq_some_iff.mp hs
    exact m_u_i (f := fun x => .int x.toInt8.toInt32) (fun _ => rfl) hl hv hy (m_K.of hh kk) (fun x r k => lv_i2b hx hb hd rfl k)
  · obtain ⟨y, hy, rfl⟩ := Option.map_eq_some_iff.mp hs
    exact m_b_l hl hv hy (m_K.of hh kk) (fun x y r k => lv_ladd hx hb hd k)
  · obtain ⟨y, hy, rfl⟩ := Option.map_eq_some_iff.mp hs
    exact m_b_l hl hv hy (m_K.of hh kk) (fun x y r k => lv_lsub hx hb hd k)
  · obtain ⟨y, hy, rfl⟩ := Option.map_eq_some_iff.mp hs
    exact m_b_l hl hv hy (m_K.of hh kk) (fun x y r k => lv_lmul hx hb hd k)
  · split at hs
    · split at hs
      · cases hs
      · next hne =>
        cases hs
        obtain ⟨w, v1, rfl, hw, hv1⟩ := hv.hd
        obtain ⟨w2, v2, rfl, hw2, hv2⟩ := hv1.hd
        cases hw
        cases hw2
        exact lv_ldiv hx hb hd hne (kk ls _ _ _ _ _ _ hl ⟨rfl, hv2⟩ hh)
    · cases hs
  · split at hs
    · cases hs
      obtain ⟨w, v1, rfl, hw, hv1⟩ := hv.hd
      obtain ⟨w2, v2, rfl, hw2, hv2⟩ := hv1.hd
      cases hw
      cases hw2
      exact W.lcmp hx hb hd (kk ls _ _ _ _ _ _ hl ⟨rfl, hv2⟩ hh)
    · cases hs
  · next k =>
    split at hs
    · next r z2 f hf =>
      obtain ⟨v, hy, rfl⟩ := Option.map_eq_some_iff.mp hs
      exact m_h_get (ci := f.1) (k := f.2) hC hW hd (hq f hf) hv hh hy (fun vs h => kk ls vs _ _ _ _ _ hl h hh)
    · cases hs
  · next k =>
    split at hs
    · next v r z2 f hf =>
      obtain ⟨h', hy, rfl⟩ := Option.map_eq_some_iff.mp hs
      exact m_h_put (ci := f.1) (k := f.2) hC hW hd (hq f hf).1 (hq f hf).2 hl hv hh hy kk
    · cases hs
  · split at hs
    · next r z2 =>
      obtain ⟨w, v1, rfl, ⟨a, ha, rfl⟩, hv1⟩ := hv.hd
      split at hs
      · next hr0 =>
        cases hs
        subst hr0
        have ha0 : a = ex 0 := (Option.some.inj ha).symm
        subst ha0
        exact va_slen hx hb hW.2.1 (Nat.lt_of_lt_of_le hW.2.2.1 hW.2.2.2.1) (Nat.not_le.mpr hW.2.2.1) hh.2.2.2.1 hd (kk ls _ _ _ _ _ _ hl ⟨rfl, hv1⟩ hh)
      · obtain ⟨v, hy, rfl⟩ := Option.map_eq_some_iff.mp hs
        obtain ⟨a', t, cA, y, ty, h1, h2, h3, h4⟩ := m_h_len hh hy
        cases Option.some.inj (ha.symm.trans h1)
        exact va_alen hx hb hW.1 hh.2.1 (r - 200) t h2 h3 h4 hd (kk ls _ _ _ _ _ _ hl ⟨rfl, hv1⟩ hh)
    · cases hs
  · split at hs
    · next i r z2 =>
      obtain ⟨w0, v0, rfl, hw0, hv0⟩ := hv.hd
      cases hw0
      obtain ⟨w, v1, rfl, ⟨a, ha, rfl⟩, hv1⟩ := hv0.hd
      split at hs
      · next hr0 =>
        split at hs
        · next hin =>
          cases hs
          subst hr0
          have ha0 : a = ex 0 := (Option.some.inj ha).symm
          subst ha0
          exact va_sld hx hb hW.2.1 (Nat.lt_of_lt_of_le hW.2.2.1 hW.2.2.2.1) (Nat.not_le.mpr hW.2.2.1) hh.2.2.2.1 (m_in_vp hin) hd (kk ls _ _ _ _ _ _ hl ⟨rfl, hv1⟩ hh)
        · cases hs
      · obtain ⟨v, hy, rfl⟩ := Option.map_eq_some_iff.mp hs
        obtain ⟨a', n, cA, f, h1, h2, h3, h4, h5⟩ := m_h_ai (by decide) hh hy
        cases Option.some.inj (ha.symm.trans h1)
        subst h5
        exact va_iald hx hb hW.1 hh.2.1 (r - 200) 0 h2 h3 h4 hd (kk ls _ _ _ _ _ _ hl ⟨rfl, hv1⟩ hh)
    · cases hs
  · split at hs
    · next i r z2 =>
      obtain ⟨w0, v0, rfl, hw0, hv0⟩ := hv.hd
      cases hw0
      obtain ⟨w, v1, rfl, ⟨a, ha, rfl⟩, hv1⟩ := hv0.hd
      obtain ⟨v, hy, rfl⟩ := Option.map_eq_some_iff.mp hs
      obtain ⟨a', n, cA, f, h1, h2, h3, h4, h5⟩ := m_h_ai (by decide) hh hy
      cases Option.some.inj (ha.symm.trans h1)
      subst h5
      exact va_cald hx hb hW.1 hh.2.1 (r - 200) 4 h2 h3 h4 hd (kk ls _ _ _ _ _ _ hl ⟨rfl, hv1⟩ hh)
    · cases hs
  · split at hs
    · next i r z2 =>
      obtain ⟨w0, v0, rfl, hw0, hv0⟩ := hv.hd
      cases hw0
      obtain ⟨w, v1, rfl, ⟨a, ha, rfl⟩, hv1⟩ := hv0.hd
      split at hs
      · next v hy =>
        cases hs
        obtain ⟨a', n, cA, f, h1, h2, h3, h4, h5⟩ := m_h_ai (by decide) hh hy
        cases Option.some.inj (ha.symm.trans h1)
        subst h5
        exact va_bald hx hb hW.1 hh.2.1 (r - 200) 2 h2 h3 h4 hd (kk ls _ _ _ _ _ _ hl ⟨rfl, hv1⟩ hh)
      · obtain ⟨v, hy, rfl⟩ := Option.map_eq_some_iff.mp hs
        obtain ⟨a', n, cA, f, h1, h2, h3, h4, h5⟩ := m_h_ai (by decide) hh hy
        cases Option.some.inj (ha.symm.trans h1)
        subst h5
        exact va_zald hx hb hW.1 hh.2.1 (r - 200) 3 h2 h3 h4 hd (kk ls _ _ _ _ _ _ hl ⟨rfl, hv1⟩ hh)
    · cases hs
  · split at hs
    · next i r z2 =>
      obtain ⟨w0, v0, rfl, hw0, hv0⟩ := hv.hd
      cases hw0
      obtain ⟨w, v1, rfl, ⟨a, ha, rfl⟩, hv1⟩ := hv0.hd
      obtain ⟨v, hy, rfl⟩ := Option.map_eq_some_iff.mp hs
      obtain ⟨a', n, cA, f, h1, h2, h3, h4, h5⟩ := m_h_al hh hy
      cases Option.some.inj (ha.symm.trans h1)
      subst h5
      exact va_lald hx hb hW.1 hh.2.1 (r - 200) 1 h2 h3 h4 hd (kk ls _ _ _ _ _ _ hl ⟨rfl, hv1⟩ hh)
    · cases hs
  · split at hs
    · next i r z2 =>
      obtain ⟨w0, v0, rfl, hw0, hv0⟩ := hv.hd
      cases hw0
      obtain ⟨w, v1, rfl, ⟨a, ha, rfl⟩, hv1⟩ := hv0.hd
      obtain ⟨v, hy, rfl⟩ := Option.map_eq_some_iff.mp hs
      obtain ⟨a', n, cA, f, h1, h2, h3, h4, h5⟩ := m_h_aq hh hy
      cases Option.some.inj (ha.symm.trans h1)
      exact va_aldq (C := "LendHouse$Act") hx hb hW.1 hh.2.1 (r - 200) 5 h2 h3 h4 hd (kk ls _ _ _ _ _ _ hl ⟨h5.v, hv1⟩ hh)
    · cases hs
  · split at hs
    · obtain ⟨h', hy, rfl⟩ := Option.map_eq_some_iff.mp hs
      exact m_h_si hl hv hh hy kk (fun a n cA f vr h1 h2 h3 k => va_iast hx hb hW.1 hh.2.1 hh.2.2.1 hh.2.2.2.1 _ 0 h1 h2 h3 hd k)
    · cases hs
  · split at hs
    · obtain ⟨h', hy, rfl⟩ := Option.map_eq_some_iff.mp hs
      exact m_h_si hl hv hh hy kk (fun a n cA f vr h1 h2 h3 k => va_cast hx hb hW.1 hh.2.1 hh.2.2.1 hh.2.2.2.1 _ 4 h1 h2 h3 hd k)
    · cases hs
  · split at hs
    · split at hs
      · next hy =>
        cases hs
        exact m_h_si hl hv hh hy kk (fun a n cA f vr h1 h2 h3 k => va_bast hx hb hW.1 hh.2.1 hh.2.2.1 hh.2.2.2.1 _ 2 h1 h2 h3 hd k)
      · obtain ⟨h', hy, rfl⟩ := Option.map_eq_some_iff.mp hs
        exact m_h_si hl hv hh hy kk (fun a n cA f vr h1 h2 h3 k => va_zast hx hb hW.1 hh.2.1 hh.2.2.1 hh.2.2.2.1 _ 3 h1 h2 h3 hd k)
    · cases hs
  · split at hs
    · obtain ⟨h', hy, rfl⟩ := Option.map_eq_some_iff.mp hs
      exact m_h_sl hl hv hh hy kk (fun a n cA f vr h1 h2 h3 k => va_last hx hb hW.1 hh.2.1 hh.2.2.1 hh.2.2.2.1 _ 1 h1 h2 h3 hd k)
    · cases hs
  · split at hs
    · next x i r z2 =>
      obtain ⟨h', hy, rfl⟩ := Option.map_eq_some_iff.mp hs
      exact m_h_sq (x := some x) hC hW hd hl hv hh hy kk
    · next i r z2 =>
      obtain ⟨h', hy, rfl⟩ := Option.map_eq_some_iff.mp hs
      exact m_h_sq (x := none) hC hW hd hl hv hh hy kk
    · cases hs
  · split at hs
    · next ci hci =>
      cases hs
      exact m_h_new hC hW hd (hq ci hci) hl hv hh hr kk
    · cases hs
  · split at hs
    · next n z2 t ht =>
      split at hs
      · cases hs
      · next hn =>
        cases hs
        exact m_h_newa hC hW hd ht (hq t ht) hn hl hv hh hr kk
    · cases hs
  · split at hs
    · next n z2 hk =>
      split at hs
      · cases hs
      · next hn =>
        cases hs
        exact m_h_newq hC hW hd (hq hk) hn hl hv hh hr kk
    · cases hs
  · cases hs
end MS
