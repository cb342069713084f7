/-! ===== n_: Arrays.copyOf; what the machine takes as one step, for the three methods that are walked ===== -/
section NC
variable {l : Launch} {dC : Nat → ClassId} {dI : Nat → Nat → Nat} {tys : List (ClassId × FieldType)} {ex : Nat → Nat} {sl : Nat → List Int32} {B0 L : Nat} {xs : Nat → Int32} {strs : List (String × Nat × String × Nat)}
theorem n_swap {D : va_G} {cl : List vw_C} {ws : va_W} {q : Nat} {e e' : va_E} {H : Heap} (h : va_P D cl (ws ++ [(q, e)]) H) (he : va_at D cl (q, e) H → va_at D cl (q, e') H) : va_P D cl (ws ++ [(q, e')]) H := by
  intro k x hx
  rcases Nat.lt_or_ge k ws.length with hk | hk
  · rw [List.getElem?_append_left hk] at hx
    exact h k x (by rw [List.getElem?_append_left hk]; exact hx)
  · rw [List.getElem?_append_right hk] at hx
    cases hj : k - ws.length with
    | zero =>
      rw [hj] at hx
      cases hx
      exact he (h k (q, e) (by rw [List.getElem?_append_right hk, hj]; rfl))
    | succ j =>
      rw [hj] at hx
      cases hx
theorem n_swapD {A : Nat → Prop} {ws : va_W} {q : Nat} {e e' : va_E} (h : va_D A (ws ++ [(q, e)])) : va_D A (ws ++ [(q, e')]) := by
  have key : ∀ (k : Nat) (x : Nat × va_E), (ws ++ [(q, e')])[k]? = some x → ∃ y : Nat × va_E, (ws ++ [(q, e)])[k]? = some y ∧ y.1 = x.1 := by
    intro k x hx
    rcases Nat.lt_or_ge k ws.length with hk | hk
    · rw [List.getElem?_append_left hk] at hx ⊢
      exact ⟨x, hx, rfl⟩
    · rw [List.getElem?_append_right hk] at hx ⊢
      cases hj : k - ws.length with
      | zero =>
        rw [hj] at hx
        cases hx
        exact ⟨(q, e), rfl, rfl⟩
      | succ j =>
        rw [hj] at hx
        cases hx
  refine ⟨fun i j x y hx hy hxy => ?_, fun k x hx => ?_⟩
  · obtain ⟨x', h1, h2⟩ := key i x hx
    obtain ⟨y', h3, h4⟩ := key j y hy
    exact h.1 i j x' y' h1 h3 (by rw [h2, h4, hxy])
  · obtain ⟨x', h1, h2⟩ := key k x hx
    rw [← h2]
    exact h.2 k x' h1
theorem n_arrV {cA : ClassId} {n : Nat} {f g : Nat → Value} (h : ∀ j, j < n → f j = g j) : arrV cA n f = arrV cA n g := by
  unfold arrV
  congr 1
  exact congrArg Array.ofFn (funext fun j => h j.1 j.2)
theorem n_at {D : va_G} {cl : List vw_C} {q n : Nat} {cA : ClassId} {f g : Nat → Int32} {H : Heap} (h : ∀ j, j < n → f j = g j) (hh : va_at D cl (q, .inl (cA, n, .inl f)) H) : va_at D cl (q, .inl (cA, n, .inl g)) H := by
  have e : arrV cA n (fun j => .int (f j)) = arrV cA n (fun j => .int (g j)) := n_arrV fun j hj => by rw [h j hj]
  show H[q]? = some (arrV cA n (fun j => .int (g j)))
  rw [← e]
  exact hh
theorem n_words5 : (Cond.methodLink RJ7 316 ⟨"[I", "clone", "()Ljava/lang/Object;"⟩ ∈ m_Ts ∧ Cond.sameMethod "[I" "java/lang/Object" "clone" "()Ljava/lang/Object;" ∈ m_Ts ∧ Cond.native ⟨"java/lang/Object", "clone", "()Ljava/lang/Object;"⟩ ∈ m_Ts ∧ Cond.instanceMethod ⟨"java/lang/Object", "clone", "()Ljava/lang/Object;"⟩ ∈ m_Ts ∧ Cond.selects "[I" ⟨"[I", "clone", "()Ljava/lang/Object;"⟩ ⟨"java/lang/Object", "clone", "()Ljava/lang/Object;"⟩ ∈ m_Ts) ∧
    (Cond.classLink RJ7 317 "[I" ∈ m_Ts ∧ Cond.arrayClass .int ∈ m_Ts ∧ Cond.methodLink RJ7 304 Lib.Math.min.name ∈ m_Ts ∧ Cond.methodLink RJ7 150 arraycopyName ∈ m_Ts) :=
  ⟨⟨m_Ts_of (by decide +kernel) rfl, m_Ts_of (by decide +kernel) rfl, m_Ts_of (by decide +kernel) rfl, m_Ts_of (by decide +kernel) rfl, m_Ts_of (by decide +kernel) rfl⟩, m_Ts_of (by decide +kernel) rfl, m_Ts_of (by decide +kernel) rfl, m_Ts_of (by decide +kernel) rfl, m_Ts_of (by decide +kernel) rfl⟩
theorem n_set {ws : va_W} {x y : Nat × va_E} : (ws ++ [x]).set ws.length y = ws ++ [y] := by simp
/-- the world behind copyOf -/
def n_Bc (dC : Nat → ClassId) (dI : Nat → Nat → Nat) (B0 : Nat) (ws : va_W) (cA : ClassId) (n0 n : Nat) (f : Nat → Int32) : Unit → Nat → State → Prop := fun _ q t =>
  va_P (dC, dI) m_cl (ws ++ [(q, .inl (cA, n, .inl (fun j => if j < n0 then f j else 0)))]) t.heap ∧ va_D (fun q => B0 ≤ q) (ws ++ [(q, .inl (cA, n, .inl (fun j => if j < n0 then f j else 0)))])
theorem n_copyOf {b n0 q0 : Nat} {n : Int32} {cA : ClassId} {f : Nat → Int32} {ws : va_W} (hc : ws[q0]? = some (b, .inl (cA, n0, .inl f))) (ht : tys[0]? = some (cA, .int)) (hn : ¬ (n < 0 ∨ 60000000 < n.toNatClampNeg)) (h31 : n0 < 2 ^ 31) :
    Met l yJ7_copyOf_59c91 (n_ws yJ7_copyOf_59c91 cJ7_copyOf_59c91 3 (some (.array .int))) (n_rm 6 1 n.toNatClampNeg) (n_Pc dC dI tys ex sl B0 L xs strs [.ref b, .int n] ws) (va_Qr (fun _ => True) (n_Bc dC dI B0 ws cA n0 n.toNatClampNeg f) (fun q => B0 ≤ q)) 1 n.toNatClampNeg (fun q => B0 ≤ q) := by
  have hn0 : ¬ n < 0 := fun h => hn (Or.inl h)
  have hn1 : n.toNatClampNeg ≤ 60000000 := Nat.not_lt.mp fun h => hn (Or.inr h)
  obtain ⟨n', hn2, rfl⟩ := nI_of hn0
  rw [nI_clamp hn2] at hn1 ⊢
  refine n_met rfl (by show 2 ≤ 3; decide) ?_
  intro p e s m below meth c ls hC hW hr hlk hl hP hD
  have hC' := hC
  obtain ⟨hx, hb, hml, hown, hts, hnt⟩ := hC
  obtain ⟨⟨w1, w2, w3, w4, w5⟩, w6, w7, w8, w9⟩ := n_words5
  have hnm : s.vm.findClass "[I" = some cA := by
    have h := (hW.1.2 0 _ ht).2
    have e : ("[" ++ FieldType.toString .int) = "[I" := by decide +kernel
    have h : s.vm.findClass ("[" ++ FieldType.toString .int) = some cA := h
    rw [e] at h
    exact h
  have hfr : (200 : Nat) + 20 ≤ 41 * 6 := by decide
  refine lv_iload_n hx hb (k := 1) (i := 1) (by decide +kernel) rfl (lv_at hl 1 rfl) ?_
  refine lv_aload_n hx hb (k := 0) (i := 0) (by decide +kernel) rfl (lv_at hl 0 rfl) ?_
  refine va_alen hx hb hW.1 hP q0 0 hc ht rfl (by decide +kernel) ?_
  refine lv_icmp_ne hx hb (off := 11) (tgt := 14) (by decide +kernel) (by decide) (fun _ => ?_) (fun heq => ?_)
  · refine lv_iload_n hx hb (k := 1) (i := 1) (by decide +kernel) rfl (lv_at hl 1 rfl) ?_
    refine va_newa (ty := .int) (a0 := (n', .inl (fun _ => 0))) (atype := .int) hx hb (hts _ w7) rfl hW.1 hP hD va_S.rf (fun q hq => Nat.le_trans hW.2.2.2.1 hq) (fun _ => rfl) hn0 (nI_clamp hn2) (by show n' * 4 ≤ 536870912; omega) (Nat.le_refl _) (by show 0 + n' ≤ n'; omega) (by decide +kernel) ?_
    intro q cA' H1 hK1 hP1 hD1 hS1
    have ecA : cA' = cA := by
      have h := m_tys_one hW (t := 0) (by decide) (cA := cA') hK1
      rw [ht] at h
      exact (congrArg Prod.fst (Option.some.inj h)).symm
    subst ecA
    refine lv_astore_n hx hb (k := 2) (i := 2) (by decide +kernel) rfl hl (by decide) rfl fun ls' hl' => ?_
    have hc1 : (ws ++ [(q, (Sum.inl (cA', n', .inl (fun _ => 0)) : va_E))])[q0]? = some (b, .inl (cA', n0, .inl f)) := by
      rw [List.getElem?_append_left (List.getElem?_eq_some_iff.mp hc).1]
      exact hc
    have hc2 : (ws ++ [(q, (Sum.inl (cA', n', .inl (fun _ => 0)) : va_E))])[ws.length]? = some (q, .inl (cA', n', .inl (fun _ => 0))) := by simp
    refine lv_aload_n hx hb (k := 0) (i := 0) (by decide +kernel) rfl (lv_at hl' 1 rfl) ?_
    refine lv_iconst hx hb (n := 0) (v := 0) (by decide +kernel) rfl ?_
    refine lv_aload_n hx hb (k := 2) (i := 2) (by decide +kernel) rfl (lv_at hl' 0 rfl) ?_
    refine lv_iconst hx hb (n := 0) (v := 0) (by decide +kernel) rfl ?_
    refine lv_aload_n hx hb (k := 0) (i := 0) (by decide +kernel) rfl (lv_at hl' 1 rfl) ?_
    refine va_alen hx hb hW.1 hP1 q0 0 hc1 ht rfl (by decide +kernel) ?_
    refine lv_iload_n hx hb (k := 1) (i := 1) (by decide +kernel) rfl (lv_at hl' 2 rfl) ?_
    refine va_mmin hx hb (by rw [hml]; exact hl'.1.symm) hown (hts _ w8) (hts _ m_w_min.1) (hts _ m_w_math) (hts _ m_w_min.2) (by show 1 ≤ 6; decide) (by show _ + 13 ≤ 41 * 6; exact Nat.le_of_ble_eq_true rfl) (Nat.le_refl _) (by show 0 + n' ≤ n'; omega) (by decide +kernel) ?_
    have ek : (if nI n' < Int32.ofNat n0 then nI n' else Int32.ofNat n0) = nI (min n' n0) := by
      show (if nI n' < nI n0 then nI n' else nI n0) = _
      rcases Nat.lt_or_ge n' n0 with h | h
      · rw [if_pos (nI_lt h h31), Nat.min_eq_left (Nat.le_of_lt h)]
      · rw [if_neg (nI_nlt h hn2), Nat.min_eq_right h]
    have hm : min n' n0 < 2 ^ 31 := Nat.lt_of_le_of_lt (Nat.min_le_left _ _) hn2
    have hzz : (0 : Int32).toNatClampNeg = 0 := by decide
    dsimp only
    rw [ek]
    refine va_copyi (ty := .int) hx hb (by rw [hml]; exact hl'.1.symm) hown (hts _ w9) (hts _ m_w_cpy.1) (hts _ m_w_cpy.2.1) (hts _ m_w_cpy.2.2) hW.1 hP1 hD1 hS1 q0 ws.length 0 0 hc1 hc2 ht ht rfl (by decide) (by decide) (nI_pos hm) (by rw [hzz, nI_clamp hm]; omega) (by rw [hzz, nI_clamp hm]; omega) (fun _ _ => rfl) (by show 1 ≤ 6; decide) ?_ (by decide +kernel) ?_
    · have h200 : nativeFrameWords "java/lang/System" "arraycopy" 5 ≤ 200 := by decide +kernel
      show 0 + (nativeFrameWords "java/lang/System" "arraycopy" 5 + 11) ≤ 41 * 6
      omega
    · intro H2 locs2 hP2 hD2 hS2
      rw [hzz, nI_clamp hm, n_set] at hP2 hD2
      refine lv_aload_n hx hb (k := 2) (i := 2) (by decide +kernel) rfl (lv_at hl' 0 rfl) ?_
      have hP3 := n_swap hP2 (n_at (g := fun j => if j < n0 then f j else 0) fun j hj => by
        unfold va_cpy
        dsimp only
        by_cases h : j < n0
        · rw [if_pos ⟨Nat.zero_le _, by omega⟩, if_pos h]
          congr 1
          omega
        · rw [if_neg (fun z => by omega), if_neg h])
      have hres := W.aret (Qc := va_Qr (fun _ => True) (n_Bc dC dI B0 ws cA' n0 n' f) (fun q => B0 ≤ q)) (free := fun q => B0 ≤ q) (args := ([.ref b, .int (nI n')] : List Value).toArray) (s := s) (H := H2) (locs := locs2) (cells := 1) (slots := n') (p := p) (l := l) (e := e) (R := n_rm 6 1 n') (m := m) (below := below) (v := .ref q) hx hb hr (Or.inr ⟨_, rfl⟩) (Or.inr ⟨_, rfl⟩) (fun t ht' _ => ⟨⟨(), q, rfl, trivial, by rw [ht']; exact hP3, n_swapD hD2⟩, hS2.F ht'⟩) hS2.2.2 (pc := 32) (ls := ls') (by decide +kernel) hlk
      have e9 : 0 + n' = n' := Nat.zero_add _
      show W p l e (n_rm 6 1 n') s m _ below meth c H2 locs2 1 (0 + n') _ _
      rw [e9]
      exact hres
  · have en : n' = n0 := by
      have h := congrArg Int32.toNatClampNeg heq
      rw [nI_clamp hn2] at h
      rw [h]
      exact nI_clamp h31
    subst en
    refine lv_aload_n hx hb (k := 0) (i := 0) (by decide +kernel) rfl (lv_at hl 0 rfl) ?_
    refine va_clone (ad := "[I") hx hb (by rw [hml]; exact hl.1.symm) hown (hts _ w1) (hts _ w2) (hts _ w3) (hts _ w4) (hts _ w5) hW.2.2.2.2.2.2.2.1 hW.1 hP hD va_S.rf (fun q hq => Nat.le_trans hW.2.2.2.1 hq) q0 0 hc ht hnm ?_ (by show 1 ≤ 6; decide) (by show 0 + 14 ≤ 41 * 6; decide) (Nat.le_refl _) (by show 0 + n' ≤ n'; omega) (by decide +kernel) ?_
    · intro i v hv
      have hv : (arrV cA n' (fun j => .int (f j))).slots[i]? = some v := hv
      have hv9 : ∃ j, v = .int (f j) := by
        unfold arrV at hv
        dsimp only at hv
        rw [Array.getElem?_eq_some_iff] at hv
        obtain ⟨h1, h2⟩ := hv
        rw [Array.getElem_ofFn] at h2
        exact ⟨_, h2.symm⟩
      obtain ⟨j, rfl⟩ := hv9
      rfl
    · intro q H1 hK1 hP1 hD1 hS1
      have hc1 : (ws ++ [(q, (Sum.inl (cA, n', .inl f) : va_E))])[ws.length]? = some (q, .inl (cA, n', .inl f)) := by simp
      refine va_castA (nm := "[I") hx hb hown (hts _ w6) hP1 ws.length hc1 hnm (by decide +kernel) ?_
      have hP3 := n_swap hP1 (n_at (g := fun j => if j < n' then f j else 0) fun j hj => by
        rw [if_pos hj])
      have hres := W.aret (Qc := va_Qr (fun _ => True) (n_Bc dC dI B0 ws cA n' n' f) (fun q => B0 ≤ q)) (free := fun q => B0 ≤ q) (args := ([.ref b, .int (nI n')] : List Value).toArray) (s := s) (H := H1) (locs := []) (cells := 1) (slots := n') (p := p) (l := l) (e := e) (R := n_rm 6 1 n') (m := m) (below := below) (v := .ref q) hx hb hr (Or.inr ⟨_, rfl⟩) (Or.inr ⟨_, rfl⟩) (fun t ht' _ => ⟨⟨(), q, rfl, trivial, by rw [ht']; exact hP3, n_swapD hD1⟩, hS1.F ht'⟩) hS1.2.2 (pc := 13) (ls := ls) (by decide +kernel) hlk
      have e9 : 0 + n' = n' := Nat.zero_add _
      show W p l e (n_rm 6 1 n') s m _ below meth c H1 [] 1 (0 + n') _ _
      rw [e9]
      exact hres
end NC
