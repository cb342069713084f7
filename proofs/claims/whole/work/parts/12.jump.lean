/-! ===== m_: jumps and returns ===== -/
theorem m_t_eq {pc t : Nat} {off : Int} (h : m_t pc off = some t) : (pc : Int) + off = (t : Int) := by
  unfold m_t at h
  split at h
  · next q => cases h; exact q
  · cases h
def m_isT (ins : Instr) : Bool := match ins with
  | .tableswitch _ _ _ _ => true
  | _ => false
section MJ
variable {p : Program} {l : Launch} {e : Env} {R : Room} {s : State} {m : MethodId} {args : Array Value} {below : List Frame} {meth : Method} {c : Code} {H : Heap} {locs : List Loc} {cells slots : Nat} {Q : State → Prop}
variable {cc : ByteArray} {pc : Nat} {ls : Array Slot} {st vs : List Value} {ad : Nat → Option Nat}
theorem m_jump_ok {ins : Instr} {len : Nat} {z : Nat × List Value} (hx : p.tables.exec = Jvm.exec) (hb : c.code = cc) (hd : decode cc pc = .ok (ins, len)) (hlen : m_isT ins = true ∨ len = m_il ins)
    (hs : m_jump ins pc st = some z) (hv : m_Vs ad st vs)
    (kk : ∀ vs, m_Vs ad z.2 vs → W p l e R s m args below meth c H locs cells slots Q (F0 m z.1 ls vs)) : W p l e R s m args below meth c H locs cells slots Q (F0 m pc ls vs) := by
  unfold m_jump at hs
  split at hs
  · next off =>
    rcases hlen with h | h
    · cases h
    · have h : len = 3 := h
      subst h
      obtain ⟨t, ht, rfl⟩ := Option.map_eq_some_iff.mp hs
      exact lv_goto hx hb hd (m_t_eq ht) (kk _ hv)
  · next cnd off =>
    rcases hlen with h | h
    · cases h
    · have h : len = 3 := h
      subst h
      split at hs
      · next y x r =>
        obtain ⟨t, ht, rfl⟩ := Option.map_eq_some_iff.mp hs
        obtain ⟨w, v1, rfl, hw, hv1⟩ := hv.hd
        obtain ⟨w2, v2, rfl, hw2, hv2⟩ := hv1.hd
        cases hw
        cases hw2
        have k := kk v2 hv2
        dsimp only at k
        cases cnd
        · exact lv_icmp_eq hx hb hd (m_t_eq ht) (fun h => by rw [if_pos (by simp [m_cmp, h])] at k; exact k) (fun h => by rw [if_neg (by simp [m_cmp, h])] at k; exact k)
        · exact lv_icmp_ne hx hb hd (m_t_eq ht) (fun h => by rw [if_pos (by simp [m_cmp, h])] at k; exact k) (fun h => by rw [if_neg (by simp [m_cmp, h])] at k; exact k)
        · exact lv_icmp_lt hx hb hd (m_t_eq ht) (fun h => by rw [if_pos (by simp only [m_cmp]; exact decide_eq_true h)] at k; exact k) (fun h => by rw [if_neg (by simp only [m_cmp, decide_eq_true_eq]; exact h)] at k; exact k)
        · exact lv_icmp_ge hx hb hd (m_t_eq ht) (fun h => by rw [if_pos (by simp only [m_cmp]; exact decide_eq_true h)] at k; exact k) (fun h => by rw [if_neg (by simp only [m_cmp, decide_eq_true_eq]; exact h)] at k; exact k)
        · exact lv_icmp_gt hx hb hd (m_t_eq ht) (fun h => by rw [if_pos (by simp only [m_cmp]; exact decide_eq_true h)] at k; exact k) (fun h => by rw [if_neg (by simp only [m_cmp, decide_eq_true_eq]; exact h)] at k; exact k)
        · exact lv_icmp_le hx hb hd (m_t_eq ht) (fun h => by rw [if_pos (by simp only [m_cmp]; exact decide_eq_true h)] at k; exact k) (fun h => by rw [if_neg (by simp only [m_cmp, decide_eq_true_eq]; exact h)] at k; exact k)
      · cases hs
  · next cnd off =>
    rcases hlen with h | h
    · cases h
    · have h : len = 3 := h
      subst h
      split at hs
      · next x r =>
        obtain ⟨t, ht, rfl⟩ := Option.map_eq_some_iff.mp hs
        obtain ⟨w, v1, rfl, hw, hv1⟩ := hv.hd
        cases hw
        have k := kk v1 hv1
        dsimp only at k
        cases cnd
        · exact lv_if_eq hx hb hd (m_t_eq ht) (fun h => by rw [if_pos (by simp [m_cmp, h])] at k; exact k) (fun h => by rw [if_neg (by simp [m_cmp, h])] at k; exact k)
        · exact lv_if_ne hx hb hd (m_t_eq ht) (fun h => by rw [if_pos (by simp [m_cmp, h])] at k; exact k) (fun h => by rw [if_neg (by simp [m_cmp, h])] at k; exact k)
        · exact lv_if_lt hx hb hd (m_t_eq ht) (fun h => by rw [if_pos (by simp only [m_cmp]; exact decide_eq_true h)] at k; exact k) (fun h => by rw [if_neg (by simp only [m_cmp, decide_eq_true_eq]; exact h)] at k; exact k)
        · exact lv_if_ge hx hb hd (m_t_eq ht) (fun h => by rw [if_pos (by simp only [m_cmp]; exact decide_eq_true h)] at k; exact k) (fun h => by rw [if_neg (by simp only [m_cmp, decide_eq_true_eq]; exact h)] at k; exact k)
        · exact lv_if_gt hx hb hd (m_t_eq ht) (fun h => by rw [if_pos (by simp only [m_cmp]; exact decide_eq_true h)] at k; exact k) (fun h => by rw [if_neg (by simp only [m_cmp, decide_eq_true_eq]; exact h)] at k; exact k)
        · exact lv_if_le hx hb hd (m_t_eq ht) (fun h => by rw [if_pos (by simp only [m_cmp]; exact decide_eq_true h)] at k; exact k) (fun h => by rw [if_neg (by simp only [m_cmp, decide_eq_true_eq]; exact h)] at k; exact k)
      · cases hs
  · next off =>
    rcases hlen with h | h
    · cases h
    · have h : len = 3 := h
      subst h
      split at hs
      · next r =>
        obtain ⟨t, ht, rfl⟩ := Option.map_eq_some_iff.mp hs
        obtain ⟨w, v1, rfl, hw, hv1⟩ := hv.hd
        cases hw
        exact lv_ifnullN hx hb hd (m_t_eq ht) (kk _ hv1)
      · next a r =>
        cases hs
        obtain ⟨w, v1, rfl, ⟨b, -, rfl⟩, hv1⟩ := hv.hd
        exact lv_ifnull hx hb hd (kk _ hv1)
      · cases hs
  · next off =>
    rcases hlen with h | h
    · cases h
    · have h : len = 3 := h
      subst h
      split at hs
      · next a r =>
        obtain ⟨t, ht, rfl⟩ := Option.map_eq_some_iff.mp hs
        obtain ⟨w, v1, rfl, ⟨b, -, rfl⟩, hv1⟩ := hv.hd
        exact lv_ifnonnull hx hb hd (m_t_eq ht) (kk _ hv1)
      · next r =>
        cases hs
        obtain ⟨w, v1, rfl, hw, hv1⟩ := hv.hd
        cases hw
        exact lv_ifnonnullN hx hb hd (kk _ hv1)
      · cases hs
  · next d lo hi offs =>
    split at hs
    · next x r =>
      obtain ⟨w, v1, rfl, hw, hv1⟩ := hv.hd
      cases hw
      split at hs
      · next hout =>
        obtain ⟨t, ht, rfl⟩ := Option.map_eq_some_iff.mp hs
        exact lv_tableOut hx hb hd hout (m_t_eq ht) (kk _ hv1)
      · next hin =>
        split at hs
        · next o ho =>
          obtain ⟨t, ht, rfl⟩ := Option.map_eq_some_iff.mp hs
          exact lv_tableIn hx hb hd (fun h => hin (Or.inl h)) (fun h => hin (Or.inr h)) ho (m_t_eq ht) (kk _ hv1)
        · cases hs
    · cases hs
  · cases hs
/-- a return: the answer's own row -/
theorem m_rok_n {ty : FieldType} {v : Int32} (h : m_rok ty v = true) : narrow ty (.int v) = .int v := by
  unfold m_rok at h
  split at h
  · rfl
  · exact of_decide_eq_true h
theorem m_ret_ok {ins : Instr} {len : Nat} {rt : Option FieldType} {v : Option Value} {free : Addr → Prop} {Qc : Array Value → State → Outcome → State → Prop} (hx : p.tables.exec = Jvm.exec) (hb : c.code = cc) (hd : decode cc pc = .ok (ins, len)) (hlen : len = m_il ins) (hr : meth.sig.returnType = rt) (hlocks : meth.locks = false)
    (hs : m_ret rt ins st = some v) (hv : m_Vs ad st vs) (hf : ∀ q ∈ locs, free q.base)
    (kk : ∀ w : Option Value, m_Vs ad v.toList w.toList → ∀ t : State, t.heap = H → s.WarmedH t.vm → Qc args s (.returned w) t) :
    W p l e R s m args below meth c H locs cells slots (MQ below Qc args s cells slots free) (F0 m pc ls vs) := by
  unfold m_ret at hs
  split at hs
  · have h : len = 1 := hlen
    subst h
    split at hs
    · cases hs
      cases vs with
      | cons _ _ => exact hv.elim
      | nil => exact W.vret hx hb hr (kk none trivial) hf hd hlocks
    · cases hs
  · have h : len = 1 := hlen
    subst h
    split at hs
    · next ty x =>
      split at hs
      · next hok =>
        cases hs
        obtain ⟨w, v1, rfl, hw, hv1⟩ := hv.hd
        cases hw
        cases v1 with
        | cons _ _ => exact hv1.elim
        | nil => exact W.zret hx hb hr (m_rok_n hok) (kk (some (.int x)) ⟨rfl, trivial⟩) hf hd hlocks
      · cases hs
    · cases hs
  · have h : len = 1 := hlen
    subst h
    split at hs
    · next x =>
      cases hs
      obtain ⟨w, v1, rfl, hw, hv1⟩ := hv.hd
      cases hw
      cases v1 with
      | cons _ _ => exact hv1.elim
      | nil => exact W.lret hx hb hr (kk (some (.long x)) ⟨rfl, trivial⟩) hf hd hlocks
    · cases hs
  · have h : len = 1 := hlen
    subst h
    split at hs
    · next nm a =>
      cases hs
      obtain ⟨w, v1, rfl, ⟨b, hb1, rfl⟩, hv1⟩ := hv.hd
      cases v1 with
      | cons _ _ => exact hv1.elim
      | nil => exact W.aret hx hb hr (Or.inl ⟨_, rfl⟩) (Or.inr ⟨_, rfl⟩) (kk (some (.ref b)) ⟨⟨b, hb1, rfl⟩, trivial⟩) hf hd hlocks
    · next nm =>
      cases hs
      obtain ⟨w, v1, rfl, hw, hv1⟩ := hv.hd
      cases hw
      cases v1 with
      | cons _ _ => exact hv1.elim
      | nil => exact W.aret hx hb hr (Or.inl ⟨_, rfl⟩) (Or.inl rfl) (kk (some .null) ⟨rfl, trivial⟩) hf hd hlocks
    · cases hs
  · cases hs
end MJ
