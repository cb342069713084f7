/-! ===== m_: runs of the small machine, a row an instruction ===== -/
theorem m_up {ft : Nat → Nat → FieldType} {fn : Nat → Nat} {sl : Nat → List Int32} {xs : Nat → Int32} {L : Nat} {P : Nat → m_I} : ∀ {n d i pc : Nat} {lv : m_L} {st : List Value} {hp : m_H} {z : m_O × m_H}, m_run ft fn sl xs L P n d i pc lv st hp = some z → m_run ft fn sl xs L P (n + 1) d i pc lv st hp = some z
  | 0, _, _, _, _, _, _, _, e => by unfold m_run at e; cases e
  | n + 1, d, i, pc, lv, st, hp, z, e => by
    unfold m_run at e
    unfold m_run
    split at e
    · cases e
    · next ins len h1 =>
      try rw [h1]
      try dsimp only
      split at e
      · next E h2 => (try rw [h2]); (try dsimp only); exact e
      · next h2 =>
        try rw [h2]
        try dsimp only
        split at e
        · next h3 => (try rw [h3]); (try dsimp only); exact m_up e
        · next h3 =>
          try rw [h3]
          try dsimp only
          split at e
          · next h4 => (try rw [h4]); (try dsimp only); exact m_up e
          · next h4 =>
            try rw [h4]
            try dsimp only
            split at e
            · next h5 => (try rw [h5]); (try dsimp only); exact e
            · next h5 =>
              try rw [h5]
              try dsimp only
              split at e
              · next h6 =>
                try rw [h6]
                try dsimp only
                split at e
                · next hd => (try rw [if_pos hd]); exact m_up e
                · cases e
              · next h6 =>
                try rw [h6]
                try dsimp only
                split at e
                · next h7 =>
                  try rw [h7]
                  try dsimp only
                  split at e
                  · next h8 => rw [m_up h8]; (try dsimp only); exact m_up e
                  · next h8 =>
                    rw [m_up h8]
                    try dsimp only
                    split at e
                    · next h9 => (try rw [h9]); (try dsimp only); exact m_up e
                    · next h9 => (try rw [h9]); (try dsimp only); exact e
                  · cases e
                · cases e
theorem m_ups {ft : Nat → Nat → FieldType} {fn : Nat → Nat} {sl : Nat → List Int32} {xs : Nat → Int32} {L : Nat} {P : Nat → m_I} {n d i pc : Nat} {lv : m_L} {st : List Value} {hp : m_H} {z : m_O × m_H} (h : m_run ft fn sl xs L P n d i pc lv st hp = some z) : ∀ k, m_run ft fn sl xs L P (n + k) d i pc lv st hp = some z
  | 0 => h
  | k + 1 => m_up (m_ups h k)
/-- the method runs on from here to the result r, calls D deep being allowed -/
def m_Rn (xs : Nat → Int32) (L D i pc : Nat) (lv : m_L) (st : List Value) (hp : m_H) (r : m_O × m_H) : Prop :=
  ∃ n, ∀ d, D ≤ d → m_run m_ft m_fn m_sls xs L m_P n d i pc lv st hp = some r
/-- a piece of code stands at a place -/
def m_Fe (I : m_I) : Nat → List (Instr × Nat) → Prop
  | _, [] => True
  | pc, z :: l => m_f I pc = some z ∧ m_Fe I (pc + z.2) l
/-- ascending places -/
def m_as : Nat → List (Nat × Instr × Nat) → Bool
  | _, [] => true
  | lo, z :: l => Nat.ble lo z.1 && m_as (z.1 + 1) l
def m_st : Nat → List (Instr × Nat) → List (Nat × Instr × Nat)
  | _, [] => []
  | pc, z :: l => (pc, z.1, z.2) :: m_st (pc + z.2) l
theorem m_as_lo : ∀ {l : List (Nat × Instr × Nat)} {lo : Nat}, m_as lo l = true → ∀ z ∈ l, lo ≤ z.1
  | [], _, _, _, h => by cases h
  | x :: l, lo, h, z, hz => by
    unfold m_as at h
    rw [Bool.and_eq_true] at h
    have h1 := Nat.le_of_ble_eq_true h.1
    rcases List.mem_cons.mp hz with rfl | hz
    · exact h1
    · have := m_as_lo h.2 z hz
      omega
theorem m_as_f : ∀ {l : List (Nat × Instr × Nat)} {lo : Nat}, m_as lo l = true → ∀ z ∈ l, l.find? (fun y => y.1 == z.1) = some z
  | [], _, _, _, h => by cases h
  | x :: l, lo, h, z, hz => by
    unfold m_as at h
    rw [Bool.and_eq_true] at h
    rw [List.find?_cons]
    rcases List.mem_cons.mp hz with rfl | hz
    · simp
    · have h1 := m_as_lo h.2 z hz
      have h2 : (x.1 == z.1) = false := by
        rw [beq_eq_false_iff_ne]
        omega
      rw [h2]
      exact m_as_f h.2 z hz
theorem m_Fe_in {I : m_I} (hn : m_as 0 I.1 = true) : ∀ {l : List (Instr × Nat)} {pc : Nat}, (∀ z ∈ m_st pc l, z ∈ I.1) → m_Fe I pc l
  | [], _, _ => trivial
  | z :: l, pc, h => by
    refine ⟨?_, m_Fe_in hn fun y hy => h y (List.mem_cons_of_mem _ hy)⟩
    have h1 := m_as_f hn _ (h (pc, z.1, z.2) List.mem_cons_self)
    unfold m_f
    rw [h1]
    rfl
theorem m_Fe_of {I : m_I} {pc : Nat} {l : List (Instr × Nat)} (hn : m_as 0 I.1 = true) (k n : Nat) (h : (I.1.drop k).take n = m_st pc l) : m_Fe I pc l :=
  m_Fe_in hn fun z hz => List.mem_of_mem_drop (List.mem_of_mem_take (by rw [h]; exact hz))
def m_ap (l1 l2 : List (Instr × Nat)) : List (Instr × Nat) := l1 ++ l2
def m_ln : List (Instr × Nat) → Nat
  | [] => 0
  | z :: l => z.2 + m_ln l
theorem m_Fe_app {I : m_I} : ∀ {l1 l2 : List (Instr × Nat)} {pc : Nat}, m_Fe I pc (l1 ++ l2) → m_Fe I pc l1 ∧ m_Fe I (pc + m_ln l1) l2
  | [], _, _, h => ⟨trivial, h⟩
  | z :: l1, l2, pc, h => by
    obtain ⟨h1, h2⟩ := h
    obtain ⟨h3, h4⟩ := m_Fe_app h2
    exact ⟨⟨h1, h3⟩, by unfold m_ln; rw [← Nat.add_assoc]; exact h4⟩
def m_pl (ins : Instr) : Bool := match ins with
  | .new _ => false
  | _ => true
theorem m_pl_thr {ins : Instr} (h : m_pl ins = true) (q : m_Q) : m_thr q ins = none := by
  unfold m_pl at h
  unfold m_thr
  split
  · cases h
  · rfl
/-- plain instructions, one behind the other -/
def m_exl (xs : Nat → Int32) (L : Nat) (q : m_Q) (nL : Nat) : List (Instr × Nat) → m_L → List Value → m_H → Option (m_L × List Value × m_H)
  | [], lv, st, hp => some (lv, st, hp)
  | x :: l, lv, st, hp => match m_step m_ft m_fn xs L q nL x.1 lv st hp with
    | some z => m_exl xs L q nL l z.1 z.2.1 z.2.2
    | none => none
def m_Go (xs : Nat → Int32) (L D i : Nat) (I : m_I) (pc : Nat) (l : List (Instr × Nat)) (lv : m_L) (st : List Value) (hp : m_H) (r : m_O × m_H) : Prop :=
  m_P i = I → m_Fe I pc l → m_Rn xs L D i pc lv st hp r
/-- fields and places read with their kinds -/
def m_gi (hp : m_H) (a ci k : Nat) : Option Int32 := match m_gf hp a ci k with
  | some (.int x) => some x
  | _ => none
def m_gr (hp : m_H) (a ci k : Nat) : Option Nat := match m_gf hp a ci k with
  | some (.ref x) => some x
  | _ => none
def m_go (hp : m_H) (a ci k : Nat) : Option (Option Nat) := match m_gf hp a ci k with
  | some (.ref x) => some (some x)
  | some .null => some none
  | _ => none
def m_nw (t : Nat) (n : Int32) (hp : m_H) : Option m_H := if n < 0 ∨ 60000000 < n.toNatClampNeg then none else some (m_p hp (m_na t n.toNatClampNeg))
def m_dv (x y : Int32) : Option Int32 := if y = 0 then none else some (x / y)
def m_rm (x y : Int32) : Option Int32 := if y = 0 then none else some (x - x / y * y)
def m_dl (x y : Int64) : Option Int64 := if y = 0 then none else some (x / y)
noncomputable def m_slen (a : Nat) : Option Int32 := if a < 200 ∧ 0 < (m_sls a).length then some (Int32.ofNat (m_sls a).length) else none
noncomputable def m_sch (a : Nat) (i : Int32) : Option Int32 := if a < 200 ∧ m_in i (m_sls a).length = true then some ((m_sls a).getD i.toNatClampNeg 0) else none
def m_b {α β : Type} (o : Option α) (f : α → Option β) : Option β := match o with
  | some a => f a
  | none => none
def m_gd {β : Type} (c : Bool) (o : Option β) : Option β := match c with
  | true => o
  | false => none
def m_swi (lo hi : Int) (x : Int32) : Option Nat := if x.toInt < lo ∨ hi < x.toInt then none else some (x.toInt - lo).toNat
/-- a loop: at most so many rounds -/
def m_wh {S X : Type} (body : S → Option (S ⊕ X)) : Nat → S → Option X
  | 0, _ => none
  | n + 1, s => match body s with
    | none => none
    | some (.inl s) => m_wh body n s
    | some (.inr x) => some x
def m_N : Nat := 1000000000
theorem m_bd {α β : Type} {o : Option α} {f : α → Option β} {r : β} (h : m_b o f = some r) : ∃ a, o = some a ∧ f a = some r := by
  unfold m_b at h
  split at h
  · exact ⟨_, rfl, h⟩
  · cases h
theorem m_gdd {β : Type} {c : Bool} {o : Option β} {r : β} (h : m_gd c o = some r) : c = true ∧ o = some r := by
  unfold m_gd at h
  split at h
  · exact ⟨rfl, h⟩
  · cases h
def m_KK {S X : Type} (P : S → Prop) (Q : X → Prop) (t : S ⊕ X) : Prop := match t with
  | .inl s => P s
  | .inr x => Q x
theorem m_wh_ok {S X : Type} {body : S → Option (S ⊕ X)} {P : S → Prop} {Q : X → Prop} (hb : ∀ s t, body s = some t → m_KK P Q t → P s) : ∀ (n : Nat) (s : S) (x : X), m_wh body n s = some x → Q x → P s
  | 0, _, _, h, _ => by cases h
  | n + 1, s, x, h, hq => by
    unfold m_wh at h
    split at h
    · cases h
    · next s' e => exact hb s _ e (m_wh_ok hb n s' x h hq)
    · next y e => cases h; exact hb s _ e hq
def m_if {β : Type} (c : Prop) [Decidable c] (a b : Option β) : Option β := if c then a else b
def m_on {β : Type} (v : Option Nat) (a : Option β) (f : Nat → Option β) : Option β := match v with
  | none => a
  | some x => f x
def m_swt {β : Type} (v : Option Nat) (a : Option β) (f : Nat → Option β) : Option β := match v with
  | none => a
  | some x => f x
def m_sx {α β : Type} (s : α ⊕ Nat) (f : α → Option β) (g : Nat → Option β) : Option β := match s with
  | .inl v => f v
  | .inr E => g E
theorem m_ifd {β : Type} {c : Prop} [Decidable c] {a b : Option β} {r : β} (h : m_if c a b = some r) : (c ∧ a = some r) ∨ (¬ c ∧ b = some r) := by
  unfold m_if at h
  split at h
  · next q => exact Or.inl ⟨q, h⟩
  · next q => exact Or.inr ⟨q, h⟩
theorem m_ond {β : Type} {v : Option Nat} {a : Option β} {f : Nat → Option β} {r : β} (h : m_on v a f = some r) : (v = none ∧ a = some r) ∨ ∃ x, v = some x ∧ f x = some r := by
  cases v with
  | none => exact Or.inl ⟨rfl, h⟩
  | some x => exact Or.inr ⟨x, rfl, h⟩
theorem m_swd {β : Type} {v : Option Nat} {a : Option β} {f : Nat → Option β} {r : β} (h : m_swt v a f = some r) : (v = none ∧ a = some r) ∨ ∃ x, v = some x ∧ f x = some r := by
  cases v with
  | none => exact Or.inl ⟨rfl, h⟩
  | some x => exact Or.inr ⟨x, rfl, h⟩
theorem m_sxd {α β : Type} {s : α ⊕ Nat} {f : α → Option β} {g : Nat → Option β} {r : β} (h : m_sx s f g = some r) : (∃ v, s = .inl v ∧ f v = some r) ∨ ∃ E, s = .inr E ∧ g E = some r := by
  cases s with
  | inl v => exact Or.inl ⟨v, rfl, h⟩
  | inr E => exact Or.inr ⟨E, rfl, h⟩
def m_xV (z : (Unit ⊕ Nat) × m_H) : m_O × m_H := match z.1 with
  | .inl _ => (.inl none, z.2)
  | .inr E => (.inr E, z.2)
def m_xI (z : (Int32 ⊕ Nat) × m_H) : m_O × m_H := match z.1 with
  | .inl v => (.inl (some (.int v)), z.2)
  | .inr E => (.inr E, z.2)
def m_xJ (z : (Int64 ⊕ Nat) × m_H) : m_O × m_H := match z.1 with
  | .inl v => (.inl (some (.long v)), z.2)
  | .inr E => (.inr E, z.2)
def m_ushr (x y : Int32) : Int32 := (x.toUInt32 >>> (y.toUInt32 &&& Int32.toUInt32 31)).toInt32
def m_i2l (x : Int32) : Int64 := x.toInt64
def m_i2c (x : Int32) : Int32 := (x.toUInt32 % 65536).toInt32
def m_i2b (x : Int32) : Int32 := x.toInt8.toInt32
def m_max (x y : Int32) : Int32 := if x < y then y else x
def m_min (x y : Int32) : Int32 := if y < x then y else x
def m_maxl (x y : Int64) : Int64 := if y < x then x else y
theorem m_eqT {x y : Int32} (h : x = y) : m_cmp .eq x y = true := decide_eq_true h
theorem m_eqF {x y : Int32} (h : ¬ x = y) : m_cmp .eq x y = false := decide_eq_false h
theorem m_ltT {x y : Int32} (h : x < y) : m_cmp .lt x y = true := decide_eq_true h
theorem m_ltF {x y : Int32} (h : ¬ x < y) : m_cmp .lt x y = false := decide_eq_false h
theorem m_geT {x y : Int32} (h : y ≤ x) : m_cmp .ge x y = true := decide_eq_true h
theorem m_geF {x y : Int32} (h : ¬ y ≤ x) : m_cmp .ge x y = false := decide_eq_false h
theorem m_gtT {x y : Int32} (h : y < x) : m_cmp .gt x y = true := decide_eq_true h
theorem m_gtF {x y : Int32} (h : ¬ y < x) : m_cmp .gt x y = false := decide_eq_false h
theorem m_leT {x y : Int32} (h : x ≤ y) : m_cmp .le x y = true := decide_eq_true h
theorem m_leF {x y : Int32} (h : ¬ x ≤ y) : m_cmp .le x y = false := decide_eq_false h
theorem m_neT {x y : Int32} (h : ¬ x = y) : m_cmp .ne x y = true := decide_eq_true h
theorem m_neF {x y : Int32} (h : x = y) : m_cmp .ne x y = false := decide_eq_false (not_not_intro h)
def m_nwo (ci : Nat) (hp : m_H) : Option m_H := some (m_p hp (m_no m_ft m_fn ci))
def m_sc (xs : Nat → Int32) (L : Nat) (i : Int32) : Option Int32 := if m_in i L = true then some (xs i.toNatClampNeg) else none
def m_FD : Nat := 60
theorem m_z4 {hp h : m_H} {a0 a : Nat} {sp dp n : Int32} {st : List Value} (e : m_cpy hp a0 a sp dp n = some h) : m_nat m_sls 4 (.int n :: .int dp :: .ref a :: .int sp :: .ref a0 :: st) hp = some (st, h) := by
  show (m_cpy hp a0 a sp dp n).map (fun h => (st, h)) = _
  rw [e]
  rfl
theorem m_z5 {hp h : m_H} {a : Nat} {n : Int32} {st : List Value} (e : m_cof hp a n = some h) : m_nat m_sls 5 (.int n :: .ref a :: st) hp = some (.ref (m_id hp) :: st, h) := by
  show (m_cof hp a n).map (fun h => (Value.ref (m_id hp) :: st, h)) = _
  rw [e]
  rfl
theorem m_z6 {hp : m_H} {a : Nat} {v : Int32} {st : List Value} (e : m_slen a = some v) : m_nat m_sls 6 (.ref a :: st) hp = some (.int v :: st, hp) := by
  unfold m_slen at e
  show (if a < 200 ∧ 0 < (m_sls a).length then some (Value.int (Int32.ofNat (m_sls a).length) :: st, hp) else none) = _
  split at e
  · next q => cases e; rw [if_pos q]
  · cases e
theorem m_z7 {hp : m_H} {a : Nat} {i v : Int32} {st : List Value} (e : m_sch a i = some v) : m_nat m_sls 7 (.int i :: .ref a :: st) hp = some (.int v :: st, hp) := by
  unfold m_sch at e
  show (if a < 200 ∧ m_in i (m_sls a).length = true then some (Value.int ((m_sls a).getD i.toNatClampNeg 0) :: st, hp) else none) = _
  split at e
  · next q => cases e; rw [if_pos q]
  · cases e
section MRR
variable {xs : Nat → Int32} {L D i : Nat} {I : m_I} {pc : Nat} {l l1 l2 : List (Instr × Nat)} {lv lv' : m_L} {st st' : List Value} {hp hp' : m_H} {r : m_O × m_H}
theorem r_step {ins : Instr} {len : Nat} {z : m_L × List Value × m_H} (hf : m_f (m_P i) pc = some (ins, len)) (ht : m_thr (m_P i).2.1 ins = none) (hs : m_step m_ft m_fn xs L (m_P i).2.1 (m_P i).2.2.1 ins lv st hp = some z) (k : m_Rn xs L D i (pc + len) z.1 z.2.1 z.2.2 r) : m_Rn xs L D i pc lv st hp r := by
  obtain ⟨n, k⟩ := k
  refine ⟨n + 1, fun d hd => ?_⟩
  unfold m_run
  rw [hf]
  dsimp only
  rw [ht]
  dsimp only
  rw [hs]
  exact k d hd
theorem g_in (e : m_Fe I pc l) (hI : m_P i = I) (k : m_Go xs L D i I pc l lv st hp r) : m_Rn xs L D i pc lv st hp r := k hI e
theorem g_end (k : m_Rn xs L D i pc lv st hp r) : m_Go xs L D i I pc [] lv st hp r := fun _ _ => k
theorem g_exl : ∀ {l1 : List (Instr × Nat)} {pc : Nat} {lv : m_L} {st : List Value} {hp : m_H} {z : m_L × List Value × m_H}, m_P i = I → l1.all (fun z => m_pl z.1) = true → m_Fe I pc l1 → m_exl xs L I.2.1 I.2.2.1 l1 lv st hp = some z → m_Rn xs L D i (pc + m_ln l1) z.1 z.2.1 z.2.2 r → m_Rn xs L D i pc lv st hp r
  | [], _, _, _, _, _, _, _, _, h, k => by cases h; exact k
  | x :: l1, pc, lv, st, hp, z, hI, ha, he, h, k => by
    rw [List.all_cons, Bool.and_eq_true] at ha
    unfold m_exl at h
    split at h
    · next z1 h1 =>
      refine r_step (z := z1) (by rw [hI]; exact he.1) (m_pl_thr ha.1 _) (by rw [hI]; exact h1) (g_exl hI ha.2 he.2 h ?_)
      unfold m_ln at k
      rw [Nat.add_assoc]
      exact k
    · cases h
theorem g_ch (lv' : m_L) (st' : List Value) {pc' : Nat} (ha : l1.all (fun z => m_pl z.1) = true) (h : m_exl xs L I.2.1 I.2.2.1 l1 lv st hp = some (lv', st', hp)) (hpc : pc + m_ln l1 = pc') (k : m_Go xs L D i I pc' l2 lv' st' hp r) : m_Go xs L D i I pc (m_ap l1 l2) lv st hp r := by
  intro hI he
  obtain ⟨h1, h2⟩ := m_Fe_app he
  subst hpc
  exact g_exl hI ha h1 h (k hI h2)
theorem g_one {ins : Instr} {len : Nat} (ha : m_pl ins = true) (h : m_step m_ft m_fn xs L I.2.1 I.2.2.1 ins lv st hp = some (lv', st', hp')) (k : m_Go xs L D i I (pc + len) l lv' st' hp' r) : m_Go xs L D i I pc ((ins, len) :: l) lv st hp r := by
  intro hI he
  exact r_step (by rw [hI]; exact he.1) (m_pl_thr ha _) (by rw [hI]; exact h) (k hI he.2)
theorem m_c0 {e : m_E} {a : Nat} (h : m_c hp a = some e) : ¬ a = 0 := by
  intro e0
  subst e0
  unfold m_c at h
  rw [if_pos (by omega)] at h
  cases h
theorem g_gi {k a ci kf : Nat} {v : Int32} (hq : I.2.1.1 k = some (ci, kf)) (h : m_gi hp a ci kf = some v) (kk : m_Go xs L D i I (pc + 3) l lv (.int v :: st) hp r) : m_Go xs L D i I pc ((.getfield k, 3) :: l) lv (.ref a :: st) hp r := by
  refine g_one rfl ?_ kk
  unfold m_gi at h
  split at h
  · next x hx =>
    cases h
    unfold m_step
    dsimp only
    rw [hq]
    dsimp only
    rw [hx]
    rfl
  · cases h
theorem g_gr {k a ci kf : Nat} {v : Nat} (hq : I.2.1.1 k = some (ci, kf)) (h : m_gr hp a ci kf = some v) (kk : m_Go xs L D i I (pc + 3) l lv (.ref v :: st) hp r) : m_Go xs L D i I pc ((.getfield k, 3) :: l) lv (.ref a :: st) hp r := by
  refine g_one rfl ?_ kk
  unfold m_gr at h
  split at h
  · next x hx =>
    cases h
    unfold m_step
    dsimp only
    rw [hq]
    dsimp only
    rw [hx]
    rfl
  · cases h
theorem g_go {k a ci kf : Nat} {v : Option Nat} (hq : I.2.1.1 k = some (ci, kf)) (h : m_go hp a ci kf = some v) (kk : m_Go xs L D i I (pc + 3) l lv (va_rf v :: st) hp r) : m_Go xs L D i I pc ((.getfield k, 3) :: l) lv (.ref a :: st) hp r := by
  refine g_one rfl ?_ kk
  unfold m_go at h
  split at h
  · next x hx =>
    cases h
    unfold m_step
    dsimp only
    rw [hq]
    dsimp only
    rw [hx]
    rfl
  · next hx =>
    cases h
    unfold m_step
    dsimp only
    rw [hq]
    dsimp only
    rw [hx]
    rfl
  · cases h
theorem g_pf {k a ci kf : Nat} {v : Value} (hq : I.2.1.1 k = some (ci, kf)) (h : m_pf m_ft hp a ci kf v = some hp') (kk : m_Go xs L D i I (pc + 3) l lv st hp' r) : m_Go xs L D i I pc ((.putfield k, 3) :: l) lv (v :: .ref a :: st) hp r := by
  refine g_one rfl ?_ kk
  unfold m_step
  dsimp only
  rw [hq]
  dsimp only
  rw [h]
  rfl
theorem m_ai0 {t a : Nat} {j v : Int32} (h : m_ai hp t a j = some v) : ¬ a = 0 := by
  unfold m_ai at h
  split at h
  · next hc => exact m_c0 hc
  · cases h
theorem m_ai32 {a : Nat} {j v : Int32} (h : m_ai hp 3 a j = some v) : m_ai hp 2 a j = none := by
  unfold m_ai at h ⊢
  split at h
  · next t' n f hc =>
    split at h
    · next hcnd =>
      rw [if_neg (by rintro ⟨q, -⟩; omega)]
    · cases h
  · cases h
theorem m_si32 {a : Nat} {j x : Int32} (h : m_si hp 3 a j x = some hp') : m_si hp 2 a j x = none := by
  unfold m_si at h ⊢
  split at h
  · next t' n f hc =>
    split at h
    · next hcnd =>
      rw [if_neg (by rintro ⟨q, -⟩; omega)]
    · cases h
  · cases h
theorem g_ia {a : Nat} {j v : Int32} (h : m_ai hp 0 a j = some v) (kk : m_Go xs L D i I (pc + 1) l lv (.int v :: st) hp r) : m_Go xs L D i I pc ((.iaload, 1) :: l) lv (.int j :: .ref a :: st) hp r := by
  refine g_one rfl ?_ kk
  show (if a = 0 then _ else (m_ai hp 0 a j).map (fun v => (lv, Value.int v :: st, hp))) = _
  rw [if_neg (m_ai0 h), h]
  rfl
theorem g_ca {a : Nat} {j v : Int32} (h : m_ai hp 4 a j = some v) (kk : m_Go xs L D i I (pc + 1) l lv (.int v :: st) hp r) : m_Go xs L D i I pc ((.caload, 1) :: l) lv (.int j :: .ref a :: st) hp r := by
  refine g_one rfl ?_ kk
  show (m_ai hp 4 a j).map (fun v => (lv, Value.int v :: st, hp)) = _
  rw [h]
  rfl
theorem g_ba2 {a : Nat} {j v : Int32} (h : m_ai hp 2 a j = some v) (kk : m_Go xs L D i I (pc + 1) l lv (.int v :: st) hp r) : m_Go xs L D i I pc ((.baload, 1) :: l) lv (.int j :: .ref a :: st) hp r := by
  refine g_one rfl ?_ kk
  show (match m_ai hp 2 a j with | some v => some (lv, Value.int v :: st, hp) | none => _) = _
  rw [h]
theorem g_ba3 {a : Nat} {j v : Int32} (h : m_ai hp 3 a j = some v) (kk : m_Go xs L D i I (pc + 1) l lv (.int v :: st) hp r) : m_Go xs L D i I pc ((.baload, 1) :: l) lv (.int j :: .ref a :: st) hp r := by
  refine g_one rfl ?_ kk
  show (match m_ai hp 2 a j with | some v => some (lv, Value.int v :: st, hp) | none => (m_ai hp 3 a j).map (fun v => (lv, Value.int v :: st, hp))) = _
  rw [m_ai32 h, h]
  rfl
theorem g_la {a : Nat} {j : Int32} {v : Int64} (h : m_al hp a j = some v) (kk : m_Go xs L D i I (pc + 1) l lv (.long v :: st) hp r) : m_Go xs L D i I pc ((.laload, 1) :: l) lv (.int j :: .ref a :: st) hp r := by
  refine g_one rfl ?_ kk
  show (m_al hp a j).map (fun v => (lv, Value.long v :: st, hp)) = _
  rw [h]
  rfl
theorem g_aa {a : Nat} {j : Int32} {v : Option Nat} (h : m_aq hp a j = some v) (kk : m_Go xs L D i I (pc + 1) l lv (va_rf v :: st) hp r) : m_Go xs L D i I pc ((.aaload, 1) :: l) lv (.int j :: .ref a :: st) hp r := by
  refine g_one rfl ?_ kk
  show (m_aq hp a j).map (fun v => (lv, va_rf v :: st, hp)) = _
  rw [h]
  rfl
theorem g_is {a : Nat} {j x : Int32} (h : m_si hp 0 a j x = some hp') (kk : m_Go xs L D i I (pc + 1) l lv st hp' r) : m_Go xs L D i I pc ((.iastore, 1) :: l) lv (.int x :: .int j :: .ref a :: st) hp r := by
  refine g_one rfl ?_ kk
  show (m_si hp 0 a j x).map (fun h => (lv, st, h)) = _
  rw [h]
  rfl
theorem g_cs {a : Nat} {j x : Int32} (h : m_si hp 4 a j x = some hp') (kk : m_Go xs L D i I (pc + 1) l lv st hp' r) : m_Go xs L D i I pc ((.castore, 1) :: l) lv (.int x :: .int j :: .ref a :: st) hp r := by
  refine g_one rfl ?_ kk
  show (m_si hp 4 a j x).map (fun h => (lv, st, h)) = _
  rw [h]
  rfl
theorem g_bs2 {a : Nat} {j x : Int32} (h : m_si hp 2 a j x = some hp') (kk : m_Go xs L D i I (pc + 1) l lv st hp' r) : m_Go xs L D i I pc ((.bastore, 1) :: l) lv (.int x :: .int j :: .ref a :: st) hp r := by
  refine g_one rfl ?_ kk
  show (match m_si hp 2 a j x with | some h => some (lv, st, h) | none => _) = _
  rw [h]
theorem g_bs3 {a : Nat} {j x : Int32} (h : m_si hp 3 a j x = some hp') (kk : m_Go xs L D i I (pc + 1) l lv st hp' r) : m_Go xs L D i I pc ((.bastore, 1) :: l) lv (.int x :: .int j :: .ref a :: st) hp r := by
  refine g_one rfl ?_ kk
  show (match m_si hp 2 a j x with | some h => some (lv, st, h) | none => (m_si hp 3 a j x).map (fun h => (lv, st, h))) = _
  rw [m_si32 h, h]
  rfl
theorem g_ls {a : Nat} {j : Int32} {x : Int64} (h : m_sl hp a j x = some hp') (kk : m_Go xs L D i I (pc + 1) l lv st hp' r) : m_Go xs L D i I pc ((.lastore, 1) :: l) lv (.long x :: .int j :: .ref a :: st) hp r := by
  refine g_one rfl ?_ kk
  show (m_sl hp a j x).map (fun h => (lv, st, h)) = _
  rw [h]
  rfl
theorem g_as {a : Nat} {j : Int32} {x : Option Nat} (h : m_sq hp a j x = some hp') (kk : m_Go xs L D i I (pc + 1) l lv st hp' r) : m_Go xs L D i I pc ((.aastore, 1) :: l) lv (va_rf x :: .int j :: .ref a :: st) hp r := by
  refine g_one rfl ?_ kk
  cases x with
  | none =>
    show (m_sq hp a j none).map (fun h => (lv, st, h)) = _
    rw [h]
    rfl
  | some x =>
    show (m_sq hp a j (some x)).map (fun h => (lv, st, h)) = _
    rw [h]
    rfl
theorem g_len {a : Nat} {v : Int32} (h : m_len hp a = some v) (kk : m_Go xs L D i I (pc + 1) l lv (.int v :: st) hp r) : m_Go xs L D i I pc ((.arraylength, 1) :: l) lv (.ref a :: st) hp r := by
  refine g_one rfl ?_ kk
  show (if a = 0 then _ else (m_len hp a).map (fun v => (lv, Value.int v :: st, hp))) = _
  have h0 : ¬ a = 0 := by
    unfold m_len at h
    split at h
    · next hc => exact m_c0 hc
    · cases h
  rw [if_neg h0, h]
  rfl
theorem g_dv {x y v : Int32} (h : m_dv x y = some v) (kk : m_Go xs L D i I (pc + 1) l lv (.int v :: st) hp r) : m_Go xs L D i I pc ((.idiv, 1) :: l) lv (.int y :: .int x :: st) hp r := by
  refine g_one rfl ?_ kk
  unfold m_dv at h
  show (if y = 0 then none else some (lv, Value.int (x / y) :: st, hp)) = _
  split at h
  · cases h
  · next h0 => cases h; rw [if_neg h0]
theorem g_rm {x y v : Int32} (h : m_rm x y = some v) (kk : m_Go xs L D i I (pc + 1) l lv (.int v :: st) hp r) : m_Go xs L D i I pc ((.irem, 1) :: l) lv (.int y :: .int x :: st) hp r := by
  refine g_one rfl ?_ kk
  unfold m_rm at h
  show (if y = 0 then none else some (lv, Value.int (x - x / y * y) :: st, hp)) = _
  split at h
  · cases h
  · next h0 => cases h; rw [if_neg h0]
theorem g_dl {x y v : Int64} (h : m_dl x y = some v) (kk : m_Go xs L D i I (pc + 1) l lv (.long v :: st) hp r) : m_Go xs L D i I pc ((.ldiv, 1) :: l) lv (.long y :: .long x :: st) hp r := by
  refine g_one rfl ?_ kk
  unfold m_dl at h
  show (if y = 0 then none else some (lv, Value.long (x / y) :: st, hp)) = _
  split at h
  · cases h
  · next h0 => cases h; rw [if_neg h0]
theorem g_na {n : Int32} {a : ArrayType} {t : Nat} (ht : m_tof a = some t) (h : m_nw t n hp = some hp') (kk : m_Go xs L D i I (pc + 2) l lv (.ref (m_id hp) :: st) hp' r) : m_Go xs L D i I pc ((.newarray a, 2) :: l) lv (.int n :: st) hp r := by
  refine g_one rfl ?_ kk
  unfold m_nw at h
  unfold m_step
  dsimp only
  rw [ht]
  dsimp only
  split at h
  · cases h
  · next h0 => cases h; rw [if_neg h0]
theorem g_ana {n : Int32} {k : Nat} (hq : I.2.1.2.1 k = some 0) (h : m_nw 5 n hp = some hp') (kk : m_Go xs L D i I (pc + 3) l lv (.ref (m_id hp) :: st) hp' r) : m_Go xs L D i I pc ((.anewarray k, 3) :: l) lv (.int n :: st) hp r := by
  refine g_one rfl ?_ kk
  unfold m_nw at h
  unfold m_step
  dsimp only
  rw [hq]
  split at h
  · cases h
  · next h0 => cases h; exact if_neg h0
theorem g_new {k ci : Nat} (hq : I.2.1.2.1 k = some ci) (ht : I.2.1.2.2.2.2.2.2 k = none) (kk : m_Go xs L D i I (pc + 3) l lv (.ref (m_id hp) :: st) (m_p hp (m_no m_ft m_fn ci)) r) : m_Go xs L D i I pc ((.new k, 3) :: l) lv st hp r := by
  intro hI he
  refine r_step (z := (lv, .ref (m_id hp) :: st, m_p hp (m_no m_ft m_fn ci))) (by rw [hI]; exact he.1) (by rw [hI]; exact ht) ?_ (kk hI he.2)
  rw [hI]
  show (match I.2.1.2.1 k with | some ci => some (lv, Value.ref (m_id hp) :: st, m_p hp (m_no m_ft m_fn ci)) | none => none) = _
  rw [hq]
/-- jumps -/
theorem r_jump {ins : Instr} {len t : Nat} (hf : m_f (m_P i) pc = some (ins, len)) (ht : m_thr (m_P i).2.1 ins = none) (hs : m_step m_ft m_fn xs L (m_P i).2.1 (m_P i).2.2.1 ins lv st hp = none) (hj : m_jump ins pc st = some (t, st')) (k : m_Rn xs L D i t lv st' hp r) : m_Rn xs L D i pc lv st hp r := by
  obtain ⟨n, k⟩ := k
  refine ⟨n + 1, fun d hd => ?_⟩
  unfold m_run
  rw [hf]
  dsimp only
  rw [ht]
  dsimp only
  rw [hs]
  dsimp only
  rw [hj]
  exact k d hd
theorem g_goto {off : Int} {t : Nat} (ht : m_t pc off = some t) (k : m_Rn xs L D i t lv st hp r) : m_Go xs L D i I pc [(.goto off, 3)] lv st hp r := by
  intro hI he
  exact r_jump (by rw [hI]; exact he.1) rfl rfl (by show (m_t pc off).map _ = _; rw [ht]; rfl) k
theorem g_if {c : Jvm.ClassFile.Cond} {x y : Int32} {off : Int} {t : Nat} (ht : m_t pc off = some t) (hc : m_cmp c x y = true) (k : m_Rn xs L D i t lv st hp r) : m_Go xs L D i I pc [(.if_icmp c off, 3)] lv (.int y :: .int x :: st) hp r := by
  intro hI he
  exact r_jump (by rw [hI]; exact he.1) rfl rfl (by show (m_t pc off).map (fun t => (if m_cmp c x y = true then t else pc + 3, st)) = _; rw [ht, hc]; rfl) k
theorem g_ifn {c : Jvm.ClassFile.Cond} {x y : Int32} {off : Int} {t : Nat} (ht : m_t pc off = some t) (hc : m_cmp c x y = false) (k : m_Rn xs L D i (pc + 3) lv st hp r) : m_Go xs L D i I pc [(.if_icmp c off, 3)] lv (.int y :: .int x :: st) hp r := by
  intro hI he
  exact r_jump (by rw [hI]; exact he.1) rfl rfl (by show (m_t pc off).map (fun t => (if m_cmp c x y = true then t else pc + 3, st)) = _; rw [ht, hc]; rfl) k
theorem g_ifc {c : Jvm.ClassFile.Cond} {x : Int32} {off : Int} {t : Nat} (ht : m_t pc off = some t) (hc : m_cmp c x 0 = true) (k : m_Rn xs L D i t lv st hp r) : m_Go xs L D i I pc [(.ifCond c off, 3)] lv (.int x :: st) hp r := by
  intro hI he
  exact r_jump (by rw [hI]; exact he.1) rfl rfl (by show (m_t pc off).map (fun t => (if m_cmp c x 0 = true then t else pc + 3, st)) = _; rw [ht, hc]; rfl) k
theorem g_ifcn {c : Jvm.ClassFile.Cond} {x : Int32} {off : Int} {t : Nat} (ht : m_t pc off = some t) (hc : m_cmp c x 0 = false) (k : m_Rn xs L D i (pc + 3) lv st hp r) : m_Go xs L D i I pc [(.ifCond c off, 3)] lv (.int x :: st) hp r := by
  intro hI he
  exact r_jump (by rw [hI]; exact he.1) rfl rfl (by show (m_t pc off).map (fun t => (if m_cmp c x 0 = true then t else pc + 3, st)) = _; rw [ht, hc]; rfl) k
theorem g_nul {off : Int} {t : Nat} (ht : m_t pc off = some t) (k : m_Rn xs L D i t lv st hp r) : m_Go xs L D i I pc [(.ifnull off, 3)] lv (.null :: st) hp r := by
  intro hI he
  exact r_jump (by rw [hI]; exact he.1) rfl rfl (by show (m_t pc off).map (fun t => (t, st)) = _; rw [ht]; rfl) k
theorem g_nuln {off : Int} {a : Nat} (k : m_Rn xs L D i (pc + 3) lv st hp r) : m_Go xs L D i I pc [(.ifnull off, 3)] lv (.ref a :: st) hp r := by
  intro hI he
  exact r_jump (by rw [hI]; exact he.1) rfl rfl rfl k
theorem g_nnl {off : Int} {a t : Nat} (ht : m_t pc off = some t) (k : m_Rn xs L D i t lv st hp r) : m_Go xs L D i I pc [(.ifnonnull off, 3)] lv (.ref a :: st) hp r := by
  intro hI he
  exact r_jump (by rw [hI]; exact he.1) rfl rfl (by show (m_t pc off).map (fun t => (t, st)) = _; rw [ht]; rfl) k
theorem g_nnln {off : Int} (k : m_Rn xs L D i (pc + 3) lv st hp r) : m_Go xs L D i I pc [(.ifnonnull off, 3)] lv (.null :: st) hp r := by
  intro hI he
  exact r_jump (by rw [hI]; exact he.1) rfl rfl rfl k
theorem g_swd {x : Int32} {df lo hi : Int} {offs : Array Int} {len t : Nat} (h : m_swi lo hi x = none) (ht : m_t pc df = some t) (k : m_Rn xs L D i t lv st hp r) : m_Go xs L D i I pc [(.tableswitch df lo hi offs, len)] lv (.int x :: st) hp r := by
  intro hI he
  refine r_jump (by rw [hI]; exact he.1) rfl rfl ?_ k
  unfold m_swi at h
  split at h
  · next hc =>
    show (if x.toInt < lo ∨ hi < x.toInt then (m_t pc df).map (fun t => (t, st)) else _) = _
    rw [if_pos hc, ht]
    rfl
  · cases h
theorem g_sw {x : Int32} {df lo hi o : Int} {offs : Array Int} {len t k : Nat} (h : m_swi lo hi x = some k) (ho : offs[k]? = some o) (ht : m_t pc o = some t) (kk : m_Rn xs L D i t lv st hp r) : m_Go xs L D i I pc [(.tableswitch df lo hi offs, len)] lv (.int x :: st) hp r := by
  intro hI he
  refine r_jump (by rw [hI]; exact he.1) rfl rfl ?_ kk
  unfold m_swi at h
  split at h
  · cases h
  · next hc =>
    cases h
    show (if x.toInt < lo ∨ hi < x.toInt then _ else (match offs[(x.toInt - lo).toNat]? with | some o => (m_t pc o).map (fun t => (t, st)) | none => none)) = _
    rw [if_neg hc, ho]
    dsimp only
    rw [ht]
    rfl
/-- returns -/
theorem r_ret {ins : Instr} {len : Nat} {v : Option Value} (hf : m_f (m_P i) pc = some (ins, len)) (ht : m_thr (m_P i).2.1 ins = none) (hs : m_step m_ft m_fn xs L (m_P i).2.1 (m_P i).2.2.1 ins lv st hp = none) (hj : m_jump ins pc st = none) (hr : m_ret (m_P i).2.2.2.2.1 ins st = some v) : m_Rn xs L D i pc lv st hp (.inl v, hp) := by
  refine ⟨1, fun d hd => ?_⟩
  unfold m_run
  rw [hf]
  dsimp only
  rw [ht]
  dsimp only
  rw [hs]
  dsimp only
  rw [hj]
  dsimp only
  rw [hr]
theorem g_vret {len : Nat} (h : I.2.2.2.2.1 = none) : m_Go xs L D i I pc [(.return_, len)] lv [] hp (.inl none, hp) := by
  intro hI he
  exact r_ret (by rw [hI]; exact he.1) rfl rfl rfl (by rw [hI, h]; rfl)
theorem g_iret {len : Nat} {ty : FieldType} {v : Int32} (h : I.2.2.2.2.1 = some ty) (hv : m_rok ty v = true) : m_Go xs L D i I pc [(.ireturn, len)] lv [.int v] hp (.inl (some (.int v)), hp) := by
  intro hI he
  refine r_ret (by rw [hI]; exact he.1) rfl rfl rfl ?_
  rw [hI, h]
  show (if m_rok ty v = true then _ else _) = _
  rw [if_pos hv]
theorem g_lret {len : Nat} {v : Int64} (h : I.2.2.2.2.1 = some .long) : m_Go xs L D i I pc [(.lreturn, len)] lv [.long v] hp (.inl (some (.long v)), hp) := by
  intro hI he
  exact r_ret (by rw [hI]; exact he.1) rfl rfl rfl (by rw [hI, h]; rfl)
theorem g_aret {len : Nat} {C : String} {v : Option Nat} (h : I.2.2.2.2.1 = some (.object C)) : m_Go xs L D i I pc [(.areturn, len)] lv [va_rf v] hp (.inl (some (va_rf v)), hp) := by
  intro hI he
  cases v with
  | none => exact r_ret (by rw [hI]; exact he.1) rfl rfl rfl (by rw [hI, h]; rfl)
  | some a => exact r_ret (by rw [hI]; exact he.1) rfl rfl rfl (by rw [hI, h]; rfl)
/-- what is thrown -/
theorem g_thr {k E : Nat} (hq : I.2.1.2.2.2.2.2.2 k = some E) (hD : Nat.ble 7 D = true) (hc : Nat.ble (m_cat st) 8 = true) : m_Go xs L D i I pc ((.new k, 3) :: l) lv st hp (.inr E, m_junk hp) := by
  intro hI he
  refine ⟨1, fun d hd => ?_⟩
  have hD := Nat.le_of_ble_eq_true hD
  have hc := Nat.le_of_ble_eq_true hc
  unfold m_run
  have hf0 : m_f (m_P i) pc = some (.new k, 3) := by rw [hI]; exact he.1
  rw [hf0]
  dsimp only
  rw [show m_thr (m_P i).2.1 (.new k) = some E by rw [hI]; exact hq]
  dsimp only
  rw [if_pos ⟨by omega, hc⟩]
/-- others' methods -/
theorem g_nat {ins : Instr} {k c : Nat} {z : List Value × m_H} (hi : ins = .invokestatic k ∨ ins = .invokevirtual k ∨ ins = .invokespecial k) (hq : I.2.1.2.2.2.2.2.1 k = some (.inr c)) (hc : Nat.ble (m_cat st) 12 = true) (h : m_nat m_sls c st hp = some z) (hD : Nat.ble 7 D = true) (kk : m_Go xs L D i I (pc + 3) l lv z.1 z.2 r) : m_Go xs L D i I pc ((ins, 3) :: l) lv st hp r := by
  intro hI he
  have hD := Nat.le_of_ble_eq_true hD
  have hc := Nat.le_of_ble_eq_true hc
  obtain ⟨n, kk⟩ := kk hI he.2
  refine ⟨n + 1, fun d hd => ?_⟩
  unfold m_run
  have hf0 : m_f (m_P i) pc = some (ins, 3) := by rw [hI]; exact he.1
  rw [hf0]
  dsimp only
  have e1 : m_thr (m_P i).2.1 ins = none := by rcases hi with rfl | rfl | rfl <;> rfl
  have e2 : m_step m_ft m_fn xs L (m_P i).2.1 (m_P i).2.2.1 ins lv st hp = none := by rcases hi with rfl | rfl | rfl <;> rfl
  have e3 : m_jump ins pc st = none := by rcases hi with rfl | rfl | rfl <;> rfl
  have e4 : m_ret (m_P i).2.2.2.2.1 ins st = none := by rcases hi with rfl | rfl | rfl <;> rfl
  have e5 : m_ncall m_sls (m_P i).2.1 ins st hp = some z := by
    rw [hI]
    rcases hi with rfl | rfl | rfl <;> (unfold m_ncall; dsimp only; rw [hq]; dsimp only; rw [if_pos hc]; exact h)
  rw [e1]
  dsimp only
  rw [e2]
  dsimp only
  rw [e3]
  dsimp only
  rw [e4]
  dsimp only
  rw [e5]
  dsimp only
  rw [if_pos (by omega)]
  exact kk d hd
/-- calls -/
theorem r_call {ins : Instr} {k j D1 : Nat} {as rest : List Value} {o : m_O} {h : m_H} (hi : ins = .invokestatic k ∨ ins = .invokevirtual k ∨ ins = .invokespecial k) (hI : m_P i = I) (hf : m_f I pc = some (ins, 3)) (hq : I.2.1.2.2.2.2.2.1 k = some (.inl j)) (hc : m_call m_P I.2.1 ins st hp = some (j, as, rest)) (hD : D1 + 1 ≤ D)
    (hS : m_Rn xs L D1 j 0 (lv_args 0 as) [] hp (o, h)) (kk : match o with
      | .inl v => m_Rn xs L D i (pc + 3) lv (v.toList ++ rest) h r
      | .inr E => match m_hdl I pc E with
        | some t => m_Rn xs L D i t lv [.retAddr 0] h r
        | none => r = (.inr E, h)) : m_Rn xs L D i pc lv st hp r := by
  have e1 : m_thr (m_P i).2.1 ins = none := by rcases hi with rfl | rfl | rfl <;> rfl
  have e2 : m_step m_ft m_fn xs L (m_P i).2.1 (m_P i).2.2.1 ins lv st hp = none := by rcases hi with rfl | rfl | rfl <;> rfl
  have e3 : m_jump ins pc st = none := by rcases hi with rfl | rfl | rfl <;> rfl
  have e4 : m_ret (m_P i).2.2.2.2.1 ins st = none := by rcases hi with rfl | rfl | rfl <;> rfl
  have e5 : m_ncall m_sls (m_P i).2.1 ins st hp = none := by
    rw [hI]
    rcases hi with rfl | rfl | rfl <;> (unfold m_ncall; dsimp only; rw [hq])
  have hf' : m_f (m_P i) pc = some (ins, 3) := by rw [hI]; exact hf
  have hc' : m_call m_P (m_P i).2.1 ins st hp = some (j, as, rest) := by rw [hI]; exact hc
  obtain ⟨n1, hS⟩ := hS
  have fin : ∀ (n2 : Nat) (d : Nat), D ≤ d → ∀ (w : Option (m_O × m_H)), (match (some (o, h) : Option (m_O × m_H)) with
      | some (.inl v, h) => m_run m_ft m_fn m_sls xs L m_P (n1 + n2) d i (pc + 3) lv (v.toList ++ rest) h
      | some (.inr E, h) => match m_hdl (m_P i) pc E with
        | some t => m_run m_ft m_fn m_sls xs L m_P (n1 + n2) d i t lv [.retAddr 0] h
        | none => some (.inr E, h)
      | none => none) = w → m_run m_ft m_fn m_sls xs L m_P (n1 + n2 + 1) d i pc lv st hp = w := by
    intro n2 d hd w hw
    unfold m_run
    rw [hf']
    dsimp only
    rw [e1]
    dsimp only
    rw [e2]
    dsimp only
    rw [e3]
    dsimp only
    rw [e4]
    dsimp only
    rw [e5]
    dsimp only
    rw [hc']
    obtain ⟨d, rfl⟩ : ∃ e, d = e + 1 := ⟨d - 1, by omega⟩
    dsimp only
    rw [m_ups (hS d (by omega)) n2]
    exact hw
  cases o with
  | inl v =>
    obtain ⟨n2, kk⟩ := kk
    refine ⟨n1 + n2 + 1, fun d hd => fin n2 d hd _ ?_⟩
    dsimp only
    rw [Nat.add_comm n1 n2]
    exact m_ups (kk d hd) n1
  | inr E =>
    dsimp only at kk
    split at kk
    · next t ht =>
      obtain ⟨n2, kk⟩ := kk
      refine ⟨n1 + n2 + 1, fun d hd => fin n2 d hd _ ?_⟩
      dsimp only
      rw [hI, ht]
      dsimp only
      rw [Nat.add_comm n1 n2]
      exact m_ups (kk d hd) n1
    · next ht =>
      refine ⟨n1 + 0 + 1, fun d hd => fin 0 d hd _ ?_⟩
      dsimp only
      rw [hI, ht, kk]
/-- a method's numbers: parameters, locals, its object's class -/
def m_Jv (j a nl ci : Nat) : Prop := (m_P j).2.2.2.1 = a ∧ (m_P j).2.2.1 = nl ∧ (m_P j).2.2.2.2.2.2 = ci
theorem m_cv {k j a nl ci x : Nat} {as rest : List Value} {ins : Instr} (hi : ins = .invokevirtual k ∨ ins = .invokespecial k) (hq : I.2.1.2.2.2.2.2.1 k = some (.inl j)) (hj : m_Jv j a nl ci) (hO : m_isO hp ci x = true) (hd : (as ++ .ref x :: rest).drop a = .ref x :: rest) (ht : (as ++ .ref x :: rest).take a = as) (hs : Nat.ble (lg_sl (.ref x :: as.reverse)).length nl = true) (hr : Nat.ble (m_cat rest) 8 = true) :
    m_call m_P I.2.1 ins (as ++ .ref x :: rest) hp = some (j, .ref x :: as.reverse, rest) := by
  obtain ⟨h1, h2, h3⟩ := hj
  have e : m_callV m_P j (as ++ .ref x :: rest) hp = some (j, .ref x :: as.reverse, rest) := by
    unfold m_callV
    rw [h1, h2, h3, hd]
    dsimp only
    rw [ht, if_pos ⟨hO, Nat.le_of_ble_eq_true hs, Nat.le_of_ble_eq_true hr⟩]
  rcases hi with rfl | rfl <;> (unfold m_call; dsimp only; rw [hq]; exact e)
theorem m_cs {k j a nl ci : Nat} {as rest : List Value} (hq : I.2.1.2.2.2.2.2.1 k = some (.inl j)) (hj : m_Jv j a nl ci) (hl : Nat.ble a (as ++ rest).length = true) (hd : (as ++ rest).drop a = rest) (ht : (as ++ rest).take a = as) (hs : Nat.ble (lg_sl as.reverse).length nl = true) (hr : Nat.ble (m_cat rest) 8 = true) :
    m_call m_P I.2.1 (.invokestatic k) (as ++ rest) hp = some (j, as.reverse, rest) := by
  obtain ⟨h1, h2, h3⟩ := hj
  unfold m_call
  dsimp only
  rw [hq]
  show m_callS m_P j (as ++ rest) = _
  unfold m_callS
  rw [h1, h2, hd, ht, if_pos ⟨Nat.le_of_ble_eq_true hl, Nat.le_of_ble_eq_true hs, Nat.le_of_ble_eq_true hr⟩]
theorem g_call {ins : Instr} {k j D1 : Nat} {as rest : List Value} {v : Option Value} {h : m_H} (hi : ins = .invokestatic k ∨ ins = .invokevirtual k ∨ ins = .invokespecial k) (hq : I.2.1.2.2.2.2.2.1 k = some (.inl j)) (hc : m_call m_P I.2.1 ins st hp = some (j, as, rest)) (hD : D1 + 1 ≤ D)
    (hS : m_Rn xs L D1 j 0 (lv_args 0 as) [] hp (.inl v, h)) (hs : v.toList ++ rest = st') (kk : m_Go xs L D i I (pc + 3) l lv st' h r) : m_Go xs L D i I pc ((ins, 3) :: l) lv st hp r := by
  subst hs
  intro hI he
  exact r_call hi hI he.1 hq hc hD hS (kk hI he.2)
theorem g_callX {ins : Instr} {k j D1 E : Nat} {as rest : List Value} {h : m_H} (hi : ins = .invokestatic k ∨ ins = .invokevirtual k ∨ ins = .invokespecial k) (hq : I.2.1.2.2.2.2.2.1 k = some (.inl j)) (hc : m_call m_P I.2.1 ins st hp = some (j, as, rest)) (hD : D1 + 1 ≤ D)
    (hS : m_Rn xs L D1 j 0 (lv_args 0 as) [] hp (.inr E, h)) (hh : I.2.2.2.2.2.1 = []) : m_Go xs L D i I pc ((ins, 3) :: l) lv st hp (.inr E, h) := by
  intro hI he
  refine r_call hi hI he.1 hq hc hD hS ?_
  dsimp only
  have e : m_hdl I pc E = none := by unfold m_hdl; rw [hh]; rfl
  rw [e]
theorem g_callH {ins : Instr} {k j D1 E t : Nat} {as rest : List Value} {h : m_H} (hi : ins = .invokestatic k ∨ ins = .invokevirtual k ∨ ins = .invokespecial k) (hq : I.2.1.2.2.2.2.2.1 k = some (.inl j)) (hc : m_call m_P I.2.1 ins st hp = some (j, as, rest)) (hD : D1 + 1 ≤ D)
    (hS : m_Rn xs L D1 j 0 (lv_args 0 as) [] hp (.inr E, h)) (hh : m_hdl I pc E = some t) (kk : m_Rn xs L D i t lv [.retAddr 0] h r) : m_Go xs L D i I pc ((ins, 3) :: l) lv st hp r := by
  intro hI he
  refine r_call hi hI he.1 hq hc hD hS ?_
  dsimp only
  rw [hh]
  exact kk
theorem r_dp {D' : Nat} (h : m_Rn xs L D i pc lv st hp r) (hD : D ≤ D') : m_Rn xs L D' i pc lv st hp r := by
  obtain ⟨n, h⟩ := h
  exact ⟨n, fun d hd => h d (Nat.le_trans hD hd)⟩
theorem g_newo {k ci : Nat} (hq : I.2.1.2.1 k = some ci) (ht : I.2.1.2.2.2.2.2.2 k = none) (e : m_nwo ci hp = some hp') (kk : m_Go xs L D i I (pc + 3) l lv (.ref (m_id hp) :: st) hp' r) : m_Go xs L D i I pc ((.new k, 3) :: l) lv st hp r := by
  cases e
  exact g_new hq ht kk
theorem g_sl (kk : m_Go xs L D i I (pc + 1) l lv (.int (Int32.ofNat L) :: st) hp r) : m_Go xs L D i I pc ((.arraylength, 1) :: l) lv (.ref 0 :: st) hp r := g_one rfl rfl kk
theorem g_sc {j v : Int32} (h : m_sc xs L j = some v) (kk : m_Go xs L D i I (pc + 1) l lv (.int v :: st) hp r) : m_Go xs L D i I pc ((.iaload, 1) :: l) lv (.int j :: .ref 0 :: st) hp r := by
  refine g_one rfl ?_ kk
  unfold m_sc at h
  show (if m_in j L = true then some (lv, Value.int (xs j.toNatClampNeg) :: st, hp) else none) = _
  split at h
  · next q => cases h; rw [if_pos q]
  · cases h
end MRR
