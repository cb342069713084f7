/-! ===== m_: how the small machine's states stand for the JVM's ===== -/
def m_ad (ex : Nat → Nat) (ws : va_W) (k : Nat) : Option Nat := if k < 200 then some (ex k) else (ws[k - 200]?).map (fun q => q.1)
def m_V (ad : Nat → Option Nat) (v w : Value) : Prop := match v with
  | .ref k => ∃ a, ad k = some a ∧ w = .ref a
  | .retAddr _ => ∃ a, w = .ref a
  | v => w = v
def m_Vs (ad : Nat → Option Nat) : List Value → List Value → Prop
  | [], [] => True
  | a :: as, v :: vs => m_V ad a v ∧ m_Vs ad as vs
  | _, _ => False
def m_Ls (ad : Nat → Option Nat) : m_L → m_L → Prop
  | [], [] => True
  | a :: as, v :: vs => (v.1 = a.1 ∧ m_V ad a.2 v.2) ∧ m_Ls ad as vs
  | _, _ => False
def m_Or (ad : Nat → Option Nat) (x y : Option Nat) : Prop := match x with
  | none => y = none
  | some k => ∃ a, ad k = some a ∧ y = some a
def m_Er (ad : Nat → Option Nat) (tys : List (ClassId × FieldType)) (e : m_E) (e' : va_E) : Prop := match e with
  | .inr o => ∃ fs, e' = .inr (o.1, fs) ∧ m_Vs ad o.2 fs
  | .inl (t, n, .inl f) => ∃ cA, e' = .inl (cA, n, .inl f) ∧ tys[t]? = some (cA, m_ty t)
  | .inl (t, n, .inr (.inl f)) => ∃ cA, e' = .inl (cA, n, .inr (.inl f)) ∧ tys[t]? = some (cA, m_ty t)
  | .inl (t, n, .inr (.inr (.inr (.inr f)))) => ∃ cA g, e' = .inl (cA, n, .inr (.inr (.inr (.inr g)))) ∧ tys[t]? = some (cA, m_ty t) ∧ ∀ j, m_Or ad (f j) (g j)
  | _ => False
def m_Hr (ex : Nat → Nat) (tys : List (ClassId × FieldType)) (hp : m_H) (ws : va_W) : Prop := hp.1.length = ws.length ∧ ∀ (k : Nat) (e : m_E), hp.1[k]? = some e → ∃ a e', ws[k]? = some (a, e') ∧ m_Er (m_ad ex ws) tys e e'
def m_Le (ad ad' : Nat → Option Nat) : Prop := ∀ k a, ad k = some a → ad' k = some a
theorem m_Le.rf {ad : Nat → Option Nat} : m_Le ad ad := fun _ _ h => h
theorem m_Le.tr {a b c : Nat → Option Nat} (h : m_Le a b) (h2 : m_Le b c) : m_Le a c := fun k x q => h2 k x (h k x q)
theorem m_V.le {ad ad' : Nat → Option Nat} (h : m_Le ad ad') {v w : Value} (hv : m_V ad v w) : m_V ad' v w := by
  cases v with
  | ref k => obtain ⟨a, h1, h2⟩ := hv; exact ⟨a, h k a h1, h2⟩
  | _ => exact hv
theorem m_Vs.le {ad ad' : Nat → Option Nat} (h : m_Le ad ad') : ∀ {as vs : List Value}, m_Vs ad as vs → m_Vs ad' as vs
  | [], [], _ => trivial
  | _ :: _, _ :: _, hv => ⟨hv.1.le h, m_Vs.le h hv.2⟩
  | [], _ :: _, hv => hv.elim
  | _ :: _, [], hv => hv.elim
theorem m_Ls.le {ad ad' : Nat → Option Nat} (h : m_Le ad ad') : ∀ {as vs : m_L}, m_Ls ad as vs → m_Ls ad' as vs
  | [], [], _ => trivial
  | _ :: _, _ :: _, hv => ⟨⟨hv.1.1, hv.1.2.le h⟩, m_Ls.le h hv.2⟩
  | [], _ :: _, hv => hv.elim
  | _ :: _, [], hv => hv.elim
theorem m_Or.le {ad ad' : Nat → Option Nat} (h : m_Le ad ad') {x y : Option Nat} (hv : m_Or ad x y) : m_Or ad' x y := by
  cases x with
  | none => exact hv
  | some k => obtain ⟨a, h1, h2⟩ := hv; exact ⟨a, h k a h1, h2⟩
theorem m_Er.le {ad ad' : Nat → Option Nat} (h : m_Le ad ad') {tys : List (ClassId × FieldType)} {e : m_E} {e' : va_E} (hv : m_Er ad tys e e') : m_Er ad' tys e e' := by
  obtain ⟨t, n, f | f | f | f | f⟩ | o := e
  · exact hv
  · exact hv
  · exact hv
  · exact hv
  · obtain ⟨cA, g, h1, h2, h3⟩ := hv
    exact ⟨cA, g, h1, h2, fun j => (h3 j).le h⟩
  · obtain ⟨fs, h1, h2⟩ := hv
    exact ⟨fs, h1, h2.le h⟩
theorem m_V.cat {ad : Nat → Option Nat} {v w : Value} (h : m_V ad v w) : w.category = v.category := by
  cases v with
  | ref k => obtain ⟨a, -, rfl⟩ := h; rfl
  | retAddr k => obtain ⟨a, rfl⟩ := h; rfl
  | _ => cases h; rfl
theorem m_Vs.cat {ad : Nat → Option Nat} : ∀ {as vs : List Value}, m_Vs ad as vs → (vs.map fun v => v.category).sum = m_cat as
  | [], [], _ => rfl
  | a :: as, v :: vs, h => by
    show ((v.category :: vs.map fun v => v.category)).sum = (a.category :: as.map fun v => v.category).sum
    rw [List.sum_cons, List.sum_cons, h.1.cat, m_Vs.cat h.2]; rfl
  | [], _ :: _, h => h.elim
  | _ :: _, [], h => h.elim
theorem m_Vs.len {ad : Nat → Option Nat} : ∀ {as vs : List Value}, m_Vs ad as vs → vs.length = as.length
  | [], [], _ => rfl
  | _ :: _, _ :: _, h => by simp [m_Vs.len h.2]
  | [], _ :: _, h => h.elim
  | _ :: _, [], h => h.elim
theorem m_Vs.get {ad : Nat → Option Nat} : ∀ {as vs : List Value}, m_Vs ad as vs → ∀ {k : Nat} {v : Value}, as[k]? = some v → ∃ w, vs[k]? = some w ∧ m_V ad v w
  | a :: as, w :: vs, h, 0, v, hk => by
    cases hk
    exact ⟨w, rfl, h.1⟩
  | a :: as, w :: vs, h, k + 1, v, hk => m_Vs.get (as := as) (vs := vs) h.2 (k := k) hk
  | [], _, _, _, _, hk => by simp at hk
  | _ :: _, [], h, _, _, _ => h.elim
theorem m_Vs.set {ad : Nat → Option Nat} : ∀ {as vs : List Value}, m_Vs ad as vs → ∀ {k : Nat} {v w : Value}, m_V ad v w → m_Vs ad (as.set k v) (vs.set k w)
  | [], [], _, _, _, _, _ => trivial
  | a :: as, x :: vs, h, 0, v, w, hv => ⟨hv, h.2⟩
  | a :: as, x :: vs, h, k + 1, v, w, hv => ⟨h.1, m_Vs.set h.2 hv⟩
  | [], _ :: _, h, _, _, _, _ => h.elim
  | _ :: _, [], h, _, _, _, _ => h.elim
theorem m_Vs.app {ad : Nat → Option Nat} : ∀ {as vs bs us : List Value}, m_Vs ad as vs → m_Vs ad bs us → m_Vs ad (as ++ bs) (vs ++ us)
  | [], [], _, _, _, h => h
  | _ :: _, _ :: _, _, _, h, h2 => ⟨h.1, m_Vs.app h.2 h2⟩
  | [], _ :: _, _, _, h, _ => h.elim
  | _ :: _, [], _, _, h, _ => h.elim
theorem m_Vs.rev {ad : Nat → Option Nat} : ∀ {as vs : List Value}, m_Vs ad as vs → m_Vs ad as.reverse vs.reverse
  | [], [], _ => trivial
  | a :: as, v :: vs, h => by
    rw [List.reverse_cons, List.reverse_cons]
    exact m_Vs.app (m_Vs.rev h.2) ⟨h.1, trivial⟩
  | [], _ :: _, h => h.elim
  | _ :: _, [], h => h.elim
theorem m_Vs.take {ad : Nat → Option Nat} : ∀ {as vs : List Value} (n : Nat), m_Vs ad as vs → m_Vs ad (as.take n) (vs.take n)
  | _, _, 0, _ => by simp [m_Vs]
  | [], [], _ + 1, _ => trivial
  | _ :: _, _ :: _, n + 1, h => ⟨h.1, m_Vs.take n h.2⟩
  | [], _ :: _, _ + 1, h => h.elim
  | _ :: _, [], _ + 1, h => h.elim
theorem m_Vs.drop {ad : Nat → Option Nat} : ∀ {as vs : List Value} (n : Nat), m_Vs ad as vs → m_Vs ad (as.drop n) (vs.drop n)
  | _, _, 0, h => by simpa using h
  | [], [], _ + 1, _ => trivial
  | _ :: _, _ :: _, n + 1, h => m_Vs.drop n h.2
  | [], _ :: _, _ + 1, h => h.elim
  | _ :: _, [], _ + 1, h => h.elim
theorem m_Vs.sl {ad : Nat → Option Nat} : ∀ {as vs : List Value}, m_Vs ad as vs → (lg_sl vs).length = (lg_sl as).length
  | [], [], _ => rfl
  | a :: as, v :: vs, h => by
    have e := m_Vs.sl h.2
    have c := h.1.cat
    unfold lg_sl at e ⊢
    rw [List.flatMap_cons, List.flatMap_cons, List.length_append, List.length_append, e]
    rw [c]
    split <;> rfl
  | [], _ :: _, h => h.elim
  | _ :: _, [], h => h.elim
theorem m_Ls.args {ad : Nat → Option Nat} : ∀ {as vs : List Value}, m_Vs ad as vs → ∀ i : Nat, m_Ls ad (lv_args i as) (lv_args i vs)
  | [], [], _, _ => trivial
  | a :: as, v :: vs, h, i => by
    have c := h.1.cat
    refine ⟨⟨rfl, h.1⟩, ?_⟩
    rw [c]
    exact m_Ls.args h.2 _
  | [], _ :: _, h, _ => h.elim
  | _ :: _, [], h, _ => h.elim
theorem m_Ls.at {ad : Nat → Option Nat} {i : Nat} {v : Value} : ∀ {lv lc : m_L}, m_Ls ad lv lc → m_at i lv = some v → ∃ w, (i, w) ∈ lc ∧ m_V ad v w
  | [], _, _, h => by simp [m_at] at h
  | (j, x) :: lv, (j', y) :: lc, h, ha => by
    obtain ⟨⟨h1, h2⟩, h3⟩ := h
    by_cases hj : j = i
    · subst hj
      have : x = v := by simpa [m_at] using ha
      subst this
      have h1 : j' = j := h1
      subst h1
      exact ⟨y, List.mem_cons_self, h2⟩
    · have ha' : m_at i lv = some v := by
        unfold m_at at ha ⊢
        rw [List.find?_cons_of_neg (by simpa using hj)] at ha
        exact ha
      obtain ⟨w, q1, q2⟩ := m_Ls.at h3 ha'
      exact ⟨w, List.mem_cons_of_mem _ q1, q2⟩
  | _ :: _, [], h, _ => h.elim
theorem m_Ls.filt {ad : Nat → Option Nat} (g : Nat × Value → Bool) (hg : ∀ (i : Nat) (v w : Value), w.category = v.category → g (i, w) = g (i, v)) : ∀ {lv lc : m_L}, m_Ls ad lv lc → m_Ls ad (lv.filter g) (lc.filter g)
  | [], [], _ => trivial
  | (i, v) :: lv, (j, w) :: lc, h => by
    obtain ⟨⟨h1, h2⟩, h3⟩ := h
    have h1 : j = i := h1
    subst h1
    have e := hg j v w h2.cat
    rw [List.filter_cons, List.filter_cons, e]
    split
    · exact ⟨⟨rfl, h2⟩, m_Ls.filt g hg h3⟩
    · exact m_Ls.filt g hg h3
  | [], _ :: _, h => h.elim
  | _ :: _, [], h => h.elim
theorem m_Ls.sv {ad : Nat → Option Nat} {lv lc : m_L} (h : m_Ls ad lv lc) (i : Nat) {v w : Value} (hv : m_V ad v w) : m_Ls ad (m_sv i v lv) (m_sv i w lc) :=
  ⟨⟨rfl, hv⟩, h.filt _ (fun j x y e => by simp only [e])⟩
theorem m_Ls.sw {ad : Nat → Option Nat} {lv lc : m_L} (h : m_Ls ad lv lc) (i : Nat) {v w : Value} (hv : m_V ad v w) : m_Ls ad (m_sw i v lv) (m_sw i w lc) :=
  ⟨⟨rfl, hv⟩, h.filt _ (fun j x y e => by simp only [e])⟩
theorem m_in_vp {i : Int32} {n : Nat} (h : m_in i n = true) : vp_in i n := by
  simp only [m_in, Bool.and_eq_true, Bool.not_eq_true', decide_eq_false_iff_not, decide_eq_true_eq] at h
  rintro (q | q)
  · exact h.1 q
  · exact absurd h.2 (Nat.not_lt.mpr q)
/-- a cell of the abstract heap is a cell of the world -/
theorem m_Hr.c {ex : Nat → Nat} {tys : List (ClassId × FieldType)} {hp : m_H} {ws : va_W} (h : m_Hr ex tys hp ws) {r : Nat} {e : m_E} (hc : m_c hp r = some e) : ∃ a e', m_ad ex ws r = some a ∧ ws[r - 200]? = some (a, e') ∧ m_Er (m_ad ex ws) tys e e' := by
  unfold m_c at hc
  split at hc
  · cases hc
  · next hr =>
    obtain ⟨a, e', h1, h2⟩ := h.2 _ _ hc
    exact ⟨a, e', by unfold m_ad; rw [if_neg hr, h1]; rfl, h1, h2⟩
theorem m_ad_set {ex : Nat → Nat} {ws : va_W} {q : Nat} {a : Nat} {e0 e : va_E} (h : ws[q]? = some (a, e0)) : m_ad ex (ws.set q (a, e)) = m_ad ex ws := by
  funext k
  unfold m_ad
  split
  · rfl
  · generalize k - 200 = j
    by_cases hq : q = j
    · subst hq
      have hl := (List.getElem?_eq_some_iff.mp h).1
      rw [List.getElem?_set_self hl, h]
      rfl
    · rw [List.getElem?_set_ne hq]
theorem m_ad_push {ex : Nat → Nat} {ws : va_W} {x : Nat × va_E} : m_Le (m_ad ex ws) (m_ad ex (ws ++ [x])) := by
  intro k a h
  unfold m_ad at h ⊢
  split at h
  · next hk => rw [if_pos hk]; exact h
  · next hk =>
    rw [if_neg hk]
    cases hw : ws[k - 200]? with
    | none => rw [hw] at h; cases h
    | some y =>
      rw [hw] at h
      rw [List.getElem?_append_left (List.getElem?_eq_some_iff.mp hw).1, hw]
      exact h
theorem m_ad_new {ex : Nat → Nat} {hp : m_H} {tys : List (ClassId × FieldType)} {ws : va_W} (h : m_Hr ex tys hp ws) (a : Nat) (e : va_E) : m_ad ex (ws ++ [(a, e)]) (m_id hp) = some a := by
  unfold m_ad m_id
  rw [if_neg (by omega), show 200 + hp.1.length - 200 = ws.length by rw [← h.1]; omega]
  simp
theorem m_Hr.w {ex : Nat → Nat} {tys : List (ClassId × FieldType)} {hp : m_H} {ws : va_W} (h : m_Hr ex tys hp ws) {r a : Nat} {e0' e' : va_E} {e : m_E} (hr : ws[r - 200]? = some (a, e0')) (he : m_Er (m_ad ex ws) tys e e') : m_Hr ex tys (m_w hp r e) (ws.set (r - 200) (a, e')) := by
  refine ⟨by simp [m_w, h.1], fun k x hk => ?_⟩
  rw [m_ad_set hr]
  unfold m_w at hk
  by_cases hq : r - 200 = k
  · subst hq
    have hl := (List.getElem?_eq_some_iff.mp hr).1
    rw [List.getElem?_set_self (by rw [h.1]; exact hl)] at hk
    cases hk
    exact ⟨a, e', List.getElem?_set_self hl, he⟩
  · rw [List.getElem?_set_ne hq] at hk
    obtain ⟨b, e1, h1, h2⟩ := h.2 k x hk
    exact ⟨b, e1, by rw [List.getElem?_set_ne hq]; exact h1, h2⟩
theorem m_Hr.p {ex : Nat → Nat} {tys : List (ClassId × FieldType)} {hp : m_H} {ws : va_W} (h : m_Hr ex tys hp ws) {a : Nat} {e' : va_E} {e : m_E} (he : m_Er (m_ad ex (ws ++ [(a, e')])) tys e e') : m_Hr ex tys (m_p hp e) (ws ++ [(a, e')]) := by
  refine ⟨by simp [m_p, h.1], fun k x hk => ?_⟩
  unfold m_p at hk
  by_cases hl : k < hp.1.length
  · rw [List.getElem?_append_left hl] at hk
    obtain ⟨b, e1, h1, h2⟩ := h.2 k x hk
    exact ⟨b, e1, by rw [List.getElem?_append_left (by rw [← h.1]; exact hl)]; exact h1, h2.le m_ad_push⟩
  · rw [List.getElem?_append_right (by omega)] at hk
    have hz : k - hp.1.length < 1 := (List.getElem?_eq_some_iff.mp hk).1
    have hk0 : k = hp.1.length := by omega
    subst hk0
    rw [Nat.sub_self] at hk
    cases hk
    exact ⟨a, e', by rw [h.1]; simp, he⟩
theorem m_sum_set {l : List m_E} : ∀ {k : Nat} {e0 e : m_E}, l[k]? = some e0 → m_sz e = m_sz e0 → ((l.set k e).map m_sz).sum = (l.map m_sz).sum := by
  induction l with
  | nil => intro k e0 e h _; simp at h
  | cons x l ih =>
    intro k e0 e h hs
    cases k with
    | zero => cases h; simp [hs]
    | succ k =>
      have h' : l[k]? = some e0 := h
      show (m_sz x :: (l.set k e).map m_sz).sum = (m_sz x :: l.map m_sz).sum
      rw [List.sum_cons, List.sum_cons, ih h' hs]
theorem m_slots_w {hp : m_H} {r : Nat} {e0 e : m_E} (h : m_c hp r = some e0) (hs : m_sz e = m_sz e0) : m_slots (m_w hp r e) = m_slots hp := by
  unfold m_c at h
  split at h
  · cases h
  · unfold m_slots m_w
    rw [m_sum_set h hs]
theorem m_cells_w {hp : m_H} {r : Nat} {e : m_E} : m_cells (m_w hp r e) = m_cells hp := by simp [m_cells, m_w]
theorem m_cells_p {hp : m_H} {e : m_E} : m_cells (m_p hp e) = m_cells hp + 1 := by simp [m_cells, m_p]; omega
theorem m_slots_p {hp : m_H} {e : m_E} : m_slots (m_p hp e) = m_slots hp + m_sz e := by simp [m_slots, m_p]; omega
