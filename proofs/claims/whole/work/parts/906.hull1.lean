/-! ===== HULLS: the search, as mathematics ===== -/
def hBIG : Int := 1000000000
def i_p (a : Int) : Int := if 0 ≤ a then a else 0
abbrev hF (L : Nat → Int) : Prop := L 1 ≤ 0 ∧ L 2 ≤ 0 ∧ L 3 ≤ 0 ∧ L 4 ≤ 0 ∧ L 5 ≤ 0
def hV (q : Option (Int × (Nat → Nat))) : Int := match q with
  | none => hBIG
  | some x => x.1
def hU (L : Nat → Int) (l : Nat) (x : Int) (m : Nat) : Int := if m = l then L m - x else L m
def hP (p : Nat → Nat) (i l m : Nat) : Nat := if m = i then l else p m
/-- all ways, in their order; what is better only -/
def hS (H R : Nat → Int) : Nat → Nat → (Nat → Int) → Int → (Nat → Nat) → Option (Int × (Nat → Nat)) → Option (Int × (Nat → Nat))
  | 0, _, L, c, p, q => if hF L ∧ c < hV q then some (c, p) else q
  | j + 1, i, L, c, p, q => sp_it (fun l q => hS H R j (i + 1) (hU L l (H i)) (c + H i * R l) (hP p i l) q) 6 q
/-- the least that is lost -/
def hM (H R : Nat → Int) : Nat → Nat → (Nat → Int) → Int → Int
  | 0, _, L, c => if hF L then i_min c hBIG else hBIG
  | j + 1, i, L, c => sp_it (fun l a => i_min a (hM H R j (i + 1) (hU L l (H i)) (c + H i * R l))) 6 hBIG
theorem i_min_l {a b : Int} : i_min a b ≤ a ∧ i_min a b ≤ b := by
  unfold i_min
  split <;> omega
theorem i_min_g {a b c : Int} (h1 : c ≤ a) (h2 : c ≤ b) : c ≤ i_min a b := by
  unfold i_min
  split <;> omega
theorem sm_le {f : Nat → Int} {B : Int} : ∀ n, sp_it (fun l a => i_min a (f l)) n B ≤ B ∧ ∀ l, l < n → sp_it (fun l a => i_min a (f l)) n B ≤ f l
  | 0 => ⟨Int.le_refl _, fun l h => absurd h (Nat.not_lt_zero l)⟩
  | n + 1 => by
    obtain ⟨a, b⟩ := sm_le (f := f) (B := B) n
    rw [sp_it_s]
    refine ⟨Int.le_trans i_min_l.1 a, fun l hl => ?_⟩
    by_cases q : l = n
    · subst q; exact i_min_l.2
    · exact Int.le_trans i_min_l.1 (b l (by omega))
theorem sm_ge {f : Nat → Int} {B c : Int} (hB : c ≤ B) : ∀ n, (∀ l, l < n → c ≤ f l) → c ≤ sp_it (fun l a => i_min a (f l)) n B
  | 0, _ => hB
  | n + 1, h => by
    rw [sp_it_s]
    exact i_min_g (sm_ge hB n (fun l hl => h l (by omega))) (h n (by omega))
section
variable {H R : Nat → Int}
theorem hM_le : ∀ j i L c, hM H R j i L c ≤ hBIG
  | 0, i, L, c => by
    unfold hM
    split
    · exact i_min_l.2
    · exact Int.le_refl _
  | j + 1, i, L, c => by
    unfold hM
    exact (sm_le 6).1
theorem hM_ge (h : ∀ i l, 0 ≤ H i * R l) : ∀ j i L c, i_min c hBIG ≤ hM H R j i L c
  | 0, i, L, c => by
    unfold hM
    split
    · exact Int.le_refl _
    · exact i_min_l.2
  | j + 1, i, L, c => by
    unfold hM
    refine sm_ge i_min_l.2 6 (fun l _ => Int.le_trans ?_ (hM_ge h j (i + 1) _ _))
    have := h i l
    exact i_min_g (by have := (i_min_l (a := c) (b := hBIG)).1; omega) i_min_l.2
theorem hF_m {L L' : Nat → Int} (h : ∀ l, 1 ≤ l → l ≤ 5 → L' l ≤ L l ∨ L' l ≤ 0) (f : hF L) : hF L' := by
  have a1 := h 1 (by decide) (by decide)
  have a2 := h 2 (by decide) (by decide)
  have a3 := h 3 (by decide) (by decide)
  have a4 := h 4 (by decide) (by decide)
  have a5 := h 5 (by decide) (by decide)
  obtain ⟨f1, f2, f3, f4, f5⟩ := f
  exact ⟨by omega, by omega, by omega, by omega, by omega⟩
theorem hM_m (hH : ∀ i, 0 ≤ H i) : ∀ j i L L' c c', (∀ l, 1 ≤ l → l ≤ 5 → L' l ≤ L l ∨ L' l ≤ 0) → c' ≤ c → hM H R j i L' c' ≤ hM H R j i L c
  | 0, i, L, L', c, c', h, hc => by
    unfold hM
    by_cases f : hF L
    · rw [if_pos f, if_pos (hF_m h f)]
      exact i_min_g (Int.le_trans i_min_l.1 hc) i_min_l.2
    · rw [if_neg f]
      split
      · exact i_min_l.2
      · exact Int.le_refl _
  | j + 1, i, L, L', c, c', h, hc => by
    unfold hM
    refine sm_ge (sm_le 6).1 6 (fun l hl => Int.le_trans ((sm_le 6).2 l hl) (hM_m hH j (i + 1) _ _ _ _ (fun m h1 h2 => ?_) (by omega)))
    have := h m h1 h2
    have := hH i
    unfold hU
    by_cases q : m = l
    · rw [if_pos q, if_pos q]; omega
    · rw [if_neg q, if_neg q]; exact h m h1 h2
theorem hS_le : ∀ j i L c p q, hV q ≤ hBIG → hV (hS H R j i L c p q) ≤ hV q ∧ hV (hS H R j i L c p q) ≤ hM H R j i L c
  | 0, i, L, c, p, q, hq => by
    unfold hS hM
    by_cases f : hF L
    · rw [if_pos f]
      by_cases g : c < hV q
      · rw [if_pos ⟨f, g⟩]
        show c ≤ hV q ∧ c ≤ i_min c hBIG
        exact ⟨by omega, i_min_g (Int.le_refl _) (by omega)⟩
      · rw [if_neg (fun x => g x.2)]
        exact ⟨Int.le_refl _, i_min_g (by omega) hq⟩
    · rw [if_neg f, if_neg (fun x => f x.1)]
      exact ⟨Int.le_refl _, hq⟩
  | j + 1, i, L, c, p, q, hq => by
    unfold hS hM
    have key : ∀ n, hV (sp_it (fun l q => hS H R j (i + 1) (hU L l (H i)) (c + H i * R l) (hP p i l) q) n q) ≤ hV q ∧ hV (sp_it (fun l q => hS H R j (i + 1) (hU L l (H i)) (c + H i * R l) (hP p i l) q) n q) ≤ sp_it (fun l a => i_min a (hM H R j (i + 1) (hU L l (H i)) (c + H i * R l))) n hBIG := by
      intro n
      induction n with
      | zero => exact ⟨Int.le_refl _, hq⟩
      | succ n ih =>
        rw [sp_it_s, sp_it_s]
        obtain ⟨a, b⟩ := hS_le j (i + 1) (hU L n (H i)) (c + H i * R n) (hP p i n) (sp_it (fun l q => hS H R j (i + 1) (hU L l (H i)) (c + H i * R l) (hP p i l) q) n q) (by omega)
        exact ⟨by omega, i_min_g (by omega) b⟩
    exact key 6
theorem hS_id : ∀ j i L c p q, hV q ≤ hM H R j i L c → hS H R j i L c p q = q
  | 0, i, L, c, p, q, h => by
    unfold hM at h
    unfold hS
    by_cases f : hF L
    · rw [if_pos f] at h
      rw [if_neg (fun x => by have := (i_min_l (a := c) (b := hBIG)).1; omega)]
    · rw [if_neg (fun x => f x.1)]
  | j + 1, i, L, c, p, q, h => by
    unfold hM at h
    unfold hS
    have key : ∀ n, n ≤ 6 → sp_it (fun l q => hS H R j (i + 1) (hU L l (H i)) (c + H i * R l) (hP p i l) q) n q = q := by
      intro n
      induction n with
      | zero => intro _; rfl
      | succ n ih =>
        intro hn
        rw [sp_it_s, ih (by omega)]
        exact hS_id j (i + 1) _ _ _ q (Int.le_trans h ((sm_le 6).2 n (by omega)))
    exact key 6 (Nat.le_refl _)
/-- what lacks, what is left of holds -/
def hK (L : Nat → Int) : Int := i_p (L 1) + i_p (L 2) + i_p (L 3) + i_p (L 4) + i_p (L 5)
def hR (H : Nat → Int) (i : Nat) : Nat → Int
  | 0 => 0
  | j + 1 => H i + hR H (i + 1) j
theorem hR_nn (hH : ∀ i, 0 ≤ H i) : ∀ j i, 0 ≤ hR H i j
  | 0, _ => Int.le_refl 0
  | j + 1, i => by
    have := hH i
    have := hR_nn hH j (i + 1)
    show 0 ≤ H i + hR H (i + 1) j
    omega
theorem i_p_U {L : Nat → Int} {l m : Nat} {x : Int} (hx : 0 ≤ x) : i_p (L m) - (if m = l then x else 0) ≤ i_p (hU L l x m) := by
  unfold i_p hU
  by_cases q : m = l
  · rw [if_pos q, if_pos q]
    split <;> split <;> omega
  · rw [if_neg q, if_neg q]
    omega
theorem hK_U {L : Nat → Int} {l : Nat} {x : Int} (hx : 0 ≤ x) : hK L - x ≤ hK (hU L l x) := by
  have a1 := i_p_U (L := L) (l := l) (m := 1) hx
  have a2 := i_p_U (L := L) (l := l) (m := 2) hx
  have a3 := i_p_U (L := L) (l := l) (m := 3) hx
  have a4 := i_p_U (L := L) (l := l) (m := 4) hx
  have a5 := i_p_U (L := L) (l := l) (m := 5) hx
  unfold hK
  by_cases q1 : l = 1
  · subst q1
    rw [if_pos rfl] at a1
    rw [if_neg (by decide)] at a2 a3 a4 a5
    omega
  by_cases q2 : l = 2
  · subst q2
    rw [if_pos rfl] at a2
    rw [if_neg (by decide)] at a1 a3 a4 a5
    omega
  by_cases q3 : l = 3
  · subst q3
    rw [if_pos rfl] at a3
    rw [if_neg (by decide)] at a1 a2 a4 a5
    omega
  by_cases q4 : l = 4
  · subst q4
    rw [if_pos rfl] at a4
    rw [if_neg (by decide)] at a1 a2 a3 a5
    omega
  by_cases q5 : l = 5
  · subst q5
    rw [if_pos rfl] at a5
    rw [if_neg (by decide)] at a1 a2 a3 a4
    omega
  rw [if_neg (by omega)] at a1 a2 a3 a4 a5
  omega
theorem i_p_nn {a : Int} : 0 ≤ i_p a ∧ a ≤ i_p a := by
  unfold i_p
  split <;> omega
theorem hK_F {L : Nat → Int} : hF L ↔ hK L ≤ 0 := by
  have b1 := i_p_nn (a := L 1)
  have b2 := i_p_nn (a := L 2)
  have b3 := i_p_nn (a := L 3)
  have b4 := i_p_nn (a := L 4)
  have b5 := i_p_nn (a := L 5)
  constructor
  · rintro ⟨f1, f2, f3, f4, f5⟩
    have z : ∀ a : Int, a ≤ 0 → i_p a = 0 := by
      intro a ha
      unfold i_p
      split <;> omega
    unfold hK
    rw [z _ f1, z _ f2, z _ f3, z _ f4, z _ f5]
    decide
  · intro h
    unfold hK at h
    exact ⟨by omega, by omega, by omega, by omega, by omega⟩
theorem hM_no (hH : ∀ i, 0 ≤ H i) : ∀ j i L c, hR H i j < hK L → hM H R j i L c = hBIG
  | 0, i, L, c, h => by
    unfold hM
    have h : 0 < hK L := h
    rw [if_neg (fun f => by have := hK_F.mp f; omega)]
  | j + 1, i, L, c, h => by
    have h : H i + hR H (i + 1) j < hK L := h
    refine Int.le_antisymm (hM_le _ _ _ _) ?_
    unfold hM
    refine sm_ge (Int.le_refl _) 6 (fun l _ => ?_)
    rw [hM_no hH j (i + 1) _ _ (by have := hK_U (L := L) (l := l) (hH i); omega)]
    exact Int.le_refl _
/-- the three ways to cut the search short -/
theorem hS_p1 (h : ∀ i l, 0 ≤ H i * R l) {j i : Nat} {L : Nat → Int} {c : Int} {p : Nat → Nat} {q : Option (Int × (Nat → Nat))} (hq : hV q ≤ hBIG) (hc : hV q ≤ c) : hS H R j i L c p q = q :=
  hS_id j i L c p q (Int.le_trans (i_min_g hc hq) (hM_ge h j i L c))
theorem hS_p2 (hH : ∀ i, 0 ≤ H i) {j i : Nat} {L : Nat → Int} {c : Int} {p : Nat → Nat} {q : Option (Int × (Nat → Nat))} (hq : hV q ≤ hBIG) (hk : hR H i j < hK L) : hS H R j i L c p q = q :=
  hS_id j i L c p q (by rw [hM_no hH j i L c hk]; exact hq)
def hW (H R : Nat → Int) (j i : Nat) (L : Nat → Int) (c : Int) (p : Nat → Nat) (q : Option (Int × (Nat → Nat))) (n : Nat) : Option (Int × (Nat → Nat)) := sp_it (fun l q => hS H R j (i + 1) (hU L l (H i)) (c + H i * R l) (hP p i l) q) n q
theorem hW_s {j i : Nat} {L : Nat → Int} {c : Int} {p : Nat → Nat} {q : Option (Int × (Nat → Nat))} {n : Nat} : hW H R j i L c p q (n + 1) = hS H R j (i + 1) (hU L n (H i)) (c + H i * R n) (hP p i n) (hW H R j i L c p q n) := rfl
theorem hW_6 {j i : Nat} {L : Nat → Int} {c : Int} {p : Nat → Nat} {q : Option (Int × (Nat → Nat))} : hS H R (j + 1) i L c p q = hW H R j i L c p q 6 := rfl
theorem hW_le {j i : Nat} {L : Nat → Int} {c : Int} {p : Nat → Nat} {q : Option (Int × (Nat → Nat))} (hq : hV q ≤ hBIG) : ∀ n, hV (hW H R j i L c p q n) ≤ hBIG ∧ (1 ≤ n → hV (hW H R j i L c p q n) ≤ hM H R j (i + 1) (hU L 0 (H i)) (c + H i * R 0))
  | 0 => ⟨hq, fun h => absurd h (by decide)⟩
  | n + 1 => by
    obtain ⟨a, b⟩ := hW_le (j := j) (i := i) (L := L) (c := c) (p := p) hq n
    rw [hW_s]
    obtain ⟨x, y⟩ := hS_le (H := H) (R := R) j (i + 1) (hU L n (H i)) (c + H i * R n) (hP p i n) (hW H R j i L c p q n) a
    refine ⟨by omega, fun _ => ?_⟩
    by_cases z : n = 0
    · subst z; exact y
    · have := b (by omega); omega
theorem hS_p3 (hH : ∀ i, 0 ≤ H i) (hR0 : R 0 = 0) (h : ∀ i l, 0 ≤ H i * R l) {j i : Nat} {L : Nat → Int} {c : Int} {p : Nat → Nat} {q : Option (Int × (Nat → Nat))} (hq : hV q ≤ hBIG) {l : Nat} (hl : 1 ≤ l) (hL : L l ≤ 0) : hW H R j i L c p q (l + 1) = hW H R j i L c p q l := by
  rw [hW_s]
  refine hS_id _ _ _ _ _ _ (Int.le_trans ((hW_le hq l).2 hl) (hM_m hH j (i + 1) _ _ _ _ (fun m h1 h2 => ?_) ?_))
  · unfold hU
    rw [if_neg (show ¬ m = 0 by omega)]
    by_cases z : m = l
    · subst z; exact Or.inr hL
    · rw [if_neg z]; exact Or.inl (Int.le_refl _)
  · have := h i l
    rw [hR0, Int.mul_zero]
    omega
end
