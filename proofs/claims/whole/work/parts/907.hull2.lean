/-! ===== HULLS: the class searches ===== -/
def hz_C (s0 : tz_S) (W : m_W) (k : Nat) (H R : Nat → Int) (D : Nat → Nat) (L : Nat → Int) (p : Nat → Nat) (i : Nat) (q : Option (Int × (Nat → Nat))) (h : m_H) : Prop :=
  ∃ s, h = tz_H s ∧ tz_HR s 223 W ∧ tz_fr s0 s ∧ s.1 216 6 = nI k ∧ (∀ m, m < k → (s.2.1 218 m).toInt = H m) ∧ (∀ l, l < 6 → (s.2.1 221 l).toInt = R l) ∧ (∀ l, l < 6 → (s.2.1 222 l).toInt = L l) ∧ (∀ m, m < i → s.2.1 219 m = nI (p m)) ∧ (∀ m, m < k → s.2.1 217 m = nI (D m)) ∧ (s.1 216 7).toInt = hV q ∧ ∀ x, q = some x → ∀ m, m < k → s.2.1 220 m = nI (x.2 m)
def hT (L : Nat → Int) (l : Nat) (x : Int) (m : Nat) : Int := if m = l then x else L m
theorem hU_T {L : Nat → Int} {l : Nat} {x : Int} : hU L l x = hT L l (L l - x) := by
  funext m
  show (if m = l then L m - x else L m) = if m = l then L l - x else L m
  by_cases q : m = l
  · rw [if_pos q, if_pos q, q]
  · rw [if_neg q, if_neg q]
theorem hT_U {L : Nat → Int} {l : Nat} {x : Int} : hT (hU L l x) l (L l) = L := by
  funext m
  show (if m = l then L l else if m = l then L m - x else L m) = L m
  by_cases q : m = l
  · rw [if_pos q, q]
  · rw [if_neg q, if_neg q]
theorem i_mulb {a b : Int32} {A B : Int} (ha : 0 ≤ a.toInt) (hb : 0 ≤ b.toInt) (ha2 : a.toInt ≤ A) (hb2 : b.toInt ≤ B) (hAB : A * B < 2147483648) : (a * b).toInt = a.toInt * b.toInt ∧ 0 ≤ a.toInt * b.toInt ∧ a.toInt * b.toInt ≤ A * B := by
  have h0 : 0 ≤ a.toInt * b.toInt := Int.mul_nonneg ha hb
  have h1 : a.toInt * b.toInt ≤ A * B := Int.mul_le_mul ha2 hb2 hb (by omega)
  refine ⟨?_, h0, h1⟩
  rw [Int32.toInt_mul]
  exact Int.bmod_eq_of_le (by omega) (by omega)
section
variable {s0 : tz_S} {W : m_W} {k : Nat} {H R : Nat → Int} {D : Nat → Nat} {L : Nat → Int} {p : Nat → Nat} {i : Nat} {q : Option (Int × (Nat → Nat))} {h : m_H}
theorem hz_C.N (C : hz_C s0 W k H R D L p i q h) : cz_N s0 W h := by
  obtain ⟨s, e, a, b, -⟩ := C
  exact ⟨s, e, a, b⟩
theorem hz_C.ho (C : hz_C s0 W k H R D L p i q h) (hk : k ≤ 6) {m : Nat} (hm : m < k) : ∃ v, m_ai h 0 218 (nI m) = some v ∧ v.toInt = H m := by
  obtain ⟨s, rfl, a, b, c1, c2, -⟩ := C
  exact ⟨_, (tz_ai sh_218 ⟨rfl, rfl⟩ (nI_in1 (show m < 6 by omega) (by decide))).trans (by rw [nI_clamp (by omega)]), c2 m hm⟩
theorem hz_C.r (C : hz_C s0 W k H R D L p i q h) {m : Nat} (hm : m < 6) : ∃ v, m_ai h 0 221 (nI m) = some v ∧ v.toInt = R m := by
  obtain ⟨s, rfl, a, b, c1, c2, c3, -⟩ := C
  exact ⟨_, (tz_ai sh_221 ⟨rfl, rfl⟩ (nI_in1 hm (by decide))).trans (by rw [nI_clamp (by omega)]), c3 m hm⟩
theorem hz_C.l (C : hz_C s0 W k H R D L p i q h) {m : Nat} (hm : m < 6) : ∃ v, m_ai h 0 222 (nI m) = some v ∧ v.toInt = L m := by
  obtain ⟨s, rfl, a, b, c1, c2, c3, c4, -⟩ := C
  exact ⟨_, (tz_ai sh_222 ⟨rfl, rfl⟩ (nI_in1 hm (by decide))).trans (by rw [nI_clamp (by omega)]), c4 m hm⟩
theorem hz_C.cn (C : hz_C s0 W k H R D L p i q h) : m_gi h 216 4 6 = some (nI k) := by
  obtain ⟨s, rfl, a, b, c1, -⟩ := C
  rw [gi_216_6, c1]
theorem hz_C.v (C : hz_C s0 W k H R D L p i q h) : ∃ v, m_gi h 216 4 7 = some v ∧ v.toInt = hV q := by
  obtain ⟨s, rfl, a, b, c1, c2, c3, c4, c5, c6, c7, -⟩ := C
  exact ⟨_, gi_216_7, c7⟩
theorem hz_HRi {s : tz_S} {a : Nat} {f : Nat → Int32} (H : tz_HR s 223 W) (h : a < 223) : tz_HR (tz_ui s a f) 223 W :=
  H.cong (fun _ _ _ _ => rfl) (fun x h1 _ => if_neg (by omega)) rfl rfl
theorem hz_C.goal (C : hz_C s0 W k H R D L p i q h) (hi : i < 6) {l : Nat} : k_ok (m_si h 0 219 (nI i) (nI l)) (hz_C s0 W k H R D L (hP p i l) (i + 1) q) := by
  obtain ⟨s, rfl, a, b, c1, c2, c3, c4, c5, c6, c7, c8⟩ := C
  have hx : ∀ x, ¬ x = 219 → (tz_ui s 219 (upd (s.2.1 219) i (nI l))).2.1 x = s.2.1 x := fun x h => tz_ui_n h
  refine ⟨_, (tz_si sh_219 ⟨rfl, rfl⟩ (nI_in1 hi (by decide))).trans (by rw [nI_clamp (by omega)]; rfl), tz_ui s 219 (upd (s.2.1 219) i (nI l)), rfl, hz_HRi a (by decide), b.trans (tz_fr.ui (by decide) (by decide) (by decide)), c1, fun m hm => ?_, fun m hm => ?_, fun m hm => ?_, fun m hm => ?_, fun m hm => ?_, c7, fun x e m hm => ?_⟩
  · rw [hx _ (by decide)]; exact c2 m hm
  · rw [hx _ (by decide)]; exact c3 m hm
  · rw [hx _ (by decide)]; exact c4 m hm
  · rw [tz_ui_a]
    unfold hP
    by_cases z : m = i
    · subst z; rw [pk_us, if_pos rfl]
    · rw [pk_un z, if_neg z]; exact c5 m (by omega)
  · rw [hx _ (by decide)]; exact c6 m hm
  · rw [hx _ (by decide)]; exact c8 x e m hm
theorem hz_C.lack (C : hz_C s0 W k H R D L p i q h) {l : Nat} (hl : l < 6) {v : Int32} {x : Int} (hv : v.toInt = x) : k_ok (m_si h 0 222 (nI l) v) (hz_C s0 W k H R D (hT L l x) p i q) := by
  obtain ⟨s, rfl, a, b, c1, c2, c3, c4, c5, c6, c7, c8⟩ := C
  have hx : ∀ x, ¬ x = 222 → (tz_ui s 222 (upd (s.2.1 222) l v)).2.1 x = s.2.1 x := fun x h => tz_ui_n h
  refine ⟨_, (tz_si sh_222 ⟨rfl, rfl⟩ (nI_in1 hl (by decide))).trans (by rw [nI_clamp (by omega)]; rfl), tz_ui s 222 (upd (s.2.1 222) l v), rfl, hz_HRi a (by decide), b.trans (tz_fr.ui (by decide) (by decide) (by decide)), c1, fun m hm => ?_, fun m hm => ?_, fun m hm => ?_, fun m hm => ?_, fun m hm => ?_, c7, fun x e m hm => ?_⟩
  · rw [hx _ (by decide)]; exact c2 m hm
  · rw [hx _ (by decide)]; exact c3 m hm
  · rw [tz_ui_a]
    unfold hT
    by_cases z : m = l
    · subst z; rw [pk_us, if_pos rfl]; exact hv
    · rw [pk_un z, if_neg z]; exact c4 m hm
  · rw [hx _ (by decide)]; exact c5 m hm
  · rw [hx _ (by decide)]; exact c6 m hm
  · rw [hx _ (by decide)]; exact c8 x e m hm
theorem hz_C.cut (C : hz_C s0 W k H R D L p (i + 1) q h) : hz_C s0 W k H R D L p i q h := by
  obtain ⟨s, rfl, a, b, c1, c2, c3, c4, c5, c6⟩ := C
  exact ⟨s, rfl, a, b, c1, c2, c3, c4, fun m hm => c5 m (by omega), c6⟩
theorem hz_C.unP {l : Nat} (C : hz_C s0 W k H R D L (hP p i l) i q h) : hz_C s0 W k H R D L p i q h := by
  obtain ⟨s, rfl, a, b, c1, c2, c3, c4, c5, c6⟩ := C
  exact ⟨s, rfl, a, b, c1, c2, c3, c4, fun m hm => (c5 m hm).trans (by unfold hP; rw [if_neg (by omega)]), c6⟩
theorem cz_lacking (C : hz_C s0 W k H R D L p i q h) (hL : ∀ l, l < 6 → -30000 ≤ L l ∧ L l ≤ 100000) : ∃ v, F4_lacking 216 h = some v ∧ v.toInt = hK L := by
  unfold F4_lacking F4_lacking_0 F4_lacking_4
  rw [nz_io216 C.N, gz_s]
  have P : k_ok (m_wh (fun s => F4_lacking_4b 216 h s) m_N (0, 1)) (fun v => v.toInt = hK L) := by
    refine wh_i (n := 5) (fun (i : Nat) (z : Int32 × Int32) => z.2 = nI (i + 1) ∧ z.1.toInt = sp_it (fun l a => a + i_p (L (l + 1))) i 0 ∧ 0 ≤ z.1.toInt ∧ z.1.toInt ≤ 100000 * i) _ ?_ ?_ m_N 0 _ (N_lt (by decide)) (Nat.zero_le _) ⟨rfl, rfl, by decide, by decide⟩
    · rintro i ⟨a, y⟩ hi ⟨q1, q2, q3, q4⟩
      dsimp only at q1 q2 q3 q4
      subst q1
      obtain ⟨v, ev, hv⟩ := C.l (m := i + 1) (by omega)
      have b := hL (i + 1) (by omega)
      unfold F4_lacking_4b
      dsimp only
      refine k_e (nz_gr216_5 C.N) (k_e (nz_le222 C.N) (k_f (i6f (by omega)) (k_e (nz_gr216_5 C.N) (k_e ev (k_s ?_)))))
      have m : (m_max 0 v).toInt = i_p (L (i + 1)) := by
        rw [i_max, hv]
        unfold i_p
        have : (0 : Int32).toInt = 0 := rfl
        rw [this]
        split <;> split <;> omega
      have b2 : 0 ≤ i_p (L (i + 1)) ∧ i_p (L (i + 1)) ≤ 100000 := by unfold i_p; split <;> omega
      have s : (a + m_max 0 v).toInt = a.toInt + i_p (L (i + 1)) := by rw [i_add (by rw [m]; omega) (by rw [m]; omega), m]
      refine ⟨(nI_succ _).symm, ?_, by rw [s]; omega, by rw [s]; omega⟩
      rw [s, q2]
      rfl
    · rintro ⟨a, y⟩ ⟨q1, q2, q3, q4⟩
      dsimp only at q1 q2 q3 q4
      subst q1
      unfold F4_lacking_4b
      dsimp only
      refine k_e (nz_gr216_5 C.N) (k_e (nz_le222 C.N) (k_t i6t (k_s ?_)))
      show a.toInt = hK L
      rw [q2]
      show 0 + i_p (L 1) + i_p (L 2) + i_p (L 3) + i_p (L 4) + i_p (L 5) = hK L
      unfold hK
      omega
  obtain ⟨v, e, hv⟩ := P
  exact ⟨v, e, hv⟩
theorem cz_send43 (C : hz_C s0 W k H R D L p k q h) (hk : k ≤ 6) {A : Nat → Int32 → Int32 → Int32 → m_H → Option m_H} {c : Int} {x : Int32} (hx : x.toInt = c) : k_ok (F4_send_43 A 216 x h) (hz_C s0 W k H R D L p k (some (c, p))) := by
  obtain ⟨s, rfl, a, b, c1, c2, c3, c4, c5, c6, c7, c8⟩ := C
  have N : cz_N s0 W (tz_H (tz_uf s 216 7 x)) := ⟨_, rfl, a.cong (fun y j h1 _ => if_neg (by omega)) (fun _ _ _ => rfl) rfl rfl, b.trans (tz_fr.uf (by decide) (by decide) (by decide))⟩
  unfold F4_send_43
  refine k_e pf_216_7 (k_e (nz_gr216_2 N) (k_e (nz_gr216_3 N) (k_e (nz_gr216_2 N) (k_e (nz_le219 N) (k_e (nz_gr216_3 N) (k_e (nz_le220 N) ?_))))))
  rw [show m_min 6 6 = 6 from rfl]
  refine k_e (tz_cpy (n := 6) sh_219 sh_220 (by decide) (by decide) (by decide)) (k_s ?_)
  have hx0 : ∀ x', ¬ x' = 220 → (tz_ui (tz_uf s 216 7 x) 220 (va_cpy ((tz_uf s 216 7 x).2.1 219) ((tz_uf s 216 7 x).2.1 220) 0 0 (Int32.toNatClampNeg 6))).2.1 x' = s.2.1 x' := fun x' h => tz_ui_n h
  refine ⟨_, rfl, ?_, b.trans ((tz_fr.uf (by decide) (by decide) (by decide)).trans (tz_fr.ui (by decide) (by decide) (by decide))), ?_, fun m hm => ?_, fun m hm => ?_, fun m hm => ?_, fun m hm => ?_, fun m hm => ?_, ?_, fun y e m hm => ?_⟩
  · exact hz_HRi (a.cong (fun y j h1 _ => if_neg (by omega)) (fun _ _ _ => rfl) rfl rfl) (by decide)
  · exact (tz_uf_n (s := s) (a := 216) (k := 7) (j := 6) (v := x) (by decide)).trans c1
  · rw [hx0 _ (by decide)]; exact c2 m hm
  · rw [hx0 _ (by decide)]; exact c3 m hm
  · rw [hx0 _ (by decide)]; exact c4 m hm
  · rw [hx0 _ (by decide)]; exact c5 m hm
  · rw [hx0 _ (by decide)]; exact c6 m hm
  · show ((tz_uf s 216 7 x).1 216 7).toInt = c
    rw [tz_uf_s]
    exact hx
  · cases e
    rw [tz_ui_a]
    unfold va_cpy
    rw [if_pos ⟨by omega, by show m < 0 + 6; omega⟩, Nat.sub_zero, Nat.zero_add]
    exact c5 m hm
end
