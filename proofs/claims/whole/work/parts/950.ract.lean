/-! ===== act: the reference, whole ===== -/
def sp_act (W : m_W) (t : Nat) (x1 x2 : Int32) (D : Nat → Int32) : m_W := sp_txr (wz_up W 37 0 0 (nI (t + 1))) t x1 x2 D
def rz_A (s : tz_S) (W : m_W) (T : Nat → Nat) (n t : Nat) (x : Int32) (z : Int32 × m_H) : Prop := ∃ s', z.2 = tz_H s' ∧ s'.1 317 7 = 0 ∧ s'.2.1 321 = s.2.1 321 ∧
  ((¬ (W 14 0 0 ≤ x ∧ x ≤ 500) ∧ z.1 = 0 ∧ s'.1 317 0 = 1 ∧ s'.1 317 12 = s.1 317 12 ∧ tz_WR s' 318 W) ∨
   ((W 14 0 0 ≤ x ∧ x ≤ 500) ∧ ∃ e, gText T n = .inr e ∧ z.1 = 0 ∧ s'.1 317 0 = 1 ∧ s'.1 317 12 = nI e ∧ tz_WR s' 318 W) ∨
   ((W 14 0 0 ≤ x ∧ x ≤ 500) ∧ ∃ q c Y, gText T n = .inl (q, c, Y) ∧ t = 10 ∧ z.1 = 0 ∧ s'.1 317 0 = 2 ∧ s'.1 317 12 = -1 ∧ tz_WR s' 318 W) ∨
   ((W 14 0 0 ≤ x ∧ x ≤ 500) ∧ ∃ q c Y D, gText T n = .inl (q, c, Y) ∧ t < 10 ∧ z.1 = nI Y.1 ∧ s'.1 317 0 = 0 ∧ s'.1 317 12 = -1 ∧ tx_R (fun j => if j = 0 then x else if j = 1 then nI Y.1 else D j) c Y ∧ tz_WR s' 318 (sp_act W t x (nI Y.1) D)))
section
variable {s : tz_S} {W : m_W} {T : Nat → Nat} {n t : Nat} {x : Int32}
theorem th_1 {s : tz_S} {c : Int32} : F12_throwsIf 317 1 c (tz_H s) = some (1, tz_H (tz_uf s 317 0 c)) := by
  unfold F12_throwsIf F12_throwsIf_0
  rw [io_317, gz_s, iz_f (by decide), pf_317_0, bz_s, show m_rok .boolean 1 = true from rfl, gz_s]
theorem th_0 {s : tz_S} {c : Int32} : F12_throwsIf 317 0 c (tz_H s) = some (0, tz_H s) := by
  unfold F12_throwsIf F12_throwsIf_0
  rw [io_317, gz_s, iz_t rfl, show m_rok .boolean 0 = true from rfl, gz_s]
theorem rz_act90 (H : tz_WR s 318 W) (ht : t < 10) (hW : W 37 0 0 = nI t) {x2 : Int32} : k_ok (F12_act_90 317 x x2 0 317 (tz_H s)) (fun z => ∃ s', z = (x2, tz_H s') ∧ tz_WR s' 318 (sp_act W t x x2 (fun j => s.2.1 318 (36827 + j))) ∧ s'.1 = s.1 ∧ (∀ a, ¬ a = 318 → s'.2.1 a = s.2.1 a) ∧ s'.2.2 = s.2.2) := by
  have v37 : wz_v 37 0 0 := ⟨by decide, by decide, by decide⟩
  have e37 : wz_ix 37 0 0 = 28326 := rfl
  have r : ∀ s1 : tz_S, tz_WR s1 318 W → m_ai (tz_H s1) 0 318 (nI 28326) = some (nI t) := fun s1 H1 => (dr_ai (by decide)).trans (congrArg some ((H1 37 0 0 v37).trans hW))
  unfold F12_act_90
  refine k_e th_0 (k_t rfl (k_e gr_317_1 (k_e (r s H) (k_e gr_317_1 (k_e (r s H) ?_)))))
  rw [nI_11]
  refine k_e (dr_si (x := 28326) (by decide)) ?_
  have H2 : tz_WR (dru s 28326 (nI (t + 1))) 318 (wz_up W 37 0 0 (nI (t + 1))) := WR_ui (k := 37) (r := 0) (c := 0) H v37
  refine k_m (rz_copyt H2 ht) ?_
  rintro _ ⟨s', rfl, H3, f1, f2, f3⟩
  refine ⟨s', rfl, ?_, f1, fun a q => (f2 a q).trans (tz_ui_n q), f3⟩
  have eD : (fun j => (dru s 28326 (nI (t + 1))).2.1 318 (36827 + j)) = (fun j => s.2.1 318 (36827 + j)) := funext fun j => dru_n (by omega)
  rw [eD] at H3
  exact H3
end
