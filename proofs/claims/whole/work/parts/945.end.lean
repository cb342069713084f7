/-! ===== end, fault: both sides ===== -/
section
variable {s s1 : tz_S} {T : Nat → Nat} {n : Nat} {x : Int32}
theorem cz_end (t : tpe s T n) (hn : n ≤ 400) : k_ok (F11_end 200 x (tz_H s)) (fun z => ∃ s', z.2 = tz_H s' ∧ tfe s s' ∧ ((∃ m, x = nI m ∧ m ≤ n ∧ z.1 = 1 ∧ tpe s' T m) ∨ ((¬ ∃ m, x = nI m ∧ m ≤ n) ∧ z.1 = 0 ∧ tpe s' T n))) := by
  unfold F11_end F11_end_0
  refine k_g io_200 (k_if (fun q => ?_) (fun q => ?_))
  · refine k_s ⟨s, rfl, tfe.refl, Or.inr ⟨?_, rfl, t⟩⟩
    rintro ⟨m, rfl, hm⟩
    exact absurd q (nI_pos (by omega))
  · obtain ⟨m, hm, rfl⟩ := nI_of q
    refine k_e gr_200_0 (k_e (gi_201_1.trans (congrArg some t.1)) ?_)
    by_cases h : m ≤ n
    · refine k_t (nI_le h (by omega)) (k_e gr_200_0 (k_e pf_201_1 (k_s ⟨_, rfl, ⟨fun a j q => if_neg q, fun _ _ => rfl, rfl⟩, Or.inl ⟨m, rfl, h, rfl, tz_uf_s, fun j hj => t.2 j (by omega)⟩⟩)))
    · refine k_f (nI_ge (by omega) hm) (k_s ⟨s, rfl, tfe.refl, Or.inr ⟨?_, rfl, t⟩⟩)
      rintro ⟨m', e, hm'⟩
      have := nI_e hm (by omega) e
      omega
theorem rz_end (t : tpr s T n) (hn : n ≤ 400) : k_ok (F12_end 317 x (tz_H s)) (fun z => ∃ s', z.2 = tz_H s' ∧ rfe s s' ∧ s'.1 317 0 = 0 ∧ ((∃ m, x = nI m ∧ m ≤ n ∧ z.1 = 1 ∧ tpr s' T m) ∨ ((¬ ∃ m, x = nI m ∧ m ≤ n) ∧ z.1 = 0 ∧ tpr s' T n))) := by
  have t0 : tpr (tz_uf s 317 0 0) T n := ⟨(rg_uf (by decide)).trans t.1, t.2⟩
  unfold F12_end F12_end_0
  refine k_g io_317 (k_e pf_317_0 (k_if (fun q => ?_) (fun q => ?_)))
  · refine k_s ⟨_, rfl, rfe.uf (Or.inl rfl), tz_uf_s, Or.inr ⟨?_, rfl, t0⟩⟩
    rintro ⟨m, rfl, hm⟩
    exact absurd q (nI_pos (by omega))
  · obtain ⟨m, hm, rfl⟩ := nI_of q
    refine k_e (gi_317_7.trans (congrArg some t0.1)) ?_
    by_cases h : m ≤ n
    · refine k_t (nI_le h (by omega)) (k_e pf_317_7 (k_s ⟨_, rfl, (rfe.uf (Or.inl rfl)).trans (rfe.uf (Or.inr rfl)), (rg_uf (by decide)).trans tz_uf_s, Or.inl ⟨m, rfl, h, rfl, tz_uf_s, fun j hj => t.2 j (by omega)⟩⟩))
    · refine k_f (nI_ge (by omega) hm) (k_s ⟨_, rfl, rfe.uf (Or.inl rfl), tz_uf_s, Or.inr ⟨?_, rfl, t0⟩⟩)
      rintro ⟨m', e, hm'⟩
      have := nI_e hm (by omega) e
      omega
theorem cz_fault : F11_fault 200 (tz_H s) = some (s.1 200 11) := by
  unfold F11_fault F11_fault_0
  rw [io_200, gz_s, gi_200_11, bz_s]
theorem rz_fault : F12_fault 317 (tz_H s) = some (s.1 317 12, tz_H (tz_uf s 317 0 0)) := by
  unfold F12_fault F12_fault_0
  rw [io_317, gz_s, pf_317_0, bz_s, gi_317_12, bz_s, rg_uf (by decide)]
/-- a text is used up: the class's tape is ready to be read -/
theorem cz_useUp (t : tpe s T n) : ∃ s', F9_useUp 201 (tz_H s) = some (tz_H s') ∧ (∀ a k, ¬ (a = 201 ∧ (k = 1 ∨ k = 2)) → s'.1 a k = s.1 a k) ∧ s'.2 = s.2 ∧ s'.1 201 1 = 0 ∧ s'.1 201 2 = nI n := by
  refine ⟨tz_uf (tz_uf s 201 2 (s.1 201 1)) 201 1 0, ?_, fun a k q => ?_, rfl, tz_uf_s, ?_⟩
  · unfold F9_useUp F9_useUp_0
    rw [io_201, gz_s, gi_201_1, bz_s, pf_201_2, bz_s, pf_201_1, bz_s]
  · show (if a = 201 ∧ k = 1 then _ else if a = 201 ∧ k = 2 then _ else s.1 a k) = _
    rw [if_neg (fun z => q ⟨z.1, Or.inl z.2⟩), if_neg (fun z => q ⟨z.1, Or.inr z.2⟩)]
  · exact (tz_uf_n (by decide)).trans (tz_uf_s.trans t.1)
/-- the reference's too -/
theorem rz_uses (t : tpr s T n) : ∃ s', F12_uses 317 (tz_H s) = some (tz_H s') ∧ (∀ a k, ¬ (a = 317 ∧ (k = 0 ∨ k = 7 ∨ k = 8 ∨ k = 9)) → s'.1 a k = s.1 a k) ∧ s'.2 = s.2 ∧ s'.1 317 7 = 0 ∧ rgt s' T n ∧ s'.1 317 8 = nI 0 := by
  refine ⟨tz_uf (tz_uf (tz_uf (tz_uf s 317 0 0) 317 9 (nI n)) 317 7 0) 317 8 0, ?_, fun a k q => ?_, rfl, (rg_uf (by decide)).trans tz_uf_s, ⟨(rg_uf (by decide)).trans ((rg_uf (by decide)).trans ((rg_uf (by decide)).trans tz_uf_s)), (rg_uf (by decide)).trans ((rg_uf (by decide)).trans tz_uf_s), t.2⟩, tz_uf_s⟩
  · unfold F12_uses F12_uses_0
    rw [io_317, gz_s, pf_317_0, bz_s, gi_317_7, bz_s, rg_uf (by decide), t.1, pf_317_9, bz_s, pf_317_7, bz_s, pf_317_8, bz_s]
  · show (if a = 317 ∧ k = 8 then _ else if a = 317 ∧ k = 7 then _ else if a = 317 ∧ k = 9 then _ else if a = 317 ∧ k = 0 then _ else s.1 a k) = _
    rw [if_neg (fun z => q ⟨z.1, Or.inr (Or.inr (Or.inl z.2))⟩), if_neg (fun z => q ⟨z.1, Or.inr (Or.inl z.2)⟩), if_neg (fun z => q ⟨z.1, Or.inr (Or.inr (Or.inr z.2))⟩), if_neg (fun z => q ⟨z.1, Or.inl z.2⟩)]
end
