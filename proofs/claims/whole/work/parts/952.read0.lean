/-! ===== a text: the class reads, whatever its tape's places were ===== -/
section
variable {s0 s : tz_S} {W : m_W} {T : Nat → Nat} {n : Nat}
theorem uf_twice : tz_uf (tz_uf (tz_uf (tz_uf s 201 3 0) 201 7 0) 201 3 0) 201 7 0 = tz_uf (tz_uf s 201 3 0) 201 7 0 := by
  have e : (tz_uf (tz_uf (tz_uf (tz_uf s 201 3 0) 201 7 0) 201 3 0) 201 7 0).1 = (tz_uf (tz_uf s 201 3 0) 201 7 0).1 := by
    funext a k
    show (if a = 201 ∧ k = 7 then (0 : Int32) else if a = 201 ∧ k = 3 then 0 else if a = 201 ∧ k = 7 then 0 else if a = 201 ∧ k = 3 then 0 else s.1 a k) = (if a = 201 ∧ k = 7 then 0 else if a = 201 ∧ k = 3 then 0 else s.1 a k)
    by_cases q : a = 201 ∧ k = 7
    · rw [if_pos q, if_pos q]
    · rw [if_neg q, if_neg q]
      by_cases q3 : a = 201 ∧ k = 3
      · rw [if_pos q3, if_pos q3]
      · rw [if_neg q3, if_neg q3]
  exact Prod.ext e rfl
theorem split_eq : F9_split 201 (tz_H s) = F9_split 201 (tz_H (tz_uf (tz_uf s 201 3 0) 201 7 0)) := by
  unfold F9_split F9_split_0
  rw [io_201, gz_s, io_201, gz_s, pf_201_3, bz_s, pf_201_7, bz_s, pf_201_3, bz_s, pf_201_7, bz_s, uf_twice]
theorem cz_read2 (H : tz_HR s 223 W) (b : tz_fr s0 s) (d1 : s.1 201 2 = nI n) (d2 : ∀ j, j < n → s.2.1 202 j = nI (T j)) (hn : n ≤ 400) (hT : ∀ j, j < n → T j < 256) : k_ok (F7_read 206 (tz_H s)) (fun h' => ∃ m, gK T n m ∧ gLR s0 W T n m (gText T n) h') := by
  unfold F7_read F7_read_0
  refine k_g io_206 (k_e pf_206_7 (k_e pf_206_9 (k_e pf_206_3 (k_e gr_206_0 ?_))))
  have b1 : tz_fr s0 (tz_uf (tz_uf (tz_uf s 206 7 0) 206 9 0) 206 3 (-1)) := pr_fr (pr_fr (pr_fr b))
  have u1 : ∀ (s : tz_S) k v j, (tz_uf s 206 k v).1 201 j = s.1 201 j := fun s k v j => uf_201
  have u2 : ∀ (s : tz_S) k v j, (tz_uf s 201 k v).1 206 j = s.1 206 j := fun s k v j => (show (if 206 = 201 ∧ j = k then v else s.1 206 j) = s.1 206 j from if_neg (fun z => absurd z.1 (by decide)))
  obtain ⟨s', es⟩ : ∃ s', tz_uf (tz_uf (tz_uf s 206 7 0) 206 9 0) 206 3 (-1) = s' := ⟨_, rfl⟩
  rw [es] at b1 ⊢
  have H' : tz_HR s' 223 W := by rw [← es]; exact pr_HR (pr_HR (pr_HR H))
  have d1' : s'.1 201 2 = nI n := by rw [← es, u1, u1, u1]; exact d1
  have d2' : ∀ j, j < n → s'.2.1 202 j = nI (T j) := by rw [← es]; exact d2
  have c3 : s'.1 206 3 = -1 := by rw [← es]; exact tz_uf_s
  have c9 : s'.1 206 9 = 0 := by rw [← es]; exact (tz_uf_n (by decide)).trans tz_uf_s
  have c7 : s'.1 206 7 = 0 := by rw [← es]; exact (tz_uf_n (by decide)).trans ((tz_uf_n (by decide)).trans tz_uf_s)
  have fr1 : tz_fr s' (tz_uf (tz_uf s' 201 3 0) 201 7 0) := (tz_fr.uf (by decide) (by decide) (by decide)).trans (tz_fr.uf (by decide) (by decide) (by decide))
  have HH : tz_HR (tz_uf (tz_uf s' 201 3 0) 201 7 0) 223 W := (H'.cong (fun y j h1 _ => if_neg (by omega)) (fun _ _ _ => rfl) rfl rfl : tz_HR (tz_uf s' 201 3 0) 223 W).cong (fun y j h1 _ => if_neg (by omega)) (fun _ _ _ => rfl) rfl rfl
  have P1 : tp (tz_uf (tz_uf s' 201 3 0) 201 7 0) W T n 0 0 (tz_H (tz_uf (tz_uf s' 201 3 0) 201 7 0)) := ⟨_, rfl, HH, ⟨tz_fr.refl, fun _ => rfl⟩, (tz_uf_n (by decide)).trans ((tz_uf_n (by decide)).trans d1'), d2', (tz_uf_n (by decide)).trans tz_uf_s, tz_uf_s, fun i hi => absurd hi (Nat.not_lt_zero i)⟩
  rw [split_eq]
  refine k_b (tp_split P1 hn hT) ?_
  rintro h2 ⟨m, p2, C, s2, rfl, H2, b2, f1, f2, f3, f4, f5⟩
  have K : gK T n m := ⟨C, hn, hT⟩
  have t2 : pr_t s2 T n m := ⟨f1, f4, f5⟩
  have bb : tz_fr s0 s2 := (b1.trans fr1).trans b2.1
  obtain ⟨v, ev, hv⟩ := pr_look H2 bb t2 C hn (x := 0)
  refine k_e ev ?_
  have hv0 := hv 0 rfl (by decide)
  have e3 : s2.1 206 3 = -1 := (b2.2 3).trans (by rw [u2, u2]; exact c3)
  have e9 : s2.1 206 9 = 0 := (b2.2 9).trans (by rw [u2, u2]; exact c9)
  have e7 : s2.1 206 7 = 0 := (b2.2 7).trans (by rw [u2, u2]; exact c7)
  exact k_m (cz_read29 K (Y := (0, fun _ => (0, 0, 0))) (i := 0) (c := []) ⟨_, rfl, pr_HR (pr_HR H2), pr_fr (pr_fr bb), t2.uf.uf, (tz_uf_n (by decide)).trans tz_uf_s, tz_uf_s.trans hv0, (tz_uf_n (by decide)).trans ((tz_uf_n (by decide)).trans e3), ⟨(tz_uf_n (by decide)).trans ((tz_uf_n (by decide)).trans e9), fun j hj => absurd hj (Nat.not_lt_zero j)⟩, ⟨(tz_uf_n (by decide)).trans ((tz_uf_n (by decide)).trans e7), fun j hj => absurd hj (Nat.not_lt_zero j)⟩⟩ (Nat.zero_le _) (Nat.zero_le _) rfl) (fun h3 R => ⟨m, K, R⟩)
end
