/-! ===== m_: exceptions thrown; calls ===== -/
theorem m_junk_c (hp : m_H) : m_cells (m_junk hp) = m_cells hp + 1 := by simp [m_cells, m_junk]; omega
theorem m_junk_s (hp : m_H) : m_slots (m_junk hp) = m_slots hp + 6 := by simp [m_slots, m_junk]; omega
theorem m_Hr.junk {ex : Nat → Nat} {tys : List (ClassId × FieldType)} {hp : m_H} {ws : va_W} (h : m_Hr ex tys hp ws) : m_Hr ex tys (m_junk hp) ws := h
theorem m_fitX : ∀ n ∈ m_nmsX, Bundle.fit n = true := by decide +kernel
theorem m_fitE (E : Nat) (h : E < 5) : Bundle.fit (m_en E) = true := by
  match E, h with
  | 0, _ => decide +kernel
  | 1, _ => decide +kernel
  | 2, _ => decide +kernel
  | 3, _ => decide +kernel
  | 4, _ => decide +kernel
  | n + 5, h => omega
theorem m_xr0 {E : Nat} : decode (m_xr E) 0 = .ok (.aload_n 0, 1) := by
  unfold m_xr
  split <;> decide +kernel
theorem m_xr1 {E : Nat} : decode (m_xr E) 1 = .ok (.aload_n 1, 1) := by
  unfold m_xr
  split <;> decide +kernel
theorem m_xr2 (E : Nat) : decode (m_xr E) 2 = .ok (.invokespecial (m_xi E), 3) := by
  unfold m_xr m_xi
  split <;> decide +kernel
theorem m_xr5 {E : Nat} : decode (m_xr E) 5 = .ok (.return_, 1) := by
  unfold m_xr
  split <;> decide +kernel
section MT
variable {l : Launch} {dC : Nat → ClassId} {dI : Nat → Nat → Nat} {tys : List (ClassId × FieldType)} {ex : Nat → Nat} {sl : Nat → List Int32} {B0 L : Nat} {xs : Nat → Int32} {strs : List (String × Nat × String × Nat)} {Z : m_PR}
theorem m_thr_ok {i pc k E d : Nat} {st : List Value} {hp hp0 : m_H} (hlt : l.stackTraces = false) (hd : decode (Z.2.2 i) pc = .ok (.new k, 3)) (hno : (Z.1 i).2.2.2.2.2.1 = []) (hok : m_tok strs (Z.2.1 i).cls (Z.2.2 i) k E pc) (hcat : m_cat st ≤ 8)
    {p : Program} {e : Env} {R : Room} {s : State} {m : MethodId} {args : Array Value} {below : List Frame} {meth : Method} {c : Code} {H : Heap} {locs : List Loc} {cells slots : Nat} {ls : Array Slot} {vs : List Value} {ws0 ws : va_W}
    (hd7 : 7 ≤ d) (hR1 : R.frames = d) (hR2 : R.locals = 41 * d) (hR3 : R.cells + m_cells hp0 = m_cells (m_junk hp)) (hR4 : R.slots + m_slots hp0 = m_slots (m_junk hp))
    (hF : m_Fx l dC dI tys ex sl B0 L xs strs Z i p s m args meth c) (hls : ls.size = (Z.1 i).2.2.1) (hv : m_Vs (m_ad ex ws) st vs) (hh : m_Rh s dC dI tys ex B0 (m_cells hp0) (m_slots hp0) ws0 hp H locs cells slots ws) :
    W p l e R s m args below meth c H locs cells slots (vx_MQ below (m_Qc dC dI tys ex B0 ws0 (.inr E) (m_junk hp)) (m_XC dC dI tys ex B0 ws0 (.inr E) (m_junk hp)) args s (m_cells (m_junk hp) - m_cells hp0) (m_slots (m_junk hp) - m_slots hp0) (fun q => B0 ≤ q)) (F0 m pc ls vs) := by
  obtain ⟨⟨hx, hb, hml, hown, hts, hnt⟩, hW, hX, hr, hlk, hnm, htb⟩ := hF
  obtain ⟨q1, q2, q3, q4, q5, q6, q7⟩ := hh
  obtain ⟨hE, is, ic, id, tx, hstr, hcl, hini, hat, hgood, d3, hd4⟩ := hok
  rw [m_junk_c] at hR3 ⊢
  rw [m_junk_s] at hR4 ⊢
  have hcat2 := m_cat_le hv hcat
  have hat' : ∀ w ∈ m_atX (Z.2.1 i).cls ic (m_en E) (m_xi E) (m_xr E) m_nmsX, w.before args s = true := by
    intro w hw
    rcases hat w hw with h | h
    · exact hts w h
    · have h9 := (List.mem_filter.mp h).2
      refine va_Nw.use ?_ (hnt w h)
      unfold m_isN at h9
      split at h9
      · rfl
      · rfl
      · rfl
      · cases h9
  have hU := hW.2.2.2.2.2.2.2.2.2.2.2.1
  have hN := hW.2.2.2.2.2.2.2.2.2.2.2.2
  have hout : ∀ (n : Nat), ∀ x ∈ c.exceptionTable.toList, covers x n = false := by
    intro n x hx
    rw [htb] at hx
    simp [m_hh, hno, tableOf] at hx
  have hxx : ∀ t : State, s.vm.Alike t.vm → H.size ≤ t.heap.size → (∀ q : Nat, q < H.size → t.heap[q]? = H[q]?) → m_XC dC dI tys ex B0 ws0 (.inr E) (m_junk hp) (m_en E) s t := by
    intro t _ hz hk
    refine ⟨⟨E, rfl, hE, rfl, ws, q1.junk, q2.kept (fun k x hx => hk x.1 (q2 k x hx).lt), q3, q7⟩, Nat.le_trans q4.1 hz, fun q h1 h2 => ?_⟩
    rw [hk q (Nat.lt_of_lt_of_le h1 q4.1)]
    exact q4.2.1 q h1 h2
  have hn : m_nmsX.length = 2 := rfl
  rcases hd4 with ⟨d4, d6, d9⟩ | ⟨d4, d6, d9⟩
  · exact m_throwS m_xr0 m_xr1 (m_xr2 E) m_xr5 (names := m_nmsX) hx hb hlt hown (m_fitE E hE) m_fitX (hts _ hcl) (hts _ hini) (hW.2.2.2.2.2.2.1 _ hstr).1 hat' hgood hU hN q4 (by rw [hls, hml]) hd d3 d4 d6 d9 (hout _) (by omega) (by omega) (by omega) (by omega) hlk hxx q4.2.2 (by omega) (by omega)
  · exact m_throwSW m_xr0 m_xr1 (m_xr2 E) m_xr5 (names := m_nmsX) hx hb hlt hown (m_fitE E hE) m_fitX (hts _ hcl) (hts _ hini) (hW.2.2.2.2.2.2.1 _ hstr).1 hat' hgood hU hN q4 (by rw [hls, hml]) hd d3 d4 d6 d9 (hout _) (by omega) (by omega) (by omega) (by omega) hlk hxx q4.2.2 (by omega) (by omega)
end MT
