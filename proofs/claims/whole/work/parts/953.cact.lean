/-! ===== act: the class, what is made ===== -/
section
variable {s : tz_S} {W : m_W} {fs : List Value} {l : List m_E} {x v : Int32} {p m t k a n0 b : Nat}
/-- an ACT made since, its arrays behind it -/
def tz_ac (s : tz_S) (fs : List Value) (l : List m_E) : tz_S := tz_ux s (s.2.2.2.2.2.1 ++ (.inr (0, fs) :: l))
theorem ac_c : m_c (tz_H (tz_ac s fs l)) (334 + s.2.2.2.2.2.1.length) = some (.inr (0, fs)) := by
  rw [tz_x (by omega), Nat.add_sub_cancel_left]
  show (s.2.2.2.2.2.1 ++ _)[s.2.2.2.2.2.1.length]? = _
  rw [List.getElem?_append_right (Nat.le_refl _), Nat.sub_self]
  rfl
theorem ac_io : m_isO (tz_H (tz_ac s fs l)) 0 (334 + s.2.2.2.2.2.1.length) = true := by
  unfold m_isO
  rw [ac_c]
  rfl
theorem ac_new : m_nwo 0 (tz_H s) = some (tz_H (tz_ac s [.int 0, .int 0, .null, .null, .null, .null] [])) := by
  unfold m_nwo
  rw [tz_p]
  rfl
theorem ac_pf {w : Value} (hk : Nat.blt k fs.length = true) (hv : m_ok (m_ft 0 k) w = true) : m_pf m_ft (tz_H (tz_ac s fs l)) (334 + s.2.2.2.2.2.1.length) 0 k w = some (tz_H (tz_ac s (fs.set k w) l)) := by
  unfold m_pf
  rw [ac_c]
  show (if 0 = 0 ∧ k < fs.length ∧ m_ok (m_ft 0 k) w = true then some (m_w (tz_H (tz_ac s fs l)) (334 + s.2.2.2.2.2.1.length) (.inr (0, fs.set k w))) else none) = _
  rw [if_pos ⟨rfl, Nat.blt_eq.mp hk, hv⟩, tz_w_x (by omega), Nat.add_sub_cancel_left]
  refine congrArg some (congrArg tz_H ?_)
  show tz_ux s ((s.2.2.2.2.2.1 ++ _).set s.2.2.2.2.2.1.length _) = tz_ux s (s.2.2.2.2.2.1 ++ _)
  rw [List.set_append_right _ _ (Nat.le_refl _), Nat.sub_self]
  rfl
theorem ac_gi (h : fs[k]? = some (.int v)) : m_gi (tz_H (tz_ac s fs l)) (334 + s.2.2.2.2.2.1.length) 0 k = some v := by
  have e : m_gf (tz_H (tz_ac s fs l)) (334 + s.2.2.2.2.2.1.length) 0 k = some (.int v) := by
    unfold m_gf
    rw [ac_c]
    show (if 0 = 0 then fs[k]? else none) = _
    rw [if_pos rfl]
    exact h
  unfold m_gi
  rw [e]
theorem ac_cof (sh : tz_sh a = some (.inl (0, n0))) (hm : m ≤ 400) : m_cof (tz_H (tz_ac s fs l)) a (nI m) = some (tz_H (tz_ac s fs (l ++ [.inl (0, m, .inl (fun j => if j < n0 then s.2.1 a j else 0))]))) := by
  unfold m_cof
  rw [tz_c sh, tz_ce_i ⟨rfl, rfl⟩]
  show (if nI m < 0 ∨ 60000000 < (nI m).toNatClampNeg then none else _) = _
  rw [nI_clamp (by omega), if_neg (fun x => x.elim (nI_pos (by omega)) (by omega)), tz_p]
  refine congrArg some (congrArg tz_H ?_)
  show tz_ux s ((s.2.2.2.2.2.1 ++ (.inr (0, fs) :: l)) ++ [_]) = tz_ux s (s.2.2.2.2.2.1 ++ (.inr (0, fs) :: (l ++ [_])))
  rw [List.append_assoc]
  rfl
theorem ac_id : m_id (tz_H (tz_ac s fs l)) = 335 + s.2.2.2.2.2.1.length + l.length := by
  rw [tz_id]
  show 334 + (s.2.2.2.2.2.1 ++ (_ :: l)).length = _
  rw [List.length_append, List.length_cons]
  omega
/-- the ACT, its arrays -/
def ac_fs (x : Int32) (p b : Nat) : List Value := [.int x, .int (nI p), .ref (335 + b), .ref (336 + b), .ref (337 + b), .ref (338 + b)]
def ac_ls (s : tz_S) (p m : Nat) : List m_E := [.inl (0, p, .inl (fun j => if j < 12 then s.2.1 208 j else 0)), .inl (0, p, .inl (fun j => if j < 12 then s.2.1 209 j else 0)), .inl (0, p, .inl (fun j => if j < 12 then s.2.1 210 j else 0)), .inl (0, m, .inl (fun j => if j < 400 then s.2.1 207 j else 0))]
theorem nI_mm (hp : p ≤ 12) : m_max 0 (m_min (nI p) 12) = nI p := by
  apply Int32.toInt_inj.mp
  have e2 : (12 : Int32).toInt = 12 := rfl
  have e3 : (0 : Int32).toInt = 0 := rfl
  rw [i_max, i_min2, nI_toInt (by omega), e2, e3]
  split <;> split <;> omega
theorem nI_m0 (hp : p ≤ 400) : m_max 0 (nI p) = nI p := by
  apply Int32.toInt_inj.mp
  have e3 : (0 : Int32).toInt = 0 := rfl
  rw [i_max, nI_toInt (by omega), e3]
  split <;> omega
theorem cz_init (h7 : s.1 206 7 = nI p) (hp : p ≤ 12) (h9 : s.1 206 9 = nI m) (hm : m ≤ 400) : F0_init (334 + s.2.2.2.2.2.1.length) x 206 (tz_H (tz_ac s [.int 0, .int 0, .null, .null, .null, .null] [])) = some (tz_H (tz_ac s (ac_fs x p s.2.2.2.2.2.1.length) (ac_ls s p m))) := by
  have g7 : ∀ fs l, m_gi (tz_H (tz_ac s fs l)) 206 5 7 = some (nI p) := fun fs l => gi_206_7.trans (congrArg some h7)
  have g9 : ∀ fs l, m_gi (tz_H (tz_ac s fs l)) 206 5 9 = some (nI m) := fun fs l => gi_206_9.trans (congrArg some h9)
  have p4 : p ≤ 400 := by omega
  unfold F0_init F0_init_0
  rw [ac_io, gz_s, ac_pf rfl rfl, bz_s, g7, bz_s, gr_206_4, bz_s, le_208, bz_s, nI_mm hp, ac_pf rfl rfl, bz_s, gr_206_4, bz_s, ac_gi rfl, bz_s, ac_cof sh_208 p4, bz_s, ac_id, ac_pf rfl rfl, bz_s,
    gr_206_5, bz_s, ac_gi rfl, bz_s, ac_cof sh_209 p4, bz_s, ac_id, ac_pf rfl rfl, bz_s, gr_206_6, bz_s, ac_gi rfl, bz_s, ac_cof sh_210 p4, bz_s, ac_id, ac_pf rfl rfl, bz_s, gr_206_8, bz_s, g9, bz_s, nI_m0 hm, ac_cof sh_207 hm, bz_s, ac_id, ac_pf rfl rfl, bz_s]
  have z : ∀ q : Nat, 335 + s.2.2.2.2.2.1.length + (q + 1) = 336 + q + s.2.2.2.2.2.1.length := fun q => by omega
  refine congrArg some (congrArg tz_H (congrArg (fun f => tz_ac s f (ac_ls s p m)) ?_))
  show [Value.int x, .int (nI p), .ref (335 + s.2.2.2.2.2.1.length + 0), .ref (335 + s.2.2.2.2.2.1.length + 1), .ref (335 + s.2.2.2.2.2.1.length + 2), .ref (335 + s.2.2.2.2.2.1.length + 3)] = _
  unfold ac_fs
  rw [show 335 + s.2.2.2.2.2.1.length + 1 = 336 + s.2.2.2.2.2.1.length by omega, show 335 + s.2.2.2.2.2.1.length + 2 = 337 + s.2.2.2.2.2.1.length by omega, show 335 + s.2.2.2.2.2.1.length + 3 = 338 + s.2.2.2.2.2.1.length by omega]
  rfl
theorem cz_addAct (h5 : s.1 223 5 = nI t) (ht : t < 10) (hb : m_isO (tz_H s) 0 b = true) : F3_addAct 223 b (tz_H s) = some (tz_H (tz_uf (tz_ua s 224 (va_up (s.2.2.2.1 224) t (some b))) 223 5 (nI (t + 1)))) := by
  have g : m_gi (tz_H s) 223 3 5 = some (nI t) := gi_223_5.trans (congrArg some h5)
  have g' : m_gi (tz_H (tz_ua s 224 (va_up (s.2.2.2.1 224) t (some b)))) 223 3 5 = some (nI t) := gi_223_5.trans (congrArg some h5)
  unfold F3_addAct F3_addAct_0
  rw [io_223, gz_s, g, bz_s, iz_f (nI_pos (by omega)), bz_s, gr_223_4, bz_s, le_224, bz_s, iz_f (show ¬ (10 : Int32) ≤ nI t from nI_ge (b := 10) ht (by decide)), bz_s, bz_s,
    tz_sq sh_224 (nI_in1 ht (by decide)) (fun r e => by cases e; exact hb), bz_s, nI_clamp (by omega), g', bz_s, pf_223_5, bz_s, nI_succ]
end
