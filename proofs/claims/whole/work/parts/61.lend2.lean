/-! ===== lend, on both sides ===== -/
theorem sp_told_cong {W W' : m_W} {k : Nat} {a b : Int32} (e : ∀ r c, W' k r c = W k r c) (en : wz_n W' k = wz_n W k) : sp_told W' k a b = sp_told W k a b := by
  unfold sp_told
  rw [en, show sp_tf W' k a b = sp_tf W k a b from funext fun r => funext fun p => by unfold sp_tf; rw [e, e, e]]
theorem sp_text_cong {W W' : m_W} (e : ∀ r c, W' 17 r c = W 17 r c) (en : wz_n W' 17 = wz_n W 17) (ew : W' 14 0 0 = W 14 0 0) : sp_text W' = sp_text W := by
  unfold sp_text
  rw [en, show sp_tx W' = sp_tx W from funext fun r => funext fun p => by
    unfold sp_tx
    rw [ew, e]
    cases p with
    | none => rfl
    | some j => dsimp only; rw [e]]
theorem sp_owe_cong {W W' : m_W} {F : Nat → Int32} (e : W' 17 = W 17) (en : wz_n W' 17 = wz_n W 17) (ew : W' 14 0 0 = W 14 0 0) : sp_owe W' F = sp_owe W F := by
  unfold sp_owe
  rw [sp_text_cong (fun r c => by rw [e]) en ew, e]
theorem sp_lot0_k {W : m_W} {a b l : Int32} {q k r x : Nat} (h1 : ¬ k = 2) (h2 : ¬ k = 22) : sp_lot0 W a b l q k r x = W k r x := by
  unfold sp_lot0
  rw [wz_up_k h1, wz_up_k h1, wz_up_k h1, wz_up_k h1, wz_up_k h1, wz_up_k h1, wz_up_k h2]
theorem wz_lot_n {W : m_W} {a b l : Int32} {q : Nat} (hn : wz_n W 2 < 100) (hq : q < 9) : wz_n (sp_lot0 W a b l q) 2 = wz_n W 2 + 1 := by
  show Int32.toNatClampNeg (sp_lot0 W a b l q 22 0 0) = _
  rw [wz_lot_s hq, nI_clamp (by omega)]
section
variable {s0 : tz_S} {th : Int32} {W : m_W} {h : m_H} {F : Nat → Int32}
theorem cz_lend (R : cz_N s0 W h) (z : ∀ c, c < 21 → W 2 (wz_n W 2) c = 0) {r : Nat} {c owe : Int32} (hr : r < wz_n W 3) (hn : wz_n W 2 < 100) : k_ok (F3_lend 223 (nI r) c owe h) (cz_N s0 (sp_lend W r c owe)) := by
  unfold F3_lend F3_lend_0 sp_lend sp_lend1
  refine k_g (nz_io223 R) (k_e (nz_gr223_9 R) (k_e (cz_g3_1 R rfl hr) (k_b (cz_take R (by omega)) ?_)))
  intro h1 R1
  have en : wz_n (sp_take W (W 3 r 1) c) 2 = wz_n W 2 := sp_tk_n
  have en3 : wz_n (sp_take W (W 3 r 1) c) 3 = wz_n W 3 := sp_tk_n
  have ek : ∀ {k r' x}, ¬ k = 2 → sp_take W (W 3 r 1) c k r' x = W k r' x := fun hk => sp_tk_k (fun q => hk q.1) _
  refine k_e (nz_gr223_9 R1) (k_e (cz_g3_0 R1 rfl (by rw [en3]; exact hr)) ?_)
  rw [ek (by decide)]
  refine k_b (cz_addLotz R1 (fun c' hc' => ?_) (q := 1) rfl (by decide) (by rw [en]; exact hn)) ?_
  · rw [en]
    exact (sp_tk_r _ (Nat.le_refl _)).trans (z c' hc')
  rintro _ ⟨h2, rfl, R2⟩
  have hl2 : wz_n W 2 < wz_n (sp_lot0 (sp_take W (W 3 r 1) c) (W 3 r 1) c (W 3 r 0) 1) 2 := by
    rw [wz_lot_n (by rw [en]; exact hn) (by decide), en]
    omega
  rw [en]
  have wk : sp_lot0 (sp_take W (W 3 r 1) c) (W 3 r 1) c (W 3 r 0) 1 14 0 0 = W 14 0 0 := (sp_lot0_k (by decide) (by decide)).trans (ek (by decide))
  refine k_e (nz_gr223_8 R2) (k_e (cz_i0 R2) ?_)
  rw [wk]
  refine k_b (cz_s2_6 R2 rfl hl2) ?_
  intro h3 R3
  have hl3 : wz_n W 2 < wz_n (wz_up (sp_lot0 (sp_take W (W 3 r 1) c) (W 3 r 1) c (W 3 r 0) 1) 2 (wz_n W 2) 6 (W 14 0 0)) 2 := by
    rw [wz_n_up (by decide)]
    exact hl2
  refine k_e (nz_gr223_8 R3) (k_b (cz_s2_19 R3 rfl hl3) ?_)
  intro h4 R4
  refine k_e (nz_gr223_8 R4) (k_e (cz_i0 R4) ?_)
  rw [wz_up_k (show ¬ 14 = 2 by decide), wz_up_k (show ¬ 14 = 2 by decide), wk]
  refine k_e (cz_priceIn R4) ?_
  rw [sp_told_cong (W := W) (k := 1) (fun r' c' => by rw [wz_up_k (by decide), wz_up_k (by decide), sp_lot0_k (by decide) (by decide), ek (by decide)]) (by unfold wz_n; rw [wz_up_k (by decide), wz_up_k (by decide), sp_lot0_k (by decide) (by decide), ek (by decide)])]
  have hl4 : wz_n W 2 < wz_n (wz_up (wz_up (sp_lot0 (sp_take W (W 3 r 1) c) (W 3 r 1) c (W 3 r 0) 1) 2 (wz_n W 2) 6 (W 14 0 0)) 2 (wz_n W 2) 20 owe) 2 := by
    rw [wz_n_up (by decide)]
    exact hl3
  refine k_b (cz_s2_20 R4 rfl hl4) ?_
  intro h5 R5
  rw [wz_cc (c := 20) (c' := 19) (by decide)] at R5
  have hr5 : r < wz_n (wz_up (wz_up (wz_up (sp_lot0 (sp_take W (W 3 r 1) c) (W 3 r 1) c (W 3 r 0) 1) 2 (wz_n W 2) 6 (W 14 0 0)) 2 (wz_n W 2) 19 (sp_told W 1 (W 3 r 1) (W 14 0 0))) 2 (wz_n W 2) 20 owe) 3 := by
    unfold wz_n
    rw [wz_up_k (by decide), wz_up_k (by decide), wz_up_k (by decide), sp_lot0_k (by decide) (by decide), ek (by decide)]
    exact hr
  refine k_e (nz_gr223_9 R5) (k_b (cz_raise R5 (k := 3) (c := 4) (by decide) rfl rfl hr5 rfl (by decide)) ?_)
  intro h6 R6
  rw [show wz_pi 3 4 = 4 from rfl, wz_up_k (show ¬ 3 = 2 by decide), wz_up_k (show ¬ 3 = 2 by decide), wz_up_k (show ¬ 3 = 2 by decide), sp_lot0_k (by decide) (by decide), ek (by decide)] at R6
  exact k_s R6
theorem rz_G.K {W : m_W} {h : m_H} (K : rz_G s0 th W (fun i => (F i).toInt64) h) : rz_K s0 th W F h := K
theorem rz_K.G {W : m_W} {h : m_H} (K : rz_K s0 th W F h) : rz_G s0 th W (fun i => (F i).toInt64) h := K
theorem vt.cong {W W' : m_W} (V : vt W) (e : W' 17 = W 17) (en : W' 37 0 0 = W 37 0 0) : vt W' := by
  have : wz_n W' 17 = wz_n W 17 := by unfold wz_n; rw [show W' (20 + 17) 0 0 = W 37 0 0 from en]
  unfold vt
  rw [this, show W' (20 + 17) 0 0 = W (20 + 17) 0 0 from en, e]
  exact V
theorem rz_lend (K : rz_K s0 th W F h) (V : vz W) {r t : Nat} {m c : Int32} {Q : _ → Prop} (hr : r < wz_n W 3) (et : W 3 r 1 = nI t) (hn : wz_n W 2 < 100)
    (k : ∀ h1, rz_K s0 th (sp_lend W r c (sp_owe W F)) F h1 → k_ok (F12_allot_264 317 (nI t) (m + c) h1) Q) : k_ok (F12_allot_163 317 (nI t) m (nI r) c h) Q := by
  have hr60 : r < 60 := Nat.lt_of_lt_of_le hr (V.c (k := 3) (by omega))
  have hc2 := (V.cap (k := 2) (by omega)).1
  unfold F12_allot_163
  unfold sp_lend sp_lend1 at k
  rw [et] at k
  refine k_b (rz_takeG K.G hc2 (by omega)) ?_
  intro h1 K1
  have en : wz_n (sp_take W (nI t) c) 2 = wz_n W 2 := sp_tk_n
  have ek : ∀ {k r' x}, ¬ k = 2 → sp_take W (nI t) c k r' x = W k r' x := fun hk => sp_tk_k (fun q => hk q.1) _
  have q1 := rz_q3 K1.N hr60
  refine k_e (rz_gr1 K1.N) (k_e q1.1 (k_e q1.2.1 ?_))
  rw [ek (by decide)]
  refine k_b (rz_beginsG K1 (by rw [en, ek (by decide)]; exact hc2) (fun c' hc' => ?_) (q := 1) rfl (by decide) (by rw [en]; exact hn)) ?_
  · rw [en]
    exact (sp_tk_r _ (Nat.le_refl _)).trans (V.z (k := 2) (by decide) (Nat.le_refl _) hn hc')
  rintro _ ⟨h2, rfl, K2⟩
  rw [en]
  have wk : sp_lot0 (sp_take W (nI t) c) (nI t) c (W 3 r 0) 1 14 0 0 = W 14 0 0 := (sp_lot0_k (by decide) (by decide)).trans (ek (by decide))
  have l6 := fun h => rz_lotAt (h := h) (x := nI (wz_n W 2)) rfl hn (y := 6) (c := 6) rfl (by decide)
  have l19 := fun h => rz_lotAt (h := h) (x := nI (wz_n W 2)) rfl hn (y := 19) (c := 19) rfl (by decide)
  have l20 := fun h => rz_lotAt (h := h) (x := nI (wz_n W 2)) rfl hn (y := 20) (c := 20) rfl (by decide)
  refine k_e (rz_gr1 K2.N) (k_e (l6 h2).1 (k_e (k_wk K2.N) ?_))
  rw [wk]
  refine k_b (rz_gset K2 rfl (l6 h2).2) ?_
  intro h3 K3
  refine k_e (rz_gr1 K3.N) (k_e (l19 h3).1 (k_e (k_wk K3.N) ?_))
  rw [wz_up_k (show ¬ 14 = 2 by decide), wk]
  have c1 : ∀ r' c', wz_up (sp_lot0 (sp_take W (nI t) c) (nI t) c (W 3 r 0) 1) 2 (wz_n W 2) 6 (W 14 0 0) 1 r' c' = W 1 r' c' := fun r' c' => by rw [wz_up_k (by decide), sp_lot0_k (by decide) (by decide), ek (by decide)]
  have c21 : wz_up (sp_lot0 (sp_take W (nI t) c) (nI t) c (W 3 r 0) 1) 2 (wz_n W 2) 6 (W 14 0 0) 21 0 0 = W 21 0 0 := by rw [wz_up_k (by decide), sp_lot0_k (by decide) (by decide), ek (by decide)]
  have n1 : wz_n (wz_up (sp_lot0 (sp_take W (nI t) c) (nI t) c (W 3 r 0) 1) 2 (wz_n W 2) 6 (W 14 0 0)) 1 = wz_n W 1 := congrArg _ c21
  have cp1 := V.cap (k := 1) (by omega)
  refine k_e (x := sp_told W 1 (nI t) (W 14 0 0)) ?_ ?_
  · unfold F12_priceOf F12_priceOf_0
    rw [rz_io K3.N, gz_s, show (205 : Int32) = nI 205 from rfl, rz_told K3.N (Or.inl ⟨rfl, rfl⟩) (by rw [n1]; exact c21.trans cp1.1) (by rw [n1]; exact V.c (k := 1) (by omega)) (fun r' hr' => by rw [c1]; rw [n1] at hr'; exact i_m1 (V.row (k := 1) (by omega) hr').1), bz_s, sp_told_cong c1 n1]
  refine k_b (rz_gset K3 rfl (l19 h3).2) ?_
  intro h4 K4
  have e17 : ∀ {u v : Int32}, wz_up (wz_up (sp_lot0 (sp_take W (nI t) c) (nI t) c (W 3 r 0) 1) 2 (wz_n W 2) 6 u) 2 (wz_n W 2) 19 v 17 = W 17 := fun {u v} => by
    funext r' c'
    rw [wz_up_k (by decide), wz_up_k (by decide), sp_lot0_k (by decide) (by decide), ek (by decide)]
  have e37 : ∀ {u v : Int32}, wz_up (wz_up (sp_lot0 (sp_take W (nI t) c) (nI t) c (W 3 r 0) 1) 2 (wz_n W 2) 6 u) 2 (wz_n W 2) 19 v 37 0 0 = W 37 0 0 := fun {u v} => by
    rw [wz_up_k (by decide), wz_up_k (by decide), sp_lot0_k (by decide) (by decide), ek (by decide)]
  refine k_e (rz_gr1 K4.N) (k_e (l20 h4).1 (k_b (rz_all K4.K (V.vt.cong e17 e37) (k := 2) (Or.inr rfl)) ?_))
  rintro _ ⟨h5, rfl, K5⟩
  rw [if_neg (show ¬ (2 : Int32) = 1 by decide), sp_owe_cong e17 (congrArg (fun x => Int32.toNatClampNeg x) e37) (by rw [wz_up_k (by decide), wz_up_k (by decide), wk])]
  refine k_b (rz_gset K5.G rfl (l20 h5).2) ?_
  intro h6 K6
  have q6 := rz_q3 K6.N hr60
  refine k_e (rz_gr1 K6.N) (k_e q6.1 (k_e q6.2.2.2.2.2 ?_))
  rw [wz_up_k (show ¬ 3 = 2 by decide), wz_up_k (show ¬ 3 = 2 by decide), wz_up_k (show ¬ 3 = 2 by decide), sp_lot0_k (by decide) (by decide), ek (by decide)]
  refine k_b (rz_gset K6 (k := 3) (r := r) (c := 4) (ix3 r 4) ⟨by decide, hr60, by decide⟩) ?_
  intro h7 K7
  exact k h7 K7
end
