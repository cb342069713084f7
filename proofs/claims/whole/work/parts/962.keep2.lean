/-! ===== what each face keeps of the weeks, how it refuses ===== -/
section
variable {W X : m_W} {a b c d e n : Int32}
theorem kp.up (K : kp W X) {k r x : Nat} {v : Int32} (h1 : ¬ k = 16) (h2 : ¬ (k = 14 ∧ r = 0 ∧ x = 0)) : kp W (wz_up X k r x v) := by
  refine ⟨fun i y => (wz_up_k (fun z => h1 z.symm)).trans (K.1 i y), ?_⟩
  refine Eq.trans ?_ K.2
  unfold wz_up
  exact if_neg (fun z => h2 ⟨z.1.symm, z.2.1.symm, z.2.2.symm⟩)
theorem kp.sets (K : kp W X) {k r : Nat} {l : List (Nat × Int32)} (h1 : ¬ k = 16) (h2 : ¬ k = 14) : kp W (sp_sets X k r l) :=
  ⟨fun i y => (sp_sets_o (fun z => h1 z.1.symm)).trans (K.1 i y), (sp_sets_o (fun z => h2 z.1.symm)).trans K.2⟩
theorem kp_new {k : Nat} {l : List (Nat × Int32)} (h : k < 14) : kp W (sp_new W k l) :=
  ⟨fun i y => sp_new_o (by omega) (by omega), sp_new_o (by omega) (by omega)⟩
theorem kp.trans {Y : m_W} (K : kp W X) (K2 : kp X Y) : kp W Y := ⟨fun i y => (K2.1 i y).trans (K.1 i y), K2.2.trans K.2⟩
theorem kp_k (h : ∀ k i y, k = 14 ∨ k = 16 → X k i y = W k i y) : kp W X := ⟨fun i y => h 16 i y (Or.inr rfl), h 14 0 0 (Or.inl rfl)⟩
theorem kp_tells {k : Nat} (hk : k = 1 ∨ k = 7) : kp W (sp_tells W k a b n).2 := by
  unfold sp_tells
  split
  · exact kp_new (l := [(0, a), (1, b), (2, n)]) (by omega)
  · exact kp.refl
theorem er_sort {E : Nat} (h : sp_sort W a b c d e = .inr E) : E = 0 ∨ E = 1 := by
  unfold sp_sort at h
  repeat' split at h
  all_goals first | (cases h; done) | (cases h; decide)
theorem in_sort {r : Int64 × m_W} (V : vz W) (h : sp_sort W a b c d e = .inl r) : vz r.2 ∧ kp W r.2 := by
  refine ⟨vz_sort V h, ?_⟩
  unfold sp_sort at h
  repeat' split at h
  all_goals first | (cases h; done) | (cases h; exact kp.refl) | (cases h; exact kp.refl.sets (by decide) (by decide)) | (cases h; exact (((kp.refl.up (by decide) (by decide)).up (by decide) (by decide)).up (by decide) (by decide)).up (by decide) (by decide))
theorem er_price {E : Nat} (h : sp_price W a b n = .inr E) : E = 0 ∨ E = 1 := by
  unfold sp_price at h
  repeat' split at h
  all_goals first | (cases h; done) | (cases h; decide)
theorem in_price {r : Int64 × m_W} (V : vz W) (h : sp_price W a b n = .inl r) : vz r.2 ∧ kp W r.2 := by
  refine ⟨vz_price V h, ?_⟩
  unfold sp_price at h
  repeat' split at h
  all_goals first | (cases h; done) | (cases h; exact kp.refl) | (cases h; exact kp_tells (Or.inl rfl)) | (cases h; exact kp_tells (Or.inr rfl))
theorem er_cost {E : Nat} (h : sp_cost W a b = .inr E) : E = 0 := by
  unfold sp_cost at h
  repeat' split at h
  all_goals first | (cases h; done) | (cases h; decide)
theorem in_cost {r : Int64 × m_W} (V : vz W) (h : sp_cost W a b = .inl r) : vz r.2 ∧ kp W r.2 := by
  unfold sp_cost at h
  repeat' split at h
  all_goals first | (cases h; done) | (cases h; exact ⟨V, kp.refl⟩)
theorem er_works {E : Nat} (h : sp_works W a b = .inr E) : E = 1 := by
  unfold sp_works at h
  repeat' split at h
  all_goals first | (cases h; done) | (cases h; decide)
theorem in_works {r : Int64 × m_W} (V : vz W) (h : sp_works W a b = .inl r) : vz r.2 ∧ kp W r.2 := by
  refine ⟨vz_works V h, ?_⟩
  unfold sp_works at h
  repeat' split at h
  all_goals first | (cases h; done) | (cases h; exact kp.refl) | (cases h; exact kp.refl.up (by decide) (by decide)) | (cases h; exact (kp.refl.up (by decide) (by decide)).up (by decide) (by decide))
theorem er_order {E : Nat} (h : sp_order W a b = .inr E) : E = 0 ∨ E = 1 ∨ E = 2 ∨ E = 3 := by
  unfold sp_order at h
  repeat' split at h
  all_goals first | (cases h; done) | (cases h; decide)
theorem in_order {r : Int64 × m_W} (V : vz W) (h : sp_order W a b = .inl r) : vz r.2 ∧ kp W r.2 := by
  refine ⟨vz_order V h, ?_⟩
  unfold sp_order at h
  repeat' split at h
  all_goals first | (cases h; done) | (cases h; exact kp.refl) | (cases h; exact kp_new (k := 2) (l := [(0, a), (1, b), (2, 0), (6, -1), (8, -1), (10, b)]) (by decide)) | (cases h; exact kp.refl)
theorem er_lot {E : Nat} (h : sp_lot W a b = .inr E) : E = 0 ∨ E = 4 := by
  unfold sp_lot at h
  repeat' split at h
  all_goals first | (cases h; done) | (cases h; decide)
theorem in_lot {r : Int64 × m_W} (V : vz W) (h : sp_lot W a b = .inl r) : vz r.2 ∧ kp W r.2 := by
  unfold sp_lot at h
  repeat' split at h
  all_goals first | (cases h; done) | (cases h; exact ⟨V, kp.refl⟩)
theorem er_ask {E : Nat} (h : sp_ask W a b c d = .inr E) : E = 0 ∨ E = 1 ∨ E = 2 := by
  unfold sp_ask at h
  repeat' split at h
  all_goals first | (cases h; done) | (cases h; decide)
theorem in_ask {r : Int64 × m_W} (V : vz W) (h : sp_ask W a b c d = .inl r) : vz r.2 ∧ kp W r.2 := by
  refine ⟨vz_ask V h, ?_⟩
  unfold sp_ask at h
  repeat' split at h
  all_goals first | (cases h; done) | (cases h; exact kp.refl) | (cases h; exact kp_new (by decide)) | (cases h; exact kp.refl)
theorem er_weigh {E : Nat} (h : sp_weigh W a b = .inr E) : E = 0 ∨ E = 4 := by
  unfold sp_weigh at h
  repeat' split at h
  all_goals first | (cases h; done) | (cases h; decide)
theorem in_weigh {r : Int64 × m_W} (V : vz W) (h : sp_weigh W a b = .inl r) : vz r.2 ∧ kp W r.2 := by
  unfold sp_weigh at h
  repeat' split at h
  all_goals first | (cases h; done) | (cases h; exact ⟨V, kp.refl⟩)
theorem er_label {E : Nat} (h : sp_label W a b = .inr E) : E = 0 ∨ E = 1 := by
  unfold sp_label at h
  repeat' split at h
  all_goals first | (cases h; done) | (cases h; decide)
theorem in_label {r : Int64 × m_W} (V : vz W) (h : sp_label W a b = .inl r) : vz r.2 ∧ kp W r.2 := by
  refine ⟨vz_label V h, ?_⟩
  unfold sp_label at h
  repeat' split at h
  all_goals first | (cases h; done) | (cases h; exact kp.refl) | (cases h; exact kp.refl.up (by decide) (by decide)) | (cases h; exact (kp.refl.up (by decide) (by decide)).up (by decide) (by decide))
theorem er_ship {E : Nat} (h : sp_ship W a b = .inr E) : E = 1 ∨ E = 2 := by
  unfold sp_ship at h
  repeat' split at h
  all_goals first | (cases h; done) | (cases h; decide)
theorem in_ship {r : Int64 × m_W} (V : vz W) (h : sp_ship W a b = .inl r) : vz r.2 ∧ kp W r.2 := by
  refine ⟨vz_shipN V h, ?_⟩
  unfold sp_ship at h
  repeat' split at h
  all_goals first | (cases h; done) | (cases h; exact kp.refl) | (cases h; exact kp_new (by decide)) | (cases h; exact kp.refl)
theorem er_way {E : Nat} (h : sp_way W a b = .inr E) : E = 0 ∨ E = 1 := by
  unfold sp_way at h
  repeat' split at h
  all_goals first | (cases h; done) | (cases h; decide)
theorem in_way {r : Int64 × m_W} (V : vz W) (h : sp_way W a b = .inl r) : vz r.2 ∧ kp W r.2 := by
  refine ⟨vz_way V h, ?_⟩
  unfold sp_way at h
  repeat' split at h
  all_goals first | (cases h; done) | (cases h; exact kp.refl) | (cases h; exact kp.refl.up (by decide) (by decide)) | (cases h; exact (kp.refl.up (by decide) (by decide)).up (by decide) (by decide))
theorem er_risk {E : Nat} (h : sp_risk W a b n = .inr E) : E = 0 ∨ E = 1 := by
  unfold sp_risk at h
  repeat' split at h
  all_goals first | (cases h; done) | (cases h; decide)
theorem in_risk {r : Int64 × m_W} (V : vz W) (h : sp_risk W a b n = .inl r) : vz r.2 ∧ kp W r.2 := by
  refine ⟨vz_risk V h, ?_⟩
  unfold sp_risk at h
  repeat' split at h
  all_goals first | (cases h; done) | (cases h; exact kp.refl) | (cases h; exact kp_tells (Or.inl rfl)) | (cases h; exact kp_tells (Or.inr rfl))
theorem er_led {E : Nat} (h : sp_led W a b = .inr E) : E = 0 ∨ E = 4 := by
  unfold sp_led at h
  repeat' split at h
  all_goals first | (cases h; done) | (cases h; decide)
theorem in_led {r : Int64 × m_W} (V : vz W) (h : sp_led W a b = .inl r) : vz r.2 ∧ kp W r.2 := by
  unfold sp_led at h
  repeat' split at h
  all_goals first | (cases h; done) | (cases h; exact ⟨V, kp.refl⟩)
theorem er_need {E : Nat} (h : sp_need W a b n = .inr E) : E = 0 ∨ E = 1 := by
  unfold sp_need at h
  repeat' split at h
  all_goals first | (cases h; done) | (cases h; decide)
theorem in_need {r : Int64 × m_W} (V : vz W) (h : sp_need W a b n = .inl r) : vz r.2 ∧ kp W r.2 := by
  refine ⟨vz_need V h, ?_⟩
  unfold sp_need at h
  repeat' split at h
  all_goals first | (cases h; done) | (cases h; exact kp.refl) | (cases h; exact kp.refl.up (by decide) (by decide)) | (cases h; exact (kp.refl.up (by decide) (by decide)).up (by decide) (by decide))
theorem er_back {E : Nat} (h : sp_back W a b c = .inr E) : E = 0 ∨ E = 1 ∨ E = 2 ∨ E = 3 := by
  unfold sp_back at h
  repeat' split at h
  all_goals first | (cases h; done) | (cases h; decide)
theorem in_back {r : Int64 × m_W} (V : vz W) (h : sp_back W a b c = .inl r) : vz r.2 ∧ kp W r.2 := by
  refine ⟨vz_back V h, ?_⟩
  unfold sp_back at h
  repeat' split at h
  all_goals first | (cases h; done) | (cases h; exact kp.refl) | (cases h; exact kp_new (k := 2) (l := [(0, b), (1, c), (2, a), (6, -1), (8, -1), (13, c), (3, 1)]) (by decide)) | (cases h; exact kp.refl)
theorem er_land {E : Nat} (h : sp_land W a b = .inr E) : E = 0 ∨ E = 1 ∨ E = 4 := by
  unfold sp_land at h
  repeat' split at h
  all_goals first | (cases h; done) | (cases h; decide)
theorem in_land {r : Int64 × m_W} (V : vz W) (h : sp_land W a b = .inl r) : vz r.2 ∧ kp W r.2 := by
  unfold sp_land at h
  repeat' split at h
  all_goals first | (cases h; done) | (cases h; exact ⟨V, kp.refl⟩)
theorem er_balance {E : Nat} (h : sp_balance W a b c = .inr E) : E = 0 ∨ E = 1 ∨ E = 4 := by
  unfold sp_balance at h
  repeat' split at h
  all_goals first | (cases h; done) | (cases h; decide)
theorem in_balance {r : Int64 × m_W} (V : vz W) (h : sp_balance W a b c = .inl r) : vz r.2 ∧ kp W r.2 := by
  unfold sp_balance at h
  repeat' split at h
  all_goals first | (cases h; done) | (cases h; exact ⟨V, kp.refl⟩)
theorem er_returned {E : Nat} (h : sp_returned W a b c d = .inr E) : E = 0 ∨ E = 1 := by
  unfold sp_returned at h
  repeat' split at h
  all_goals first | (cases h; done) | (cases h; decide)
theorem in_returned {r : Int64 × m_W} (V : vz W) (h : sp_returned W a b c d = .inl r) : vz r.2 ∧ kp W r.2 := by
  refine ⟨vz_returned V h, ?_⟩
  unfold sp_returned at h
  repeat' split at h
  all_goals first | (cases h; done) | (cases h; exact kp.refl) | (cases h; exact kp_new (by decide)) | (cases h; exact kp.refl)
theorem er_mustBe {E : Nat} (h : sp_mustBe W a b c = .inr E) : E = 0 ∨ E = 1 := by
  unfold sp_mustBe at h
  repeat' split at h
  all_goals first | (cases h; done) | (cases h; decide)
theorem in_mustBe {r : Int64 × m_W} (V : vz W) (h : sp_mustBe W a b c = .inl r) : vz r.2 ∧ kp W r.2 := by
  unfold sp_mustBe at h
  repeat' split at h
  all_goals first | (cases h; done) | (cases h; exact ⟨V, kp.refl⟩)
theorem er_seen {E : Nat} (h : sp_seen W a b c = .inr E) : E = 0 ∨ E = 1 := by
  unfold sp_seen at h
  repeat' split at h
  all_goals first | (cases h; done) | (cases h; decide)
theorem in_seen {r : Int64 × m_W} (V : vz W) (h : sp_seen W a b c = .inl r) : vz r.2 ∧ kp W r.2 := by
  refine ⟨vz_seen V h, ?_⟩
  unfold sp_seen at h
  repeat' split at h
  all_goals first | (cases h; done) | (cases h; exact kp.refl) | (cases h; exact kp_new (by decide)) | (cases h; exact kp.refl)
theorem er_whence {E : Nat} (h : sp_whence W a b c = .inr E) : E = 0 ∨ E = 1 := by
  unfold sp_whence at h
  repeat' split at h
  all_goals first | (cases h; done) | (cases h; decide)
theorem in_whence {r : Int64 × m_W} (V : vz W) (h : sp_whence W a b c = .inl r) : vz r.2 ∧ kp W r.2 := by
  unfold sp_whence at h
  repeat' split at h
  all_goals first | (cases h; done) | (cases h; exact ⟨V, kp.refl⟩)
theorem er_rock {E : Nat} (h : sp_rock W a b c d = .inr E) : E = 0 ∨ E = 1 ∨ E = 2 := by
  unfold sp_rock at h
  repeat' split at h
  all_goals first | (cases h; done) | (cases h; decide)
theorem in_rock {r : Int64 × m_W} (V : vz W) (h : sp_rock W a b c d = .inl r) : vz r.2 ∧ kp W r.2 := by
  refine ⟨vz_rock V h, ?_⟩
  unfold sp_rock at h
  repeat' split at h
  all_goals first | (cases h; done) | (cases h; exact kp.refl) | (cases h; exact kp_new (by decide)) | (cases h; exact kp.refl)
theorem er_net {E : Nat} (h : sp_net W a = .inr E) : E = 0 := by
  unfold sp_net at h
  repeat' split at h
  all_goals first | (cases h; done) | (cases h; decide)
theorem in_net {r : Int64 × m_W} (V : vz W) (h : sp_net W a = .inl r) : vz r.2 ∧ kp W r.2 := by
  unfold sp_net at h
  repeat' split at h
  all_goals first | (cases h; done) | (cases h; exact ⟨V, kp.refl⟩)
theorem er_tons {E : Nat} (h : sp_tons W a n = .inr E) : E = 0 ∨ E = 1 := by
  unfold sp_tons at h
  repeat' split at h
  all_goals first | (cases h; done) | (cases h; decide)
theorem in_tons {r : Int64 × m_W} (V : vz W) (h : sp_tons W a n = .inl r) : vz r.2 ∧ kp W r.2 := by
  refine ⟨vz_tons V h, ?_⟩
  unfold sp_tons at h
  repeat' split at h
  all_goals first | (cases h; done) | (cases h; exact kp.refl) | (cases h; exact kp.refl.up (by decide) (by decide)) | (cases h; exact (kp.refl.up (by decide) (by decide)).up (by decide) (by decide))
theorem er_page {E : Nat} (h : sp_page W a b = .inr E) : E = 1 := by
  unfold sp_page at h
  repeat' split at h
  all_goals first | (cases h; done) | (cases h; decide)
theorem in_page {r : Int64 × m_W} (V : vz W) (h : sp_page W a b = .inl r) : vz r.2 ∧ kp W r.2 := by
  refine ⟨vz_page V h, ?_⟩
  unfold sp_page at h
  repeat' split at h
  all_goals first | (cases h; done) | (cases h; exact kp.refl) | (cases h; exact kp_new (by decide)) | (cases h; exact kp.refl)
theorem er_choice {E : Nat} (h : sp_choice W a b c d = .inr E) : E = 1 := by
  unfold sp_choice at h
  repeat' split at h
  all_goals first | (cases h; done) | (cases h; decide)
theorem in_choice {r : Int64 × m_W} (V : vz W) (h : sp_choice W a b c d = .inl r) : vz r.2 ∧ kp W r.2 := by
  refine ⟨vz_choice V h, ?_⟩
  unfold sp_choice at h
  repeat' split at h
  all_goals first | (cases h; done) | (cases h; exact kp.refl) | (cases h; exact kp_new (by decide)) | (cases h; exact kp.refl)
theorem er_row {E : Nat} (h : sp_row W a b c d e = .inr E) : E = 1 := by
  unfold sp_row at h
  repeat' split at h
  all_goals first | (cases h; done) | (cases h; decide)
theorem in_row {r : Int64 × m_W} (V : vz W) (h : sp_row W a b c d e = .inl r) : vz r.2 ∧ kp W r.2 := by
  refine ⟨vz_row5 V h, ?_⟩
  unfold sp_row at h
  repeat' split at h
  all_goals first | (cases h; done) | (cases h; exact kp.refl) | (cases h; exact kp.refl.sets (by decide) (by decide)) | (cases h; exact (((kp.refl.up (by decide) (by decide)).up (by decide) (by decide)).up (by decide) (by decide)).up (by decide) (by decide))
theorem er_tear {E : Nat} (h : sp_tear W a b = .inr E) : E = 4 := by
  unfold sp_tear at h
  repeat' split at h
  all_goals first | (cases h; done) | (cases h; decide)
theorem in_tear {r : Int64 × m_W} (V : vz W) (h : sp_tear W a b = .inl r) : vz r.2 ∧ kp W r.2 := by
  refine ⟨vz_tear V h, ?_⟩
  unfold sp_tear at h
  repeat' split at h
  all_goals first | (cases h; done) | (cases h; exact kp.refl) | (cases h; exact kp.refl.up (by decide) (by decide)) | (cases h; exact (kp.refl.up (by decide) (by decide)).up (by decide) (by decide))
theorem er_allot {E : Nat} (h : sp_allot W a = .inr E) : E = 0 ∨ E = 3 := by
  unfold sp_allot at h
  repeat' split at h
  all_goals first | (cases h; done) | (cases h; decide)
theorem er_sail {E : Nat} (h : sp_sail W a b = .inr E) : E = 0 ∨ E = 3 := by
  unfold sp_sail at h
  repeat' split at h
  all_goals first | (cases h; done) | (cases h; decide)
theorem er_load {E : Nat} (h : sp_load W a b c = .inr E) : E = 0 ∨ E = 3 := by
  unfold sp_load at h
  repeat' split at h
  all_goals first | (cases h; done) | (cases h; decide)
theorem er_give {E : Nat} (h : sp_give W a b c d = .inr E) : E = 0 ∨ E = 3 := by
  unfold sp_give at h
  repeat' split at h
  all_goals first | (cases h; done) | (cases h; decide)
theorem er_weeks {E : Nat} (h : sp_weeks W a = .inr E) : E = 1 := by
  unfold sp_weeks at h
  repeat' split at h
  all_goals first | (cases h; done) | (cases h; decide)
theorem kp_sea {s : Nat} : kp W (sp_sea W s b) := by
  unfold sp_sea
  split
  · exact (kp.refl.up (by decide) (by omega)).up (by decide) (by omega)
  · exact ((kp.refl.up (by decide) (by omega)).up (by decide) (by omega)).up (by decide) (by omega)
theorem in_sail {v : Int32} {W1 : m_W} (V : vz W) (h : sp_sail W a b = .inl (v, some W1)) : vz W1 ∧ kp W W1 := by
  refine ⟨vz_sail V h, ?_⟩
  unfold sp_sail at h
  repeat' split at h
  all_goals first | (cases h; done) | (cases h; exact kp_sea)
theorem kp_put {s t : Nat} : kp W (sp_put W s t c) := by
  refine kp_k (fun k i y hk => ?_)
  unfold sp_put
  rw [wz_up_k (by omega)]
  unfold sp_put1
  split
  · rw [wz_up_k (by omega), wz_up_k (by omega), wz_up_k (by omega), sp_mv_k (by omega)]
  · exact sp_mv_k (by omega)
theorem in_load {v : Int32} {W1 : m_W} (V : vz W) (h : sp_load W a b c = .inl (v, some W1)) : vz W1 ∧ kp W W1 := by
  refine ⟨vz_load V h, ?_⟩
  unfold sp_load at h
  repeat' split at h
  all_goals first | (cases h; done) | (cases h; exact kp_put)
theorem kp_on {t : Nat} {l g : Int32} : kp W (sp_on W t c l g) := by
  refine kp_k (fun k i y hk => ?_)
  unfold sp_on
  rw [wz_up_k (by omega), wz_up_k (by omega), wz_up_k (by omega), sp_lot0_k (by omega) (by omega), sp_mv_k (by omega)]
theorem in_give {v : Int32} {W1 : m_W} (V : vz W) (h : sp_give W a b c d = .inl (v, some W1)) : vz W1 ∧ kp W W1 := by
  refine ⟨vz_give V h, ?_⟩
  unfold sp_give at h
  repeat' split at h
  all_goals first | (cases h; done) | (cases h; exact kp_on)
theorem kp_al {x : Int32} {Q : Nat → Int32} : ∀ k m (P : Nat → Bool) (W : m_W), kp W (sp_al x Q k m P W).2
  | 0, m, P, W => kp.refl
  | k + 1, m, P, W => by
    unfold sp_al
    split
    · exact kp.refl
    · split
      · exact kp.refl
      · split
        · exact kp_al k _ _ _
        · exact (kp_k (fun k i y hk => sp_lend_k (by omega) (by omega) (by omega))).trans (kp_al k _ _ _)
theorem in_allot {v : Int32} {W1 : m_W} (V : vz W) (h : sp_allot W a = .inl (v, some W1)) : vz W1 ∧ kp W W1 := by
  refine ⟨vz_allot V h, ?_⟩
  unfold sp_allot at h
  repeat' split at h
  all_goals first | (cases h; done) | (cases h; exact kp_al _ _ _ _)
theorem in_over (V : vz W) : vz (sp_over W).2 ∧ kp W (sp_over W).2 := by
  refine ⟨vz_over V, ?_⟩
  unfold sp_over
  split
  · refine kp.up ?_ (by decide) (by decide)
    exact kp_k (fun k i y hk => sp_left_k (by omega) _)
  · exact kp.refl
end
