/-! ===== each face behind its catch ===== -/
def ch1 (a : Nat) (E : Nat) (h : m_H) : Option (Int32 × m_H) := m_if (E = a) (some (1, h)) none
def ch2 (a b : Nat) (E : Nat) (h : m_H) : Option (Int32 × m_H) := m_if (E = a) (some (1, h)) (m_if (E = b) (some (2, h)) none)
def ch3 (a b c : Nat) (E : Nat) (h : m_H) : Option (Int32 × m_H) := m_if (E = a) (some (1, h)) (m_if (E = b) (some (2, h)) (m_if (E = c) (some (3, h)) none))
def ch4 (a b c d : Nat) (E : Nat) (h : m_H) : Option (Int32 × m_H) := m_if (E = a) (some (1, h)) (m_if (E = b) (some (2, h)) (m_if (E = c) (some (3, h)) (m_if (E = d) (some (4, h)) none)))
section
variable {s : tz_S} {W : m_W} {b0 i : Option m_W} {n0 m N : Nat} {f g : Nat → Int32} {T : Nat → Nat} {q : Nat} {e : Int32} {a b c d e2 n : Int32}
theorem w_b {A : Option ((Int32 ⊕ Nat) × m_H)} {G : Nat → m_H → Option (Int32 × m_H)} {P : Int32 × m_H → Prop} {Q : (Int32 ⊕ Nat) × m_H → Prop} (hA : k_ok A Q) (h01 : ∀ z v, Q z → z.1 = .inl v → v = 0 ∨ v = 1) (K : k_ok (m_b A fun z2 => m_sx z2.1 (fun v3 => m_b (m_sl z2.2 333 0 (m_i2l v3)) fun h7 => some (0, h7)) fun E => G E z2.2) P) : k_ok (m_b A fun z2 => m_sx z2.1 (fun v3 => m_if (v3 = 0) (m_b (m_sl z2.2 333 0 0) fun h8 => some (0, h8)) (m_b (m_sl z2.2 333 0 1) fun h10 => some (0, h10))) fun E => G E z2.2) P := by
  obtain ⟨⟨zv, zh⟩, ez, qz⟩ := hA
  rw [ez] at K ⊢
  have x0 : m_i2l 0 = 0 := by decide
  have x1 : m_i2l 1 = 1 := by decide
  cases zv with
  | inr E => exact K
  | inl v =>
    have K : k_ok (m_b (m_sl zh 333 0 (m_i2l v)) fun h7 => some ((0 : Int32), h7)) P := K
    show k_ok (m_if (v = 0) (m_b (m_sl zh 333 0 0) fun h8 => some ((0 : Int32), h8)) (m_b (m_sl zh 333 0 1) fun h10 => some ((0 : Int32), h10))) P
    rcases h01 _ v qz rfl with rfl | rfl
    · rw [x0] at K
      exact k_t rfl K
    · rw [x1] at K
      exact k_f (show ¬ (1 : Int32) = 0 by decide) K
theorem JB (J : JC s W b0 i n0 m f g T q e) (P : JP W b0 i n0 m f g T q) : bz_N (tz_H s) W := by
  obtain ⟨A, -, -, le, -⟩ := J.2.2.2.1
  have w := P.2.2.1
  exact ⟨s, rfl, n0, f, A.c, le, fun k hk => ⟨by unfold jwk at w; omega, fun c h1 h2 => P.2.1 k hk c h1 h2⟩⟩
theorem lab01 {r : Int64 × m_W} (h : sp_label W a b = .inl r) : r.1 = 0 ∨ r.1 = 1 := by
  unfold sp_label at h
  repeat' split at h
  all_goals first | (cases h; done) | (cases h; exact Or.inl rfl) | (cases h; exact Or.inr rfl)
theorem load01 {r : Int32 × Option m_W} (h : sp_load W a b c = .inl r) : r.1 = 0 ∨ r.1 = 1 := by
  unfold sp_load at h
  repeat' split at h
  all_goals first | (cases h; done) | (cases h; exact Or.inl rfl) | (cases h; exact Or.inr rfl)
theorem sail01 {r : Int32 × Option m_W} (h : sp_sail W a b = .inl r) : r.1 = 0 ∨ r.1 = 1 := by
  unfold sp_sail at h
  repeat' split at h
  all_goals first | (cases h; done) | (cases h; exact Or.inl rfl) | (cases h; exact Or.inr rfl)
theorem i2l_0 {v : Int32} (h : v.toInt64 = 0) : v = 0 := by
  have e := congrArg Int64.toInt h
  rw [Int32.toInt_toInt64] at e
  exact Int32.toInt_inj.mp e
theorem i2l_1 {v : Int32} (h : v.toInt64 = 1) : v = 1 := by
  have e := congrArg Int64.toInt h
  rw [Int32.toInt_toInt64] at e
  exact Int32.toInt_inj.mp e
theorem wp_price (J : JC s W b0 i n0 m f g T q e) (R0 : JR s W b0 i T q e) (P : JP W b0 i n0 m f g T q) (M : JM s n0 m N) : k_ok (F13_price 200 a b n 333 (tz_H s)) (WP true N e01 W b0 i T q e (pI b0 (sp_price W a b n))) := by
  unfold F13_price F13_price_0
  exact w_I (G := ch2 0 1) (cz_price J.1.N P.1) (fun E hE => by rcases er_price hE with rfl | rfl <;> exact ⟨fun _ => rfl, by decide⟩) (fun r hr => in_price P.1 hr) J R0 P M
theorem wp_cost (J : JC s W b0 i n0 m f g T q e) (R0 : JR s W b0 i T q e) (P : JP W b0 i n0 m f g T q) (M : JM s n0 m N) : k_ok (F13_cost 200 a b 333 (tz_H s)) (WP true N e0 W b0 i T q e (pI b0 (sp_cost W a b))) := by
  unfold F13_cost F13_cost_0
  exact w_I (G := ch1 0) (cz_cost J.1.N) (fun E hE => by rcases er_cost hE with rfl <;> exact ⟨fun _ => rfl, by decide⟩) (fun r hr => in_cost P.1 hr) J R0 P M
theorem wp_works (J : JC s W b0 i n0 m f g T q e) (R0 : JR s W b0 i T q e) (P : JP W b0 i n0 m f g T q) (M : JM s n0 m N) : k_ok (F13_works 200 a b 333 (tz_H s)) (WP true N e1 W b0 i T q e (pI b0 (sp_works W a b))) := by
  unfold F13_works F13_works_0
  exact w_I (G := ch1 1) (cz_works J.1.N) (fun E hE => by rcases er_works hE with rfl <;> exact ⟨fun _ => rfl, by decide⟩) (fun r hr => in_works P.1 hr) J R0 P M
theorem wp_order (J : JC s W b0 i n0 m f g T q e) (R0 : JR s W b0 i T q e) (P : JP W b0 i n0 m f g T q) (M : JM s n0 m N) : k_ok (F13_order 200 a b 333 (tz_H s)) (WP true N e0123 W b0 i T q e (pI b0 (sp_order W a b))) := by
  unfold F13_order F13_order_0
  exact w_I (G := ch4 0 1 2 3) (cz_order J.1.N P.1) (fun E hE => by rcases er_order hE with rfl | rfl | rfl | rfl <;> exact ⟨fun _ => rfl, by decide⟩) (fun r hr => in_order P.1 hr) J R0 P M
theorem wp_lot (J : JC s W b0 i n0 m f g T q e) (R0 : JR s W b0 i T q e) (P : JP W b0 i n0 m f g T q) (M : JM s n0 m N) : k_ok (F13_lot 200 a b 333 (tz_H s)) (WP true N e04 W b0 i T q e (pI b0 (sp_lot W a b))) := by
  unfold F13_lot F13_lot_0
  exact w_I (G := ch2 0 4) (cz_lot J.1.N) (fun E hE => by rcases er_lot hE with rfl | rfl <;> exact ⟨fun _ => rfl, by decide⟩) (fun r hr => in_lot P.1 hr) J R0 P M
theorem wp_ask (J : JC s W b0 i n0 m f g T q e) (R0 : JR s W b0 i T q e) (P : JP W b0 i n0 m f g T q) (M : JM s n0 m N) : k_ok (F13_ask 200 a b c d 333 (tz_H s)) (WP true N e012 W b0 i T q e (pI b0 (sp_ask W a b c d))) := by
  unfold F13_ask F13_ask_0
  exact w_I (G := ch3 0 1 2) (cz_ask J.1.N P.1) (fun E hE => by rcases er_ask hE with rfl | rfl | rfl <;> exact ⟨fun _ => rfl, by decide⟩) (fun r hr => in_ask P.1 hr) J R0 P M
theorem wp_weigh (J : JC s W b0 i n0 m f g T q e) (R0 : JR s W b0 i T q e) (P : JP W b0 i n0 m f g T q) (M : JM s n0 m N) : k_ok (F13_weigh 200 a b 333 (tz_H s)) (WP true N e04 W b0 i T q e (pI b0 (sp_weigh W a b))) := by
  unfold F13_weigh F13_weigh_0
  exact w_I (G := ch2 0 4) (cz_weigh J.1.N P.1) (fun E hE => by rcases er_weigh hE with rfl | rfl <;> exact ⟨fun _ => rfl, by decide⟩) (fun r hr => in_weigh P.1 hr) J R0 P M
theorem wp_ship (J : JC s W b0 i n0 m f g T q e) (R0 : JR s W b0 i T q e) (P : JP W b0 i n0 m f g T q) (M : JM s n0 m N) : k_ok (F13_ship 200 a b 333 (tz_H s)) (WP true N e12 W b0 i T q e (pI b0 (sp_ship W a b))) := by
  unfold F13_ship F13_ship_0
  exact w_I (G := ch2 1 2) (cz_ship J.1.N P.1) (fun E hE => by rcases er_ship hE with rfl | rfl <;> exact ⟨fun _ => rfl, by decide⟩) (fun r hr => in_ship P.1 hr) J R0 P M
theorem wp_risk (J : JC s W b0 i n0 m f g T q e) (R0 : JR s W b0 i T q e) (P : JP W b0 i n0 m f g T q) (M : JM s n0 m N) : k_ok (F13_risk 200 a b n 333 (tz_H s)) (WP true N e01 W b0 i T q e (pI b0 (sp_risk W a b n))) := by
  unfold F13_risk F13_risk_0
  exact w_I (G := ch2 0 1) (cz_risk J.1.N P.1) (fun E hE => by rcases er_risk hE with rfl | rfl <;> exact ⟨fun _ => rfl, by decide⟩) (fun r hr => in_risk P.1 hr) J R0 P M
theorem wp_led (J : JC s W b0 i n0 m f g T q e) (R0 : JR s W b0 i T q e) (P : JP W b0 i n0 m f g T q) (M : JM s n0 m N) : k_ok (F13_led 200 a b 333 (tz_H s)) (WP true N e04 W b0 i T q e (pI b0 (sp_led W a b))) := by
  unfold F13_led F13_led_0
  exact w_I (G := ch2 0 4) (cz_led J.1.N P.1) (fun E hE => by rcases er_led hE with rfl | rfl <;> exact ⟨fun _ => rfl, by decide⟩) (fun r hr => in_led P.1 hr) J R0 P M
theorem wp_back (J : JC s W b0 i n0 m f g T q e) (R0 : JR s W b0 i T q e) (P : JP W b0 i n0 m f g T q) (M : JM s n0 m N) : k_ok (F13_back 200 a b c 333 (tz_H s)) (WP true N e0123 W b0 i T q e (pI b0 (sp_back W a b c))) := by
  unfold F13_back F13_back_0
  exact w_I (G := ch4 0 1 2 3) (cz_back J.1.N P.1) (fun E hE => by rcases er_back hE with rfl | rfl | rfl | rfl <;> exact ⟨fun _ => rfl, by decide⟩) (fun r hr => in_back P.1 hr) J R0 P M
theorem wp_land (J : JC s W b0 i n0 m f g T q e) (R0 : JR s W b0 i T q e) (P : JP W b0 i n0 m f g T q) (M : JM s n0 m N) : k_ok (F13_land 200 a b 333 (tz_H s)) (WP true N e014 W b0 i T q e (pI b0 (sp_land W a b))) := by
  unfold F13_land F13_land_0
  exact w_J (G := ch3 0 1 4) (cz_land J.1.N (JB J P) P.1) (fun E hE => by rcases er_land hE with rfl | rfl | rfl <;> exact ⟨fun _ => rfl, by decide⟩) (fun r hr => in_land P.1 hr) J R0 P M
theorem wp_balance (J : JC s W b0 i n0 m f g T q e) (R0 : JR s W b0 i T q e) (P : JP W b0 i n0 m f g T q) (M : JM s n0 m N) : k_ok (F13_balance 200 a b c 333 (tz_H s)) (WP true N e014 W b0 i T q e (pI b0 (sp_balance W a b c))) := by
  unfold F13_balance F13_balance_0
  exact w_J (G := ch3 0 1 4) (cz_balance J.1.N P.1) (fun E hE => by rcases er_balance hE with rfl | rfl | rfl <;> exact ⟨fun _ => rfl, by decide⟩) (fun r hr => in_balance P.1 hr) J R0 P M
theorem wp_returned (J : JC s W b0 i n0 m f g T q e) (R0 : JR s W b0 i T q e) (P : JP W b0 i n0 m f g T q) (M : JM s n0 m N) : k_ok (F13_returned 200 a b c d 333 (tz_H s)) (WP true N e01 W b0 i T q e (pI b0 (sp_returned W a b c d))) := by
  unfold F13_returned F13_returned_0
  exact w_I (G := ch2 0 1) (cz_returned J.1.N P.1) (fun E hE => by rcases er_returned hE with rfl | rfl <;> exact ⟨fun _ => rfl, by decide⟩) (fun r hr => in_returned P.1 hr) J R0 P M
theorem wp_mustBe (J : JC s W b0 i n0 m f g T q e) (R0 : JR s W b0 i T q e) (P : JP W b0 i n0 m f g T q) (M : JM s n0 m N) : k_ok (F13_mustBe 200 a b c 333 (tz_H s)) (WP true N e01 W b0 i T q e (pI b0 (sp_mustBe W a b c))) := by
  unfold F13_mustBe F13_mustBe_0
  exact w_I (G := ch2 0 1) (cz_mustBe J.1.N (JB J P) P.1) (fun E hE => by rcases er_mustBe hE with rfl | rfl <;> exact ⟨fun _ => rfl, by decide⟩) (fun r hr => in_mustBe P.1 hr) J R0 P M
theorem wp_seen (J : JC s W b0 i n0 m f g T q e) (R0 : JR s W b0 i T q e) (P : JP W b0 i n0 m f g T q) (M : JM s n0 m N) : k_ok (F13_seen 200 a b c 333 (tz_H s)) (WP true N e01 W b0 i T q e (pI b0 (sp_seen W a b c))) := by
  unfold F13_seen F13_seen_0
  exact w_I (G := ch2 0 1) (cz_seen J.1.N P.1) (fun E hE => by rcases er_seen hE with rfl | rfl <;> exact ⟨fun _ => rfl, by decide⟩) (fun r hr => in_seen P.1 hr) J R0 P M
theorem wp_whence (J : JC s W b0 i n0 m f g T q e) (R0 : JR s W b0 i T q e) (P : JP W b0 i n0 m f g T q) (M : JM s n0 m N) : k_ok (F13_whence 200 a b c 333 (tz_H s)) (WP true N e01 W b0 i T q e (pI b0 (sp_whence W a b c))) := by
  unfold F13_whence F13_whence_0
  exact w_I (G := ch2 0 1) (cz_whence J.1.N P.1) (fun E hE => by rcases er_whence hE with rfl | rfl <;> exact ⟨fun _ => rfl, by decide⟩) (fun r hr => in_whence P.1 hr) J R0 P M
theorem wp_rock (J : JC s W b0 i n0 m f g T q e) (R0 : JR s W b0 i T q e) (P : JP W b0 i n0 m f g T q) (M : JM s n0 m N) : k_ok (F13_rock 200 a b c d 333 (tz_H s)) (WP true N e012 W b0 i T q e (pI b0 (sp_rock W a b c d))) := by
  unfold F13_rock F13_rock_0
  exact w_I (G := ch3 0 1 2) (cz_rock J.1.N P.1) (fun E hE => by rcases er_rock hE with rfl | rfl | rfl <;> exact ⟨fun _ => rfl, by decide⟩) (fun r hr => in_rock P.1 hr) J R0 P M
theorem wp_net (J : JC s W b0 i n0 m f g T q e) (R0 : JR s W b0 i T q e) (P : JP W b0 i n0 m f g T q) (M : JM s n0 m N) : k_ok (F13_net 200 a 333 (tz_H s)) (WP true N e0 W b0 i T q e (pI b0 (sp_net W a))) := by
  unfold F13_net F13_net_0
  exact w_I (G := ch1 0) (cz_net J.1.N) (fun E hE => by rcases er_net hE with rfl <;> exact ⟨fun _ => rfl, by decide⟩) (fun r hr => in_net P.1 hr) J R0 P M
theorem wp_page (J : JC s W b0 i n0 m f g T q e) (R0 : JR s W b0 i T q e) (P : JP W b0 i n0 m f g T q) (M : JM s n0 m N) : k_ok (F13_page 200 a b 333 (tz_H s)) (WP true N e1 W b0 i T q e (pI b0 (sp_page W a b))) := by
  unfold F13_page F13_page_0
  exact w_I (G := ch1 1) (cz_page J.1.N P.1) (fun E hE => by rcases er_page hE with rfl <;> exact ⟨fun _ => rfl, by decide⟩) (fun r hr => in_page P.1 hr) J R0 P M
theorem wp_choice (J : JC s W b0 i n0 m f g T q e) (R0 : JR s W b0 i T q e) (P : JP W b0 i n0 m f g T q) (M : JM s n0 m N) : k_ok (F13_choice 200 a b c d 333 (tz_H s)) (WP true N e1 W b0 i T q e (pI b0 (sp_choice W a b c d))) := by
  unfold F13_choice F13_choice_0
  exact w_I (G := ch1 1) (cz_choice J.1.N P.1) (fun E hE => by rcases er_choice hE with rfl <;> exact ⟨fun _ => rfl, by decide⟩) (fun r hr => in_choice P.1 hr) J R0 P M
theorem wp_tear (J : JC s W b0 i n0 m f g T q e) (R0 : JR s W b0 i T q e) (P : JP W b0 i n0 m f g T q) (M : JM s n0 m N) : k_ok (F13_tear 200 a b 333 (tz_H s)) (WP true N e4 W b0 i T q e (pI b0 (sp_tear W a b))) := by
  unfold F13_tear F13_tear_0
  exact w_I (G := ch1 4) (cz_tear J.1.N P.1) (fun E hE => by rcases er_tear hE with rfl <;> exact ⟨fun _ => rfl, by decide⟩) (fun r hr => in_tear P.1 hr) J R0 P M
theorem wp_sort (J : JC s W b0 i n0 m f g T q e) (R0 : JR s W b0 i T q e) (P : JP W b0 i n0 m f g T q) (M : JM s n0 m N) : k_ok (F13_sort 200 a b c d e2 (tz_H s)) (WP false N e01 W b0 i T q e (pI b0 (sp_sort W a b c d e2))) := by
  unfold F13_sort F13_sort_0
  exact w_V (G := ch2 0 1) (cz_sort J.1.N P.1) (fun E hE => by rcases er_sort hE with rfl | rfl <;> exact ⟨fun _ => rfl, by decide⟩) (fun r hr => in_sort P.1 hr) J R0 P M
theorem wp_way (J : JC s W b0 i n0 m f g T q e) (R0 : JR s W b0 i T q e) (P : JP W b0 i n0 m f g T q) (M : JM s n0 m N) : k_ok (F13_way 200 a b (tz_H s)) (WP false N e01 W b0 i T q e (pI b0 (sp_way W a b))) := by
  unfold F13_way F13_way_0
  exact w_V (G := ch2 0 1) (cz_way J.1.N P.1) (fun E hE => by rcases er_way hE with rfl | rfl <;> exact ⟨fun _ => rfl, by decide⟩) (fun r hr => in_way P.1 hr) J R0 P M
theorem wp_need (J : JC s W b0 i n0 m f g T q e) (R0 : JR s W b0 i T q e) (P : JP W b0 i n0 m f g T q) (M : JM s n0 m N) : k_ok (F13_need 200 a b n (tz_H s)) (WP false N e01 W b0 i T q e (pI b0 (sp_need W a b n))) := by
  unfold F13_need F13_need_0
  exact w_V (G := ch2 0 1) (cz_need J.1.N P.1) (fun E hE => by rcases er_need hE with rfl | rfl <;> exact ⟨fun _ => rfl, by decide⟩) (fun r hr => in_need P.1 hr) J R0 P M
theorem wp_tons (J : JC s W b0 i n0 m f g T q e) (R0 : JR s W b0 i T q e) (P : JP W b0 i n0 m f g T q) (M : JM s n0 m N) : k_ok (F13_tons 200 a n (tz_H s)) (WP false N e01 W b0 i T q e (pI b0 (sp_tons W a n))) := by
  unfold F13_tons F13_tons_0
  exact w_V (G := ch2 0 1) (cz_tons J.1.N P.1) (fun E hE => by rcases er_tons hE with rfl | rfl <;> exact ⟨fun _ => rfl, by decide⟩) (fun r hr => in_tons P.1 hr) J R0 P M
theorem wp_row (J : JC s W b0 i n0 m f g T q e) (R0 : JR s W b0 i T q e) (P : JP W b0 i n0 m f g T q) (M : JM s n0 m N) : k_ok (F13_row 200 a b c d e2 (tz_H s)) (WP false N e1 W b0 i T q e (pI b0 (sp_row W a b c d e2))) := by
  unfold F13_row F13_row_0
  exact w_V (G := ch1 1) (cz_row J.1.N P.1) (fun E hE => by rcases er_row hE with rfl <;> exact ⟨fun _ => rfl, by decide⟩) (fun r hr => in_row P.1 hr) J R0 P M
theorem wp_allot (J : JC s W b0 i n0 m f g T q e) (R0 : JR s W b0 i T q e) (P : JP W b0 i n0 m f g T q) (M : JM s n0 m N) : k_ok (F13_allot 200 a 333 (tz_H s)) (WP true N e03 W b0 i T q e (pD W b0 (sp_allot W a))) := by
  unfold F13_allot F13_allot_0
  exact w_D (G := ch2 0 3) (cz_allot J.1.N P.1) (fun E hE => by rcases er_allot hE with rfl | rfl <;> exact ⟨fun _ => rfl, by decide⟩) (fun v W1 hr => in_allot P.1 hr) J R0 P M
theorem wp_give (J : JC s W b0 i n0 m f g T q e) (R0 : JR s W b0 i T q e) (P : JP W b0 i n0 m f g T q) (M : JM s n0 m N) : k_ok (F13_give 200 a b c d 333 (tz_H s)) (WP true N e03 W b0 i T q e (pD W b0 (sp_give W a b c d))) := by
  unfold F13_give F13_give_0
  exact w_D (G := ch2 0 3) (cz_give J.1.N P.1) (fun E hE => by rcases er_give hE with rfl | rfl <;> exact ⟨fun _ => rfl, by decide⟩) (fun v W1 hr => in_give P.1 hr) J R0 P M
theorem wp_label (J : JC s W b0 i n0 m f g T q e) (R0 : JR s W b0 i T q e) (P : JP W b0 i n0 m f g T q) (M : JM s n0 m N) : k_ok (F13_label 200 a b 333 (tz_H s)) (WP true N e01 W b0 i T q e (pI b0 (sp_label W a b))) := by
  unfold F13_label F13_label_0
  exact w_b (G := ch2 0 1) (cz_label J.1.N P.1) (fun z v Q ez => by
    cases ep : sp_label W a b with
    | inl r =>
      rw [ep] at Q
      obtain ⟨v', h', ez2, ev, -⟩ := Q
      rw [ez2] at ez
      cases ez
      rcases lab01 ep with y | y
      · exact Or.inl (i2l_0 (ev.trans y))
      · exact Or.inr (i2l_1 (ev.trans y))
    | inr E =>
      rw [ep] at Q
      obtain ⟨h', ez2, -⟩ := Q
      rw [ez2] at ez
      cases ez) (w_I (G := ch2 0 1) (cz_label J.1.N P.1) (fun E hE => by rcases er_label hE with rfl | rfl <;> exact ⟨fun _ => rfl, by decide⟩) (fun r hr => in_label P.1 hr) J R0 P M)
theorem wp_load (J : JC s W b0 i n0 m f g T q e) (R0 : JR s W b0 i T q e) (P : JP W b0 i n0 m f g T q) (M : JM s n0 m N) : k_ok (F13_load 200 a b c 333 (tz_H s)) (WP true N e03 W b0 i T q e (pD W b0 (sp_load W a b c))) := by
  unfold F13_load F13_load_0
  exact w_b (G := ch2 0 3) (cz_load J.1.N P.1) (fun z v Q ez => by
    rcases ep : sp_load W a b c with ⟨v1, _ | W1⟩ | E
    · rw [ep] at Q
      obtain ⟨h', ez2, -⟩ := Q
      rw [ez2] at ez
      cases ez
      exact load01 ep
    · rw [ep] at Q
      obtain ⟨h', ez2, -⟩ := Q
      rw [ez2] at ez
      cases ez
      exact load01 ep
    · rw [ep] at Q
      obtain ⟨h', ez2, -⟩ := Q
      rw [ez2] at ez
      cases ez) (w_D (G := ch2 0 3) (cz_load J.1.N P.1) (fun E hE => by rcases er_load hE with rfl | rfl <;> exact ⟨fun _ => rfl, by decide⟩) (fun v W1 hr => in_load P.1 hr) J R0 P M)
theorem wp_sail (J : JC s W b0 i n0 m f g T q e) (R0 : JR s W b0 i T q e) (P : JP W b0 i n0 m f g T q) (M : JM s n0 m N) : k_ok (F13_sail 200 a b 333 (tz_H s)) (WP true N e03 W b0 i T q e (pD W b0 (sp_sail W a b))) := by
  unfold F13_sail F13_sail_0
  exact w_b (G := ch2 0 3) (cz_sail J.1.N P.1) (fun z v Q ez => by
    rcases ep : sp_sail W a b with ⟨v1, _ | W1⟩ | E
    · rw [ep] at Q
      obtain ⟨h', ez2, -⟩ := Q
      rw [ez2] at ez
      cases ez
      exact sail01 ep
    · rw [ep] at Q
      obtain ⟨h', ez2, -⟩ := Q
      rw [ez2] at ez
      cases ez
      exact sail01 ep
    · rw [ep] at Q
      obtain ⟨h', ez2, -⟩ := Q
      rw [ez2] at ez
      cases ez) (w_D (G := ch2 0 3) (cz_sail J.1.N P.1) (fun E hE => by rcases er_sail hE with rfl | rfl <;> exact ⟨fun _ => rfl, by decide⟩) (fun v W1 hr => in_sail P.1 hr) J R0 P M)
end
