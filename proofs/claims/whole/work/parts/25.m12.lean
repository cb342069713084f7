/-! ===== m_: methods of class 12 by the tables (printed) ===== -/
theorem md2400 : ∀ z ∈ mc12_0, decode (m_B 2400) z.1 = .ok (z.2.1, z.2.2) := by decide +kernel
theorem mm2400 : m_mok m_Z m_strs 2400 := m_mok_of (i := 2400) (own := RX12) (mn := "thrown") (I := mi12_0) (S := []) rfl rfl rfl (by decide +kernel) (by decide) mp12 md2400 (by decide +kernel) (fun _ h => absurd h List.not_mem_nil) (fun _ h => absurd h List.not_mem_nil)
theorem md2401 : ∀ z ∈ mc12_1, decode (m_B 2401) z.1 = .ok (z.2.1, z.2.2) := by decide +kernel
theorem mm2401 : m_mok m_Z m_strs 2401 := m_mok_of (i := 2401) (own := RX12) (mn := "throwsIf") (I := mi12_1) (S := []) rfl rfl rfl (by decide +kernel) (by decide) mp12 md2401 (by decide +kernel) (fun _ h => absurd h List.not_mem_nil) (fun _ h => absurd h List.not_mem_nil)
theorem md2402 : ∀ z ∈ mc12_2, decode (m_B 2402) z.1 = .ok (z.2.1, z.2.2) := by decide +kernel
theorem mm2402 : m_mok m_Z m_strs 2402 := m_mok_of (i := 2402) (own := RX12) (mn := "in") (I := mi12_2) (S := []) rfl rfl rfl (by decide +kernel) (by decide) mp12 md2402 (by decide +kernel) (fun _ h => absurd h List.not_mem_nil) (fun _ h => absurd h List.not_mem_nil)
theorem md2403 : ∀ z ∈ mc12_3, decode (m_B 2403) z.1 = .ok (z.2.1, z.2.2) := by decide +kernel
theorem mm2403 : m_mok m_Z m_strs 2403 := m_mok_of (i := 2403) (own := RX12) (mn := "<init>") (I := mi12_3) (S := []) rfl rfl rfl (by decide +kernel) (by decide) mp12 md2403 (by decide +kernel) (fun _ h => absurd h List.not_mem_nil) (fun _ h => absurd h List.not_mem_nil)
theorem md2404 : ∀ z ∈ mc12_4, decode (m_B 2404) z.1 = .ok (z.2.1, z.2.2) := by decide +kernel
theorem mm2404 : m_mok m_Z m_strs 2404 := m_mok_of (i := 2404) (own := RX12) (mn := "week") (I := mi12_4) (S := []) rfl rfl rfl (by decide +kernel) (by decide) mp12 md2404 (by decide +kernel) (fun _ h => absurd h List.not_mem_nil) (fun _ h => absurd h List.not_mem_nil)
theorem md2405 : ∀ z ∈ mc12_5, decode (m_B 2405) z.1 = .ok (z.2.1, z.2.2) := by decide +kernel
theorem mm2405 : m_mok m_Z m_strs 2405 := m_mok_of (i := 2405) (own := RX12) (mn := "isOver") (I := mi12_5) (S := []) rfl rfl rfl (by decide +kernel) (by decide) mp12 md2405 (by decide +kernel) (fun _ h => absurd h List.not_mem_nil) (fun _ h => absurd h List.not_mem_nil)
theorem md2406 : ∀ z ∈ mc12_6, decode (m_B 2406) z.1 = .ok (z.2.1, z.2.2) := by decide +kernel
theorem mm2406 : m_mok m_Z m_strs 2406 := m_mok_of (i := 2406) (own := RX12) (mn := "deed") (I := mi12_6) (S := []) rfl rfl rfl (by decide +kernel) (by decide) mp12 md2406 (by decide +kernel) (fun _ h => absurd h List.not_mem_nil) (fun _ h => absurd h List.not_mem_nil)
theorem md2407 : ∀ z ∈ mc12_7, decode (m_B 2407) z.1 = .ok (z.2.1, z.2.2) := by decide +kernel
theorem mm2407 : m_mok m_Z m_strs 2407 := m_mok_of (i := 2407) (own := RX12) (mn := "undo") (I := mi12_7) (S := []) rfl rfl rfl (by decide +kernel) (by decide) mp12 md2407 (by decide +kernel) (fun _ h => absurd h List.not_mem_nil) (fun _ h => absurd h List.not_mem_nil)
theorem md2408 : ∀ z ∈ mc12_8, decode (m_B 2408) z.1 = .ok (z.2.1, z.2.2) := by decide +kernel
theorem mm2408 : m_mok m_Z m_strs 2408 := m_mok_of (i := 2408) (own := RX12) (mn := "keep") (I := mi12_8) (S := []) rfl rfl rfl (by decide +kernel) (by decide) mp12 md2408 (by decide +kernel) (fun _ h => absurd h List.not_mem_nil) (fun _ h => absurd h List.not_mem_nil)
theorem md2409 : ∀ z ∈ mc12_9, decode (m_B 2409) z.1 = .ok (z.2.1, z.2.2) := by decide +kernel
theorem mm2409 : m_mok m_Z m_strs 2409 := m_mok_of (i := 2409) (own := RX12) (mn := "again") (I := mi12_9) (S := []) rfl rfl rfl (by decide +kernel) (by decide) mp12 md2409 (by decide +kernel) (fun _ h => absurd h List.not_mem_nil) (fun _ h => absurd h List.not_mem_nil)
theorem md2410 : ∀ z ∈ mc12_10, decode (m_B 2410) z.1 = .ok (z.2.1, z.2.2) := by decide +kernel
theorem mm2410 : m_mok m_Z m_strs 2410 := m_mok_of (i := 2410) (own := RX12) (mn := "noSort") (I := mi12_10) (S := []) rfl rfl rfl (by decide +kernel) (by decide) mp12 md2410 (by decide +kernel) (fun _ h => absurd h List.not_mem_nil) (fun _ h => absurd h List.not_mem_nil)
theorem md2411 : ∀ z ∈ mc12_11, decode (m_B 2411) z.1 = .ok (z.2.1, z.2.2) := by decide +kernel
theorem mm2411 : m_mok m_Z m_strs 2411 := m_mok_of (i := 2411) (own := RX12) (mn := "noLand") (I := mi12_11) (S := []) rfl rfl rfl (by decide +kernel) (by decide) mp12 md2411 (by decide +kernel) (fun _ h => absurd h List.not_mem_nil) (fun _ h => absurd h List.not_mem_nil)
theorem md2412 : ∀ z ∈ mc12_12, decode (m_B 2412) z.1 = .ok (z.2.1, z.2.2) := by decide +kernel
theorem mm2412 : m_mok m_Z m_strs 2412 := m_mok_of (i := 2412) (own := RX12) (mn := "sortOf") (I := mi12_12) (S := []) rfl rfl rfl (by decide +kernel) (by decide) mp12 md2412 (by decide +kernel) (fun _ h => absurd h List.not_mem_nil) (fun _ h => absurd h List.not_mem_nil)
theorem md2413 : ∀ z ∈ mc12_13, decode (m_B 2413) z.1 = .ok (z.2.1, z.2.2) := by decide +kernel
theorem mm2413 : m_mok m_Z m_strs 2413 := m_mok_of (i := 2413) (own := RX12) (mn := "landAt") (I := mi12_13) (S := []) rfl rfl rfl (by decide +kernel) (by decide) mp12 md2413 (by decide +kernel) (fun _ h => absurd h List.not_mem_nil) (fun _ h => absurd h List.not_mem_nil)
theorem md2414 : ∀ z ∈ mc12_14, decode (m_B 2414) z.1 = .ok (z.2.1, z.2.2) := by decide +kernel
theorem mm2414 : m_mok m_Z m_strs 2414 := m_mok_of (i := 2414) (own := RX12) (mn := "both") (I := mi12_14) (S := []) rfl rfl rfl (by decide +kernel) (by decide) mp12 md2414 (by decide +kernel) (fun _ h => absurd h List.not_mem_nil) (fun _ h => absurd h List.not_mem_nil)
theorem md2415 : ∀ z ∈ mc12_15, decode (m_B 2415) z.1 = .ok (z.2.1, z.2.2) := by decide +kernel
theorem mm2415 : m_mok m_Z m_strs 2415 := m_mok_of (i := 2415) (own := RX12) (mn := "sort") (I := mi12_15) (S := []) rfl rfl rfl (by decide +kernel) (by decide) mp12 md2415 (by decide +kernel) (fun _ h => absurd h List.not_mem_nil) (fun _ h => absurd h List.not_mem_nil)
theorem md2416 : ∀ z ∈ mc12_16, decode (m_B 2416) z.1 = .ok (z.2.1, z.2.2) := by decide +kernel
theorem mm2416 : m_mok m_Z m_strs 2416 := m_mok_of (i := 2416) (own := RX12) (mn := "tells") (I := mi12_16) (S := []) rfl rfl rfl (by decide +kernel) (by decide) mp12 md2416 (by decide +kernel) (fun _ h => absurd h List.not_mem_nil) (fun _ h => absurd h List.not_mem_nil)
theorem md2417 : ∀ z ∈ mc12_17, decode (m_B 2417) z.1 = .ok (z.2.1, z.2.2) := by decide +kernel
theorem mm2417 : m_mok m_Z m_strs 2417 := m_mok_of (i := 2417) (own := RX12) (mn := "toldOf") (I := mi12_17) (S := []) rfl rfl rfl (by decide +kernel) (by decide) mp12 md2417 (by decide +kernel) (fun _ h => absurd h List.not_mem_nil) (fun _ h => absurd h List.not_mem_nil)
theorem md2418 : ∀ z ∈ mc12_18, decode (m_B 2418) z.1 = .ok (z.2.1, z.2.2) := by decide +kernel
theorem mm2418 : m_mok m_Z m_strs 2418 := m_mok_of (i := 2418) (own := RX12) (mn := "price") (I := mi12_18) (S := []) rfl rfl rfl (by decide +kernel) (by decide) mp12 md2418 (by decide +kernel) (fun _ h => absurd h List.not_mem_nil) (fun _ h => absurd h List.not_mem_nil)
theorem md2419 : ∀ z ∈ mc12_19, decode (m_B 2419) z.1 = .ok (z.2.1, z.2.2) := by decide +kernel
theorem mm2419 : m_mok m_Z m_strs 2419 := m_mok_of (i := 2419) (own := RX12) (mn := "priceOf") (I := mi12_19) (S := []) rfl rfl rfl (by decide +kernel) (by decide) mp12 md2419 (by decide +kernel) (fun _ h => absurd h List.not_mem_nil) (fun _ h => absurd h List.not_mem_nil)
theorem md2420 : ∀ z ∈ mc12_20, decode (m_B 2420) z.1 = .ok (z.2.1, z.2.2) := by decide +kernel
theorem mm2420 : m_mok m_Z m_strs 2420 := m_mok_of (i := 2420) (own := RX12) (mn := "cost") (I := mi12_20) (S := []) rfl rfl rfl (by decide +kernel) (by decide) mp12 md2420 (by decide +kernel) (fun _ h => absurd h List.not_mem_nil) (fun _ h => absurd h List.not_mem_nil)
theorem md2421 : ∀ z ∈ mc12_21, decode (m_B 2421) z.1 = .ok (z.2.1, z.2.2) := by decide +kernel
theorem mm2421 : m_mok m_Z m_strs 2421 := m_mok_of (i := 2421) (own := RX12) (mn := "works") (I := mi12_21) (S := []) rfl rfl rfl (by decide +kernel) (by decide) mp12 md2421 (by decide +kernel) (fun _ h => absurd h List.not_mem_nil) (fun _ h => absurd h List.not_mem_nil)
theorem md2422 : ∀ z ∈ mc12_22, decode (m_B 2422) z.1 = .ok (z.2.1, z.2.2) := by decide +kernel
theorem mm2422 : m_mok m_Z m_strs 2422 := m_mok_of (i := 2422) (own := RX12) (mn := "way") (I := mi12_22) (S := []) rfl rfl rfl (by decide +kernel) (by decide) mp12 md2422 (by decide +kernel) (fun _ h => absurd h List.not_mem_nil) (fun _ h => absurd h List.not_mem_nil)
theorem md2423 : ∀ z ∈ mc12_23, decode (m_B 2423) z.1 = .ok (z.2.1, z.2.2) := by decide +kernel
theorem mm2423 : m_mok m_Z m_strs 2423 := m_mok_of (i := 2423) (own := RX12) (mn := "risk") (I := mi12_23) (S := []) rfl rfl rfl (by decide +kernel) (by decide) mp12 md2423 (by decide +kernel) (fun _ h => absurd h List.not_mem_nil) (fun _ h => absurd h List.not_mem_nil)
theorem md2424 : ∀ z ∈ mc12_24, decode (m_B 2424) z.1 = .ok (z.2.1, z.2.2) := by decide +kernel
theorem mm2424 : m_mok m_Z m_strs 2424 := m_mok_of (i := 2424) (own := RX12) (mn := "need") (I := mi12_24) (S := []) rfl rfl rfl (by decide +kernel) (by decide) mp12 md2424 (by decide +kernel) (fun _ h => absurd h List.not_mem_nil) (fun _ h => absurd h List.not_mem_nil)
theorem md2425 : ∀ z ∈ mc12_25, decode (m_B 2425) z.1 = .ok (z.2.1, z.2.2) := by decide +kernel
theorem mm2425 : m_mok m_Z m_strs 2425 := m_mok_of (i := 2425) (own := RX12) (mn := "lotAt") (I := mi12_25) (S := []) rfl rfl rfl (by decide +kernel) (by decide) mp12 md2425 (by decide +kernel) (fun _ h => absurd h List.not_mem_nil) (fun _ h => absurd h List.not_mem_nil)
theorem md2426 : ∀ z ∈ mc12_26, decode (m_B 2426) z.1 = .ok (z.2.1, z.2.2) := by decide +kernel
theorem mm2426 : m_mok m_Z m_strs 2426 := m_mok_of (i := 2426) (own := RX12) (mn := "of") (I := mi12_26) (S := []) rfl rfl rfl (by decide +kernel) (by decide) mp12 md2426 (by decide +kernel) (fun _ h => absurd h List.not_mem_nil) (fun _ h => absurd h List.not_mem_nil)
theorem md2427 : ∀ z ∈ mc12_27, decode (m_B 2427) z.1 = .ok (z.2.1, z.2.2) := by decide +kernel
theorem mm2427 : m_mok m_Z m_strs 2427 := m_mok_of (i := 2427) (own := RX12) (mn := "noLot") (I := mi12_27) (S := []) rfl rfl rfl (by decide +kernel) (by decide) mp12 md2427 (by decide +kernel) (fun _ h => absurd h List.not_mem_nil) (fun _ h => absurd h List.not_mem_nil)
theorem md2428 : ∀ z ∈ mc12_28, decode (m_B 2428) z.1 = .ok (z.2.1, z.2.2) := by decide +kernel
theorem mm2428 : m_mok m_Z m_strs 2428 := m_mok_of (i := 2428) (own := RX12) (mn := "begins") (I := mi12_28) (S := []) rfl rfl rfl (by decide +kernel) (by decide) mp12 md2428 (by decide +kernel) (fun _ h => absurd h List.not_mem_nil) (fun _ h => absurd h List.not_mem_nil)
theorem md2429 : ∀ z ∈ mc12_29, decode (m_B 2429) z.1 = .ok (z.2.1, z.2.2) := by decide +kernel
theorem mm2429 : m_mok m_Z m_strs 2429 := m_mok_of (i := 2429) (own := RX12) (mn := "moves") (I := mi12_29) (S := []) rfl rfl rfl (by decide +kernel) (by decide) mp12 md2429 (by decide +kernel) (fun _ h => absurd h List.not_mem_nil) (fun _ h => absurd h List.not_mem_nil)
theorem md2430 : ∀ z ∈ mc12_30, decode (m_B 2430) z.1 = .ok (z.2.1, z.2.2) := by decide +kernel
theorem mm2430 : m_mok m_Z m_strs 2430 := m_mok_of (i := 2430) (own := RX12) (mn := "isStock") (I := mi12_30) (S := []) rfl rfl rfl (by decide +kernel) (by decide) mp12 md2430 (by decide +kernel) (fun _ h => absurd h List.not_mem_nil) (fun _ h => absurd h List.not_mem_nil)
theorem md2431 : ∀ z ∈ mc12_31, decode (m_B 2431) z.1 = .ok (z.2.1, z.2.2) := by decide +kernel
theorem mm2431 : m_mok m_Z m_strs 2431 := m_mok_of (i := 2431) (own := RX12) (mn := "isFor") (I := mi12_31) (S := []) rfl rfl rfl (by decide +kernel) (by decide) mp12 md2431 (by decide +kernel) (fun _ h => absurd h List.not_mem_nil) (fun _ h => absurd h List.not_mem_nil)
theorem md2432 : ∀ z ∈ mc12_32, decode (m_B 2432) z.1 = .ok (z.2.1, z.2.2) := by decide +kernel
theorem mm2432 : m_mok m_Z m_strs 2432 := m_mok_of (i := 2432) (own := RX12) (mn := "order") (I := mi12_32) (S := []) rfl rfl rfl (by decide +kernel) (by decide) mp12 md2432 (by decide +kernel) (fun _ h => absurd h List.not_mem_nil) (fun _ h => absurd h List.not_mem_nil)
theorem md2433 : ∀ z ∈ mc12_33, decode (m_B 2433) z.1 = .ok (z.2.1, z.2.2) := by decide +kernel
theorem mm2433 : m_mok m_Z m_strs 2433 := m_mok_of (i := 2433) (own := RX12) (mn := "lot") (I := mi12_33) (S := []) rfl rfl rfl (by decide +kernel) (by decide) mp12 md2433 (by decide +kernel) (fun _ h => absurd h List.not_mem_nil) (fun _ h => absurd h List.not_mem_nil)
theorem md2434 : ∀ z ∈ mc12_34, decode (m_B 2434) z.1 = .ok (z.2.1, z.2.2) := by decide +kernel
theorem mm2434 : m_mok m_Z m_strs 2434 := m_mok_of (i := 2434) (own := RX12) (mn := "back") (I := mi12_34) (S := []) rfl rfl rfl (by decide +kernel) (by decide) mp12 md2434 (by decide +kernel) (fun _ h => absurd h List.not_mem_nil) (fun _ h => absurd h List.not_mem_nil)
theorem md2435 : ∀ z ∈ mc12_35, decode (m_B 2435) z.1 = .ok (z.2.1, z.2.2) := by decide +kernel
theorem mm2435 : m_mok m_Z m_strs 2435 := m_mok_of (i := 2435) (own := RX12) (mn := "label") (I := mi12_35) (S := []) rfl rfl rfl (by decide +kernel) (by decide) mp12 md2435 (by decide +kernel) (fun _ h => absurd h List.not_mem_nil) (fun _ h => absurd h List.not_mem_nil)
theorem md2436 : ∀ z ∈ mc12_36, decode (m_B 2436) z.1 = .ok (z.2.1, z.2.2) := by decide +kernel
theorem mm2436 : m_mok m_Z m_strs 2436 := m_mok_of (i := 2436) (own := RX12) (mn := "feed") (I := mi12_36) (S := []) rfl rfl rfl (by decide +kernel) (by decide) mp12 md2436 (by decide +kernel) (fun _ h => absurd h List.not_mem_nil) (fun _ h => absurd h List.not_mem_nil)
theorem md2437 : ∀ z ∈ mc12_37, decode (m_B 2437) z.1 = .ok (z.2.1, z.2.2) := by decide +kernel
theorem mm2437 : m_mok m_Z m_strs 2437 := m_mok_of (i := 2437) (own := RX12) (mn := "end") (I := mi12_37) (S := []) rfl rfl rfl (by decide +kernel) (by decide) mp12 md2437 (by decide +kernel) (fun _ h => absurd h List.not_mem_nil) (fun _ h => absurd h List.not_mem_nil)
theorem md2438 : ∀ z ∈ mc12_38, decode (m_B 2438) z.1 = .ok (z.2.1, z.2.2) := by decide +kernel
theorem mm2438 : m_mok m_Z m_strs 2438 := m_mok_of (i := 2438) (own := RX12) (mn := "uses") (I := mi12_38) (S := []) rfl rfl rfl (by decide +kernel) (by decide) mp12 md2438 (by decide +kernel) (fun _ h => absurd h List.not_mem_nil) (fun _ h => absurd h List.not_mem_nil)
theorem md2439 : ∀ z ∈ mc12_39, decode (m_B 2439) z.1 = .ok (z.2.1, z.2.2) := by decide +kernel
theorem mm2439 : m_mok m_Z m_strs 2439 := m_mok_of (i := 2439) (own := RX12) (mn := "isAt") (I := mi12_39) (S := []) rfl rfl rfl (by decide +kernel) (by decide) mp12 md2439 (by decide +kernel) (fun _ h => absurd h List.not_mem_nil) (fun _ h => absurd h List.not_mem_nil)
theorem md2440 : ∀ z ∈ mc12_40, decode (m_B 2440) z.1 = .ok (z.2.1, z.2.2) := by decide +kernel
theorem mm2440 : m_mok m_Z m_strs 2440 := m_mok_of (i := 2440) (own := RX12) (mn := "blanks") (I := mi12_40) (S := []) rfl rfl rfl (by decide +kernel) (by decide) mp12 md2440 (by decide +kernel) (fun _ h => absurd h List.not_mem_nil) (fun _ h => absurd h List.not_mem_nil)
theorem md2441 : ∀ z ∈ mc12_41, decode (m_B 2441) z.1 = .ok (z.2.1, z.2.2) := by decide +kernel
theorem mm2441 : m_mok m_Z m_strs 2441 := m_mok_of (i := 2441) (own := RX12) (mn := "word") (I := mi12_41) (S := []) rfl rfl rfl (by decide +kernel) (by decide) mp12 md2441 (by decide +kernel) (fun _ h => absurd h List.not_mem_nil) (fun _ h => absurd h List.not_mem_nil)
theorem md2442 : ∀ z ∈ mc12_42, decode (m_B 2442) z.1 = .ok (z.2.1, z.2.2) := by decide +kernel
theorem mm2442 : m_mok m_Z m_strs 2442 := m_mok_of (i := 2442) (own := RX12) (mn := "isWord") (I := mi12_42) (S := []) rfl rfl rfl (by decide +kernel) (by decide) mp12 md2442 (by decide +kernel) (fun _ h => absurd h List.not_mem_nil) (fun _ h => absurd h List.not_mem_nil)
theorem md2443 : ∀ z ∈ mc12_43, decode (m_B 2443) z.1 = .ok (z.2.1, z.2.2) := by decide +kernel
theorem mm2443 : m_mok m_Z m_strs 2443 := m_mok_of (i := 2443) (own := RX12) (mn := "passes") (I := mi12_43) (S := []) rfl rfl rfl (by decide +kernel) (by decide) mp12 md2443 (by decide +kernel) (fun _ h => absurd h List.not_mem_nil) (fun _ h => absurd h List.not_mem_nil)
theorem md2444 : ∀ z ∈ mc12_44, decode (m_B 2444) z.1 = .ok (z.2.1, z.2.2) := by decide +kernel
theorem mm2444 : m_mok m_Z m_strs 2444 := m_mok_of (i := 2444) (own := RX12) (mn := "sign") (I := mi12_44) (S := []) rfl rfl rfl (by decide +kernel) (by decide) mp12 md2444 (by decide +kernel) (fun _ h => absurd h List.not_mem_nil) (fun _ h => absurd h List.not_mem_nil)
theorem md2445 : ∀ z ∈ mc12_45, decode (m_B 2445) z.1 = .ok (z.2.1, z.2.2) := by decide +kernel
theorem mm2445 : m_mok m_Z m_strs 2445 := m_mok_of (i := 2445) (own := RX12) (mn := "number") (I := mi12_45) (S := []) rfl rfl rfl (by decide +kernel) (by decide) mp12 md2445 (by decide +kernel) (fun _ h => absurd h List.not_mem_nil) (fun _ h => absurd h List.not_mem_nil)
theorem md2446 : ∀ z ∈ mc12_46, decode (m_B 2446) z.1 = .ok (z.2.1, z.2.2) := by decide +kernel
theorem mm2446 : m_mok m_Z m_strs 2446 := m_mok_of (i := 2446) (own := RX12) (mn := "fault") (I := mi12_46) (S := []) rfl rfl rfl (by decide +kernel) (by decide) mp12 md2446 (by decide +kernel) (fun _ h => absurd h List.not_mem_nil) (fun _ h => absurd h List.not_mem_nil)
theorem md2447 : ∀ z ∈ mc12_47, decode (m_B 2447) z.1 = .ok (z.2.1, z.2.2) := by decide +kernel
theorem mm2447 : m_mok m_Z m_strs 2447 := m_mok_of (i := 2447) (own := RX12) (mn := "textAt") (I := mi12_47) (S := []) rfl rfl rfl (by decide +kernel) (by decide) mp12 md2447 (by decide +kernel) (fun _ h => absurd h List.not_mem_nil) (fun _ h => absurd h List.not_mem_nil)
theorem md2448 : ∀ z ∈ mc12_48, decode (m_B 2448) z.1 = .ok (z.2.1, z.2.2) := by decide +kernel
theorem mm2448 : m_mok m_Z m_strs 2448 := m_mok_of (i := 2448) (own := RX12) (mn := "lineAt") (I := mi12_48) (S := []) rfl rfl rfl (by decide +kernel) (by decide) mp12 md2448 (by decide +kernel) (fun _ h => absurd h List.not_mem_nil) (fun _ h => absurd h List.not_mem_nil)
theorem md2449 : ∀ z ∈ mc12_49, decode (m_B 2449) z.1 = .ok (z.2.1, z.2.2) := by decide +kernel
theorem mm2449 : m_mok m_Z m_strs 2449 := m_mok_of (i := 2449) (own := RX12) (mn := "emits") (I := mi12_49) (S := []) rfl rfl rfl (by decide +kernel) (by decide) mp12 md2449 (by decide +kernel) (fun _ h => absurd h List.not_mem_nil) (fun _ h => absurd h List.not_mem_nil)
theorem md2450 : ∀ z ∈ mc12_50, decode (m_B 2450) z.1 = .ok (z.2.1, z.2.2) := by decide +kernel
theorem mm2450 : m_mok m_Z m_strs 2450 := m_mok_of (i := 2450) (own := RX12) (mn := "fact") (I := mi12_50) (S := []) rfl rfl rfl (by decide +kernel) (by decide) mp12 md2450 (by decide +kernel) (fun _ h => absurd h List.not_mem_nil) (fun _ h => absurd h List.not_mem_nil)
theorem md2451 : ∀ z ∈ mc12_51, decode (m_B 2451) z.1 = .ok (z.2.1, z.2.2) := by decide +kernel
theorem mm2451 : m_mok m_Z m_strs 2451 := m_mok_of (i := 2451) (own := RX12) (mn := "readPart") (I := mi12_51) (S := []) rfl rfl rfl (by decide +kernel) (by decide) mp12 md2451 (by decide +kernel) (fun _ h => absurd h List.not_mem_nil) (fun _ h => absurd h List.not_mem_nil)
theorem md2452 : ∀ z ∈ mc12_52, decode (m_B 2452) z.1 = .ok (z.2.1, z.2.2) := by decide +kernel
theorem mm2452 : m_mok m_Z m_strs 2452 := m_mok_of (i := 2452) (own := RX12) (mn := "readSum") (I := mi12_52) (S := []) rfl rfl rfl (by decide +kernel) (by decide) mp12 md2452 (by decide +kernel) (fun _ h => absurd h List.not_mem_nil) (fun _ h => absurd h List.not_mem_nil)
theorem md2453 : ∀ z ∈ mc12_53, decode (m_B 2453) z.1 = .ok (z.2.1, z.2.2) := by decide +kernel
theorem mm2453 : m_mok m_Z m_strs 2453 := m_mok_of (i := 2453) (own := RX12) (mn := "readAtom") (I := mi12_53) (S := []) rfl rfl rfl (by decide +kernel) (by decide) mp12 md2453 (by decide +kernel) (fun _ h => absurd h List.not_mem_nil) (fun _ h => absurd h List.not_mem_nil)
theorem md2454 : ∀ z ∈ mc12_54, decode (m_B 2454) z.1 = .ok (z.2.1, z.2.2) := by decide +kernel
theorem mm2454 : m_mok m_Z m_strs 2454 := m_mok_of (i := 2454) (own := RX12) (mn := "readAllOf") (I := mi12_54) (S := []) rfl rfl rfl (by decide +kernel) (by decide) mp12 md2454 (by decide +kernel) (fun _ h => absurd h List.not_mem_nil) (fun _ h => absurd h List.not_mem_nil)
theorem md2455 : ∀ z ∈ mc12_55, decode (m_B 2455) z.1 = .ok (z.2.1, z.2.2) := by decide +kernel
theorem mm2455 : m_mok m_Z m_strs 2455 := m_mok_of (i := 2455) (own := RX12) (mn := "readCond") (I := mi12_55) (S := []) rfl rfl rfl (by decide +kernel) (by decide) mp12 md2455 (by decide +kernel) (fun _ h => absurd h List.not_mem_nil) (fun _ h => absurd h List.not_mem_nil)
theorem md2456 : ∀ z ∈ mc12_56, decode (m_B 2456) z.1 = .ok (z.2.1, z.2.2) := by decide +kernel
theorem mm2456 : m_mok m_Z m_strs 2456 := m_mok_of (i := 2456) (own := RX12) (mn := "readLine") (I := mi12_56) (S := []) rfl rfl rfl (by decide +kernel) (by decide) mp12 md2456 (by decide +kernel) (fun _ h => absurd h List.not_mem_nil) (fun _ h => absurd h List.not_mem_nil)
theorem md2457 : ∀ z ∈ mc12_57, decode (m_B 2457) z.1 = .ok (z.2.1, z.2.2) := by decide +kernel
theorem mm2457 : m_mok m_Z m_strs 2457 := m_mok_of (i := 2457) (own := RX12) (mn := "readAll") (I := mi12_57) (S := []) rfl rfl rfl (by decide +kernel) (by decide) mp12 md2457 (by decide +kernel) (fun _ h => absurd h List.not_mem_nil) (fun _ h => absurd h List.not_mem_nil)
theorem md2458 : ∀ z ∈ mc12_58, decode (m_B 2458) z.1 = .ok (z.2.1, z.2.2) := by decide +kernel
theorem mm2458 : m_mok m_Z m_strs 2458 := m_mok_of (i := 2458) (own := RX12) (mn := "act") (I := mi12_58) (S := []) rfl rfl rfl (by decide +kernel) (by decide) mp12 md2458 (by decide +kernel) (fun _ h => absurd h List.not_mem_nil) (fun _ h => absurd h List.not_mem_nil)
theorem md2459 : ∀ z ∈ mc12_59, decode (m_B 2459) z.1 = .ok (z.2.1, z.2.2) := by decide +kernel
theorem mm2459 : m_mok m_Z m_strs 2459 := m_mok_of (i := 2459) (own := RX12) (mn := "text") (I := mi12_59) (S := []) rfl rfl rfl (by decide +kernel) (by decide) mp12 md2459 (by decide +kernel) (fun _ h => absurd h List.not_mem_nil) (fun _ h => absurd h List.not_mem_nil)
theorem md2460 : ∀ z ∈ mc12_60, decode (m_B 2460) z.1 = .ok (z.2.1, z.2.2) := by decide +kernel
theorem mm2460 : m_mok m_Z m_strs 2460 := m_mok_of (i := 2460) (own := RX12) (mn := "linesOf") (I := mi12_60) (S := []) rfl rfl rfl (by decide +kernel) (by decide) mp12 md2460 (by decide +kernel) (fun _ h => absurd h List.not_mem_nil) (fun _ h => absurd h List.not_mem_nil)
theorem md2461 : ∀ z ∈ mc12_61, decode (m_B 2461) z.1 = .ok (z.2.1, z.2.2) := by decide +kernel
theorem mm2461 : m_mok m_Z m_strs 2461 := m_mok_of (i := 2461) (own := RX12) (mn := "looks") (I := mi12_61) (S := []) rfl rfl rfl (by decide +kernel) (by decide) mp12 md2461 (by decide +kernel) (fun _ h => absurd h List.not_mem_nil) (fun _ h => absurd h List.not_mem_nil)
theorem md2462_0 : ∀ z ∈ mc12_62_0, decode (m_B 2462) z.1 = .ok (z.2.1, z.2.2) := by decide +kernel
theorem md2462_1 : ∀ z ∈ mc12_62_1, decode (m_B 2462) z.1 = .ok (z.2.1, z.2.2) := by decide +kernel
theorem md2462 : ∀ z ∈ mc12_62, decode (m_B 2462) z.1 = .ok (z.2.1, z.2.2) := List.forall_mem_append.mpr ⟨md2462_0, md2462_1⟩
theorem mm2462 : m_mok m_Z m_strs 2462 := m_mok_of (i := 2462) (own := RX12) (mn := "holds") (I := mi12_62) (S := []) rfl rfl rfl (by decide +kernel) (by decide) mp12 md2462 (by decide +kernel) (fun _ h => absurd h List.not_mem_nil) (fun _ h => absurd h List.not_mem_nil)
theorem md2463 : ∀ z ∈ mc12_63, decode (m_B 2463) z.1 = .ok (z.2.1, z.2.2) := by decide +kernel
theorem mm2463 : m_mok m_Z m_strs 2463 := m_mok_of (i := 2463) (own := RX12) (mn := "firstOf") (I := mi12_63) (S := []) rfl rfl rfl (by decide +kernel) (by decide) mp12 md2463 (by decide +kernel) (fun _ h => absurd h List.not_mem_nil) (fun _ h => absurd h List.not_mem_nil)
theorem md2464 : ∀ z ∈ mc12_64, decode (m_B 2464) z.1 = .ok (z.2.1, z.2.2) := by decide +kernel
theorem mm2464 : m_mok m_Z m_strs 2464 := m_mok_of (i := 2464) (own := RX12) (mn := "allOf") (I := mi12_64) (S := []) rfl rfl rfl (by decide +kernel) (by decide) mp12 md2464 (by decide +kernel) (fun _ h => absurd h List.not_mem_nil) (fun _ h => absurd h List.not_mem_nil)
theorem md2465 : ∀ z ∈ mc12_65, decode (m_B 2465) z.1 = .ok (z.2.1, z.2.2) := by decide +kernel
theorem mm2465 : m_mok m_Z m_strs 2465 := m_mok_of (i := 2465) (own := RX12) (mn := "requestAt") (I := mi12_65) (S := []) rfl rfl rfl (by decide +kernel) (by decide) mp12 md2465 (by decide +kernel) (fun _ h => absurd h List.not_mem_nil) (fun _ h => absurd h List.not_mem_nil)
theorem md2466 : ∀ z ∈ mc12_66, decode (m_B 2466) z.1 = .ok (z.2.1, z.2.2) := by decide +kernel
theorem mm2466 : m_mok m_Z m_strs 2466 := m_mok_of (i := 2466) (own := RX12) (mn := "noRequest") (I := mi12_66) (S := []) rfl rfl rfl (by decide +kernel) (by decide) mp12 md2466 (by decide +kernel) (fun _ h => absurd h List.not_mem_nil) (fun _ h => absurd h List.not_mem_nil)
theorem md2467 : ∀ z ∈ mc12_67, decode (m_B 2467) z.1 = .ok (z.2.1, z.2.2) := by decide +kernel
theorem mm2467 : m_mok m_Z m_strs 2467 := m_mok_of (i := 2467) (own := RX12) (mn := "ask") (I := mi12_67) (S := []) rfl rfl rfl (by decide +kernel) (by decide) mp12 md2467 (by decide +kernel) (fun _ h => absurd h List.not_mem_nil) (fun _ h => absurd h List.not_mem_nil)
theorem md2468 : ∀ z ∈ mc12_68, decode (m_B 2468) z.1 = .ok (z.2.1, z.2.2) := by decide +kernel
theorem mm2468 : m_mok m_Z m_strs 2468 := m_mok_of (i := 2468) (own := RX12) (mn := "lacks") (I := mi12_68) (S := []) rfl rfl rfl (by decide +kernel) (by decide) mp12 md2468 (by decide +kernel) (fun _ h => absurd h List.not_mem_nil) (fun _ h => absurd h List.not_mem_nil)
theorem md2469 : ∀ z ∈ mc12_69, decode (m_B 2469) z.1 = .ok (z.2.1, z.2.2) := by decide +kernel
theorem mm2469 : m_mok m_Z m_strs 2469 := m_mok_of (i := 2469) (own := RX12) (mn := "looksAt") (I := mi12_69) (S := []) rfl rfl rfl (by decide +kernel) (by decide) mp12 md2469 (by decide +kernel) (fun _ h => absurd h List.not_mem_nil) (fun _ h => absurd h List.not_mem_nil)
theorem md2470 : ∀ z ∈ mc12_70, decode (m_B 2470) z.1 = .ok (z.2.1, z.2.2) := by decide +kernel
theorem mm2470 : m_mok m_Z m_strs 2470 := m_mok_of (i := 2470) (own := RX12) (mn := "weigh") (I := mi12_70) (S := []) rfl rfl rfl (by decide +kernel) (by decide) mp12 md2470 (by decide +kernel) (fun _ h => absurd h List.not_mem_nil) (fun _ h => absurd h List.not_mem_nil)
theorem md2471 : ∀ z ∈ mc12_71, decode (m_B 2471) z.1 = .ok (z.2.1, z.2.2) := by decide +kernel
theorem mm2471 : m_mok m_Z m_strs 2471 := m_mok_of (i := 2471) (own := RX12) (mn := "isAhead") (I := mi12_71) (S := []) rfl rfl rfl (by decide +kernel) (by decide) mp12 md2471 (by decide +kernel) (fun _ h => absurd h List.not_mem_nil) (fun _ h => absurd h List.not_mem_nil)
theorem md2472 : ∀ z ∈ mc12_72, decode (m_B 2472) z.1 = .ok (z.2.1, z.2.2) := by decide +kernel
theorem mm2472 : m_mok m_Z m_strs 2472 := m_mok_of (i := 2472) (own := RX12) (mn := "nextFor") (I := mi12_72) (S := []) rfl rfl rfl (by decide +kernel) (by decide) mp12 md2472 (by decide +kernel) (fun _ h => absurd h List.not_mem_nil) (fun _ h => absurd h List.not_mem_nil)
theorem md2473 : ∀ z ∈ mc12_73, decode (m_B 2473) z.1 = .ok (z.2.1, z.2.2) := by decide +kernel
theorem mm2473 : m_mok m_Z m_strs 2473 := m_mok_of (i := 2473) (own := RX12) (mn := "stockOf") (I := mi12_73) (S := []) rfl rfl rfl (by decide +kernel) (by decide) mp12 md2473 (by decide +kernel) (fun _ h => absurd h List.not_mem_nil) (fun _ h => absurd h List.not_mem_nil)
theorem md2474 : ∀ z ∈ mc12_74, decode (m_B 2474) z.1 = .ok (z.2.1, z.2.2) := by decide +kernel
theorem mm2474 : m_mok m_Z m_strs 2474 := m_mok_of (i := 2474) (own := RX12) (mn := "empties") (I := mi12_74) (S := []) rfl rfl rfl (by decide +kernel) (by decide) mp12 md2474 (by decide +kernel) (fun _ h => absurd h List.not_mem_nil) (fun _ h => absurd h List.not_mem_nil)
theorem md2475_0 : ∀ z ∈ mc12_75_0, decode (m_B 2475) z.1 = .ok (z.2.1, z.2.2) := by decide +kernel
theorem md2475_1 : ∀ z ∈ mc12_75_1, decode (m_B 2475) z.1 = .ok (z.2.1, z.2.2) := by decide +kernel
theorem md2475 : ∀ z ∈ mc12_75, decode (m_B 2475) z.1 = .ok (z.2.1, z.2.2) := List.forall_mem_append.mpr ⟨md2475_0, md2475_1⟩
theorem mm2475 : m_mok m_Z m_strs 2475 := m_mok_of (i := 2475) (own := RX12) (mn := "allot") (I := mi12_75) (S := []) rfl rfl rfl (by decide +kernel) (by decide) mp12 md2475 (by decide +kernel) (fun _ h => absurd h List.not_mem_nil) (fun _ h => absurd h List.not_mem_nil)
theorem md2476 : ∀ z ∈ mc12_76, decode (m_B 2476) z.1 = .ok (z.2.1, z.2.2) := by decide +kernel
theorem mm2476 : m_mok m_Z m_strs 2476 := m_mok_of (i := 2476) (own := RX12) (mn := "shipAt") (I := mi12_76) (S := []) rfl rfl rfl (by decide +kernel) (by decide) mp12 md2476 (by decide +kernel) (fun _ h => absurd h List.not_mem_nil) (fun _ h => absurd h List.not_mem_nil)
theorem md2477 : ∀ z ∈ mc12_77, decode (m_B 2477) z.1 = .ok (z.2.1, z.2.2) := by decide +kernel
theorem mm2477 : m_mok m_Z m_strs 2477 := m_mok_of (i := 2477) (own := RX12) (mn := "its") (I := mi12_77) (S := []) rfl rfl rfl (by decide +kernel) (by decide) mp12 md2477 (by decide +kernel) (fun _ h => absurd h List.not_mem_nil) (fun _ h => absurd h List.not_mem_nil)
theorem md2478 : ∀ z ∈ mc12_78, decode (m_B 2478) z.1 = .ok (z.2.1, z.2.2) := by decide +kernel
theorem mm2478 : m_mok m_Z m_strs 2478 := m_mok_of (i := 2478) (own := RX12) (mn := "puts") (I := mi12_78) (S := []) rfl rfl rfl (by decide +kernel) (by decide) mp12 md2478 (by decide +kernel) (fun _ h => absurd h List.not_mem_nil) (fun _ h => absurd h List.not_mem_nil)
theorem md2479 : ∀ z ∈ mc12_79, decode (m_B 2479) z.1 = .ok (z.2.1, z.2.2) := by decide +kernel
theorem mm2479 : m_mok m_Z m_strs 2479 := m_mok_of (i := 2479) (own := RX12) (mn := "noShip") (I := mi12_79) (S := []) rfl rfl rfl (by decide +kernel) (by decide) mp12 md2479 (by decide +kernel) (fun _ h => absurd h List.not_mem_nil) (fun _ h => absurd h List.not_mem_nil)
theorem md2480 : ∀ z ∈ mc12_80, decode (m_B 2480) z.1 = .ok (z.2.1, z.2.2) := by decide +kernel
theorem mm2480 : m_mok m_Z m_strs 2480 := m_mok_of (i := 2480) (own := RX12) (mn := "ship") (I := mi12_80) (S := []) rfl rfl rfl (by decide +kernel) (by decide) mp12 md2480 (by decide +kernel) (fun _ h => absurd h List.not_mem_nil) (fun _ h => absurd h List.not_mem_nil)
theorem md2481 : ∀ z ∈ mc12_81, decode (m_B 2481) z.1 = .ok (z.2.1, z.2.2) := by decide +kernel
theorem mm2481 : m_mok m_Z m_strs 2481 := m_mok_of (i := 2481) (own := RX12) (mn := "tonsIn") (I := mi12_81) (S := []) rfl rfl rfl (by decide +kernel) (by decide) mp12 md2481 (by decide +kernel) (fun _ h => absurd h List.not_mem_nil) (fun _ h => absurd h List.not_mem_nil)
theorem md2482 : ∀ z ∈ mc12_82, decode (m_B 2482) z.1 = .ok (z.2.1, z.2.2) := by decide +kernel
theorem mm2482 : m_mok m_Z m_strs 2482 := m_mok_of (i := 2482) (own := RX12) (mn := "cargoOf") (I := mi12_82) (S := []) rfl rfl rfl (by decide +kernel) (by decide) mp12 md2482 (by decide +kernel) (fun _ h => absurd h List.not_mem_nil) (fun _ h => absurd h List.not_mem_nil)
theorem md2483_0 : ∀ z ∈ mc12_83_0, decode (m_B 2483) z.1 = .ok (z.2.1, z.2.2) := by decide +kernel
theorem md2483_1 : ∀ z ∈ mc12_83_1, decode (m_B 2483) z.1 = .ok (z.2.1, z.2.2) := by decide +kernel
theorem md2483_2 : ∀ z ∈ mc12_83_2, decode (m_B 2483) z.1 = .ok (z.2.1, z.2.2) := by decide +kernel
theorem md2483 : ∀ z ∈ mc12_83, decode (m_B 2483) z.1 = .ok (z.2.1, z.2.2) := List.forall_mem_append.mpr ⟨md2483_0, List.forall_mem_append.mpr ⟨md2483_1, md2483_2⟩⟩
theorem mm2483 : m_mok m_Z m_strs 2483 := m_mok_of (i := 2483) (own := RX12) (mn := "load") (I := mi12_83) (S := []) rfl rfl rfl (by decide +kernel) (by decide) mp12 md2483 (by decide +kernel) (fun _ h => absurd h List.not_mem_nil) (fun _ h => absurd h List.not_mem_nil)
theorem md2484 : ∀ z ∈ mc12_84, decode (m_B 2484) z.1 = .ok (z.2.1, z.2.2) := by decide +kernel
theorem mm2484 : m_mok m_Z m_strs 2484 := m_mok_of (i := 2484) (own := RX12) (mn := "sail") (I := mi12_84) (S := []) rfl rfl rfl (by decide +kernel) (by decide) mp12 md2484 (by decide +kernel) (fun _ h => absurd h List.not_mem_nil) (fun _ h => absurd h List.not_mem_nil)
theorem md2485 : ∀ z ∈ mc12_85, decode (m_B 2485) z.1 = .ok (z.2.1, z.2.2) := by decide +kernel
theorem mm2485 : m_mok m_Z m_strs 2485 := m_mok_of (i := 2485) (own := RX12) (mn := "led") (I := mi12_85) (S := []) rfl rfl rfl (by decide +kernel) (by decide) mp12 md2485 (by decide +kernel) (fun _ h => absurd h List.not_mem_nil) (fun _ h => absurd h List.not_mem_nil)
theorem md2486 : ∀ z ∈ mc12_86, decode (m_B 2486) z.1 = .ok (z.2.1, z.2.2) := by decide +kernel
theorem mm2486 : m_mok m_Z m_strs 2486 := m_mok_of (i := 2486) (own := RX12) (mn := "isOrder") (I := mi12_86) (S := []) rfl rfl rfl (by decide +kernel) (by decide) mp12 md2486 (by decide +kernel) (fun _ h => absurd h List.not_mem_nil) (fun _ h => absurd h List.not_mem_nil)
theorem md2487_0 : ∀ z ∈ mc12_87_0, decode (m_B 2487) z.1 = .ok (z.2.1, z.2.2) := by decide +kernel
theorem md2487_1 : ∀ z ∈ mc12_87_1, decode (m_B 2487) z.1 = .ok (z.2.1, z.2.2) := by decide +kernel
theorem md2487 : ∀ z ∈ mc12_87, decode (m_B 2487) z.1 = .ok (z.2.1, z.2.2) := List.forall_mem_append.mpr ⟨md2487_0, md2487_1⟩
theorem mm2487 : m_mok m_Z m_strs 2487 := m_mok_of (i := 2487) (own := RX12) (mn := "makes") (I := mi12_87) (S := []) rfl rfl rfl (by decide +kernel) (by decide) mp12 md2487 (by decide +kernel) (fun _ h => absurd h List.not_mem_nil) (fun _ h => absurd h List.not_mem_nil)
theorem md2488 : ∀ z ∈ mc12_88, decode (m_B 2488) z.1 = .ok (z.2.1, z.2.2) := by decide +kernel
theorem mm2488 : m_mok m_Z m_strs 2488 := m_mok_of (i := 2488) (own := RX12) (mn := "clears") (I := mi12_88) (S := []) rfl rfl rfl (by decide +kernel) (by decide) mp12 md2488 (by decide +kernel) (fun _ h => absurd h List.not_mem_nil) (fun _ h => absurd h List.not_mem_nil)
theorem md2489 : ∀ z ∈ mc12_89, decode (m_B 2489) z.1 = .ok (z.2.1, z.2.2) := by decide +kernel
theorem mm2489 : m_mok m_Z m_strs 2489 := m_mok_of (i := 2489) (own := RX12) (mn := "goes") (I := mi12_89) (S := []) rfl rfl rfl (by decide +kernel) (by decide) mp12 md2489 (by decide +kernel) (fun _ h => absurd h List.not_mem_nil) (fun _ h => absurd h List.not_mem_nil)
theorem md2490 : ∀ z ∈ mc12_90, decode (m_B 2490) z.1 = .ok (z.2.1, z.2.2) := by decide +kernel
theorem mm2490 : m_mok m_Z m_strs 2490 := m_mok_of (i := 2490) (own := RX12) (mn := "landedOf") (I := mi12_90) (S := []) rfl rfl rfl (by decide +kernel) (by decide) mp12 md2490 (by decide +kernel) (fun _ h => absurd h List.not_mem_nil) (fun _ h => absurd h List.not_mem_nil)
theorem md2491 : ∀ z ∈ mc12_91, decode (m_B 2491) z.1 = .ok (z.2.1, z.2.2) := by decide +kernel
theorem mm2491 : m_mok m_Z m_strs 2491 := m_mok_of (i := 2491) (own := RX12) (mn := "eats") (I := mi12_91) (S := []) rfl rfl rfl (by decide +kernel) (by decide) mp12 md2491 (by decide +kernel) (fun _ h => absurd h List.not_mem_nil) (fun _ h => absurd h List.not_mem_nil)
theorem md2492_0 : ∀ z ∈ mc12_92_0, decode (m_B 2492) z.1 = .ok (z.2.1, z.2.2) := by decide +kernel
theorem md2492_1 : ∀ z ∈ mc12_92_1, decode (m_B 2492) z.1 = .ok (z.2.1, z.2.2) := by decide +kernel
theorem md2492 : ∀ z ∈ mc12_92, decode (m_B 2492) z.1 = .ok (z.2.1, z.2.2) := List.forall_mem_append.mpr ⟨md2492_0, md2492_1⟩
theorem mm2492 : m_mok m_Z m_strs 2492 := m_mok_of (i := 2492) (own := RX12) (mn := "goesOn") (I := mi12_92) (S := []) rfl rfl rfl (by decide +kernel) (by decide) mp12 md2492 (by decide +kernel) (fun _ h => absurd h List.not_mem_nil) (fun _ h => absurd h List.not_mem_nil)
theorem md2493 : ∀ z ∈ mc12_93, decode (m_B 2493) z.1 = .ok (z.2.1, z.2.2) := by decide +kernel
theorem mm2493 : m_mok m_Z m_strs 2493 := m_mok_of (i := 2493) (own := RX12) (mn := "weeks") (I := mi12_93) (S := []) rfl rfl rfl (by decide +kernel) (by decide) mp12 md2493 (by decide +kernel) (fun _ h => absurd h List.not_mem_nil) (fun _ h => absurd h List.not_mem_nil)
theorem md2494_0 : ∀ z ∈ mc12_94_0, decode (m_B 2494) z.1 = .ok (z.2.1, z.2.2) := by decide +kernel
theorem md2494_1 : ∀ z ∈ mc12_94_1, decode (m_B 2494) z.1 = .ok (z.2.1, z.2.2) := by decide +kernel
theorem md2494 : ∀ z ∈ mc12_94, decode (m_B 2494) z.1 = .ok (z.2.1, z.2.2) := List.forall_mem_append.mpr ⟨md2494_0, md2494_1⟩
theorem mm2494 : m_mok m_Z m_strs 2494 := m_mok_of (i := 2494) (own := RX12) (mn := "give") (I := mi12_94) (S := []) rfl rfl rfl (by decide +kernel) (by decide) mp12 md2494 (by decide +kernel) (fun _ h => absurd h List.not_mem_nil) (fun _ h => absurd h List.not_mem_nil)
theorem md2495 : ∀ z ∈ mc12_95, decode (m_B 2495) z.1 = .ok (z.2.1, z.2.2) := by decide +kernel
theorem mm2495 : m_mok m_Z m_strs 2495 := m_mok_of (i := 2495) (own := RX12) (mn := "owedBy") (I := mi12_95) (S := []) rfl rfl rfl (by decide +kernel) (by decide) mp12 md2495 (by decide +kernel) (fun _ h => absurd h List.not_mem_nil) (fun _ h => absurd h List.not_mem_nil)
theorem md2496 : ∀ z ∈ mc12_96, decode (m_B 2496) z.1 = .ok (z.2.1, z.2.2) := by decide +kernel
theorem mm2496 : m_mok m_Z m_strs 2496 := m_mok_of (i := 2496) (own := RX12) (mn := "mustOf") (I := mi12_96) (S := []) rfl rfl rfl (by decide +kernel) (by decide) mp12 md2496 (by decide +kernel) (fun _ h => absurd h List.not_mem_nil) (fun _ h => absurd h List.not_mem_nil)
theorem md2497 : ∀ z ∈ mc12_97, decode (m_B 2497) z.1 = .ok (z.2.1, z.2.2) := by decide +kernel
theorem mm2497 : m_mok m_Z m_strs 2497 := m_mok_of (i := 2497) (own := RX12) (mn := "returnAt") (I := mi12_97) (S := []) rfl rfl rfl (by decide +kernel) (by decide) mp12 md2497 (by decide +kernel) (fun _ h => absurd h List.not_mem_nil) (fun _ h => absurd h List.not_mem_nil)
theorem md2498 : ∀ z ∈ mc12_98, decode (m_B 2498) z.1 = .ok (z.2.1, z.2.2) := by decide +kernel
theorem mm2498 : m_mok m_Z m_strs 2498 := m_mok_of (i := 2498) (own := RX12) (mn := "latestOf") (I := mi12_98) (S := []) rfl rfl rfl (by decide +kernel) (by decide) mp12 md2498 (by decide +kernel) (fun _ h => absurd h List.not_mem_nil) (fun _ h => absurd h List.not_mem_nil)
theorem md2499 : ∀ z ∈ mc12_99, decode (m_B 2499) z.1 = .ok (z.2.1, z.2.2) := by decide +kernel
theorem mm2499 : m_mok m_Z m_strs 2499 := m_mok_of (i := 2499) (own := RX12) (mn := "missing") (I := mi12_99) (S := []) rfl rfl rfl (by decide +kernel) (by decide) mp12 md2499 (by decide +kernel) (fun _ h => absurd h List.not_mem_nil) (fun _ h => absurd h List.not_mem_nil)
theorem md2500 : ∀ z ∈ mc12_100, decode (m_B 2500) z.1 = .ok (z.2.1, z.2.2) := by decide +kernel
theorem mm2500 : m_mok m_Z m_strs 2500 := m_mok_of (i := 2500) (own := RX12) (mn := "leased") (I := mi12_100) (S := []) rfl rfl rfl (by decide +kernel) (by decide) mp12 md2500 (by decide +kernel) (fun _ h => absurd h List.not_mem_nil) (fun _ h => absurd h List.not_mem_nil)
theorem md2501 : ∀ z ∈ mc12_101, decode (m_B 2501) z.1 = .ok (z.2.1, z.2.2) := by decide +kernel
theorem mm2501 : m_mok m_Z m_strs 2501 := m_mok_of (i := 2501) (own := RX12) (mn := "land") (I := mi12_101) (S := []) rfl rfl rfl (by decide +kernel) (by decide) mp12 md2501 (by decide +kernel) (fun _ h => absurd h List.not_mem_nil) (fun _ h => absurd h List.not_mem_nil)
theorem md2502 : ∀ z ∈ mc12_102, decode (m_B 2502) z.1 = .ok (z.2.1, z.2.2) := by decide +kernel
theorem mm2502 : m_mok m_Z m_strs 2502 := m_mok_of (i := 2502) (own := RX12) (mn := "balance") (I := mi12_102) (S := []) rfl rfl rfl (by decide +kernel) (by decide) mp12 md2502 (by decide +kernel) (fun _ h => absurd h List.not_mem_nil) (fun _ h => absurd h List.not_mem_nil)
theorem md2503 : ∀ z ∈ mc12_103, decode (m_B 2503) z.1 = .ok (z.2.1, z.2.2) := by decide +kernel
theorem mm2503 : m_mok m_Z m_strs 2503 := m_mok_of (i := 2503) (own := RX12) (mn := "returned") (I := mi12_103) (S := []) rfl rfl rfl (by decide +kernel) (by decide) mp12 md2503 (by decide +kernel) (fun _ h => absurd h List.not_mem_nil) (fun _ h => absurd h List.not_mem_nil)
theorem md2504 : ∀ z ∈ mc12_104, decode (m_B 2504) z.1 = .ok (z.2.1, z.2.2) := by decide +kernel
theorem mm2504 : m_mok m_Z m_strs 2504 := m_mok_of (i := 2504) (own := RX12) (mn := "mustBe") (I := mi12_104) (S := []) rfl rfl rfl (by decide +kernel) (by decide) mp12 md2504 (by decide +kernel) (fun _ h => absurd h List.not_mem_nil) (fun _ h => absurd h List.not_mem_nil)
theorem md2505 : ∀ z ∈ mc12_105, decode (m_B 2505) z.1 = .ok (z.2.1, z.2.2) := by decide +kernel
theorem mm2505 : m_mok m_Z m_strs 2505 := m_mok_of (i := 2505) (own := RX12) (mn := "seen") (I := mi12_105) (S := []) rfl rfl rfl (by decide +kernel) (by decide) mp12 md2505 (by decide +kernel) (fun _ h => absurd h List.not_mem_nil) (fun _ h => absurd h List.not_mem_nil)
theorem md2506 : ∀ z ∈ mc12_106, decode (m_B 2506) z.1 = .ok (z.2.1, z.2.2) := by decide +kernel
theorem mm2506 : m_mok m_Z m_strs 2506 := m_mok_of (i := 2506) (own := RX12) (mn := "cameTo") (I := mi12_106) (S := []) rfl rfl rfl (by decide +kernel) (by decide) mp12 md2506 (by decide +kernel) (fun _ h => absurd h List.not_mem_nil) (fun _ h => absurd h List.not_mem_nil)
theorem md2507 : ∀ z ∈ mc12_107, decode (m_B 2507) z.1 = .ok (z.2.1, z.2.2) := by decide +kernel
theorem mm2507 : m_mok m_Z m_strs 2507 := m_mok_of (i := 2507) (own := RX12) (mn := "whence") (I := mi12_107) (S := []) rfl rfl rfl (by decide +kernel) (by decide) mp12 md2507 (by decide +kernel) (fun _ h => absurd h List.not_mem_nil) (fun _ h => absurd h List.not_mem_nil)
theorem md2508 : ∀ z ∈ mc12_108, decode (m_B 2508) z.1 = .ok (z.2.1, z.2.2) := by decide +kernel
theorem mm2508 : m_mok m_Z m_strs 2508 := m_mok_of (i := 2508) (own := RX12) (mn := "baseAt") (I := mi12_108) (S := []) rfl rfl rfl (by decide +kernel) (by decide) mp12 md2508 (by decide +kernel) (fun _ h => absurd h List.not_mem_nil) (fun _ h => absurd h List.not_mem_nil)
theorem md2509 : ∀ z ∈ mc12_109, decode (m_B 2509) z.1 = .ok (z.2.1, z.2.2) := by decide +kernel
theorem mm2509 : m_mok m_Z m_strs 2509 := m_mok_of (i := 2509) (own := RX12) (mn := "rock") (I := mi12_109) (S := []) rfl rfl rfl (by decide +kernel) (by decide) mp12 md2509 (by decide +kernel) (fun _ h => absurd h List.not_mem_nil) (fun _ h => absurd h List.not_mem_nil)
theorem md2510 : ∀ z ∈ mc12_110, decode (m_B 2510) z.1 = .ok (z.2.1, z.2.2) := by decide +kernel
theorem mm2510 : m_mok m_Z m_strs 2510 := m_mok_of (i := 2510) (own := RX12) (mn := "net") (I := mi12_110) (S := []) rfl rfl rfl (by decide +kernel) (by decide) mp12 md2510 (by decide +kernel) (fun _ h => absurd h List.not_mem_nil) (fun _ h => absurd h List.not_mem_nil)
theorem md2511 : ∀ z ∈ mc12_111, decode (m_B 2511) z.1 = .ok (z.2.1, z.2.2) := by decide +kernel
theorem mm2511 : m_mok m_Z m_strs 2511 := m_mok_of (i := 2511) (own := RX12) (mn := "over") (I := mi12_111) (S := []) rfl rfl rfl (by decide +kernel) (by decide) mp12 md2511 (by decide +kernel) (fun _ h => absurd h List.not_mem_nil) (fun _ h => absurd h List.not_mem_nil)
theorem md2512 : ∀ z ∈ mc12_112, decode (m_B 2512) z.1 = .ok (z.2.1, z.2.2) := by decide +kernel
theorem mm2512 : m_mok m_Z m_strs 2512 := m_mok_of (i := 2512) (own := RX12) (mn := "tons") (I := mi12_112) (S := []) rfl rfl rfl (by decide +kernel) (by decide) mp12 md2512 (by decide +kernel) (fun _ h => absurd h List.not_mem_nil) (fun _ h => absurd h List.not_mem_nil)
theorem md2513 : ∀ z ∈ mc12_113, decode (m_B 2513) z.1 = .ok (z.2.1, z.2.2) := by decide +kernel
theorem mm2513 : m_mok m_Z m_strs 2513 := m_mok_of (i := 2513) (own := RX12) (mn := "sends") (I := mi12_113) (S := []) rfl rfl rfl (by decide +kernel) (by decide) mp12 md2513 (by decide +kernel) (fun _ h => absurd h List.not_mem_nil) (fun _ h => absurd h List.not_mem_nil)
theorem md2514 : ∀ z ∈ mc12_114, decode (m_B 2514) z.1 = .ok (z.2.1, z.2.2) := by decide +kernel
theorem mm2514 : m_mok m_Z m_strs 2514 := m_mok_of (i := 2514) (own := RX12) (mn := "hulls") (I := mi12_114) (S := []) rfl rfl rfl (by decide +kernel) (by decide) mp12 md2514 (by decide +kernel) (fun _ h => absurd h List.not_mem_nil) (fun _ h => absurd h List.not_mem_nil)
theorem md2515_0 : ∀ z ∈ mc12_115_0, decode (m_B 2515) z.1 = .ok (z.2.1, z.2.2) := by decide +kernel
theorem md2515_1 : ∀ z ∈ mc12_115_1, decode (m_B 2515) z.1 = .ok (z.2.1, z.2.2) := by decide +kernel
theorem md2515 : ∀ z ∈ mc12_115, decode (m_B 2515) z.1 = .ok (z.2.1, z.2.2) := List.forall_mem_append.mpr ⟨md2515_0, md2515_1⟩
theorem mm2515 : m_mok m_Z m_strs 2515 := m_mok_of (i := 2515) (own := RX12) (mn := "bestOrders") (I := mi12_115) (S := []) rfl rfl rfl (by decide +kernel) (by decide) mp12 md2515 (by decide +kernel) (fun _ h => absurd h List.not_mem_nil) (fun _ h => absurd h List.not_mem_nil)
theorem md2516 : ∀ z ∈ mc12_116, decode (m_B 2516) z.1 = .ok (z.2.1, z.2.2) := by decide +kernel
theorem mm2516 : m_mok m_Z m_strs 2516 := m_mok_of (i := 2516) (own := RX12) (mn := "page") (I := mi12_116) (S := []) rfl rfl rfl (by decide +kernel) (by decide) mp12 md2516 (by decide +kernel) (fun _ h => absurd h List.not_mem_nil) (fun _ h => absurd h List.not_mem_nil)
theorem md2517 : ∀ z ∈ mc12_117, decode (m_B 2517) z.1 = .ok (z.2.1, z.2.2) := by decide +kernel
theorem mm2517 : m_mok m_Z m_strs 2517 := m_mok_of (i := 2517) (own := RX12) (mn := "signed") (I := mi12_117) (S := []) rfl rfl rfl (by decide +kernel) (by decide) mp12 md2517 (by decide +kernel) (fun _ h => absurd h List.not_mem_nil) (fun _ h => absurd h List.not_mem_nil)
theorem md2518 : ∀ z ∈ mc12_118, decode (m_B 2518) z.1 = .ok (z.2.1, z.2.2) := by decide +kernel
theorem mm2518 : m_mok m_Z m_strs 2518 := m_mok_of (i := 2518) (own := RX12) (mn := "choice") (I := mi12_118) (S := []) rfl rfl rfl (by decide +kernel) (by decide) mp12 md2518 (by decide +kernel) (fun _ h => absurd h List.not_mem_nil) (fun _ h => absurd h List.not_mem_nil)
theorem md2519 : ∀ z ∈ mc12_119, decode (m_B 2519) z.1 = .ok (z.2.1, z.2.2) := by decide +kernel
theorem mm2519 : m_mok m_Z m_strs 2519 := m_mok_of (i := 2519) (own := RX12) (mn := "row") (I := mi12_119) (S := []) rfl rfl rfl (by decide +kernel) (by decide) mp12 md2519 (by decide +kernel) (fun _ h => absurd h List.not_mem_nil) (fun _ h => absurd h List.not_mem_nil)
theorem md2520 : ∀ z ∈ mc12_120, decode (m_B 2520) z.1 = .ok (z.2.1, z.2.2) := by decide +kernel
theorem mm2520 : m_mok m_Z m_strs 2520 := m_mok_of (i := 2520) (own := RX12) (mn := "setHas") (I := mi12_120) (S := []) rfl rfl rfl (by decide +kernel) (by decide) mp12 md2520 (by decide +kernel) (fun _ h => absurd h List.not_mem_nil) (fun _ h => absurd h List.not_mem_nil)
theorem md2521 : ∀ z ∈ mc12_121, decode (m_B 2521) z.1 = .ok (z.2.1, z.2.2) := by decide +kernel
theorem mm2521 : m_mok m_Z m_strs 2521 := m_mok_of (i := 2521) (own := RX12) (mn := "lasting") (I := mi12_121) (S := []) rfl rfl rfl (by decide +kernel) (by decide) mp12 md2521 (by decide +kernel) (fun _ h => absurd h List.not_mem_nil) (fun _ h => absurd h List.not_mem_nil)
theorem md2522 : ∀ z ∈ mc12_122, decode (m_B 2522) z.1 = .ok (z.2.1, z.2.2) := by decide +kernel
theorem mm2522 : m_mok m_Z m_strs 2522 := m_mok_of (i := 2522) (own := RX12) (mn := "costOf") (I := mi12_122) (S := []) rfl rfl rfl (by decide +kernel) (by decide) mp12 md2522 (by decide +kernel) (fun _ h => absurd h List.not_mem_nil) (fun _ h => absurd h List.not_mem_nil)
theorem md2523 : ∀ z ∈ mc12_123, decode (m_B 2523) z.1 = .ok (z.2.1, z.2.2) := by decide +kernel
theorem mm2523 : m_mok m_Z m_strs 2523 := m_mok_of (i := 2523) (own := RX12) (mn := "lasts") (I := mi12_123) (S := []) rfl rfl rfl (by decide +kernel) (by decide) mp12 md2523 (by decide +kernel) (fun _ h => absurd h List.not_mem_nil) (fun _ h => absurd h List.not_mem_nil)
theorem md2524 : ∀ z ∈ mc12_124, decode (m_B 2524) z.1 = .ok (z.2.1, z.2.2) := by decide +kernel
theorem mm2524 : m_mok m_Z m_strs 2524 := m_mok_of (i := 2524) (own := RX12) (mn := "cash") (I := mi12_124) (S := []) rfl rfl rfl (by decide +kernel) (by decide) mp12 md2524 (by decide +kernel) (fun _ h => absurd h List.not_mem_nil) (fun _ h => absurd h List.not_mem_nil)
theorem md2525 : ∀ z ∈ mc12_125, decode (m_B 2525) z.1 = .ok (z.2.1, z.2.2) := by decide +kernel
theorem mm2525 : m_mok m_Z m_strs 2525 := m_mok_of (i := 2525) (own := RX12) (mn := "rowAt") (I := mi12_125) (S := []) rfl rfl rfl (by decide +kernel) (by decide) mp12 md2525 (by decide +kernel) (fun _ h => absurd h List.not_mem_nil) (fun _ h => absurd h List.not_mem_nil)
theorem md2526 : ∀ z ∈ mc12_126, decode (m_B 2526) z.1 = .ok (z.2.1, z.2.2) := by decide +kernel
theorem mm2526 : m_mok m_Z m_strs 2526 := m_mok_of (i := 2526) (own := RX12) (mn := "tear") (I := mi12_126) (S := []) rfl rfl rfl (by decide +kernel) (by decide) mp12 md2526 (by decide +kernel) (fun _ h => absurd h List.not_mem_nil) (fun _ h => absurd h List.not_mem_nil)
theorem md2527 : ∀ z ∈ mc12_127, decode (m_B 2527) z.1 = .ok (z.2.1, z.2.2) := by decide +kernel
theorem mm2527 : m_mok m_Z m_strs 2527 := m_mok_of (i := 2527) (own := RX12) (mn := "check") (I := mi12_127) (S := []) rfl rfl rfl (by decide +kernel) (by decide) mp12 md2527 (by decide +kernel) (fun _ h => absurd h List.not_mem_nil) (fun _ h => absurd h List.not_mem_nil)
theorem md2528_0 : ∀ z ∈ mc12_128_0, decode (m_B 2528) z.1 = .ok (z.2.1, z.2.2) := by decide +kernel
theorem md2528_1 : ∀ z ∈ mc12_128_1, decode (m_B 2528) z.1 = .ok (z.2.1, z.2.2) := by decide +kernel
theorem md2528 : ∀ z ∈ mc12_128, decode (m_B 2528) z.1 = .ok (z.2.1, z.2.2) := List.forall_mem_append.mpr ⟨md2528_0, md2528_1⟩
theorem mm2528 : m_mok m_Z m_strs 2528 := m_mok_of (i := 2528) (own := RX12) (mn := "count") (I := mi12_128) (S := []) rfl rfl rfl (by decide +kernel) (by decide) mp12 md2528 (by decide +kernel) (fun _ h => absurd h List.not_mem_nil) (fun _ h => absurd h List.not_mem_nil)
