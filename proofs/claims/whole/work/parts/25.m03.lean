/-! ===== m_: methods of class 3 by the tables (printed) ===== -/
theorem md600 : ∀ z ∈ mc3_0, decode (m_B 600) z.1 = .ok (z.2.1, z.2.2) := by decide +kernel
theorem mm600 : m_mok m_Z m_strs 600 := m_mok_of (i := 600) (own := RX3) (mn := "<init>") (I := mi3_0) (S := []) rfl rfl rfl (by decide +kernel) (by decide) mp3 md600 (by decide +kernel) (fun _ h => absurd h List.not_mem_nil) (fun _ h => absurd h List.not_mem_nil)
theorem md601 : ∀ z ∈ mc3_1, decode (m_B 601) z.1 = .ok (z.2.1, z.2.2) := by decide +kernel
theorem mm601 : m_mok m_Z m_strs 601 := m_mok_of (i := 601) (own := RX3) (mn := "setUp") (I := mi3_1) (S := []) rfl rfl rfl (by decide +kernel) (by decide) mp3 md601 (by decide +kernel) (fun _ h => absurd h List.not_mem_nil) (fun _ h => absurd h List.not_mem_nil)
theorem md602 : ∀ z ∈ mc3_2, decode (m_B 602) z.1 = .ok (z.2.1, z.2.2) := by decide +kernel
theorem mm602 : m_mok m_Z m_strs 602 := m_mok_of (i := 602) (own := RX3) (mn := "copyFrom") (I := mi3_2) (S := []) rfl rfl rfl (by decide +kernel) (by decide) mp3 md602 (by decide +kernel) (fun _ h => absurd h List.not_mem_nil) (fun _ h => absurd h List.not_mem_nil)
theorem md603 : ∀ z ∈ mc3_3, decode (m_B 603) z.1 = .ok (z.2.1, z.2.2) := by decide +kernel
theorem mm603 : m_mok m_Z m_strs 603 := m_mok_of (i := 603) (own := RX3) (mn := "tradeRow") (I := mi3_3) (S := []) rfl rfl rfl (by decide +kernel) (by decide) mp3 md603 (by decide +kernel) (fun _ h => absurd h List.not_mem_nil) (fun _ h => absurd h List.not_mem_nil)
theorem md604 : ∀ z ∈ mc3_4, decode (m_B 604) z.1 = .ok (z.2.1, z.2.2) := by decide +kernel
theorem mm604 : m_mok m_Z m_strs 604 := m_mok_of (i := 604) (own := RX3) (mn := "tell") (I := mi3_4) (S := []) rfl rfl rfl (by decide +kernel) (by decide) mp3 md604 (by decide +kernel) (fun _ h => absurd h List.not_mem_nil) (fun _ h => absurd h List.not_mem_nil)
theorem md605 : ∀ z ∈ mc3_5, decode (m_B 605) z.1 = .ok (z.2.1, z.2.2) := by decide +kernel
theorem mm605 : m_mok m_Z m_strs 605 := m_mok_of (i := 605) (own := RX3) (mn := "toldFor") (I := mi3_5) (S := []) rfl rfl rfl (by decide +kernel) (by decide) mp3 md605 (by decide +kernel) (fun _ h => absurd h List.not_mem_nil) (fun _ h => absurd h List.not_mem_nil)
theorem md606 : ∀ z ∈ mc3_6, decode (m_B 606) z.1 = .ok (z.2.1, z.2.2) := by decide +kernel
theorem mm606 : m_mok m_Z m_strs 606 := m_mok_of (i := 606) (own := RX3) (mn := "priceIn") (I := mi3_6) (S := []) rfl rfl rfl (by decide +kernel) (by decide) mp3 md606 (by decide +kernel) (fun _ h => absurd h List.not_mem_nil) (fun _ h => absurd h List.not_mem_nil)
theorem md607 : ∀ z ∈ mc3_7, decode (m_B 607) z.1 = .ok (z.2.1, z.2.2) := by decide +kernel
theorem mm607 : m_mok m_Z m_strs 607 := m_mok_of (i := 607) (own := RX3) (mn := "riskIn") (I := mi3_7) (S := []) rfl rfl rfl (by decide +kernel) (by decide) mp3 md607 (by decide +kernel) (fun _ h => absurd h List.not_mem_nil) (fun _ h => absurd h List.not_mem_nil)
theorem md608 : ∀ z ∈ mc3_8, decode (m_B 608) z.1 = .ok (z.2.1, z.2.2) := by decide +kernel
theorem mm608 : m_mok m_Z m_strs 608 := m_mok_of (i := 608) (own := RX3) (mn := "addAct") (I := mi3_8) (S := []) rfl rfl rfl (by decide +kernel) (by decide) mp3 md608 (by decide +kernel) (fun _ h => absurd h List.not_mem_nil) (fun _ h => absurd h List.not_mem_nil)
theorem md609 : ∀ z ∈ mc3_9, decode (m_B 609) z.1 = .ok (z.2.1, z.2.2) := by decide +kernel
theorem mm609 : m_mok m_Z m_strs 609 := m_mok_of (i := 609) (own := RX3) (mn := "actInForce") (I := mi3_9) (S := []) rfl rfl rfl (by decide +kernel) (by decide) mp3 md609 (by decide +kernel) (fun _ h => absurd h List.not_mem_nil) (fun _ h => absurd h List.not_mem_nil)
theorem md610 : ∀ z ∈ mc3_10, decode (m_B 610) z.1 = .ok (z.2.1, z.2.2) := by decide +kernel
theorem mm610 : m_mok m_Z m_strs 610 := m_mok_of (i := 610) (own := RX3) (mn := "linesOfWeek") (I := mi3_10) (S := []) rfl rfl rfl (by decide +kernel) (by decide) mp3 md610 (by decide +kernel) (fun _ h => absurd h List.not_mem_nil) (fun _ h => absurd h List.not_mem_nil)
theorem md611 : ∀ z ∈ mc3_11, decode (m_B 611) z.1 = .ok (z.2.1, z.2.2) := by decide +kernel
theorem mm611 : m_mok m_Z m_strs 611 := m_mok_of (i := 611) (own := RX3) (mn := "addLot") (I := mi3_11) (S := []) rfl rfl rfl (by decide +kernel) (by decide) mp3 md611 (by decide +kernel) (fun _ h => absurd h List.not_mem_nil) (fun _ h => absurd h List.not_mem_nil)
theorem md612 : ∀ z ∈ mc3_12, decode (m_B 612) z.1 = .ok (z.2.1, z.2.2) := by decide +kernel
theorem mm612 : m_mok m_Z m_strs 612 := m_mok_of (i := 612) (own := RX3) (mn := "isStock") (I := mi3_12) (S := []) rfl rfl rfl (by decide +kernel) (by decide) mp3 md612 (by decide +kernel) (fun _ h => absurd h List.not_mem_nil) (fun _ h => absurd h List.not_mem_nil)
theorem md613 : ∀ z ∈ mc3_13, decode (m_B 613) z.1 = .ok (z.2.1, z.2.2) := by decide +kernel
theorem mm613 : m_mok m_Z m_strs 613 := m_mok_of (i := 613) (own := RX3) (mn := "isBack") (I := mi3_13) (S := []) rfl rfl rfl (by decide +kernel) (by decide) mp3 md613 (by decide +kernel) (fun _ h => absurd h List.not_mem_nil) (fun _ h => absurd h List.not_mem_nil)
theorem md614 : ∀ z ∈ mc3_14, decode (m_B 614) z.1 = .ok (z.2.1, z.2.2) := by decide +kernel
theorem mm614 : m_mok m_Z m_strs 614 := m_mok_of (i := 614) (own := RX3) (mn := "isLent") (I := mi3_14) (S := []) rfl rfl rfl (by decide +kernel) (by decide) mp3 md614 (by decide +kernel) (fun _ h => absurd h List.not_mem_nil) (fun _ h => absurd h List.not_mem_nil)
theorem md615 : ∀ z ∈ mc3_15, decode (m_B 615) z.1 = .ok (z.2.1, z.2.2) := by decide +kernel
theorem mm615 : m_mok m_Z m_strs 615 := m_mok_of (i := 615) (own := RX3) (mn := "isOrderNotBegun") (I := mi3_15) (S := []) rfl rfl rfl (by decide +kernel) (by decide) mp3 md615 (by decide +kernel) (fun _ h => absurd h List.not_mem_nil) (fun _ h => absurd h List.not_mem_nil)
theorem md616 : ∀ z ∈ mc3_16, decode (m_B 616) z.1 = .ok (z.2.1, z.2.2) := by decide +kernel
theorem mm616 : m_mok m_Z m_strs 616 := m_mok_of (i := 616) (own := RX3) (mn := "crates") (I := mi3_16) (S := []) rfl rfl rfl (by decide +kernel) (by decide) mp3 md616 (by decide +kernel) (fun _ h => absurd h List.not_mem_nil) (fun _ h => absurd h List.not_mem_nil)
theorem md617 : ∀ z ∈ mc3_17, decode (m_B 617) z.1 = .ok (z.2.1, z.2.2) := by decide +kernel
theorem mm617 : m_mok m_Z m_strs 617 := m_mok_of (i := 617) (own := RX3) (mn := "move") (I := mi3_17) (S := []) rfl rfl rfl (by decide +kernel) (by decide) mp3 md617 (by decide +kernel) (fun _ h => absurd h List.not_mem_nil) (fun _ h => absurd h List.not_mem_nil)
theorem md618 : ∀ z ∈ mc3_18, decode (m_B 618) z.1 = .ok (z.2.1, z.2.2) := by decide +kernel
theorem mm618 : m_mok m_Z m_strs 618 := m_mok_of (i := 618) (own := RX3) (mn := "cratesAt") (I := mi3_18) (S := []) rfl rfl rfl (by decide +kernel) (by decide) mp3 md618 (by decide +kernel) (fun _ h => absurd h List.not_mem_nil) (fun _ h => absurd h List.not_mem_nil)
theorem md619 : ∀ z ∈ mc3_19, decode (m_B 619) z.1 = .ok (z.2.1, z.2.2) := by decide +kernel
theorem mm619 : m_mok m_Z m_strs 619 := m_mok_of (i := 619) (own := RX3) (mn := "needOfAll") (I := mi3_19) (S := []) rfl rfl rfl (by decide +kernel) (by decide) mp3 md619 (by decide +kernel) (fun _ h => absurd h List.not_mem_nil) (fun _ h => absurd h List.not_mem_nil)
theorem md620 : ∀ z ∈ mc3_20, decode (m_B 620) z.1 = .ok (z.2.1, z.2.2) := by decide +kernel
theorem mm620 : m_mok m_Z m_strs 620 := m_mok_of (i := 620) (own := RX3) (mn := "stockInPort") (I := mi3_20) (S := []) rfl rfl rfl (by decide +kernel) (by decide) mp3 md620 (by decide +kernel) (fun _ h => absurd h List.not_mem_nil) (fun _ h => absurd h List.not_mem_nil)
theorem md621 : ∀ z ∈ mc3_21, decode (m_B 621) z.1 = .ok (z.2.1, z.2.2) := by decide +kernel
theorem mm621 : m_mok m_Z m_strs 621 := m_mok_of (i := 621) (own := RX3) (mn := "takeFromStock") (I := mi3_21) (S := []) rfl rfl rfl (by decide +kernel) (by decide) mp3 md621 (by decide +kernel) (fun _ h => absurd h List.not_mem_nil) (fun _ h => absurd h List.not_mem_nil)
theorem md622 : ∀ z ∈ mc3_22, decode (m_B 622) z.1 = .ok (z.2.1, z.2.2) := by decide +kernel
theorem mm622 : m_mok m_Z m_strs 622 := m_mok_of (i := 622) (own := RX3) (mn := "lend") (I := mi3_22) (S := []) rfl rfl rfl (by decide +kernel) (by decide) mp3 md622 (by decide +kernel) (fun _ h => absurd h List.not_mem_nil) (fun _ h => absurd h List.not_mem_nil)
theorem md623 : ∀ z ∈ mc3_23, decode (m_B 623) z.1 = .ok (z.2.1, z.2.2) := by decide +kernel
theorem mm623 : m_mok m_Z m_strs 623 := m_mok_of (i := 623) (own := RX3) (mn := "giveOn") (I := mi3_23) (S := []) rfl rfl rfl (by decide +kernel) (by decide) mp3 md623 (by decide +kernel) (fun _ h => absurd h List.not_mem_nil) (fun _ h => absurd h List.not_mem_nil)
theorem md624 : ∀ z ∈ mc3_24, decode (m_B 624) z.1 = .ok (z.2.1, z.2.2) := by decide +kernel
theorem mm624 : m_mok m_Z m_strs 624 := m_mok_of (i := 624) (own := RX3) (mn := "close") (I := mi3_24) (S := []) rfl rfl rfl (by decide +kernel) (by decide) mp3 md624 (by decide +kernel) (fun _ h => absurd h List.not_mem_nil) (fun _ h => absurd h List.not_mem_nil)
theorem md625 : ∀ z ∈ mc3_25, decode (m_B 625) z.1 = .ok (z.2.1, z.2.2) := by decide +kernel
theorem mm625 : m_mok m_Z m_strs 625 := m_mok_of (i := 625) (own := RX3) (mn := "lackOf") (I := mi3_25) (S := []) rfl rfl rfl (by decide +kernel) (by decide) mp3 md625 (by decide +kernel) (fun _ h => absurd h List.not_mem_nil) (fun _ h => absurd h List.not_mem_nil)
theorem md626 : ∀ z ∈ mc3_26, decode (m_B 626) z.1 = .ok (z.2.1, z.2.2) := by decide +kernel
theorem mm626 : m_mok m_Z m_strs 626 := m_mok_of (i := 626) (own := RX3) (mn := "openRequests") (I := mi3_26) (S := []) rfl rfl rfl (by decide +kernel) (by decide) mp3 md626 (by decide +kernel) (fun _ h => absurd h List.not_mem_nil) (fun _ h => absurd h List.not_mem_nil)
theorem md627 : ∀ z ∈ mc3_27, decode (m_B 627) z.1 = .ok (z.2.1, z.2.2) := by decide +kernel
theorem mm627 : m_mok m_Z m_strs 627 := m_mok_of (i := 627) (own := RX3) (mn := "basesOf") (I := mi3_27) (S := []) rfl rfl rfl (by decide +kernel) (by decide) mp3 md627 (by decide +kernel) (fun _ h => absurd h List.not_mem_nil) (fun _ h => absurd h List.not_mem_nil)
theorem md628 : ∀ z ∈ mc3_28, decode (m_B 628) z.1 = .ok (z.2.1, z.2.2) := by decide +kernel
theorem mm628 : m_mok m_Z m_strs 628 := m_mok_of (i := 628) (own := RX3) (mn := "cargoLot") (I := mi3_28) (S := []) rfl rfl rfl (by decide +kernel) (by decide) mp3 md628 (by decide +kernel) (fun _ h => absurd h List.not_mem_nil) (fun _ h => absurd h List.not_mem_nil)
theorem md629 : ∀ z ∈ mc3_29, decode (m_B 629) z.1 = .ok (z.2.1, z.2.2) := by decide +kernel
theorem mm629 : m_mok m_Z m_strs 629 := m_mok_of (i := 629) (own := RX3) (mn := "cargoCrates") (I := mi3_29) (S := []) rfl rfl rfl (by decide +kernel) (by decide) mp3 md629 (by decide +kernel) (fun _ h => absurd h List.not_mem_nil) (fun _ h => absurd h List.not_mem_nil)
theorem md630 : ∀ z ∈ mc3_30, decode (m_B 630) z.1 = .ok (z.2.1, z.2.2) := by decide +kernel
theorem mm630 : m_mok m_Z m_strs 630 := m_mok_of (i := 630) (own := RX3) (mn := "tonsAboard") (I := mi3_30) (S := []) rfl rfl rfl (by decide +kernel) (by decide) mp3 md630 (by decide +kernel) (fun _ h => absurd h List.not_mem_nil) (fun _ h => absurd h List.not_mem_nil)
theorem md631 : ∀ z ∈ mc3_31, decode (m_B 631) z.1 = .ok (z.2.1, z.2.2) := by decide +kernel
theorem mm631 : m_mok m_Z m_strs 631 := m_mok_of (i := 631) (own := RX3) (mn := "tonsOf") (I := mi3_31) (S := []) rfl rfl rfl (by decide +kernel) (by decide) mp3 md631 (by decide +kernel) (fun _ h => absurd h List.not_mem_nil) (fun _ h => absurd h List.not_mem_nil)
theorem md632 : ∀ z ∈ mc3_32, decode (m_B 632) z.1 = .ok (z.2.1, z.2.2) := by decide +kernel
theorem mm632 : m_mok m_Z m_strs 632 := m_mok_of (i := 632) (own := RX3) (mn := "slotFor") (I := mi3_32) (S := []) rfl rfl rfl (by decide +kernel) (by decide) mp3 md632 (by decide +kernel) (fun _ h => absurd h List.not_mem_nil) (fun _ h => absurd h List.not_mem_nil)
theorem md633 : ∀ z ∈ mc3_33, decode (m_B 633) z.1 = .ok (z.2.1, z.2.2) := by decide +kernel
theorem mm633 : m_mok m_Z m_strs 633 := m_mok_of (i := 633) (own := RX3) (mn := "mayLoad") (I := mi3_33) (S := []) rfl rfl rfl (by decide +kernel) (by decide) mp3 md633 (by decide +kernel) (fun _ h => absurd h List.not_mem_nil) (fun _ h => absurd h List.not_mem_nil)
theorem md634 : ∀ z ∈ mc3_34, decode (m_B 634) z.1 = .ok (z.2.1, z.2.2) := by decide +kernel
theorem mm634 : m_mok m_Z m_strs 634 := m_mok_of (i := 634) (own := RX3) (mn := "fits") (I := mi3_34) (S := []) rfl rfl rfl (by decide +kernel) (by decide) mp3 md634 (by decide +kernel) (fun _ h => absurd h List.not_mem_nil) (fun _ h => absurd h List.not_mem_nil)
theorem md635 : ∀ z ∈ mc3_35, decode (m_B 635) z.1 = .ok (z.2.1, z.2.2) := by decide +kernel
theorem mm635 : m_mok m_Z m_strs 635 := m_mok_of (i := 635) (own := RX3) (mn := "landOfCargo") (I := mi3_35) (S := []) rfl rfl rfl (by decide +kernel) (by decide) mp3 md635 (by decide +kernel) (fun _ h => absurd h List.not_mem_nil) (fun _ h => absurd h List.not_mem_nil)
theorem md636 : ∀ z ∈ mc3_36, decode (m_B 636) z.1 = .ok (z.2.1, z.2.2) := by decide +kernel
theorem mm636 : m_mok m_Z m_strs 636 := m_mok_of (i := 636) (own := RX3) (mn := "putAboard") (I := mi3_36) (S := []) rfl rfl rfl (by decide +kernel) (by decide) mp3 md636 (by decide +kernel) (fun _ h => absurd h List.not_mem_nil) (fun _ h => absurd h List.not_mem_nil)
theorem md637 : ∀ z ∈ mc3_37, decode (m_B 637) z.1 = .ok (z.2.1, z.2.2) := by decide +kernel
theorem mm637 : m_mok m_Z m_strs 637 := m_mok_of (i := 637) (own := RX3) (mn := "maySail") (I := mi3_37) (S := []) rfl rfl rfl (by decide +kernel) (by decide) mp3 md637 (by decide +kernel) (fun _ h => absurd h List.not_mem_nil) (fun _ h => absurd h List.not_mem_nil)
theorem md638 : ∀ z ∈ mc3_38, decode (m_B 638) z.1 = .ok (z.2.1, z.2.2) := by decide +kernel
theorem mm638 : m_mok m_Z m_strs 638 := m_mok_of (i := 638) (own := RX3) (mn := "putToSea") (I := mi3_38) (S := []) rfl rfl rfl (by decide +kernel) (by decide) mp3 md638 (by decide +kernel) (fun _ h => absurd h List.not_mem_nil) (fun _ h => absurd h List.not_mem_nil)
