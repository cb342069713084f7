/-! ===== e_: what the law's entry gives ===== -/
def e_G : List Jvm.Cond := flatC (Jvm.Cond.and given_1 narrow_1)
noncomputable def e_ids : List Nat := m_strs.map fun q => q.2.2.2
theorem e_find : ∀ q ∈ m_strs, m_strs.find? (fun x => x.2.2.2 == q.2.2.2) = some q := by decide +kernel
theorem e_zero : m_strs.find? (fun x => x.2.2.2 == 0) = none := by decide +kernel
theorem e_own : ∀ q ∈ m_strs, (q.1 = RX9 ∨ q.1 = RX11 ∨ q.1 = RX12) ∧ q.2.2.2 < 200 := by decide +kernel
theorem e_ref : ∀ q ∈ m_strs, Jvm.Cond.stringRef q.1 q.2.1 q.2.2.1 ∈ lw_tbl := by decide +kernel
abbrev e_tm (q : String × Nat × String × Nat) : Term := .string q.1 q.2.1
abbrev e_val (q : String × Nat × String × Nat) : Term := .field (e_tm q) "java/lang/String" "value" "[B"
def e_sok (q : String × Nat × String × Nat) : Prop := 0 < (m_sls q.2.2.2).length → Jvm.Cond.exactly (e_tm q) "java/lang/String" ∈ e_G ∧ Jvm.Cond.eq (.field (e_tm q) "java/lang/String" "coder" "B") (.int 0) ∈ e_G ∧ Jvm.Cond.arrayOf (e_val q) .byte ∈ e_G ∧
    Jvm.Cond.eq (.length (e_val q)) (.int (Int32.ofNat (m_sls q.2.2.2).length)) ∈ e_G ∧ ∀ j, j < (m_sls q.2.2.2).length → Jvm.Cond.eq (.elem (e_val q) (.int (Int32.ofNat j))) (.int ((m_sls q.2.2.2).getD j 0)) ∈ e_G
theorem e_s1 : e_sok (RX11, 476, "no such sort", 1) := fun h => absurd h (by decide +kernel)
theorem e_s2 : e_sok (RX11, 121, "no such number of a sort", 2) := fun h => absurd h (by decide +kernel)
theorem e_s3 : e_sok (RX11, 133, "no such week or price", 3) := fun h => absurd h (by decide +kernel)
theorem e_s4 : e_sok (RX11, 150, "no such steel or hands", 4) := fun h => absurd h (by decide +kernel)
theorem e_s5 : e_sok (RX11, 378, "no such crates", 5) := fun h => absurd h (by decide +kernel)
theorem e_s6 : e_sok (RX11, 482, "no more lots", 6) := fun h => absurd h (by decide +kernel)
theorem e_s7 : e_sok (RX11, 486, "it is behind the end", 7) := fun h => absurd h (by decide +kernel)
theorem e_s8 : e_sok (RX11, 478, "no such lot", 8) := fun h => absurd h (by decide +kernel)
theorem e_s9 : e_sok (RX11, 173, "no such thing of a lot", 9) := fun h => absurd h (by decide +kernel)
theorem e_s10 : e_sok (RX11, 85, "no such week for an act", 10) := fun h => absurd h (by decide +kernel)
theorem e_s11 : e_sok (RX9, 86, "lend", 11) := fun _ => ⟨List.mem_of_getElem? (i := 302) (by decide +kernel), List.mem_of_getElem? (i := 303) (by decide +kernel), List.mem_of_getElem? (i := 304) (by decide +kernel), List.mem_of_getElem? (i := 305) (by decide +kernel), fun j hj => by
  match j, hj with
  | 0, _ => exact List.mem_of_getElem? (i := 306) (by decide +kernel)
  | 1, _ => exact List.mem_of_getElem? (i := 307) (by decide +kernel)
  | 2, _ => exact List.mem_of_getElem? (i := 308) (by decide +kernel)
  | 3, _ => exact List.mem_of_getElem? (i := 309) (by decide +kernel)
  | n + 4, h => exact absurd h (Nat.not_lt.mpr (Nat.le_add_left 4 n))⟩
theorem e_s12 : e_sok (RX9, 88, "mark", 12) := fun _ => ⟨List.mem_of_getElem? (i := 310) (by decide +kernel), List.mem_of_getElem? (i := 311) (by decide +kernel), List.mem_of_getElem? (i := 312) (by decide +kernel), List.mem_of_getElem? (i := 313) (by decide +kernel), fun j hj => by
  match j, hj with
  | 0, _ => exact List.mem_of_getElem? (i := 314) (by decide +kernel)
  | 1, _ => exact List.mem_of_getElem? (i := 315) (by decide +kernel)
  | 2, _ => exact List.mem_of_getElem? (i := 316) (by decide +kernel)
  | 3, _ => exact List.mem_of_getElem? (i := 317) (by decide +kernel)
  | n + 4, h => exact absurd h (Nat.not_lt.mpr (Nat.le_add_left 4 n))⟩
theorem e_s13 : e_sok (RX9, 90, "owe", 13) := fun _ => ⟨List.mem_of_getElem? (i := 318) (by decide +kernel), List.mem_of_getElem? (i := 319) (by decide +kernel), List.mem_of_getElem? (i := 320) (by decide +kernel), List.mem_of_getElem? (i := 321) (by decide +kernel), fun j hj => by
  match j, hj with
  | 0, _ => exact List.mem_of_getElem? (i := 322) (by decide +kernel)
  | 1, _ => exact List.mem_of_getElem? (i := 323) (by decide +kernel)
  | 2, _ => exact List.mem_of_getElem? (i := 324) (by decide +kernel)
  | n + 3, h => exact absurd h (Nat.not_lt.mpr (Nat.le_add_left 3 n))⟩
theorem e_s14 : e_sok (RX9, 92, "give", 14) := fun _ => ⟨List.mem_of_getElem? (i := 325) (by decide +kernel), List.mem_of_getElem? (i := 326) (by decide +kernel), List.mem_of_getElem? (i := 327) (by decide +kernel), List.mem_of_getElem? (i := 328) (by decide +kernel), fun j hj => by
  match j, hj with
  | 0, _ => exact List.mem_of_getElem? (i := 329) (by decide +kernel)
  | 1, _ => exact List.mem_of_getElem? (i := 330) (by decide +kernel)
  | 2, _ => exact List.mem_of_getElem? (i := 331) (by decide +kernel)
  | 3, _ => exact List.mem_of_getElem? (i := 332) (by decide +kernel)
  | n + 4, h => exact absurd h (Nat.not_lt.mpr (Nat.le_add_left 4 n))⟩
theorem e_s15 : e_sok (RX9, 94, "if", 15) := fun _ => ⟨List.mem_of_getElem? (i := 333) (by decide +kernel), List.mem_of_getElem? (i := 334) (by decide +kernel), List.mem_of_getElem? (i := 335) (by decide +kernel), List.mem_of_getElem? (i := 336) (by decide +kernel), fun j hj => by
  match j, hj with
  | 0, _ => exact List.mem_of_getElem? (i := 337) (by decide +kernel)
  | 1, _ => exact List.mem_of_getElem? (i := 338) (by decide +kernel)
  | n + 2, h => exact absurd h (Nat.not_lt.mpr (Nat.le_add_left 2 n))⟩
theorem e_s16 : e_sok (RX9, 96, "or", 16) := fun _ => ⟨List.mem_of_getElem? (i := 339) (by decide +kernel), List.mem_of_getElem? (i := 340) (by decide +kernel), List.mem_of_getElem? (i := 341) (by decide +kernel), List.mem_of_getElem? (i := 342) (by decide +kernel), fun j hj => by
  match j, hj with
  | 0, _ => exact List.mem_of_getElem? (i := 343) (by decide +kernel)
  | 1, _ => exact List.mem_of_getElem? (i := 344) (by decide +kernel)
  | n + 2, h => exact absurd h (Nat.not_lt.mpr (Nat.le_add_left 2 n))⟩
theorem e_s17 : e_sok (RX9, 98, "and", 17) := fun _ => ⟨List.mem_of_getElem? (i := 345) (by decide +kernel), List.mem_of_getElem? (i := 346) (by decide +kernel), List.mem_of_getElem? (i := 347) (by decide +kernel), List.mem_of_getElem? (i := 348) (by decide +kernel), fun j hj => by
  match j, hj with
  | 0, _ => exact List.mem_of_getElem? (i := 349) (by decide +kernel)
  | 1, _ => exact List.mem_of_getElem? (i := 350) (by decide +kernel)
  | 2, _ => exact List.mem_of_getElem? (i := 351) (by decide +kernel)
  | n + 3, h => exact absurd h (Nat.not_lt.mpr (Nat.le_add_left 3 n))⟩
theorem e_s18 : e_sok (RX9, 100, "not", 18) := fun _ => ⟨List.mem_of_getElem? (i := 352) (by decide +kernel), List.mem_of_getElem? (i := 353) (by decide +kernel), List.mem_of_getElem? (i := 354) (by decide +kernel), List.mem_of_getElem? (i := 355) (by decide +kernel), fun j hj => by
  match j, hj with
  | 0, _ => exact List.mem_of_getElem? (i := 356) (by decide +kernel)
  | 1, _ => exact List.mem_of_getElem? (i := 357) (by decide +kernel)
  | 2, _ => exact List.mem_of_getElem? (i := 358) (by decide +kernel)
  | n + 3, h => exact absurd h (Nat.not_lt.mpr (Nat.le_add_left 3 n))⟩
theorem e_s19 : e_sok (RX9, 105, "land", 19) := fun _ => ⟨List.mem_of_getElem? (i := 359) (by decide +kernel), List.mem_of_getElem? (i := 360) (by decide +kernel), List.mem_of_getElem? (i := 361) (by decide +kernel), List.mem_of_getElem? (i := 362) (by decide +kernel), fun j hj => by
  match j, hj with
  | 0, _ => exact List.mem_of_getElem? (i := 363) (by decide +kernel)
  | 1, _ => exact List.mem_of_getElem? (i := 364) (by decide +kernel)
  | 2, _ => exact List.mem_of_getElem? (i := 365) (by decide +kernel)
  | 3, _ => exact List.mem_of_getElem? (i := 366) (by decide +kernel)
  | n + 4, h => exact absurd h (Nat.not_lt.mpr (Nat.le_add_left 4 n))⟩
theorem e_s20 : e_sok (RX9, 107, "sort", 20) := fun _ => ⟨List.mem_of_getElem? (i := 367) (by decide +kernel), List.mem_of_getElem? (i := 368) (by decide +kernel), List.mem_of_getElem? (i := 369) (by decide +kernel), List.mem_of_getElem? (i := 370) (by decide +kernel), fun j hj => by
  match j, hj with
  | 0, _ => exact List.mem_of_getElem? (i := 371) (by decide +kernel)
  | 1, _ => exact List.mem_of_getElem? (i := 372) (by decide +kernel)
  | 2, _ => exact List.mem_of_getElem? (i := 373) (by decide +kernel)
  | 3, _ => exact List.mem_of_getElem? (i := 374) (by decide +kernel)
  | n + 4, h => exact absurd h (Nat.not_lt.mpr (Nat.le_add_left 4 n))⟩
theorem e_s21 : e_sok (RX9, 109, "week", 21) := fun _ => ⟨List.mem_of_getElem? (i := 375) (by decide +kernel), List.mem_of_getElem? (i := 376) (by decide +kernel), List.mem_of_getElem? (i := 377) (by decide +kernel), List.mem_of_getElem? (i := 378) (by decide +kernel), fun j hj => by
  match j, hj with
  | 0, _ => exact List.mem_of_getElem? (i := 379) (by decide +kernel)
  | 1, _ => exact List.mem_of_getElem? (i := 380) (by decide +kernel)
  | 2, _ => exact List.mem_of_getElem? (i := 381) (by decide +kernel)
  | 3, _ => exact List.mem_of_getElem? (i := 382) (by decide +kernel)
  | n + 4, h => exact absurd h (Nat.not_lt.mpr (Nat.le_add_left 4 n))⟩
theorem e_s22 : e_sok (RX9, 111, "crates", 22) := fun _ => ⟨List.mem_of_getElem? (i := 383) (by decide +kernel), List.mem_of_getElem? (i := 384) (by decide +kernel), List.mem_of_getElem? (i := 385) (by decide +kernel), List.mem_of_getElem? (i := 386) (by decide +kernel), fun j hj => by
  match j, hj with
  | 0, _ => exact List.mem_of_getElem? (i := 387) (by decide +kernel)
  | 1, _ => exact List.mem_of_getElem? (i := 388) (by decide +kernel)
  | 2, _ => exact List.mem_of_getElem? (i := 389) (by decide +kernel)
  | 3, _ => exact List.mem_of_getElem? (i := 390) (by decide +kernel)
  | 4, _ => exact List.mem_of_getElem? (i := 391) (by decide +kernel)
  | 5, _ => exact List.mem_of_getElem? (i := 392) (by decide +kernel)
  | n + 6, h => exact absurd h (Nat.not_lt.mpr (Nat.le_add_left 6 n))⟩
theorem e_s23 : e_sok (RX9, 113, "tons", 23) := fun _ => ⟨List.mem_of_getElem? (i := 393) (by decide +kernel), List.mem_of_getElem? (i := 394) (by decide +kernel), List.mem_of_getElem? (i := 395) (by decide +kernel), List.mem_of_getElem? (i := 396) (by decide +kernel), fun j hj => by
  match j, hj with
  | 0, _ => exact List.mem_of_getElem? (i := 397) (by decide +kernel)
  | 1, _ => exact List.mem_of_getElem? (i := 398) (by decide +kernel)
  | 2, _ => exact List.mem_of_getElem? (i := 399) (by decide +kernel)
  | 3, _ => exact List.mem_of_getElem? (i := 400) (by decide +kernel)
  | n + 4, h => exact absurd h (Nat.not_lt.mpr (Nat.le_add_left 4 n))⟩
theorem e_s24 : e_sok (RX9, 115, "price", 24) := fun _ => ⟨List.mem_of_getElem? (i := 401) (by decide +kernel), List.mem_of_getElem? (i := 402) (by decide +kernel), List.mem_of_getElem? (i := 403) (by decide +kernel), List.mem_of_getElem? (i := 404) (by decide +kernel), fun j hj => by
  match j, hj with
  | 0, _ => exact List.mem_of_getElem? (i := 405) (by decide +kernel)
  | 1, _ => exact List.mem_of_getElem? (i := 406) (by decide +kernel)
  | 2, _ => exact List.mem_of_getElem? (i := 407) (by decide +kernel)
  | 3, _ => exact List.mem_of_getElem? (i := 408) (by decide +kernel)
  | 4, _ => exact List.mem_of_getElem? (i := 409) (by decide +kernel)
  | n + 5, h => exact absurd h (Nat.not_lt.mpr (Nat.le_add_left 5 n))⟩
theorem e_s25 : e_sok (RX9, 117, "had", 25) := fun _ => ⟨List.mem_of_getElem? (i := 410) (by decide +kernel), List.mem_of_getElem? (i := 411) (by decide +kernel), List.mem_of_getElem? (i := 412) (by decide +kernel), List.mem_of_getElem? (i := 413) (by decide +kernel), fun j hj => by
  match j, hj with
  | 0, _ => exact List.mem_of_getElem? (i := 414) (by decide +kernel)
  | 1, _ => exact List.mem_of_getElem? (i := 415) (by decide +kernel)
  | 2, _ => exact List.mem_of_getElem? (i := 416) (by decide +kernel)
  | n + 3, h => exact absurd h (Nat.not_lt.mpr (Nat.le_add_left 3 n))⟩
theorem e_s26 : e_sok (RX9, 119, "hunger", 26) := fun _ => ⟨List.mem_of_getElem? (i := 417) (by decide +kernel), List.mem_of_getElem? (i := 418) (by decide +kernel), List.mem_of_getElem? (i := 419) (by decide +kernel), List.mem_of_getElem? (i := 420) (by decide +kernel), fun j hj => by
  match j, hj with
  | 0, _ => exact List.mem_of_getElem? (i := 421) (by decide +kernel)
  | 1, _ => exact List.mem_of_getElem? (i := 422) (by decide +kernel)
  | 2, _ => exact List.mem_of_getElem? (i := 423) (by decide +kernel)
  | 3, _ => exact List.mem_of_getElem? (i := 424) (by decide +kernel)
  | 4, _ => exact List.mem_of_getElem? (i := 425) (by decide +kernel)
  | 5, _ => exact List.mem_of_getElem? (i := 426) (by decide +kernel)
  | n + 6, h => exact absurd h (Nat.not_lt.mpr (Nat.le_add_left 6 n))⟩
theorem e_s27 : e_sok (RX9, 121, "rocks", 27) := fun _ => ⟨List.mem_of_getElem? (i := 427) (by decide +kernel), List.mem_of_getElem? (i := 428) (by decide +kernel), List.mem_of_getElem? (i := 429) (by decide +kernel), List.mem_of_getElem? (i := 430) (by decide +kernel), fun j hj => by
  match j, hj with
  | 0, _ => exact List.mem_of_getElem? (i := 431) (by decide +kernel)
  | 1, _ => exact List.mem_of_getElem? (i := 432) (by decide +kernel)
  | 2, _ => exact List.mem_of_getElem? (i := 433) (by decide +kernel)
  | 3, _ => exact List.mem_of_getElem? (i := 434) (by decide +kernel)
  | 4, _ => exact List.mem_of_getElem? (i := 435) (by decide +kernel)
  | n + 5, h => exact absurd h (Nat.not_lt.mpr (Nat.le_add_left 5 n))⟩
theorem e_s28 : e_sok (RX9, 123, "to", 28) := fun _ => ⟨List.mem_of_getElem? (i := 436) (by decide +kernel), List.mem_of_getElem? (i := 437) (by decide +kernel), List.mem_of_getElem? (i := 438) (by decide +kernel), List.mem_of_getElem? (i := 439) (by decide +kernel), fun j hj => by
  match j, hj with
  | 0, _ => exact List.mem_of_getElem? (i := 440) (by decide +kernel)
  | 1, _ => exact List.mem_of_getElem? (i := 441) (by decide +kernel)
  | n + 2, h => exact absurd h (Nat.not_lt.mpr (Nat.le_add_left 2 n))⟩
theorem e_s29 : e_sok (RX11, 96, "the text is wrong", 29) := fun h => absurd h (by decide +kernel)
theorem e_s30 : e_sok (RX11, 103, "no more acts", 30) := fun h => absurd h (by decide +kernel)
theorem e_s31 : e_sok (RX11, 472, "no such land", 31) := fun h => absurd h (by decide +kernel)
theorem e_s32 : e_sok (RX11, 474, "the land is the maker", 32) := fun h => absurd h (by decide +kernel)
theorem e_s33 : e_sok (RX11, 188, "no such drawn number", 33) := fun h => absurd h (by decide +kernel)
theorem e_s34 : e_sok (RX11, 197, "no more requests", 34) := fun h => absurd h (by decide +kernel)
theorem e_s35 : e_sok (RX11, 209, "no such request", 35) := fun h => absurd h (by decide +kernel)
theorem e_s36 : e_sok (RX11, 212, "no such thing of a request", 36) := fun h => absurd h (by decide +kernel)
theorem e_s37 : e_sok (RX11, 256, "no such label", 37) := fun h => absurd h (by decide +kernel)
theorem e_s38 : e_sok (RX11, 272, "no such hold or luck", 38) := fun h => absurd h (by decide +kernel)
theorem e_s39 : e_sok (RX11, 277, "no more ships", 39) := fun h => absurd h (by decide +kernel)
theorem e_s40 : e_sok (RX11, 279, "no such way", 40) := fun h => absurd h (by decide +kernel)
theorem e_s41 : e_sok (RX11, 284, "no such week or risk", 41) := fun h => absurd h (by decide +kernel)
theorem e_s42 : e_sok (RX11, 480, "no such ship", 42) := fun h => absurd h (by decide +kernel)
theorem e_s43 : e_sok (RX11, 309, "no such thing of a ship", 43) := fun h => absurd h (by decide +kernel)
theorem e_s44 : e_sok (RX11, 311, "no such need", 44) := fun h => absurd h (by decide +kernel)
theorem e_s45 : e_sok (RX11, 319, "no such number of weeks", 45) := fun h => absurd h (by decide +kernel)
theorem e_s46 : e_sok (RX11, 350, "no such thing of a land", 46) := fun h => absurd h (by decide +kernel)
theorem e_s47 : e_sok (RX11, 352, "no such balance", 47) := fun h => absurd h (by decide +kernel)
theorem e_s48 : e_sok (RX11, 366, "no such week or crates", 48) := fun h => absurd h (by decide +kernel)
theorem e_s49 : e_sok (RX11, 372, "no such week", 49) := fun h => absurd h (by decide +kernel)
theorem e_s50 : e_sok (RX11, 392, "no such number of a base", 50) := fun h => absurd h (by decide +kernel)
theorem e_s51 : e_sok (RX11, 397, "no more bases", 51) := fun h => absurd h (by decide +kernel)
theorem e_s52 : e_sok (RX11, 399, "no such base", 52) := fun h => absurd h (by decide +kernel)
theorem e_s53 : e_sok (RX11, 401, "no such tons", 53) := fun h => absurd h (by decide +kernel)
theorem e_s54 : e_sok (RX11, 417, "no such worth of a page", 54) := fun h => absurd h (by decide +kernel)
theorem e_s55 : e_sok (RX11, 426, "no such number of a choice", 55) := fun h => absurd h (by decide +kernel)
theorem e_s56 : e_sok (RX11, 431, "no such number of a row", 56) := fun h => absurd h (by decide +kernel)
theorem e_s57 : e_sok (RX11, 439, "no such coin", 57) := fun h => absurd h (by decide +kernel)
theorem e_s58 : e_sok (RX11, 390, "no such row", 58) := fun h => absurd h (by decide +kernel)
theorem e_s59 : e_sok (RX12, 237, "lend", 59) := fun _ => ⟨List.mem_of_getElem? (i := 1076) (by decide +kernel), List.mem_of_getElem? (i := 1077) (by decide +kernel), List.mem_of_getElem? (i := 1078) (by decide +kernel), List.mem_of_getElem? (i := 1079) (by decide +kernel), fun j hj => by
  match j, hj with
  | 0, _ => exact List.mem_of_getElem? (i := 1080) (by decide +kernel)
  | 1, _ => exact List.mem_of_getElem? (i := 1081) (by decide +kernel)
  | 2, _ => exact List.mem_of_getElem? (i := 1082) (by decide +kernel)
  | 3, _ => exact List.mem_of_getElem? (i := 1083) (by decide +kernel)
  | n + 4, h => exact absurd h (Nat.not_lt.mpr (Nat.le_add_left 4 n))⟩
theorem e_s60 : e_sok (RX12, 239, "mark", 60) := fun _ => ⟨List.mem_of_getElem? (i := 1085) (by decide +kernel), List.mem_of_getElem? (i := 1086) (by decide +kernel), List.mem_of_getElem? (i := 1087) (by decide +kernel), List.mem_of_getElem? (i := 1088) (by decide +kernel), fun j hj => by
  match j, hj with
  | 0, _ => exact List.mem_of_getElem? (i := 1089) (by decide +kernel)
  | 1, _ => exact List.mem_of_getElem? (i := 1090) (by decide +kernel)
  | 2, _ => exact List.mem_of_getElem? (i := 1091) (by decide +kernel)
  | 3, _ => exact List.mem_of_getElem? (i := 1092) (by decide +kernel)
  | n + 4, h => exact absurd h (Nat.not_lt.mpr (Nat.le_add_left 4 n))⟩
theorem e_s61 : e_sok (RX12, 241, "owe", 61) := fun _ => ⟨List.mem_of_getElem? (i := 1094) (by decide +kernel), List.mem_of_getElem? (i := 1095) (by decide +kernel), List.mem_of_getElem? (i := 1096) (by decide +kernel), List.mem_of_getElem? (i := 1097) (by decide +kernel), fun j hj => by
  match j, hj with
  | 0, _ => exact List.mem_of_getElem? (i := 1098) (by decide +kernel)
  | 1, _ => exact List.mem_of_getElem? (i := 1099) (by decide +kernel)
  | 2, _ => exact List.mem_of_getElem? (i := 1100) (by decide +kernel)
  | n + 3, h => exact absurd h (Nat.not_lt.mpr (Nat.le_add_left 3 n))⟩
theorem e_s62 : e_sok (RX12, 243, "give", 62) := fun _ => ⟨List.mem_of_getElem? (i := 1102) (by decide +kernel), List.mem_of_getElem? (i := 1103) (by decide +kernel), List.mem_of_getElem? (i := 1104) (by decide +kernel), List.mem_of_getElem? (i := 1105) (by decide +kernel), fun j hj => by
  match j, hj with
  | 0, _ => exact List.mem_of_getElem? (i := 1106) (by decide +kernel)
  | 1, _ => exact List.mem_of_getElem? (i := 1107) (by decide +kernel)
  | 2, _ => exact List.mem_of_getElem? (i := 1108) (by decide +kernel)
  | 3, _ => exact List.mem_of_getElem? (i := 1109) (by decide +kernel)
  | n + 4, h => exact absurd h (Nat.not_lt.mpr (Nat.le_add_left 4 n))⟩
theorem e_s63 : e_sok (RX12, 245, "if", 63) := fun _ => ⟨List.mem_of_getElem? (i := 1111) (by decide +kernel), List.mem_of_getElem? (i := 1112) (by decide +kernel), List.mem_of_getElem? (i := 1113) (by decide +kernel), List.mem_of_getElem? (i := 1114) (by decide +kernel), fun j hj => by
  match j, hj with
  | 0, _ => exact List.mem_of_getElem? (i := 1115) (by decide +kernel)
  | 1, _ => exact List.mem_of_getElem? (i := 1116) (by decide +kernel)
  | n + 2, h => exact absurd h (Nat.not_lt.mpr (Nat.le_add_left 2 n))⟩
theorem e_s64 : e_sok (RX12, 216, "not", 64) := fun _ => ⟨List.mem_of_getElem? (i := 1118) (by decide +kernel), List.mem_of_getElem? (i := 1119) (by decide +kernel), List.mem_of_getElem? (i := 1120) (by decide +kernel), List.mem_of_getElem? (i := 1121) (by decide +kernel), fun j hj => by
  match j, hj with
  | 0, _ => exact List.mem_of_getElem? (i := 1122) (by decide +kernel)
  | 1, _ => exact List.mem_of_getElem? (i := 1123) (by decide +kernel)
  | 2, _ => exact List.mem_of_getElem? (i := 1124) (by decide +kernel)
  | n + 3, h => exact absurd h (Nat.not_lt.mpr (Nat.le_add_left 3 n))⟩
theorem e_s65 : e_sok (RX12, 173, "land", 65) := fun _ => ⟨List.mem_of_getElem? (i := 1126) (by decide +kernel), List.mem_of_getElem? (i := 1127) (by decide +kernel), List.mem_of_getElem? (i := 1128) (by decide +kernel), List.mem_of_getElem? (i := 1129) (by decide +kernel), fun j hj => by
  match j, hj with
  | 0, _ => exact List.mem_of_getElem? (i := 1130) (by decide +kernel)
  | 1, _ => exact List.mem_of_getElem? (i := 1131) (by decide +kernel)
  | 2, _ => exact List.mem_of_getElem? (i := 1132) (by decide +kernel)
  | 3, _ => exact List.mem_of_getElem? (i := 1133) (by decide +kernel)
  | n + 4, h => exact absurd h (Nat.not_lt.mpr (Nat.le_add_left 4 n))⟩
theorem e_s66 : e_sok (RX12, 175, "sort", 66) := fun _ => ⟨List.mem_of_getElem? (i := 1135) (by decide +kernel), List.mem_of_getElem? (i := 1136) (by decide +kernel), List.mem_of_getElem? (i := 1137) (by decide +kernel), List.mem_of_getElem? (i := 1138) (by decide +kernel), fun j hj => by
  match j, hj with
  | 0, _ => exact List.mem_of_getElem? (i := 1139) (by decide +kernel)
  | 1, _ => exact List.mem_of_getElem? (i := 1140) (by decide +kernel)
  | 2, _ => exact List.mem_of_getElem? (i := 1141) (by decide +kernel)
  | 3, _ => exact List.mem_of_getElem? (i := 1142) (by decide +kernel)
  | n + 4, h => exact absurd h (Nat.not_lt.mpr (Nat.le_add_left 4 n))⟩
theorem e_s67 : e_sok (RX12, 177, "week", 67) := fun _ => ⟨List.mem_of_getElem? (i := 1144) (by decide +kernel), List.mem_of_getElem? (i := 1145) (by decide +kernel), List.mem_of_getElem? (i := 1146) (by decide +kernel), List.mem_of_getElem? (i := 1147) (by decide +kernel), fun j hj => by
  match j, hj with
  | 0, _ => exact List.mem_of_getElem? (i := 1148) (by decide +kernel)
  | 1, _ => exact List.mem_of_getElem? (i := 1149) (by decide +kernel)
  | 2, _ => exact List.mem_of_getElem? (i := 1150) (by decide +kernel)
  | 3, _ => exact List.mem_of_getElem? (i := 1151) (by decide +kernel)
  | n + 4, h => exact absurd h (Nat.not_lt.mpr (Nat.le_add_left 4 n))⟩
theorem e_s68 : e_sok (RX12, 178, "crates", 68) := fun _ => ⟨List.mem_of_getElem? (i := 1153) (by decide +kernel), List.mem_of_getElem? (i := 1154) (by decide +kernel), List.mem_of_getElem? (i := 1155) (by decide +kernel), List.mem_of_getElem? (i := 1156) (by decide +kernel), fun j hj => by
  match j, hj with
  | 0, _ => exact List.mem_of_getElem? (i := 1157) (by decide +kernel)
  | 1, _ => exact List.mem_of_getElem? (i := 1158) (by decide +kernel)
  | 2, _ => exact List.mem_of_getElem? (i := 1159) (by decide +kernel)
  | 3, _ => exact List.mem_of_getElem? (i := 1160) (by decide +kernel)
  | 4, _ => exact List.mem_of_getElem? (i := 1161) (by decide +kernel)
  | 5, _ => exact List.mem_of_getElem? (i := 1162) (by decide +kernel)
  | n + 6, h => exact absurd h (Nat.not_lt.mpr (Nat.le_add_left 6 n))⟩
theorem e_s69 : e_sok (RX12, 180, "tons", 69) := fun _ => ⟨List.mem_of_getElem? (i := 1164) (by decide +kernel), List.mem_of_getElem? (i := 1165) (by decide +kernel), List.mem_of_getElem? (i := 1166) (by decide +kernel), List.mem_of_getElem? (i := 1167) (by decide +kernel), fun j hj => by
  match j, hj with
  | 0, _ => exact List.mem_of_getElem? (i := 1168) (by decide +kernel)
  | 1, _ => exact List.mem_of_getElem? (i := 1169) (by decide +kernel)
  | 2, _ => exact List.mem_of_getElem? (i := 1170) (by decide +kernel)
  | 3, _ => exact List.mem_of_getElem? (i := 1171) (by decide +kernel)
  | n + 4, h => exact absurd h (Nat.not_lt.mpr (Nat.le_add_left 4 n))⟩
theorem e_s70 : e_sok (RX12, 182, "price", 70) := fun _ => ⟨List.mem_of_getElem? (i := 1173) (by decide +kernel), List.mem_of_getElem? (i := 1174) (by decide +kernel), List.mem_of_getElem? (i := 1175) (by decide +kernel), List.mem_of_getElem? (i := 1176) (by decide +kernel), fun j hj => by
  match j, hj with
  | 0, _ => exact List.mem_of_getElem? (i := 1177) (by decide +kernel)
  | 1, _ => exact List.mem_of_getElem? (i := 1178) (by decide +kernel)
  | 2, _ => exact List.mem_of_getElem? (i := 1179) (by decide +kernel)
  | 3, _ => exact List.mem_of_getElem? (i := 1180) (by decide +kernel)
  | 4, _ => exact List.mem_of_getElem? (i := 1181) (by decide +kernel)
  | n + 5, h => exact absurd h (Nat.not_lt.mpr (Nat.le_add_left 5 n))⟩
theorem e_s71 : e_sok (RX12, 184, "had", 71) := fun _ => ⟨List.mem_of_getElem? (i := 1183) (by decide +kernel), List.mem_of_getElem? (i := 1184) (by decide +kernel), List.mem_of_getElem? (i := 1185) (by decide +kernel), List.mem_of_getElem? (i := 1186) (by decide +kernel), fun j hj => by
  match j, hj with
  | 0, _ => exact List.mem_of_getElem? (i := 1187) (by decide +kernel)
  | 1, _ => exact List.mem_of_getElem? (i := 1188) (by decide +kernel)
  | 2, _ => exact List.mem_of_getElem? (i := 1189) (by decide +kernel)
  | n + 3, h => exact absurd h (Nat.not_lt.mpr (Nat.le_add_left 3 n))⟩
theorem e_s72 : e_sok (RX12, 186, "hunger", 72) := fun _ => ⟨List.mem_of_getElem? (i := 1191) (by decide +kernel), List.mem_of_getElem? (i := 1192) (by decide +kernel), List.mem_of_getElem? (i := 1193) (by decide +kernel), List.mem_of_getElem? (i := 1194) (by decide +kernel), fun j hj => by
  match j, hj with
  | 0, _ => exact List.mem_of_getElem? (i := 1195) (by decide +kernel)
  | 1, _ => exact List.mem_of_getElem? (i := 1196) (by decide +kernel)
  | 2, _ => exact List.mem_of_getElem? (i := 1197) (by decide +kernel)
  | 3, _ => exact List.mem_of_getElem? (i := 1198) (by decide +kernel)
  | 4, _ => exact List.mem_of_getElem? (i := 1199) (by decide +kernel)
  | 5, _ => exact List.mem_of_getElem? (i := 1200) (by decide +kernel)
  | n + 6, h => exact absurd h (Nat.not_lt.mpr (Nat.le_add_left 6 n))⟩
theorem e_s73 : e_sok (RX12, 188, "rocks", 73) := fun _ => ⟨List.mem_of_getElem? (i := 1202) (by decide +kernel), List.mem_of_getElem? (i := 1203) (by decide +kernel), List.mem_of_getElem? (i := 1204) (by decide +kernel), List.mem_of_getElem? (i := 1205) (by decide +kernel), fun j hj => by
  match j, hj with
  | 0, _ => exact List.mem_of_getElem? (i := 1206) (by decide +kernel)
  | 1, _ => exact List.mem_of_getElem? (i := 1207) (by decide +kernel)
  | 2, _ => exact List.mem_of_getElem? (i := 1208) (by decide +kernel)
  | 3, _ => exact List.mem_of_getElem? (i := 1209) (by decide +kernel)
  | 4, _ => exact List.mem_of_getElem? (i := 1210) (by decide +kernel)
  | n + 5, h => exact absurd h (Nat.not_lt.mpr (Nat.le_add_left 5 n))⟩
theorem e_s74 : e_sok (RX12, 190, "to", 74) := fun _ => ⟨List.mem_of_getElem? (i := 1212) (by decide +kernel), List.mem_of_getElem? (i := 1213) (by decide +kernel), List.mem_of_getElem? (i := 1214) (by decide +kernel), List.mem_of_getElem? (i := 1215) (by decide +kernel), fun j hj => by
  match j, hj with
  | 0, _ => exact List.mem_of_getElem? (i := 1216) (by decide +kernel)
  | 1, _ => exact List.mem_of_getElem? (i := 1217) (by decide +kernel)
  | n + 2, h => exact absurd h (Nat.not_lt.mpr (Nat.le_add_left 2 n))⟩
theorem e_s75 : e_sok (RX12, 227, "and", 75) := fun _ => ⟨List.mem_of_getElem? (i := 1219) (by decide +kernel), List.mem_of_getElem? (i := 1220) (by decide +kernel), List.mem_of_getElem? (i := 1221) (by decide +kernel), List.mem_of_getElem? (i := 1222) (by decide +kernel), fun j hj => by
  match j, hj with
  | 0, _ => exact List.mem_of_getElem? (i := 1223) (by decide +kernel)
  | 1, _ => exact List.mem_of_getElem? (i := 1224) (by decide +kernel)
  | 2, _ => exact List.mem_of_getElem? (i := 1225) (by decide +kernel)
  | n + 3, h => exact absurd h (Nat.not_lt.mpr (Nat.le_add_left 3 n))⟩
theorem e_s76 : e_sok (RX12, 232, "or", 76) := fun _ => ⟨List.mem_of_getElem? (i := 1227) (by decide +kernel), List.mem_of_getElem? (i := 1228) (by decide +kernel), List.mem_of_getElem? (i := 1229) (by decide +kernel), List.mem_of_getElem? (i := 1230) (by decide +kernel), fun j hj => by
  match j, hj with
  | 0, _ => exact List.mem_of_getElem? (i := 1231) (by decide +kernel)
  | 1, _ => exact List.mem_of_getElem? (i := 1232) (by decide +kernel)
  | n + 2, h => exact absurd h (Nat.not_lt.mpr (Nat.le_add_left 2 n))⟩
theorem e_str : ∀ q ∈ m_strs, e_sok q := by
  unfold m_strs
  exact List.forall_mem_cons.mpr ⟨e_s1, List.forall_mem_cons.mpr ⟨e_s2, List.forall_mem_cons.mpr ⟨e_s3, List.forall_mem_cons.mpr ⟨e_s4, List.forall_mem_cons.mpr ⟨e_s5, List.forall_mem_cons.mpr ⟨e_s6, List.forall_mem_cons.mpr ⟨e_s7, List.forall_mem_cons.mpr ⟨e_s8, List.forall_mem_cons.mpr ⟨e_s9, List.forall_mem_cons.mpr ⟨e_s10, List.forall_mem_cons.mpr ⟨e_s11, List.forall_mem_cons.mpr ⟨e_s12, List.forall_mem_cons.mpr ⟨e_s13, List.forall_mem_cons.mpr ⟨e_s14, List.forall_mem_cons.mpr ⟨e_s15, List.forall_mem_cons.mpr ⟨e_s16, List.forall_mem_cons.mpr ⟨e_s17, List.forall_mem_cons.mpr ⟨e_s18, List.forall_mem_cons.mpr ⟨e_s19, List.forall_mem_cons.mpr ⟨e_s20, List.forall_mem_cons.mpr ⟨e_s21, List.forall_mem_cons.mpr ⟨e_s22, List.forall_mem_cons.mpr ⟨e_s23, List.forall_mem_cons.mpr ⟨e_s24, List.forall_mem_cons.mpr ⟨e_s25, List.forall_mem_cons.mpr ⟨e_s26, List.forall_mem_cons.mpr ⟨e_s27, List.forall_mem_cons.mpr ⟨e_s28, List.forall_mem_cons.mpr ⟨e_s29, List.forall_mem_cons.mpr ⟨e_s30, List.forall_mem_cons.mpr ⟨e_s31, List.forall_mem_cons.mpr ⟨e_s32, List.forall_mem_cons.mpr ⟨e_s33, List.forall_mem_cons.mpr ⟨e_s34, List.forall_mem_cons.mpr ⟨e_s35, List.forall_mem_cons.mpr ⟨e_s36, List.forall_mem_cons.mpr ⟨e_s37, List.forall_mem_cons.mpr ⟨e_s38, List.forall_mem_cons.mpr ⟨e_s39, List.forall_mem_cons.mpr ⟨e_s40, List.forall_mem_cons.mpr ⟨e_s41, List.forall_mem_cons.mpr ⟨e_s42, List.forall_mem_cons.mpr ⟨e_s43, List.forall_mem_cons.mpr ⟨e_s44, List.forall_mem_cons.mpr ⟨e_s45, List.forall_mem_cons.mpr ⟨e_s46, List.forall_mem_cons.mpr ⟨e_s47, List.forall_mem_cons.mpr ⟨e_s48, List.forall_mem_cons.mpr ⟨e_s49, List.forall_mem_cons.mpr ⟨e_s50, List.forall_mem_cons.mpr ⟨e_s51, List.forall_mem_cons.mpr ⟨e_s52, List.forall_mem_cons.mpr ⟨e_s53, List.forall_mem_cons.mpr ⟨e_s54, List.forall_mem_cons.mpr ⟨e_s55, List.forall_mem_cons.mpr ⟨e_s56, List.forall_mem_cons.mpr ⟨e_s57, List.forall_mem_cons.mpr ⟨e_s58, List.forall_mem_cons.mpr ⟨e_s59, List.forall_mem_cons.mpr ⟨e_s60, List.forall_mem_cons.mpr ⟨e_s61, List.forall_mem_cons.mpr ⟨e_s62, List.forall_mem_cons.mpr ⟨e_s63, List.forall_mem_cons.mpr ⟨e_s64, List.forall_mem_cons.mpr ⟨e_s65, List.forall_mem_cons.mpr ⟨e_s66, List.forall_mem_cons.mpr ⟨e_s67, List.forall_mem_cons.mpr ⟨e_s68, List.forall_mem_cons.mpr ⟨e_s69, List.forall_mem_cons.mpr ⟨e_s70, List.forall_mem_cons.mpr ⟨e_s71, List.forall_mem_cons.mpr ⟨e_s72, List.forall_mem_cons.mpr ⟨e_s73, List.forall_mem_cons.mpr ⟨e_s74, List.forall_mem_cons.mpr ⟨e_s75, List.forall_mem_cons.mpr ⟨e_s76, fun _ h => absurd h List.not_mem_nil⟩⟩⟩⟩⟩⟩⟩⟩⟩⟩⟩⟩⟩⟩⟩⟩⟩⟩⟩⟩⟩⟩⟩⟩⟩⟩⟩⟩⟩⟩⟩⟩⟩⟩⟩⟩⟩⟩⟩⟩⟩⟩⟩⟩⟩⟩⟩⟩⟩⟩⟩⟩⟩⟩⟩⟩⟩⟩⟩⟩⟩⟩⟩⟩⟩⟩⟩⟩⟩⟩⟩⟩⟩⟩⟩⟩
theorem e_small : ∀ a, a < 77 → (m_sls a).length < 1000 ∧ (∀ x ∈ m_sls a, 0 ≤ x ∧ x < 128) ∧ (0 < (m_sls a).length → ∃ q ∈ m_strs, q.2.2.2 = a) := by decide +kernel
theorem e_big {a : Nat} (h : 77 ≤ a) : m_sls a = [] := by
  unfold m_sls
  split <;> first | omega | rfl
theorem e_stat : (Jvm.Cond.laysStatic "java/lang/String" "COMPACT_STRINGS" "Z" ∈ lw_tbl ∧ Jvm.Cond.initialized "java/lang/String" ∈ lw_tbl ∧ Jvm.Cond.laysStatic "jdk/internal/util/Preconditions" "SIOOBE_FORMATTER" "Ljava/util/function/BiFunction;" ∈ lw_tbl ∧ Jvm.Cond.initialized "jdk/internal/util/Preconditions" ∈ lw_tbl ∧
    Jvm.Cond.laysStatic Bundle.tN "UNASSIGNED_STACK" Bundle.steD ∈ lw_tbl ∧ Jvm.Cond.laysStatic Bundle.tN "SUPPRESSED_SENTINEL" Bundle.listD ∈ lw_tbl ∧ Jvm.Cond.initialized Bundle.tN ∈ lw_tbl) ∧
    (Jvm.Cond.eq (.static "java/lang/String" "COMPACT_STRINGS" "Z") (.int 1) ∈ e_G ∧ Jvm.Cond.isRef (.static "jdk/internal/util/Preconditions" "SIOOBE_FORMATTER" "Ljava/util/function/BiFunction;") ∈ e_G ∧ Jvm.Cond.isRef (.static Bundle.tN "UNASSIGNED_STACK" Bundle.steD) ∈ e_G ∧ Jvm.Cond.isRef (.static Bundle.tN "SUPPRESSED_SENTINEL" Bundle.listD) ∈ e_G) := by
  refine ⟨⟨?_, ?_, ?_, ?_, ?_, ?_, ?_⟩, ?_, ?_, ?_, ?_⟩ <;> decide +kernel
theorem e_arr : (∀ t, t < 5 → Jvm.Cond.arrayClass (m_ty t) ∈ lw_tbl) ∧ Jvm.Cond.arrayOver (.object "LendHouse$Act") ∈ lw_tbl ∧ Jvm.Cond.castable "[I" "java/lang/Cloneable" ∈ lw_tbl := by
  refine ⟨?_, ?_, ?_⟩ <;> decide +kernel
theorem e_xs : ∀ a, a < 5 → ∀ b, b < 5 → (a = b → Jvm.Cond.castable (m_en a) (m_en b) ∈ lw_tbl) ∧ (a ≠ b → Jvm.Cond.not (.castable (m_en a) (m_en b)) ∈ e_G) := by decide +kernel
section EN
variable {s : State} {args : Array Value}
/-- where the constants lie -/
noncomputable def e_ex (args : Array Value) (s : State) (b a : Nat) : Nat := match m_strs.find? (fun x => x.2.2.2 == a) with
  | some q => match (e_tm q).eval args s none [] s with
    | some (.ref r) => r
    | _ => 0
  | none => b
theorem e_ex0 {b : Nat} : e_ex args s b 0 = b := by
  unfold e_ex
  rw [e_zero]
theorem e_cls (hts : ∀ w ∈ lw_tbl, w.before args s = true) {q : String × Nat × String × Nat} (hq : q ∈ m_strs) : ∃ cur, s.vm.findClass q.1 = some cur := by
  have key : ∀ (ci : Nat) (r : vw_C), m_cl[ci]? = some r → ∃ cur, s.vm.findClass r.1 = some cur := by
    intro ci r hr
    obtain ⟨-, -, -, -, h5, -⟩ := m_cl_ok ci r hr
    obtain ⟨cC, kC, hfc, -⟩ := Cond.instantiable_spec (hts _ (m_Ts_in h5))
    exact ⟨cC, hfc⟩
  rcases (e_own q hq).1 with h | h | h <;> rw [h]
  · exact key 7 _ rfl
  · exact key 8 _ rfl
  · exact key 9 _ rfl
theorem e_exr (hts : ∀ w ∈ lw_tbl, w.before args s = true) {b : Nat} {q : String × Nat × String × Nat} (hq : q ∈ m_strs) : (e_tm q).eval args s none [] s = some (.ref (e_ex args s b q.2.2.2)) := by
  obtain ⟨cur, hcur⟩ := e_cls hts hq
  obtain ⟨k, cf, i, a, -, -, -, -, -, h⟩ := Cond.stringRef_spec hcur (hts _ (e_ref q hq))
  have h : (e_tm q).eval args s none [] s = some (.ref a) := h
  rw [h]
  unfold e_ex
  rw [e_find q hq]
  dsimp only
  rw [h]
theorem e_Js (hts : ∀ w ∈ lw_tbl, w.before args s = true) (hg : ∀ w ∈ e_G, w.before args s = true) {b : Nat} : m_Js (e_ex args s b) m_sls s.heap.size s s.heap := by
  have hA : ∀ a : Nat, a < s.heap.size → ¬ s.heap.size ≤ a := fun a h => Nat.not_le.mpr h
  obtain ⟨⟨t1, t2, t3, t4, t5, t6, t7⟩, g1, g2, g3, g4⟩ := e_stat
  refine ⟨fun a ha => ?_, va_Zof (hts _ t1) (hts _ t2) (va_eqi (hg _ g1)) hA, va_Zqof (hts _ t3) (hts _ t4) (hg _ g2) hA, vx_Zqof (hts _ t5) (hts _ t7) (hg _ g3) hA, vx_Zqof (hts _ t6) (hts _ t7) (hg _ g4) hA⟩
  have h77 : a < 77 := by
    rcases Nat.lt_or_ge a 77 with h | h
    · exact h
    · rw [e_big h] at ha
      exact absurd ha (by decide)
  obtain ⟨s1, s2, s3⟩ := e_small a h77
  obtain ⟨q, hq, rfl⟩ := s3 ha
  obtain ⟨c1, c2, c3, c4, c5⟩ := e_str q hq ha
  have ht := e_exr hts (b := b) hq
  refine ⟨s1, fun j => ?_, ?_⟩
  · rw [List.getD_eq_getElem?_getD]
    cases hj : (m_sls q.2.2.2)[j]? with
    | none => exact ⟨by decide, by decide⟩
    | some x => exact s2 x (List.mem_of_getElem? hj)
  · obtain ⟨v, hv, hT⟩ := va_Tof (tm := e_val q) (ty := .byte) (N := (m_sls q.2.2.2).length) (f := fun j => .int ((m_sls q.2.2.2).getD j 0)) (by omega) (hg _ c3) (va_eqt (hg _ c4)) (fun j hj => va_eqt (hg _ (c5 j hj))) hA
    exact ⟨v, va_Oof (hg _ c1) ht hA, vk_OFof ht (va_eqt (hg _ c2)) hA, vk_OFof ht hv hA, hT⟩
theorem e_K (hts : ∀ w ∈ lw_tbl, w.before args s = true) : ∃ (dC : Nat → ClassId) (dI : Nat → Nat → Nat) (tys : List (ClassId × FieldType)), va_K (dC, dI) m_cl tys s ∧ ∀ t, t < 6 → ∃ cA, tys[t]? = some (cA, m_ty t) := by
  have h1 : ∀ c : Nat, ∃ x : ClassId × (Nat → Nat), ∀ q : vw_C, m_cl[c]? = some q → u_Kn s q.1 q.2.1 q.2.2 x.1 x.2 := by
    intro c
    cases hq : m_cl[c]? with
    | none => exact ⟨(0, fun _ => 0), fun q h => by cases h⟩
    | some r =>
      obtain ⟨g1, -, -, -, h5, -⟩ := m_cl_ok c r hq
      obtain ⟨cC, iS, h⟩ := u_known (ws := m_Ts) (fun w hw => hts w (m_Ts_in hw)) g1 (hts _ (m_Ts_in h5))
      exact ⟨(cC, iS), fun q h9 => by cases h9; exact h⟩
  obtain ⟨f, hf⟩ := Classical.axiomOfChoice h1
  have h2 : ∀ t, t < 5 → ∃ cA, ArrOfT s cA (m_ty t) ∧ s.vm.findClass ("[" ++ (m_ty t).toString) = some cA := by
    intro t ht
    obtain ⟨c, k, comp, q1, q2, q3⟩ := Cond.arrayClass_spec (hts _ (e_arr.1 t ht))
    exact ⟨c, fun n z => ⟨fun k h => (by cases h), k, q2, comp, q3⟩, q1⟩
  obtain ⟨comp, c5, k5, a1, a2, a3, a4, a5⟩ := Cond.arrayOver_spec (hts _ e_arr.2.1)
  obtain ⟨c0, x0, y0⟩ := h2 0 (by decide)
  obtain ⟨c1, x1, y1⟩ := h2 1 (by decide)
  obtain ⟨c2, x2, y2⟩ := h2 2 (by decide)
  obtain ⟨c3, x3, y3⟩ := h2 3 (by decide)
  obtain ⟨c4, x4, y4⟩ := h2 4 (by decide)
  refine ⟨fun c => (f c).1, fun c => (f c).2, [(c0, m_ty 0), (c1, m_ty 1), (c2, m_ty 2), (c3, m_ty 3), (c4, m_ty 4), (c5, m_ty 5)], ⟨fun c q hq => hf c q hq, fun k q hq => ?_⟩, fun t ht => ?_⟩
  · match k, hq with
    | 0, hq => cases hq; exact ⟨x0, y0⟩
    | 1, hq => cases hq; exact ⟨x1, y1⟩
    | 2, hq => cases hq; exact ⟨x2, y2⟩
    | 3, hq => cases hq; exact ⟨x3, y3⟩
    | 4, hq => cases hq; exact ⟨x4, y4⟩
    | 5, hq => cases hq; exact ⟨fun n z => ⟨fun k h => (by cases h), k5, a3, comp, a4⟩, k5, comp, a3, a4, a1, a5⟩
    | n + 6, hq => cases hq
  · match t, ht with
    | 0, _ => exact ⟨c0, rfl⟩
    | 1, _ => exact ⟨c1, rfl⟩
    | 2, _ => exact ⟨c2, rfl⟩
    | 3, _ => exact ⟨c3, rfl⟩
    | 4, _ => exact ⟨c4, rfl⟩
    | 5, _ => exact ⟨c5, rfl⟩
    | n + 6, h => omega
theorem e_Nt (hts : ∀ w ∈ lw_tbl, w.before args s = true) : ∀ w ∈ m_Nt, va_Nw w s := by
  intro w hw
  obtain ⟨h1, h2⟩ := List.mem_filter.mp hw
  have h3 := hts w h1
  refine va_Nw.of ?_ h3
  unfold m_isN at h2
  split at h2
  · rfl
  · rfl
  · rfl
  · cases h2
theorem e_Xs (hts : ∀ w ∈ lw_tbl, w.before args s = true) (hg : ∀ w ∈ e_G, w.before args s = true) : m_Xs s := by
  intro a b ha hb
  obtain ⟨h1, h2⟩ := e_xs a ha b hb
  exact ⟨fun e => va_Nw.of rfl (hts _ (h1 e)), fun e => va_Nc.of (hg _ (h2 e))⟩
/-- the whole world at the entry -/
theorem e_Wo (hts : ∀ w ∈ lw_tbl, w.before args s = true) (hg : ∀ w ∈ e_G, w.before args s = true) {b L : Nat} {xs : Nat → Int32} (hX : va_X b L xs s s.heap) (hb : b < s.heap.size) :
    ∃ (dC : Nat → ClassId) (dI : Nat → Nat → Nat) (tys : List (ClassId × FieldType)), m_Wo s dC dI tys (e_ex args s b) m_sls s.heap.size L xs m_strs := by
  obtain ⟨dC, dI, tys, hK, hT⟩ := e_K hts
  refine ⟨dC, dI, tys, hK, by rw [e_ex0]; exact hX, by rw [e_ex0]; exact hb, Nat.le_refl _, hT, va_AO.of (hts _ e_arr.2.1), fun q hq => ⟨vk_R.of (hts _ (e_ref q hq)) (e_exr hts hq), (e_own q hq).2⟩, va_Nw.of rfl (hts _ e_arr.2.2), e_Js hts hg⟩
end EN
