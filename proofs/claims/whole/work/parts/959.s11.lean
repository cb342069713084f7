set_option maxRecDepth 100000
/-! ===== m_: the small machine does what the functions say, piece 11 (printed) ===== -/
-- F13_law: LendHouseLaw.law([I)Z
theorem eF13_law_0 : m_Fe mi13_35 0 ((.new 8, 3) :: (m_ap [(.dup, 1)] ((.invokespecial 138, 3) :: (m_ap [(.astore_n 1, 1)] ((.new 139, 3) :: (m_ap [(.dup, 1)] ((.invokespecial 141, 3) :: (m_ap [(.astore_n 2, 1), (.iconst 1, 1)] ((.newarray .long, 2) :: (m_ap [(.astore_n 3, 1), (.iconst 0, 1), (.istore 4, 2)] ([]))))))))))) := m_Fe_of nd2635 0 13 rfl
theorem eF13_law_23 : m_Fe mi13_35 23 (m_ap [(.iload 4, 2), (.aload_n 0, 1)] ((.arraylength, 1) :: (m_ap [(.bipush 6, 2), (.isub, 1)] ([(.if_icmp .gt 3130, 3)])))) := m_Fe_of nd2635 13 6 rfl
theorem eF13_law_3160 : m_Fe mi13_35 3160 (m_ap [(.iconst 1, 1)] ([(.ireturn, 1)])) := m_Fe_of nd2635 1989 2 rfl
theorem eF13_law_33 : m_Fe mi13_35 33 (m_ap [(.aload_n 0, 1), (.iload 4, 2)] ((.iaload, 1) :: (m_ap [(.bipush 63, 2), (.iand, 1)] ([(.tableswitch 3114 0 47 #[208, 281, 306, 390, 470, 538, 606, 674, 742, 798, 811, 903, 971, 1027, 1102, 1170, 1218, 1298, 1385, 1460, 1528, 1588, 1644, 1752, 1832, 1899, 1978, 2070, 2150, 2230, 2326, 2418, 2474, 2487, 2535, 2560, 2573, 2641, 2678, 2770, 2854, 2867, 2971, 3039, 3052, 3065, 3076, 3089], 208)])))) := m_Fe_of nd2635 19 6 rfl
theorem eF13_law_3154 : m_Fe mi13_35 3154 (m_ap [(.iinc 4 6, 3)] ([(.goto (-3134), 3)])) := m_Fe_of nd2635 1987 2 rfl
theorem eF13_law_248 : m_Fe mi13_35 248 (m_ap [(.aload_n 1, 1), (.aload_n 0, 1), (.iload 4, 2), (.iconst 1, 1), (.iadd, 1)] ((.iaload, 1) :: (m_ap [(.aload_n 0, 1), (.iload 4, 2), (.iconst 2, 1), (.iadd, 1)] ((.iaload, 1) :: (m_ap [(.aload_n 0, 1), (.iload 4, 2), (.iconst 3, 1), (.iadd, 1)] ((.iaload, 1) :: (m_ap [(.aload_n 0, 1), (.iload 4, 2), (.iconst 4, 1), (.iadd, 1)] ((.iaload, 1) :: (m_ap [(.aload_n 0, 1), (.iload 4, 2), (.iconst 5, 1), (.iadd, 1)] ((.iaload, 1) :: ((.invokevirtual 142, 3) :: (m_ap [(.aload_n 2, 1), (.aload_n 0, 1), (.iload 4, 2), (.iconst 1, 1), (.iadd, 1)] ((.iaload, 1) :: (m_ap [(.aload_n 0, 1), (.iload 4, 2), (.iconst 2, 1), (.iadd, 1)] ((.iaload, 1) :: (m_ap [(.aload_n 0, 1), (.iload 4, 2), (.iconst 3, 1), (.iadd, 1)] ((.iaload, 1) :: (m_ap [(.aload_n 0, 1), (.iload 4, 2), (.iconst 4, 1), (.iadd, 1)] ((.iaload, 1) :: (m_ap [(.aload_n 0, 1), (.iload 4, 2), (.iconst 5, 1), (.iadd, 1)] ((.iaload, 1) :: ((.invokevirtual 145, 3) :: ([(.if_icmp .eq 2838, 3)]))))))))))))))))))))))) := m_Fe_of nd2635 25 55 rfl
theorem eF13_law_319 : m_Fe mi13_35 319 (m_ap [(.iconst 0, 1)] ([(.ireturn, 1)])) := m_Fe_of nd2635 80 2 rfl
theorem eF13_law_321 : m_Fe mi13_35 321 (m_ap [(.aload_n 1, 1), (.aload_n 0, 1), (.iload 4, 2), (.iconst 1, 1), (.iadd, 1)] ((.iaload, 1) :: ((.invokevirtual 146, 3) :: (m_ap [(.aload_n 2, 1), (.aload_n 0, 1), (.iload 4, 2), (.iconst 1, 1), (.iadd, 1)] ((.iaload, 1) :: ((.invokevirtual 150, 3) :: ([(.if_icmp .eq 2813, 3)]))))))) := m_Fe_of nd2635 82 15 rfl
theorem eF13_law_344 : m_Fe mi13_35 344 (m_ap [(.iconst 0, 1)] ([(.ireturn, 1)])) := m_Fe_of nd2635 97 2 rfl
theorem eF13_law_346 : m_Fe mi13_35 346 (m_ap [(.aload_n 1, 1), (.aload_n 0, 1), (.iload 4, 2), (.iconst 1, 1), (.iadd, 1)] ((.iaload, 1) :: (m_ap [(.aload_n 0, 1), (.iload 4, 2), (.iconst 2, 1), (.iadd, 1)] ((.iaload, 1) :: (m_ap [(.aload_n 0, 1), (.iload 4, 2), (.iconst 3, 1), (.iadd, 1)] ((.iaload, 1) :: (m_ap [(.aload_n 0, 1), (.iload 4, 2), (.iconst 4, 1), (.iadd, 1)] ((.iaload, 1) :: (m_ap [(.aload_n 0, 1), (.iload 4, 2), (.iconst 5, 1), (.iadd, 1)] ((.iaload, 1) :: ((.invokestatic 151, 3) :: (m_ap [(.istore 5, 2), (.aload_n 2, 1), (.aload_n 0, 1), (.iload 4, 2), (.iconst 1, 1), (.iadd, 1)] ((.iaload, 1) :: (m_ap [(.aload_n 0, 1), (.iload 4, 2), (.iconst 2, 1), (.iadd, 1)] ((.iaload, 1) :: (m_ap [(.aload_n 0, 1), (.iload 4, 2), (.iconst 3, 1), (.iadd, 1)] ((.iaload, 1) :: (m_ap [(.aload_n 0, 1), (.iload 4, 2), (.iconst 4, 1), (.iadd, 1)] ((.iaload, 1) :: (m_ap [(.aload_n 0, 1), (.iload 4, 2), (.iconst 5, 1), (.iadd, 1)] ((.iaload, 1) :: ((.invokevirtual 156, 3) :: (m_ap [(.aload_n 2, 1)] ((.invokevirtual 157, 3) :: (m_ap [(.iload 5, 2)] ([(.if_icmp .eq 5, 3)])))))))))))))))))))))))))) := m_Fe_of nd2635 99 59 rfl
theorem eF13_law_427 : m_Fe mi13_35 427 ([(.goto 2727, 3)]) := m_Fe_of nd2635 160 1 rfl
theorem eF13_law_425 : m_Fe mi13_35 425 (m_ap [(.iconst 0, 1)] ([(.ireturn, 1)])) := m_Fe_of nd2635 158 2 rfl
theorem eF13_law_430 : m_Fe mi13_35 430 (m_ap [(.aload_n 1, 1), (.aload_n 0, 1), (.iload 4, 2), (.iconst 1, 1), (.iadd, 1)] ((.iaload, 1) :: (m_ap [(.aload_n 0, 1), (.iload 4, 2), (.iconst 2, 1), (.iadd, 1)] ((.iaload, 1) :: (m_ap [(.aload_n 0, 1), (.iload 4, 2), (.iconst 3, 1), (.iadd, 1)] ((.iaload, 1) :: (m_ap [(.aload_n 3, 1)] ((.invokestatic 161, 3) :: (m_ap [(.istore 5, 2), (.aload_n 2, 1), (.aload_n 0, 1), (.iload 4, 2), (.iconst 1, 1), (.iadd, 1)] ((.iaload, 1) :: (m_ap [(.aload_n 0, 1), (.iload 4, 2), (.iconst 2, 1), (.iadd, 1)] ((.iaload, 1) :: (m_ap [(.aload_n 0, 1), (.iload 4, 2), (.iconst 3, 1), (.iadd, 1)] ((.iaload, 1) :: ((.invokevirtual 164, 3) :: (m_ap [(.istore 6, 2), (.aload_n 2, 1)] ((.invokevirtual 157, 3) :: (m_ap [(.iload 5, 2)] ([(.if_icmp .eq 5, 3)]))))))))))))))))))) := m_Fe_of nd2635 161 41 rfl
theorem eF13_law_490 : m_Fe mi13_35 490 (m_ap [(.iload 5, 2)] ([(.ifCond .ne 15, 3)])) := m_Fe_of nd2635 204 2 rfl
theorem eF13_law_507 : m_Fe mi13_35 507 ([(.goto 2647, 3)]) := m_Fe_of nd2635 215 1 rfl
theorem eF13_law_495 : m_Fe mi13_35 495 (m_ap [(.aload_n 3, 1), (.iconst 0, 1)] ((.laload, 1) :: (m_ap [(.iload 6, 2), (.i2l, 1), (.lcmp, 1)] ([(.ifCond .eq 5, 3)])))) := m_Fe_of nd2635 206 7 rfl
theorem eF13_law_505 : m_Fe mi13_35 505 (m_ap [(.iconst 0, 1)] ([(.ireturn, 1)])) := m_Fe_of nd2635 213 2 rfl
theorem eF13_law_488 : m_Fe mi13_35 488 (m_ap [(.iconst 0, 1)] ([(.ireturn, 1)])) := m_Fe_of nd2635 202 2 rfl
theorem eF13_law_510 : m_Fe mi13_35 510 (m_ap [(.aload_n 1, 1), (.aload_n 0, 1), (.iload 4, 2), (.iconst 1, 1), (.iadd, 1)] ((.iaload, 1) :: (m_ap [(.aload_n 0, 1), (.iload 4, 2), (.iconst 2, 1), (.iadd, 1)] ((.iaload, 1) :: (m_ap [(.aload_n 3, 1)] ((.invokestatic 165, 3) :: (m_ap [(.istore 5, 2), (.aload_n 2, 1), (.aload_n 0, 1), (.iload 4, 2), (.iconst 1, 1), (.iadd, 1)] ((.iaload, 1) :: (m_ap [(.aload_n 0, 1), (.iload 4, 2), (.iconst 2, 1), (.iadd, 1)] ((.iaload, 1) :: ((.invokevirtual 168, 3) :: (m_ap [(.istore 6, 2), (.aload_n 2, 1)] ((.invokevirtual 157, 3) :: (m_ap [(.iload 5, 2)] ([(.if_icmp .eq 5, 3)]))))))))))))))) := m_Fe_of nd2635 216 31 rfl
theorem eF13_law_558 : m_Fe mi13_35 558 (m_ap [(.iload 5, 2)] ([(.ifCond .ne 15, 3)])) := m_Fe_of nd2635 249 2 rfl
theorem eF13_law_575 : m_Fe mi13_35 575 ([(.goto 2579, 3)]) := m_Fe_of nd2635 260 1 rfl
theorem eF13_law_563 : m_Fe mi13_35 563 (m_ap [(.aload_n 3, 1), (.iconst 0, 1)] ((.laload, 1) :: (m_ap [(.iload 6, 2), (.i2l, 1), (.lcmp, 1)] ([(.ifCond .eq 5, 3)])))) := m_Fe_of nd2635 251 7 rfl
theorem eF13_law_573 : m_Fe mi13_35 573 (m_ap [(.iconst 0, 1)] ([(.ireturn, 1)])) := m_Fe_of nd2635 258 2 rfl
theorem eF13_law_556 : m_Fe mi13_35 556 (m_ap [(.iconst 0, 1)] ([(.ireturn, 1)])) := m_Fe_of nd2635 247 2 rfl
theorem eF13_law_578 : m_Fe mi13_35 578 (m_ap [(.aload_n 1, 1), (.aload_n 0, 1), (.iload 4, 2), (.iconst 1, 1), (.iadd, 1)] ((.iaload, 1) :: (m_ap [(.aload_n 0, 1), (.iload 4, 2), (.iconst 2, 1), (.iadd, 1)] ((.iaload, 1) :: (m_ap [(.aload_n 3, 1)] ((.invokestatic 169, 3) :: (m_ap [(.istore 5, 2), (.aload_n 2, 1), (.aload_n 0, 1), (.iload 4, 2), (.iconst 1, 1), (.iadd, 1)] ((.iaload, 1) :: (m_ap [(.aload_n 0, 1), (.iload 4, 2), (.iconst 2, 1), (.iadd, 1)] ((.iaload, 1) :: ((.invokevirtual 171, 3) :: (m_ap [(.istore 6, 2), (.aload_n 2, 1)] ((.invokevirtual 157, 3) :: (m_ap [(.iload 5, 2)] ([(.if_icmp .eq 5, 3)]))))))))))))))) := m_Fe_of nd2635 261 31 rfl
theorem eF13_law_626 : m_Fe mi13_35 626 (m_ap [(.iload 5, 2)] ([(.ifCond .ne 15, 3)])) := m_Fe_of nd2635 294 2 rfl
theorem eF13_law_643 : m_Fe mi13_35 643 ([(.goto 2511, 3)]) := m_Fe_of nd2635 305 1 rfl
theorem eF13_law_631 : m_Fe mi13_35 631 (m_ap [(.aload_n 3, 1), (.iconst 0, 1)] ((.laload, 1) :: (m_ap [(.iload 6, 2), (.i2l, 1), (.lcmp, 1)] ([(.ifCond .eq 5, 3)])))) := m_Fe_of nd2635 296 7 rfl
theorem eF13_law_641 : m_Fe mi13_35 641 (m_ap [(.iconst 0, 1)] ([(.ireturn, 1)])) := m_Fe_of nd2635 303 2 rfl
theorem eF13_law_624 : m_Fe mi13_35 624 (m_ap [(.iconst 0, 1)] ([(.ireturn, 1)])) := m_Fe_of nd2635 292 2 rfl
theorem eF13_law_646 : m_Fe mi13_35 646 (m_ap [(.aload_n 1, 1), (.aload_n 0, 1), (.iload 4, 2), (.iconst 1, 1), (.iadd, 1)] ((.iaload, 1) :: (m_ap [(.aload_n 0, 1), (.iload 4, 2), (.iconst 2, 1), (.iadd, 1)] ((.iaload, 1) :: (m_ap [(.aload_n 3, 1)] ((.invokestatic 172, 3) :: (m_ap [(.istore 5, 2), (.aload_n 2, 1), (.aload_n 0, 1), (.iload 4, 2), (.iconst 1, 1), (.iadd, 1)] ((.iaload, 1) :: (m_ap [(.aload_n 0, 1), (.iload 4, 2), (.iconst 2, 1), (.iadd, 1)] ((.iaload, 1) :: ((.invokevirtual 174, 3) :: (m_ap [(.istore 6, 2), (.aload_n 2, 1)] ((.invokevirtual 157, 3) :: (m_ap [(.iload 5, 2)] ([(.if_icmp .eq 5, 3)]))))))))))))))) := m_Fe_of nd2635 306 31 rfl
theorem eF13_law_694 : m_Fe mi13_35 694 (m_ap [(.iload 5, 2)] ([(.ifCond .ne 15, 3)])) := m_Fe_of nd2635 339 2 rfl
theorem eF13_law_711 : m_Fe mi13_35 711 ([(.goto 2443, 3)]) := m_Fe_of nd2635 350 1 rfl
theorem eF13_law_699 : m_Fe mi13_35 699 (m_ap [(.aload_n 3, 1), (.iconst 0, 1)] ((.laload, 1) :: (m_ap [(.iload 6, 2), (.i2l, 1), (.lcmp, 1)] ([(.ifCond .eq 5, 3)])))) := m_Fe_of nd2635 341 7 rfl
theorem eF13_law_709 : m_Fe mi13_35 709 (m_ap [(.iconst 0, 1)] ([(.ireturn, 1)])) := m_Fe_of nd2635 348 2 rfl
theorem eF13_law_692 : m_Fe mi13_35 692 (m_ap [(.iconst 0, 1)] ([(.ireturn, 1)])) := m_Fe_of nd2635 337 2 rfl
theorem eF13_law_714 : m_Fe mi13_35 714 (m_ap [(.aload_n 1, 1), (.aload_n 0, 1), (.iload 4, 2), (.iconst 1, 1), (.iadd, 1)] ((.iaload, 1) :: (m_ap [(.aload_n 0, 1), (.iload 4, 2), (.iconst 2, 1), (.iadd, 1)] ((.iaload, 1) :: (m_ap [(.aload_n 3, 1)] ((.invokestatic 175, 3) :: (m_ap [(.istore 5, 2), (.aload_n 2, 1), (.aload_n 0, 1), (.iload 4, 2), (.iconst 1, 1), (.iadd, 1)] ((.iaload, 1) :: (m_ap [(.aload_n 0, 1), (.iload 4, 2), (.iconst 2, 1), (.iadd, 1)] ((.iaload, 1) :: ((.invokevirtual 177, 3) :: (m_ap [(.istore 6, 2), (.aload_n 2, 1)] ((.invokevirtual 157, 3) :: (m_ap [(.iload 5, 2)] ([(.if_icmp .eq 5, 3)]))))))))))))))) := m_Fe_of nd2635 351 31 rfl
theorem eF13_law_762 : m_Fe mi13_35 762 (m_ap [(.iload 5, 2)] ([(.ifCond .ne 15, 3)])) := m_Fe_of nd2635 384 2 rfl
theorem eF13_law_779 : m_Fe mi13_35 779 ([(.goto 2375, 3)]) := m_Fe_of nd2635 395 1 rfl
theorem eF13_law_767 : m_Fe mi13_35 767 (m_ap [(.aload_n 3, 1), (.iconst 0, 1)] ((.laload, 1) :: (m_ap [(.iload 6, 2), (.i2l, 1), (.lcmp, 1)] ([(.ifCond .eq 5, 3)])))) := m_Fe_of nd2635 386 7 rfl
theorem eF13_law_777 : m_Fe mi13_35 777 (m_ap [(.iconst 0, 1)] ([(.ireturn, 1)])) := m_Fe_of nd2635 393 2 rfl
theorem eF13_law_760 : m_Fe mi13_35 760 (m_ap [(.iconst 0, 1)] ([(.ireturn, 1)])) := m_Fe_of nd2635 382 2 rfl
theorem eF13_law_782 : m_Fe mi13_35 782 (m_ap [(.aload_n 1, 1), (.aload_n 0, 1), (.iload 4, 2), (.iconst 1, 1), (.iadd, 1)] ((.iaload, 1) :: (m_ap [(.aload_n 3, 1)] ((.invokestatic 178, 3) :: (m_ap [(.istore 5, 2), (.aload_n 2, 1), (.aload_n 0, 1), (.iload 4, 2), (.iconst 1, 1), (.iadd, 1)] ((.iaload, 1) :: ((.invokevirtual 181, 3) :: (m_ap [(.istore 6, 2), (.aload_n 2, 1)] ((.invokevirtual 157, 3) :: (m_ap [(.iload 5, 2)] ([(.if_icmp .eq 5, 3)]))))))))))) := m_Fe_of nd2635 396 21 rfl
theorem eF13_law_818 : m_Fe mi13_35 818 (m_ap [(.iload 5, 2)] ([(.ifCond .ne 15, 3)])) := m_Fe_of nd2635 419 2 rfl
theorem eF13_law_835 : m_Fe mi13_35 835 ([(.goto 2319, 3)]) := m_Fe_of nd2635 430 1 rfl
theorem eF13_law_823 : m_Fe mi13_35 823 (m_ap [(.aload_n 3, 1), (.iconst 0, 1)] ((.laload, 1) :: (m_ap [(.iload 6, 2), (.i2l, 1), (.lcmp, 1)] ([(.ifCond .eq 5, 3)])))) := m_Fe_of nd2635 421 7 rfl
theorem eF13_law_833 : m_Fe mi13_35 833 (m_ap [(.iconst 0, 1)] ([(.ireturn, 1)])) := m_Fe_of nd2635 428 2 rfl
theorem eF13_law_816 : m_Fe mi13_35 816 (m_ap [(.iconst 0, 1)] ([(.ireturn, 1)])) := m_Fe_of nd2635 417 2 rfl
theorem eF13_law_838 : m_Fe mi13_35 838 (m_ap [(.aload_n 1, 1)] ((.invokevirtual 182, 3) :: (m_ap [(.aload_n 2, 1)] ((.invokevirtual 185, 3) :: ([(.if_icmp .eq 2308, 3)]))))) := m_Fe_of nd2635 431 5 rfl
theorem eF13_law_849 : m_Fe mi13_35 849 (m_ap [(.iconst 0, 1)] ([(.ireturn, 1)])) := m_Fe_of nd2635 436 2 rfl
theorem eF13_law_851 : m_Fe mi13_35 851 (m_ap [(.aload_n 1, 1), (.aload_n 0, 1), (.iload 4, 2), (.iconst 1, 1), (.iadd, 1)] ((.iaload, 1) :: (m_ap [(.aload_n 0, 1), (.iload 4, 2), (.iconst 2, 1), (.iadd, 1)] ((.iaload, 1) :: (m_ap [(.aload_n 0, 1), (.iload 4, 2), (.iconst 3, 1), (.iadd, 1)] ((.iaload, 1) :: (m_ap [(.aload_n 0, 1), (.iload 4, 2), (.iconst 4, 1), (.iadd, 1)] ((.iaload, 1) :: (m_ap [(.aload_n 3, 1)] ((.invokestatic 186, 3) :: (m_ap [(.istore 5, 2), (.aload_n 2, 1), (.aload_n 0, 1), (.iload 4, 2), (.iconst 1, 1), (.iadd, 1)] ((.iaload, 1) :: (m_ap [(.aload_n 0, 1), (.iload 4, 2), (.iconst 2, 1), (.iadd, 1)] ((.iaload, 1) :: (m_ap [(.aload_n 0, 1), (.iload 4, 2), (.iconst 3, 1), (.iadd, 1)] ((.iaload, 1) :: (m_ap [(.aload_n 0, 1), (.iload 4, 2), (.iconst 4, 1), (.iadd, 1)] ((.iaload, 1) :: ((.invokevirtual 189, 3) :: (m_ap [(.istore 6, 2), (.aload_n 2, 1)] ((.invokevirtual 157, 3) :: (m_ap [(.iload 5, 2)] ([(.if_icmp .eq 5, 3)]))))))))))))))))))))))) := m_Fe_of nd2635 438 51 rfl
theorem eF13_law_923 : m_Fe mi13_35 923 (m_ap [(.iload 5, 2)] ([(.ifCond .ne 15, 3)])) := m_Fe_of nd2635 491 2 rfl
theorem eF13_law_940 : m_Fe mi13_35 940 ([(.goto 2214, 3)]) := m_Fe_of nd2635 502 1 rfl
theorem eF13_law_928 : m_Fe mi13_35 928 (m_ap [(.aload_n 3, 1), (.iconst 0, 1)] ((.laload, 1) :: (m_ap [(.iload 6, 2), (.i2l, 1), (.lcmp, 1)] ([(.ifCond .eq 5, 3)])))) := m_Fe_of nd2635 493 7 rfl
theorem eF13_law_938 : m_Fe mi13_35 938 (m_ap [(.iconst 0, 1)] ([(.ireturn, 1)])) := m_Fe_of nd2635 500 2 rfl
theorem eF13_law_921 : m_Fe mi13_35 921 (m_ap [(.iconst 0, 1)] ([(.ireturn, 1)])) := m_Fe_of nd2635 489 2 rfl
theorem eF13_law_943 : m_Fe mi13_35 943 (m_ap [(.aload_n 1, 1), (.aload_n 0, 1), (.iload 4, 2), (.iconst 1, 1), (.iadd, 1)] ((.iaload, 1) :: (m_ap [(.aload_n 0, 1), (.iload 4, 2), (.iconst 2, 1), (.iadd, 1)] ((.iaload, 1) :: (m_ap [(.aload_n 3, 1)] ((.invokestatic 190, 3) :: (m_ap [(.istore 5, 2), (.aload_n 2, 1), (.aload_n 0, 1), (.iload 4, 2), (.iconst 1, 1), (.iadd, 1)] ((.iaload, 1) :: (m_ap [(.aload_n 0, 1), (.iload 4, 2), (.iconst 2, 1), (.iadd, 1)] ((.iaload, 1) :: ((.invokevirtual 192, 3) :: (m_ap [(.istore 6, 2), (.aload_n 2, 1)] ((.invokevirtual 157, 3) :: (m_ap [(.iload 5, 2)] ([(.if_icmp .eq 5, 3)]))))))))))))))) := m_Fe_of nd2635 503 31 rfl
theorem eF13_law_991 : m_Fe mi13_35 991 (m_ap [(.iload 5, 2)] ([(.ifCond .ne 15, 3)])) := m_Fe_of nd2635 536 2 rfl
theorem eF13_law_1008 : m_Fe mi13_35 1008 ([(.goto 2146, 3)]) := m_Fe_of nd2635 547 1 rfl
theorem eF13_law_996 : m_Fe mi13_35 996 (m_ap [(.aload_n 3, 1), (.iconst 0, 1)] ((.laload, 1) :: (m_ap [(.iload 6, 2), (.i2l, 1), (.lcmp, 1)] ([(.ifCond .eq 5, 3)])))) := m_Fe_of nd2635 538 7 rfl
theorem eF13_law_1006 : m_Fe mi13_35 1006 (m_ap [(.iconst 0, 1)] ([(.ireturn, 1)])) := m_Fe_of nd2635 545 2 rfl
theorem eF13_law_989 : m_Fe mi13_35 989 (m_ap [(.iconst 0, 1)] ([(.ireturn, 1)])) := m_Fe_of nd2635 534 2 rfl
theorem eF13_law_1011 : m_Fe mi13_35 1011 (m_ap [(.aload_n 1, 1), (.aload_n 0, 1), (.iload 4, 2), (.iconst 1, 1), (.iadd, 1)] ((.iaload, 1) :: (m_ap [(.aload_n 3, 1)] ((.invokestatic 193, 3) :: (m_ap [(.istore 5, 2), (.aload_n 2, 1), (.aload_n 0, 1), (.iload 4, 2), (.iconst 1, 1), (.iadd, 1)] ((.iaload, 1) :: ((.invokevirtual 195, 3) :: (m_ap [(.istore 6, 2), (.aload_n 2, 1)] ((.invokevirtual 157, 3) :: (m_ap [(.iload 5, 2)] ([(.if_icmp .eq 5, 3)]))))))))))) := m_Fe_of nd2635 548 21 rfl
theorem eF13_law_1047 : m_Fe mi13_35 1047 (m_ap [(.iload 5, 2)] ([(.ifCond .ne 15, 3)])) := m_Fe_of nd2635 571 2 rfl
theorem eF13_law_1064 : m_Fe mi13_35 1064 ([(.goto 2090, 3)]) := m_Fe_of nd2635 582 1 rfl
theorem eF13_law_1052 : m_Fe mi13_35 1052 (m_ap [(.aload_n 3, 1), (.iconst 0, 1)] ((.laload, 1) :: (m_ap [(.iload 6, 2), (.i2l, 1), (.lcmp, 1)] ([(.ifCond .eq 5, 3)])))) := m_Fe_of nd2635 573 7 rfl
theorem eF13_law_1062 : m_Fe mi13_35 1062 (m_ap [(.iconst 0, 1)] ([(.ireturn, 1)])) := m_Fe_of nd2635 580 2 rfl
theorem eF13_law_1045 : m_Fe mi13_35 1045 (m_ap [(.iconst 0, 1)] ([(.ireturn, 1)])) := m_Fe_of nd2635 569 2 rfl
theorem eF13_law_1067 : m_Fe mi13_35 1067 (m_ap [(.aload_n 1, 1), (.aload_n 0, 1), (.iload 4, 2), (.iconst 1, 1), (.iadd, 1)] ((.iaload, 1) :: (m_ap [(.aload_n 0, 1), (.iload 4, 2), (.iconst 2, 1), (.iadd, 1)] ((.iaload, 1) :: (m_ap [(.aload_n 3, 1)] ((.invokestatic 196, 3) :: (m_ap [(.istore 5, 2), (.aload_n 2, 1), (.aload_n 0, 1), (.iload 4, 2), (.iconst 1, 1), (.iadd, 1)] ((.iaload, 1) :: (m_ap [(.aload_n 0, 1), (.iload 4, 2), (.iconst 2, 1), (.iadd, 1)] ((.iaload, 1) :: ((.invokevirtual 198, 3) :: (m_ap [(.istore 6, 2), (.aload_n 2, 1)] ((.invokevirtual 157, 3) :: (m_ap [(.iload 5, 2)] ([(.if_icmp .eq 5, 3)]))))))))))))))) := m_Fe_of nd2635 583 31 rfl
theorem eF13_law_1115 : m_Fe mi13_35 1115 (m_ap [(.iload 5, 2)] ([(.ifCond .ne 22, 3)])) := m_Fe_of nd2635 616 2 rfl
theorem eF13_law_1139 : m_Fe mi13_35 1139 ([(.goto 2015, 3)]) := m_Fe_of nd2635 630 1 rfl
theorem eF13_law_1120 : m_Fe mi13_35 1120 (m_ap [(.aload_n 3, 1), (.iconst 0, 1)] ((.laload, 1) :: (m_ap [(.iload 6, 2)] ([(.ifCond .eq 7, 3)])))) := m_Fe_of nd2635 618 5 rfl
theorem eF13_law_1132 : m_Fe mi13_35 1132 (m_ap [(.lconst 0, 1)] ([])) := m_Fe_of nd2635 625 1 rfl
theorem eF13_law_1128 : m_Fe mi13_35 1128 (m_ap [(.lconst 1, 1)] ([(.goto 4, 3)])) := m_Fe_of nd2635 623 2 rfl
theorem eF13_law_1113 : m_Fe mi13_35 1113 (m_ap [(.iconst 0, 1)] ([(.ireturn, 1)])) := m_Fe_of nd2635 614 2 rfl
theorem eF13_law_1142 : m_Fe mi13_35 1142 (m_ap [(.aload_n 1, 1), (.aload_n 0, 1), (.iload 4, 2), (.iconst 1, 1), (.iadd, 1)] ((.iaload, 1) :: (m_ap [(.aload_n 0, 1), (.iload 4, 2), (.iconst 2, 1), (.iadd, 1)] ((.iaload, 1) :: (m_ap [(.aload_n 3, 1)] ((.invokestatic 199, 3) :: (m_ap [(.istore 5, 2), (.aload_n 2, 1), (.aload_n 0, 1), (.iload 4, 2), (.iconst 1, 1), (.iadd, 1)] ((.iaload, 1) :: (m_ap [(.aload_n 0, 1), (.iload 4, 2), (.iconst 2, 1), (.iadd, 1)] ((.iaload, 1) :: ((.invokevirtual 201, 3) :: (m_ap [(.istore 6, 2), (.aload_n 2, 1)] ((.invokevirtual 157, 3) :: (m_ap [(.iload 5, 2)] ([(.if_icmp .eq 5, 3)]))))))))))))))) := m_Fe_of nd2635 631 31 rfl
theorem eF13_law_1190 : m_Fe mi13_35 1190 (m_ap [(.iload 5, 2)] ([(.ifCond .ne 15, 3)])) := m_Fe_of nd2635 664 2 rfl
theorem eF13_law_1207 : m_Fe mi13_35 1207 ([(.goto 1947, 3)]) := m_Fe_of nd2635 675 1 rfl
theorem eF13_law_1195 : m_Fe mi13_35 1195 (m_ap [(.aload_n 3, 1), (.iconst 0, 1)] ((.laload, 1) :: (m_ap [(.iload 6, 2), (.i2l, 1), (.lcmp, 1)] ([(.ifCond .eq 5, 3)])))) := m_Fe_of nd2635 666 7 rfl
theorem eF13_law_1205 : m_Fe mi13_35 1205 (m_ap [(.iconst 0, 1)] ([(.ireturn, 1)])) := m_Fe_of nd2635 673 2 rfl
theorem eF13_law_1188 : m_Fe mi13_35 1188 (m_ap [(.iconst 0, 1)] ([(.ireturn, 1)])) := m_Fe_of nd2635 662 2 rfl
theorem eF13_law_1210 : m_Fe mi13_35 1210 (m_ap [(.aload_n 1, 1), (.aload_n 0, 1), (.iload 4, 2), (.iconst 1, 1), (.iadd, 1)] ((.iaload, 1) :: (m_ap [(.aload_n 0, 1), (.iload 4, 2), (.iconst 2, 1), (.iadd, 1)] ((.iaload, 1) :: ((.invokestatic 202, 3) :: (m_ap [(.istore 5, 2), (.aload_n 2, 1), (.aload_n 0, 1), (.iload 4, 2), (.iconst 1, 1), (.iadd, 1)] ((.iaload, 1) :: (m_ap [(.aload_n 0, 1), (.iload 4, 2), (.iconst 2, 1), (.iadd, 1)] ((.iaload, 1) :: ((.invokevirtual 205, 3) :: (m_ap [(.aload_n 2, 1)] ((.invokevirtual 157, 3) :: (m_ap [(.iload 5, 2)] ([(.if_icmp .eq 5, 3)])))))))))))))) := m_Fe_of nd2635 676 29 rfl
theorem eF13_law_1255 : m_Fe mi13_35 1255 ([(.goto 1899, 3)]) := m_Fe_of nd2635 707 1 rfl
theorem eF13_law_1253 : m_Fe mi13_35 1253 (m_ap [(.iconst 0, 1)] ([(.ireturn, 1)])) := m_Fe_of nd2635 705 2 rfl
theorem eF13_law_1258 : m_Fe mi13_35 1258 (m_ap [(.aload_n 1, 1), (.aload_n 0, 1), (.iload 4, 2), (.iconst 1, 1), (.iadd, 1)] ((.iaload, 1) :: (m_ap [(.aload_n 0, 1), (.iload 4, 2), (.iconst 2, 1), (.iadd, 1)] ((.iaload, 1) :: (m_ap [(.aload_n 0, 1), (.iload 4, 2), (.iconst 3, 1), (.iadd, 1)] ((.iaload, 1) :: (m_ap [(.aload_n 3, 1)] ((.invokestatic 206, 3) :: (m_ap [(.istore 5, 2), (.aload_n 2, 1), (.aload_n 0, 1), (.iload 4, 2), (.iconst 1, 1), (.iadd, 1)] ((.iaload, 1) :: (m_ap [(.aload_n 0, 1), (.iload 4, 2), (.iconst 2, 1), (.iadd, 1)] ((.iaload, 1) :: (m_ap [(.aload_n 0, 1), (.iload 4, 2), (.iconst 3, 1), (.iadd, 1)] ((.iaload, 1) :: ((.invokevirtual 208, 3) :: (m_ap [(.istore 6, 2), (.aload_n 2, 1)] ((.invokevirtual 157, 3) :: (m_ap [(.iload 5, 2)] ([(.if_icmp .eq 5, 3)]))))))))))))))))))) := m_Fe_of nd2635 708 41 rfl
theorem eF13_law_1318 : m_Fe mi13_35 1318 (m_ap [(.iload 5, 2)] ([(.ifCond .ne 15, 3)])) := m_Fe_of nd2635 751 2 rfl
theorem eF13_law_1335 : m_Fe mi13_35 1335 ([(.goto 1819, 3)]) := m_Fe_of nd2635 762 1 rfl
theorem eF13_law_1323 : m_Fe mi13_35 1323 (m_ap [(.aload_n 3, 1), (.iconst 0, 1)] ((.laload, 1) :: (m_ap [(.iload 6, 2), (.i2l, 1), (.lcmp, 1)] ([(.ifCond .eq 5, 3)])))) := m_Fe_of nd2635 753 7 rfl
theorem eF13_law_1333 : m_Fe mi13_35 1333 (m_ap [(.iconst 0, 1)] ([(.ireturn, 1)])) := m_Fe_of nd2635 760 2 rfl
theorem eF13_law_1316 : m_Fe mi13_35 1316 (m_ap [(.iconst 0, 1)] ([(.ireturn, 1)])) := m_Fe_of nd2635 749 2 rfl
theorem eF13_law_1338 : m_Fe mi13_35 1338 (m_ap [(.aload_n 1, 1), (.aload_n 0, 1), (.iload 4, 2), (.iconst 1, 1), (.iadd, 1)] ((.iaload, 1) :: (m_ap [(.aload_n 0, 1), (.iload 4, 2), (.iconst 2, 1), (.iadd, 1)] ((.iaload, 1) :: (m_ap [(.aload_n 0, 1), (.iload 4, 2), (.iconst 3, 1), (.iadd, 1)] ((.iaload, 1) :: (m_ap [(.aload_n 3, 1)] ((.invokestatic 209, 3) :: (m_ap [(.istore 5, 2), (.aload_n 2, 1), (.aload_n 0, 1), (.iload 4, 2), (.iconst 1, 1), (.iadd, 1)] ((.iaload, 1) :: (m_ap [(.aload_n 0, 1), (.iload 4, 2), (.iconst 2, 1), (.iadd, 1)] ((.iaload, 1) :: (m_ap [(.aload_n 0, 1), (.iload 4, 2), (.iconst 3, 1), (.iadd, 1)] ((.iaload, 1) :: ((.invokevirtual 211, 3) :: (m_ap [(.istore 6, 2), (.aload_n 2, 1)] ((.invokevirtual 157, 3) :: (m_ap [(.iload 5, 2)] ([(.if_icmp .eq 5, 3)]))))))))))))))))))) := m_Fe_of nd2635 763 41 rfl
theorem eF13_law_1398 : m_Fe mi13_35 1398 (m_ap [(.iload 5, 2)] ([(.ifCond .ne 22, 3)])) := m_Fe_of nd2635 806 2 rfl
theorem eF13_law_1422 : m_Fe mi13_35 1422 ([(.goto 1732, 3)]) := m_Fe_of nd2635 820 1 rfl
theorem eF13_law_1403 : m_Fe mi13_35 1403 (m_ap [(.aload_n 3, 1), (.iconst 0, 1)] ((.laload, 1) :: (m_ap [(.iload 6, 2)] ([(.ifCond .eq 7, 3)])))) := m_Fe_of nd2635 808 5 rfl
theorem eF13_law_1415 : m_Fe mi13_35 1415 (m_ap [(.lconst 0, 1)] ([])) := m_Fe_of nd2635 815 1 rfl
theorem eF13_law_1411 : m_Fe mi13_35 1411 (m_ap [(.lconst 1, 1)] ([(.goto 4, 3)])) := m_Fe_of nd2635 813 2 rfl
theorem eF13_law_1396 : m_Fe mi13_35 1396 (m_ap [(.iconst 0, 1)] ([(.ireturn, 1)])) := m_Fe_of nd2635 804 2 rfl
theorem eF13_law_1425 : m_Fe mi13_35 1425 (m_ap [(.aload_n 1, 1), (.aload_n 0, 1), (.iload 4, 2), (.iconst 1, 1), (.iadd, 1)] ((.iaload, 1) :: (m_ap [(.aload_n 0, 1), (.iload 4, 2), (.iconst 2, 1), (.iadd, 1)] ((.iaload, 1) :: (m_ap [(.aload_n 3, 1)] ((.invokestatic 212, 3) :: (m_ap [(.istore 5, 2), (.aload_n 2, 1), (.aload_n 0, 1), (.iload 4, 2), (.iconst 1, 1), (.iadd, 1)] ((.iaload, 1) :: (m_ap [(.aload_n 0, 1), (.iload 4, 2), (.iconst 2, 1), (.iadd, 1)] ((.iaload, 1) :: ((.invokevirtual 214, 3) :: (m_ap [(.istore 6, 2), (.aload_n 2, 1)] ((.invokevirtual 157, 3) :: (m_ap [(.iload 5, 2)] ([(.if_icmp .eq 5, 3)]))))))))))))))) := m_Fe_of nd2635 821 31 rfl
theorem eF13_law_1473 : m_Fe mi13_35 1473 (m_ap [(.iload 5, 2)] ([(.ifCond .ne 22, 3)])) := m_Fe_of nd2635 854 2 rfl
theorem eF13_law_1497 : m_Fe mi13_35 1497 ([(.goto 1657, 3)]) := m_Fe_of nd2635 868 1 rfl
theorem eF13_law_1478 : m_Fe mi13_35 1478 (m_ap [(.aload_n 3, 1), (.iconst 0, 1)] ((.laload, 1) :: (m_ap [(.iload 6, 2)] ([(.ifCond .eq 7, 3)])))) := m_Fe_of nd2635 856 5 rfl
theorem eF13_law_1490 : m_Fe mi13_35 1490 (m_ap [(.lconst 0, 1)] ([])) := m_Fe_of nd2635 863 1 rfl
theorem eF13_law_1486 : m_Fe mi13_35 1486 (m_ap [(.lconst 1, 1)] ([(.goto 4, 3)])) := m_Fe_of nd2635 861 2 rfl
theorem eF13_law_1471 : m_Fe mi13_35 1471 (m_ap [(.iconst 0, 1)] ([(.ireturn, 1)])) := m_Fe_of nd2635 852 2 rfl
theorem eF13_law_1500 : m_Fe mi13_35 1500 (m_ap [(.aload_n 1, 1), (.aload_n 0, 1), (.iload 4, 2), (.iconst 1, 1), (.iadd, 1)] ((.iaload, 1) :: (m_ap [(.aload_n 0, 1), (.iload 4, 2), (.iconst 2, 1), (.iadd, 1)] ((.iaload, 1) :: (m_ap [(.aload_n 3, 1)] ((.invokestatic 215, 3) :: (m_ap [(.istore 5, 2), (.aload_n 2, 1), (.aload_n 0, 1), (.iload 4, 2), (.iconst 1, 1), (.iadd, 1)] ((.iaload, 1) :: (m_ap [(.aload_n 0, 1), (.iload 4, 2), (.iconst 2, 1), (.iadd, 1)] ((.iaload, 1) :: ((.invokevirtual 217, 3) :: (m_ap [(.istore 6, 2), (.aload_n 2, 1)] ((.invokevirtual 157, 3) :: (m_ap [(.iload 5, 2)] ([(.if_icmp .eq 5, 3)]))))))))))))))) := m_Fe_of nd2635 869 31 rfl
theorem eF13_law_1548 : m_Fe mi13_35 1548 (m_ap [(.iload 5, 2)] ([(.ifCond .ne 15, 3)])) := m_Fe_of nd2635 902 2 rfl
theorem eF13_law_1565 : m_Fe mi13_35 1565 ([(.goto 1589, 3)]) := m_Fe_of nd2635 913 1 rfl
theorem eF13_law_1553 : m_Fe mi13_35 1553 (m_ap [(.aload_n 3, 1), (.iconst 0, 1)] ((.laload, 1) :: (m_ap [(.iload 6, 2), (.i2l, 1), (.lcmp, 1)] ([(.ifCond .eq 5, 3)])))) := m_Fe_of nd2635 904 7 rfl
theorem eF13_law_1563 : m_Fe mi13_35 1563 (m_ap [(.iconst 0, 1)] ([(.ireturn, 1)])) := m_Fe_of nd2635 911 2 rfl
theorem eF13_law_1546 : m_Fe mi13_35 1546 (m_ap [(.iconst 0, 1)] ([(.ireturn, 1)])) := m_Fe_of nd2635 900 2 rfl
theorem eF13_law_1568 : m_Fe mi13_35 1568 (m_ap [(.aload_n 1, 1), (.aload_n 0, 1), (.iload 4, 2), (.iconst 1, 1), (.iadd, 1)] ((.iaload, 1) :: (m_ap [(.aload_n 0, 1), (.iload 4, 2), (.iconst 2, 1), (.iadd, 1)] ((.iaload, 1) :: (m_ap [(.aload_n 0, 1), (.iload 4, 2), (.iconst 3, 1), (.iadd, 1)] ((.iaload, 1) :: ((.invokestatic 218, 3) :: (m_ap [(.istore 5, 2), (.aload_n 2, 1), (.aload_n 0, 1), (.iload 4, 2), (.iconst 1, 1), (.iadd, 1)] ((.iaload, 1) :: (m_ap [(.aload_n 0, 1), (.iload 4, 2), (.iconst 2, 1), (.iadd, 1)] ((.iaload, 1) :: (m_ap [(.aload_n 0, 1), (.iload 4, 2), (.iconst 3, 1), (.iadd, 1)] ((.iaload, 1) :: ((.invokevirtual 221, 3) :: (m_ap [(.aload_n 2, 1)] ((.invokevirtual 157, 3) :: (m_ap [(.iload 5, 2)] ([(.if_icmp .eq 5, 3)])))))))))))))))))) := m_Fe_of nd2635 914 39 rfl
theorem eF13_law_1625 : m_Fe mi13_35 1625 ([(.goto 1529, 3)]) := m_Fe_of nd2635 955 1 rfl
theorem eF13_law_1623 : m_Fe mi13_35 1623 (m_ap [(.iconst 0, 1)] ([(.ireturn, 1)])) := m_Fe_of nd2635 953 2 rfl
theorem eF13_law_1628 : m_Fe mi13_35 1628 (m_ap [(.aload_n 1, 1), (.aload_n 0, 1), (.iload 4, 2), (.iconst 1, 1), (.iadd, 1)] ((.iaload, 1) :: (m_ap [(.aload_n 3, 1)] ((.invokestatic 222, 3) :: (m_ap [(.istore 5, 2), (.aload_n 2, 1), (.aload_n 0, 1), (.iload 4, 2), (.iconst 1, 1), (.iadd, 1)] ((.iaload, 1) :: ((.invokevirtual 224, 3) :: (m_ap [(.istore 6, 2), (.aload_n 2, 1)] ((.invokevirtual 157, 3) :: (m_ap [(.iload 5, 2)] ([(.if_icmp .eq 5, 3)]))))))))))) := m_Fe_of nd2635 956 21 rfl
theorem eF13_law_1664 : m_Fe mi13_35 1664 (m_ap [(.iload 5, 2)] ([(.ifCond .ne 15, 3)])) := m_Fe_of nd2635 979 2 rfl
theorem eF13_law_1681 : m_Fe mi13_35 1681 ([(.goto 1473, 3)]) := m_Fe_of nd2635 990 1 rfl
theorem eF13_law_1669 : m_Fe mi13_35 1669 (m_ap [(.aload_n 3, 1), (.iconst 0, 1)] ((.laload, 1) :: (m_ap [(.iload 6, 2), (.i2l, 1), (.lcmp, 1)] ([(.ifCond .eq 5, 3)])))) := m_Fe_of nd2635 981 7 rfl
theorem eF13_law_1679 : m_Fe mi13_35 1679 (m_ap [(.iconst 0, 1)] ([(.ireturn, 1)])) := m_Fe_of nd2635 988 2 rfl
theorem eF13_law_1662 : m_Fe mi13_35 1662 (m_ap [(.iconst 0, 1)] ([(.ireturn, 1)])) := m_Fe_of nd2635 977 2 rfl
theorem eF13_law_1684 : m_Fe mi13_35 1684 (m_ap [(.aload_n 1, 1), (.aload_n 0, 1), (.iload 4, 2), (.iconst 1, 1), (.iadd, 1)] ((.iaload, 1) :: (m_ap [(.aload_n 0, 1), (.iload 4, 2), (.iconst 2, 1), (.iadd, 1)] ((.iaload, 1) :: (m_ap [(.aload_n 0, 1), (.iload 4, 2), (.iconst 3, 1), (.iadd, 1)] ((.iaload, 1) :: (m_ap [(.aload_n 0, 1), (.iload 4, 2), (.iconst 4, 1), (.iadd, 1)] ((.iaload, 1) :: ([(.ifCond .eq 7, 3)]))))))))) := m_Fe_of nd2635 991 22 rfl
theorem eF13_law_1716 : m_Fe mi13_35 1716 (m_ap [(.iconst 0, 1)] ([])) := m_Fe_of nd2635 1015 1 rfl
theorem eF13_law_1712 : m_Fe mi13_35 1712 (m_ap [(.iconst 1, 1)] ([(.goto 4, 3)])) := m_Fe_of nd2635 1013 2 rfl
theorem eF13_law_1792 : m_Fe mi13_35 1792 (m_ap [(.aload_n 1, 1), (.aload_n 0, 1), (.iload 4, 2), (.iconst 1, 1), (.iadd, 1)] ((.iaload, 1) :: (m_ap [(.aload_n 0, 1), (.iload 4, 2), (.iconst 2, 1), (.iadd, 1)] ((.iaload, 1) :: (m_ap [(.aload_n 0, 1), (.iload 4, 2), (.iconst 3, 1), (.iadd, 1)] ((.iaload, 1) :: (m_ap [(.aload_n 3, 1)] ((.invokestatic 229, 3) :: (m_ap [(.istore 5, 2), (.aload_n 2, 1), (.aload_n 0, 1), (.iload 4, 2), (.iconst 1, 1), (.iadd, 1)] ((.iaload, 1) :: (m_ap [(.aload_n 0, 1), (.iload 4, 2), (.iconst 2, 1), (.iadd, 1)] ((.iaload, 1) :: (m_ap [(.aload_n 0, 1), (.iload 4, 2), (.iconst 3, 1), (.iadd, 1)] ((.iaload, 1) :: ((.invokevirtual 231, 3) :: (m_ap [(.istore 6, 2), (.aload_n 2, 1)] ((.invokevirtual 157, 3) :: (m_ap [(.iload 5, 2)] ([(.if_icmp .eq 5, 3)]))))))))))))))))))) := m_Fe_of nd2635 1064 41 rfl
theorem eF13_law_1852 : m_Fe mi13_35 1852 (m_ap [(.iload 5, 2)] ([(.ifCond .ne 15, 3)])) := m_Fe_of nd2635 1107 2 rfl
theorem eF13_law_1869 : m_Fe mi13_35 1869 ([(.goto 1285, 3)]) := m_Fe_of nd2635 1118 1 rfl
theorem eF13_law_1857 : m_Fe mi13_35 1857 (m_ap [(.aload_n 3, 1), (.iconst 0, 1)] ((.laload, 1) :: (m_ap [(.iload 6, 2), (.i2l, 1), (.lcmp, 1)] ([(.ifCond .eq 5, 3)])))) := m_Fe_of nd2635 1109 7 rfl
theorem eF13_law_1867 : m_Fe mi13_35 1867 (m_ap [(.iconst 0, 1)] ([(.ireturn, 1)])) := m_Fe_of nd2635 1116 2 rfl
theorem eF13_law_1850 : m_Fe mi13_35 1850 (m_ap [(.iconst 0, 1)] ([(.ireturn, 1)])) := m_Fe_of nd2635 1105 2 rfl
theorem eF13_law_1872 : m_Fe mi13_35 1872 (m_ap [(.aload_n 1, 1), (.aload_n 0, 1), (.iload 4, 2), (.iconst 1, 1), (.iadd, 1)] ((.iaload, 1) :: (m_ap [(.aload_n 0, 1), (.iload 4, 2), (.iconst 2, 1), (.iadd, 1)] ((.iaload, 1) :: (m_ap [(.aload_n 3, 1)] ((.invokestatic 232, 3) :: (m_ap [(.istore 5, 2), (.aload_n 2, 1), (.aload_n 0, 1), (.iload 4, 2), (.iconst 1, 1), (.iadd, 1)] ((.iaload, 1) :: (m_ap [(.aload_n 0, 1), (.iload 4, 2), (.iconst 2, 1), (.iadd, 1)] ((.iaload, 1) :: ((.invokevirtual 234, 3) :: (m_ap [(.lstore 6, 2), (.aload_n 2, 1)] ((.invokevirtual 157, 3) :: (m_ap [(.iload 5, 2)] ([(.if_icmp .eq 5, 3)]))))))))))))))) := m_Fe_of nd2635 1119 31 rfl
theorem eF13_law_1920 : m_Fe mi13_35 1920 (m_ap [(.iload 5, 2)] ([(.ifCond .ne 14, 3)])) := m_Fe_of nd2635 1152 2 rfl
theorem eF13_law_1936 : m_Fe mi13_35 1936 ([(.goto 1218, 3)]) := m_Fe_of nd2635 1162 1 rfl
theorem eF13_law_1925 : m_Fe mi13_35 1925 (m_ap [(.aload_n 3, 1), (.iconst 0, 1)] ((.laload, 1) :: (m_ap [(.lload 6, 2), (.lcmp, 1)] ([(.ifCond .eq 5, 3)])))) := m_Fe_of nd2635 1154 6 rfl
theorem eF13_law_1934 : m_Fe mi13_35 1934 (m_ap [(.iconst 0, 1)] ([(.ireturn, 1)])) := m_Fe_of nd2635 1160 2 rfl
theorem eF13_law_1918 : m_Fe mi13_35 1918 (m_ap [(.iconst 0, 1)] ([(.ireturn, 1)])) := m_Fe_of nd2635 1150 2 rfl
theorem eF13_law_1939 : m_Fe mi13_35 1939 (m_ap [(.aload_n 1, 1), (.aload_n 0, 1), (.iload 4, 2), (.iconst 1, 1), (.iadd, 1)] ((.iaload, 1) :: (m_ap [(.aload_n 0, 1), (.iload 4, 2), (.iconst 2, 1), (.iadd, 1)] ((.iaload, 1) :: (m_ap [(.aload_n 0, 1), (.iload 4, 2), (.iconst 3, 1), (.iadd, 1)] ((.iaload, 1) :: (m_ap [(.aload_n 3, 1)] ((.invokestatic 235, 3) :: (m_ap [(.istore 5, 2), (.aload_n 2, 1), (.aload_n 0, 1), (.iload 4, 2), (.iconst 1, 1), (.iadd, 1)] ((.iaload, 1) :: (m_ap [(.aload_n 0, 1), (.iload 4, 2), (.iconst 2, 1), (.iadd, 1)] ((.iaload, 1) :: (m_ap [(.aload_n 0, 1), (.iload 4, 2), (.iconst 3, 1), (.iadd, 1)] ((.iaload, 1) :: ((.invokevirtual 237, 3) :: (m_ap [(.lstore 6, 2), (.aload_n 2, 1)] ((.invokevirtual 157, 3) :: (m_ap [(.iload 5, 2)] ([(.if_icmp .eq 5, 3)]))))))))))))))))))) := m_Fe_of nd2635 1163 41 rfl
theorem eF13_law_1999 : m_Fe mi13_35 1999 (m_ap [(.iload 5, 2)] ([(.ifCond .ne 14, 3)])) := m_Fe_of nd2635 1206 2 rfl
theorem eF13_law_2015 : m_Fe mi13_35 2015 ([(.goto 1139, 3)]) := m_Fe_of nd2635 1216 1 rfl
theorem eF13_law_2004 : m_Fe mi13_35 2004 (m_ap [(.aload_n 3, 1), (.iconst 0, 1)] ((.laload, 1) :: (m_ap [(.lload 6, 2), (.lcmp, 1)] ([(.ifCond .eq 5, 3)])))) := m_Fe_of nd2635 1208 6 rfl
theorem eF13_law_2013 : m_Fe mi13_35 2013 (m_ap [(.iconst 0, 1)] ([(.ireturn, 1)])) := m_Fe_of nd2635 1214 2 rfl
theorem eF13_law_1997 : m_Fe mi13_35 1997 (m_ap [(.iconst 0, 1)] ([(.ireturn, 1)])) := m_Fe_of nd2635 1204 2 rfl
theorem eF13_law_2018 : m_Fe mi13_35 2018 (m_ap [(.aload_n 1, 1), (.aload_n 0, 1), (.iload 4, 2), (.iconst 1, 1), (.iadd, 1)] ((.iaload, 1) :: (m_ap [(.aload_n 0, 1), (.iload 4, 2), (.iconst 2, 1), (.iadd, 1)] ((.iaload, 1) :: (m_ap [(.aload_n 0, 1), (.iload 4, 2), (.iconst 3, 1), (.iadd, 1)] ((.iaload, 1) :: (m_ap [(.aload_n 0, 1), (.iload 4, 2), (.iconst 4, 1), (.iadd, 1)] ((.iaload, 1) :: (m_ap [(.aload_n 3, 1)] ((.invokestatic 238, 3) :: (m_ap [(.istore 5, 2), (.aload_n 2, 1), (.aload_n 0, 1), (.iload 4, 2), (.iconst 1, 1), (.iadd, 1)] ((.iaload, 1) :: (m_ap [(.aload_n 0, 1), (.iload 4, 2), (.iconst 2, 1), (.iadd, 1)] ((.iaload, 1) :: (m_ap [(.aload_n 0, 1), (.iload 4, 2), (.iconst 3, 1), (.iadd, 1)] ((.iaload, 1) :: (m_ap [(.aload_n 0, 1), (.iload 4, 2), (.iconst 4, 1), (.iadd, 1)] ((.iaload, 1) :: ((.invokevirtual 240, 3) :: (m_ap [(.istore 6, 2), (.aload_n 2, 1)] ((.invokevirtual 157, 3) :: (m_ap [(.iload 5, 2)] ([(.if_icmp .eq 5, 3)]))))))))))))))))))))))) := m_Fe_of nd2635 1217 51 rfl
theorem eF13_law_2090 : m_Fe mi13_35 2090 (m_ap [(.iload 5, 2)] ([(.ifCond .ne 15, 3)])) := m_Fe_of nd2635 1270 2 rfl
theorem eF13_law_2107 : m_Fe mi13_35 2107 ([(.goto 1047, 3)]) := m_Fe_of nd2635 1281 1 rfl
theorem eF13_law_2095 : m_Fe mi13_35 2095 (m_ap [(.aload_n 3, 1), (.iconst 0, 1)] ((.laload, 1) :: (m_ap [(.iload 6, 2), (.i2l, 1), (.lcmp, 1)] ([(.ifCond .eq 5, 3)])))) := m_Fe_of nd2635 1272 7 rfl
theorem eF13_law_2105 : m_Fe mi13_35 2105 (m_ap [(.iconst 0, 1)] ([(.ireturn, 1)])) := m_Fe_of nd2635 1279 2 rfl
theorem eF13_law_2088 : m_Fe mi13_35 2088 (m_ap [(.iconst 0, 1)] ([(.ireturn, 1)])) := m_Fe_of nd2635 1268 2 rfl
theorem eF13_law_2110 : m_Fe mi13_35 2110 (m_ap [(.aload_n 1, 1), (.aload_n 0, 1), (.iload 4, 2), (.iconst 1, 1), (.iadd, 1)] ((.iaload, 1) :: (m_ap [(.aload_n 0, 1), (.iload 4, 2), (.iconst 2, 1), (.iadd, 1)] ((.iaload, 1) :: (m_ap [(.aload_n 0, 1), (.iload 4, 2), (.iconst 3, 1), (.iadd, 1)] ((.iaload, 1) :: (m_ap [(.aload_n 3, 1)] ((.invokestatic 241, 3) :: (m_ap [(.istore 5, 2), (.aload_n 2, 1), (.aload_n 0, 1), (.iload 4, 2), (.iconst 1, 1), (.iadd, 1)] ((.iaload, 1) :: (m_ap [(.aload_n 0, 1), (.iload 4, 2), (.iconst 2, 1), (.iadd, 1)] ((.iaload, 1) :: (m_ap [(.aload_n 0, 1), (.iload 4, 2), (.iconst 3, 1), (.iadd, 1)] ((.iaload, 1) :: ((.invokevirtual 243, 3) :: (m_ap [(.istore 6, 2), (.aload_n 2, 1)] ((.invokevirtual 157, 3) :: (m_ap [(.iload 5, 2)] ([(.if_icmp .eq 5, 3)]))))))))))))))))))) := m_Fe_of nd2635 1282 41 rfl
theorem eF13_law_2170 : m_Fe mi13_35 2170 (m_ap [(.iload 5, 2)] ([(.ifCond .ne 15, 3)])) := m_Fe_of nd2635 1325 2 rfl
theorem eF13_law_2187 : m_Fe mi13_35 2187 ([(.goto 967, 3)]) := m_Fe_of nd2635 1336 1 rfl
theorem eF13_law_2175 : m_Fe mi13_35 2175 (m_ap [(.aload_n 3, 1), (.iconst 0, 1)] ((.laload, 1) :: (m_ap [(.iload 6, 2), (.i2l, 1), (.lcmp, 1)] ([(.ifCond .eq 5, 3)])))) := m_Fe_of nd2635 1327 7 rfl
theorem eF13_law_2185 : m_Fe mi13_35 2185 (m_ap [(.iconst 0, 1)] ([(.ireturn, 1)])) := m_Fe_of nd2635 1334 2 rfl
theorem eF13_law_2168 : m_Fe mi13_35 2168 (m_ap [(.iconst 0, 1)] ([(.ireturn, 1)])) := m_Fe_of nd2635 1323 2 rfl
theorem eF13_law_2190 : m_Fe mi13_35 2190 (m_ap [(.aload_n 1, 1), (.aload_n 0, 1), (.iload 4, 2), (.iconst 1, 1), (.iadd, 1)] ((.iaload, 1) :: (m_ap [(.aload_n 0, 1), (.iload 4, 2), (.iconst 2, 1), (.iadd, 1)] ((.iaload, 1) :: (m_ap [(.aload_n 0, 1), (.iload 4, 2), (.iconst 3, 1), (.iadd, 1)] ((.iaload, 1) :: (m_ap [(.aload_n 3, 1)] ((.invokestatic 244, 3) :: (m_ap [(.istore 5, 2), (.aload_n 2, 1), (.aload_n 0, 1), (.iload 4, 2), (.iconst 1, 1), (.iadd, 1)] ((.iaload, 1) :: (m_ap [(.aload_n 0, 1), (.iload 4, 2), (.iconst 2, 1), (.iadd, 1)] ((.iaload, 1) :: (m_ap [(.aload_n 0, 1), (.iload 4, 2), (.iconst 3, 1), (.iadd, 1)] ((.iaload, 1) :: ((.invokevirtual 246, 3) :: (m_ap [(.istore 6, 2), (.aload_n 2, 1)] ((.invokevirtual 157, 3) :: (m_ap [(.iload 5, 2)] ([(.if_icmp .eq 5, 3)]))))))))))))))))))) := m_Fe_of nd2635 1337 41 rfl
theorem eF13_law_2250 : m_Fe mi13_35 2250 (m_ap [(.iload 5, 2)] ([(.ifCond .ne 15, 3)])) := m_Fe_of nd2635 1380 2 rfl
theorem eF13_law_2267 : m_Fe mi13_35 2267 ([(.goto 887, 3)]) := m_Fe_of nd2635 1391 1 rfl
theorem eF13_law_2255 : m_Fe mi13_35 2255 (m_ap [(.aload_n 3, 1), (.iconst 0, 1)] ((.laload, 1) :: (m_ap [(.iload 6, 2), (.i2l, 1), (.lcmp, 1)] ([(.ifCond .eq 5, 3)])))) := m_Fe_of nd2635 1382 7 rfl
theorem eF13_law_2265 : m_Fe mi13_35 2265 (m_ap [(.iconst 0, 1)] ([(.ireturn, 1)])) := m_Fe_of nd2635 1389 2 rfl
theorem eF13_law_2248 : m_Fe mi13_35 2248 (m_ap [(.iconst 0, 1)] ([(.ireturn, 1)])) := m_Fe_of nd2635 1378 2 rfl
theorem eF13_law_2270 : m_Fe mi13_35 2270 (m_ap [(.aload_n 1, 1), (.aload_n 0, 1), (.iload 4, 2), (.iconst 1, 1), (.iadd, 1)] ((.iaload, 1) :: (m_ap [(.aload_n 0, 1), (.iload 4, 2), (.iconst 2, 1), (.iadd, 1)] ((.iaload, 1) :: (m_ap [(.aload_n 0, 1), (.iload 4, 2), (.iconst 3, 1), (.iadd, 1)] ((.iaload, 1) :: ([(.ifCond .eq 7, 3)]))))))) := m_Fe_of nd2635 1392 17 rfl
theorem eF13_law_2296 : m_Fe mi13_35 2296 (m_ap [(.iconst 0, 1)] ([])) := m_Fe_of nd2635 1411 1 rfl
theorem eF13_law_2292 : m_Fe mi13_35 2292 (m_ap [(.iconst 1, 1)] ([(.goto 4, 3)])) := m_Fe_of nd2635 1409 2 rfl
theorem eF13_law_2366 : m_Fe mi13_35 2366 (m_ap [(.aload_n 1, 1), (.aload_n 0, 1), (.iload 4, 2), (.iconst 1, 1), (.iadd, 1)] ((.iaload, 1) :: (m_ap [(.aload_n 0, 1), (.iload 4, 2), (.iconst 2, 1), (.iadd, 1)] ((.iaload, 1) :: (m_ap [(.aload_n 0, 1), (.iload 4, 2), (.iconst 3, 1), (.iadd, 1)] ((.iaload, 1) :: (m_ap [(.aload_n 0, 1), (.iload 4, 2), (.iconst 4, 1), (.iadd, 1)] ((.iaload, 1) :: (m_ap [(.aload_n 3, 1)] ((.invokestatic 251, 3) :: (m_ap [(.istore 5, 2), (.aload_n 2, 1), (.aload_n 0, 1), (.iload 4, 2), (.iconst 1, 1), (.iadd, 1)] ((.iaload, 1) :: (m_ap [(.aload_n 0, 1), (.iload 4, 2), (.iconst 2, 1), (.iadd, 1)] ((.iaload, 1) :: (m_ap [(.aload_n 0, 1), (.iload 4, 2), (.iconst 3, 1), (.iadd, 1)] ((.iaload, 1) :: (m_ap [(.aload_n 0, 1), (.iload 4, 2), (.iconst 4, 1), (.iadd, 1)] ((.iaload, 1) :: ((.invokevirtual 253, 3) :: (m_ap [(.istore 6, 2), (.aload_n 2, 1)] ((.invokevirtual 157, 3) :: (m_ap [(.iload 5, 2)] ([(.if_icmp .eq 5, 3)]))))))))))))))))))))))) := m_Fe_of nd2635 1455 51 rfl
theorem eF13_law_2438 : m_Fe mi13_35 2438 (m_ap [(.iload 5, 2)] ([(.ifCond .ne 15, 3)])) := m_Fe_of nd2635 1508 2 rfl
theorem eF13_law_2455 : m_Fe mi13_35 2455 ([(.goto 699, 3)]) := m_Fe_of nd2635 1519 1 rfl
theorem eF13_law_2443 : m_Fe mi13_35 2443 (m_ap [(.aload_n 3, 1), (.iconst 0, 1)] ((.laload, 1) :: (m_ap [(.iload 6, 2), (.i2l, 1), (.lcmp, 1)] ([(.ifCond .eq 5, 3)])))) := m_Fe_of nd2635 1510 7 rfl
theorem eF13_law_2453 : m_Fe mi13_35 2453 (m_ap [(.iconst 0, 1)] ([(.ireturn, 1)])) := m_Fe_of nd2635 1517 2 rfl
theorem eF13_law_2436 : m_Fe mi13_35 2436 (m_ap [(.iconst 0, 1)] ([(.ireturn, 1)])) := m_Fe_of nd2635 1506 2 rfl
theorem eF13_law_2458 : m_Fe mi13_35 2458 (m_ap [(.aload_n 1, 1), (.aload_n 0, 1), (.iload 4, 2), (.iconst 1, 1), (.iadd, 1)] ((.iaload, 1) :: (m_ap [(.aload_n 3, 1)] ((.invokestatic 254, 3) :: (m_ap [(.istore 5, 2), (.aload_n 2, 1), (.aload_n 0, 1), (.iload 4, 2), (.iconst 1, 1), (.iadd, 1)] ((.iaload, 1) :: ((.invokevirtual 256, 3) :: (m_ap [(.istore 6, 2), (.aload_n 2, 1)] ((.invokevirtual 157, 3) :: (m_ap [(.iload 5, 2)] ([(.if_icmp .eq 5, 3)]))))))))))) := m_Fe_of nd2635 1520 21 rfl
theorem eF13_law_2494 : m_Fe mi13_35 2494 (m_ap [(.iload 5, 2)] ([(.ifCond .ne 15, 3)])) := m_Fe_of nd2635 1543 2 rfl
theorem eF13_law_2511 : m_Fe mi13_35 2511 ([(.goto 643, 3)]) := m_Fe_of nd2635 1554 1 rfl
theorem eF13_law_2499 : m_Fe mi13_35 2499 (m_ap [(.aload_n 3, 1), (.iconst 0, 1)] ((.laload, 1) :: (m_ap [(.iload 6, 2), (.i2l, 1), (.lcmp, 1)] ([(.ifCond .eq 5, 3)])))) := m_Fe_of nd2635 1545 7 rfl
theorem eF13_law_2509 : m_Fe mi13_35 2509 (m_ap [(.iconst 0, 1)] ([(.ireturn, 1)])) := m_Fe_of nd2635 1552 2 rfl
theorem eF13_law_2492 : m_Fe mi13_35 2492 (m_ap [(.iconst 0, 1)] ([(.ireturn, 1)])) := m_Fe_of nd2635 1541 2 rfl
theorem eF13_law_2514 : m_Fe mi13_35 2514 (m_ap [(.aload_n 1, 1)] ((.invokevirtual 257, 3) :: (m_ap [(.aload_n 2, 1)] ((.invokevirtual 260, 3) :: ([(.if_icmp .eq 632, 3)]))))) := m_Fe_of nd2635 1555 5 rfl
theorem eF13_law_2525 : m_Fe mi13_35 2525 (m_ap [(.iconst 0, 1)] ([(.ireturn, 1)])) := m_Fe_of nd2635 1560 2 rfl
theorem eF13_law_2527 : m_Fe mi13_35 2527 (m_ap [(.aload_n 1, 1), (.aload_n 0, 1), (.iload 4, 2), (.iconst 1, 1), (.iadd, 1)] ((.iaload, 1) :: (m_ap [(.aload_n 0, 1), (.iload 4, 2), (.iconst 2, 1), (.iadd, 1)] ((.iaload, 1) :: ((.invokestatic 261, 3) :: (m_ap [(.istore 5, 2), (.aload_n 2, 1), (.aload_n 0, 1), (.iload 4, 2), (.iconst 1, 1), (.iadd, 1)] ((.iaload, 1) :: (m_ap [(.aload_n 0, 1), (.iload 4, 2), (.iconst 2, 1), (.iadd, 1)] ((.iaload, 1) :: ((.invokevirtual 263, 3) :: (m_ap [(.aload_n 2, 1)] ((.invokevirtual 157, 3) :: (m_ap [(.iload 5, 2)] ([(.if_icmp .eq 5, 3)])))))))))))))) := m_Fe_of nd2635 1562 29 rfl
theorem eF13_law_2572 : m_Fe mi13_35 2572 ([(.goto 582, 3)]) := m_Fe_of nd2635 1593 1 rfl
theorem eF13_law_2570 : m_Fe mi13_35 2570 (m_ap [(.iconst 0, 1)] ([(.ireturn, 1)])) := m_Fe_of nd2635 1591 2 rfl
theorem eF13_law_2575 : m_Fe mi13_35 2575 (m_ap [(.aload_n 1, 1), (.aload_n 0, 1), (.iload 4, 2), (.iconst 1, 1), (.iadd, 1)] ((.iaload, 1) :: ((.invokevirtual 264, 3) :: (m_ap [(.aload_n 2, 1), (.aload_n 0, 1), (.iload 4, 2), (.iconst 1, 1), (.iadd, 1)] ((.iaload, 1) :: ((.invokevirtual 267, 3) :: ([(.if_icmp .eq 559, 3)]))))))) := m_Fe_of nd2635 1594 15 rfl
theorem eF13_law_2598 : m_Fe mi13_35 2598 (m_ap [(.iconst 0, 1)] ([(.ireturn, 1)])) := m_Fe_of nd2635 1609 2 rfl
theorem eF13_law_2600 : m_Fe mi13_35 2600 (m_ap [(.aload_n 1, 1)] ((.invokevirtual 268, 3) :: (m_ap [(.aload_n 2, 1)] ((.invokevirtual 271, 3) :: ([(.if_icmp .eq 546, 3)]))))) := m_Fe_of nd2635 1611 5 rfl
theorem eF13_law_2611 : m_Fe mi13_35 2611 (m_ap [(.iconst 0, 1)] ([(.ireturn, 1)])) := m_Fe_of nd2635 1616 2 rfl
theorem eF13_law_2613 : m_Fe mi13_35 2613 (m_ap [(.aload_n 1, 1), (.aload_n 0, 1), (.iload 4, 2), (.iconst 1, 1), (.iadd, 1)] ((.iaload, 1) :: (m_ap [(.aload_n 0, 1), (.iload 4, 2), (.iconst 2, 1), (.iadd, 1)] ((.iaload, 1) :: (m_ap [(.aload_n 3, 1)] ((.invokestatic 272, 3) :: (m_ap [(.istore 5, 2), (.aload_n 2, 1), (.aload_n 0, 1), (.iload 4, 2), (.iconst 1, 1), (.iadd, 1)] ((.iaload, 1) :: (m_ap [(.aload_n 0, 1), (.iload 4, 2), (.iconst 2, 1), (.iadd, 1)] ((.iaload, 1) :: ((.invokevirtual 274, 3) :: (m_ap [(.istore 6, 2), (.aload_n 2, 1)] ((.invokevirtual 157, 3) :: (m_ap [(.iload 5, 2)] ([(.if_icmp .eq 5, 3)]))))))))))))))) := m_Fe_of nd2635 1618 31 rfl
theorem eF13_law_2661 : m_Fe mi13_35 2661 (m_ap [(.iload 5, 2)] ([(.ifCond .ne 15, 3)])) := m_Fe_of nd2635 1651 2 rfl
theorem eF13_law_2678 : m_Fe mi13_35 2678 ([(.goto 476, 3)]) := m_Fe_of nd2635 1662 1 rfl
theorem eF13_law_2666 : m_Fe mi13_35 2666 (m_ap [(.aload_n 3, 1), (.iconst 0, 1)] ((.laload, 1) :: (m_ap [(.iload 6, 2), (.i2l, 1), (.lcmp, 1)] ([(.ifCond .eq 5, 3)])))) := m_Fe_of nd2635 1653 7 rfl
theorem eF13_law_2676 : m_Fe mi13_35 2676 (m_ap [(.iconst 0, 1)] ([(.ireturn, 1)])) := m_Fe_of nd2635 1660 2 rfl
theorem eF13_law_2659 : m_Fe mi13_35 2659 (m_ap [(.iconst 0, 1)] ([(.ireturn, 1)])) := m_Fe_of nd2635 1649 2 rfl
theorem eF13_law_2681 : m_Fe mi13_35 2681 (m_ap [(.aload_n 1, 1), (.aload_n 0, 1), (.iload 4, 2), (.iconst 1, 1), (.iadd, 1)] ((.iaload, 1) :: (m_ap [(.aload_n 0, 1), (.iload 4, 2), (.iconst 2, 1), (.iadd, 1)] ((.iaload, 1) :: ((.invokevirtual 275, 3) :: (m_ap [(.aload_n 2, 1), (.aload_n 0, 1), (.iload 4, 2), (.iconst 1, 1), (.iadd, 1)] ((.iaload, 1) :: (m_ap [(.aload_n 0, 1), (.iload 4, 2), (.iconst 2, 1), (.iadd, 1)] ((.iaload, 1) :: ((.invokevirtual 278, 3) :: ([(.if_icmp .eq 441, 3)]))))))))))) := m_Fe_of nd2635 1663 25 rfl
theorem eF13_law_2716 : m_Fe mi13_35 2716 (m_ap [(.iconst 0, 1)] ([(.ireturn, 1)])) := m_Fe_of nd2635 1688 2 rfl
theorem eF13_law_2718 : m_Fe mi13_35 2718 (m_ap [(.aload_n 1, 1), (.aload_n 0, 1), (.iload 4, 2), (.iconst 1, 1), (.iadd, 1)] ((.iaload, 1) :: (m_ap [(.aload_n 0, 1), (.iload 4, 2), (.iconst 2, 1), (.iadd, 1)] ((.iaload, 1) :: (m_ap [(.aload_n 0, 1), (.iload 4, 2), (.iconst 3, 1), (.iadd, 1)] ((.iaload, 1) :: (m_ap [(.aload_n 0, 1), (.iload 4, 2), (.iconst 4, 1), (.iadd, 1)] ((.iaload, 1) :: (m_ap [(.aload_n 3, 1)] ((.invokestatic 279, 3) :: (m_ap [(.istore 5, 2), (.aload_n 2, 1), (.aload_n 0, 1), (.iload 4, 2), (.iconst 1, 1), (.iadd, 1)] ((.iaload, 1) :: (m_ap [(.aload_n 0, 1), (.iload 4, 2), (.iconst 2, 1), (.iadd, 1)] ((.iaload, 1) :: (m_ap [(.aload_n 0, 1), (.iload 4, 2), (.iconst 3, 1), (.iadd, 1)] ((.iaload, 1) :: (m_ap [(.aload_n 0, 1), (.iload 4, 2), (.iconst 4, 1), (.iadd, 1)] ((.iaload, 1) :: ((.invokevirtual 281, 3) :: (m_ap [(.istore 6, 2), (.aload_n 2, 1)] ((.invokevirtual 157, 3) :: (m_ap [(.iload 5, 2)] ([(.if_icmp .eq 5, 3)]))))))))))))))))))))))) := m_Fe_of nd2635 1690 51 rfl
theorem eF13_law_2790 : m_Fe mi13_35 2790 (m_ap [(.iload 5, 2)] ([(.ifCond .ne 15, 3)])) := m_Fe_of nd2635 1743 2 rfl
theorem eF13_law_2807 : m_Fe mi13_35 2807 ([(.goto 347, 3)]) := m_Fe_of nd2635 1754 1 rfl
theorem eF13_law_2795 : m_Fe mi13_35 2795 (m_ap [(.aload_n 3, 1), (.iconst 0, 1)] ((.laload, 1) :: (m_ap [(.iload 6, 2), (.i2l, 1), (.lcmp, 1)] ([(.ifCond .eq 5, 3)])))) := m_Fe_of nd2635 1745 7 rfl
theorem eF13_law_2805 : m_Fe mi13_35 2805 (m_ap [(.iconst 0, 1)] ([(.ireturn, 1)])) := m_Fe_of nd2635 1752 2 rfl
theorem eF13_law_2788 : m_Fe mi13_35 2788 (m_ap [(.iconst 0, 1)] ([(.ireturn, 1)])) := m_Fe_of nd2635 1741 2 rfl
theorem eF13_law_2810 : m_Fe mi13_35 2810 (m_ap [(.aload_n 1, 1), (.aload_n 0, 1), (.iload 4, 2), (.iconst 1, 1), (.iadd, 1)] ((.iaload, 1) :: (m_ap [(.aload_n 0, 1), (.iload 4, 2), (.iconst 2, 1), (.iadd, 1)] ((.iaload, 1) :: (m_ap [(.aload_n 0, 1), (.iload 4, 2), (.iconst 3, 1), (.iadd, 1)] ((.iaload, 1) :: (m_ap [(.aload_n 0, 1), (.iload 4, 2), (.iconst 4, 1), (.iadd, 1)] ((.iaload, 1) :: (m_ap [(.aload_n 0, 1), (.iload 4, 2), (.iconst 5, 1), (.iadd, 1)] ((.iaload, 1) :: ((.invokestatic 282, 3) :: (m_ap [(.istore 5, 2), (.aload_n 2, 1), (.aload_n 0, 1), (.iload 4, 2), (.iconst 1, 1), (.iadd, 1)] ((.iaload, 1) :: (m_ap [(.aload_n 0, 1), (.iload 4, 2), (.iconst 2, 1), (.iadd, 1)] ((.iaload, 1) :: (m_ap [(.aload_n 0, 1), (.iload 4, 2), (.iconst 3, 1), (.iadd, 1)] ((.iaload, 1) :: (m_ap [(.aload_n 0, 1), (.iload 4, 2), (.iconst 4, 1), (.iadd, 1)] ((.iaload, 1) :: (m_ap [(.aload_n 0, 1), (.iload 4, 2), (.iconst 5, 1), (.iadd, 1)] ((.iaload, 1) :: ((.invokevirtual 284, 3) :: (m_ap [(.aload_n 2, 1)] ((.invokevirtual 157, 3) :: (m_ap [(.iload 5, 2)] ([(.if_icmp .eq 5, 3)])))))))))))))))))))))))))) := m_Fe_of nd2635 1755 59 rfl
theorem eF13_law_2891 : m_Fe mi13_35 2891 ([(.goto 263, 3)]) := m_Fe_of nd2635 1816 1 rfl
theorem eF13_law_2889 : m_Fe mi13_35 2889 (m_ap [(.iconst 0, 1)] ([(.ireturn, 1)])) := m_Fe_of nd2635 1814 2 rfl
theorem eF13_law_2894 : m_Fe mi13_35 2894 (m_ap [(.aload_n 1, 1)] ((.invokevirtual 285, 3) :: (m_ap [(.aload_n 2, 1)] ((.invokevirtual 288, 3) :: ([(.if_icmp .eq 252, 3)]))))) := m_Fe_of nd2635 1817 5 rfl
theorem eF13_law_2905 : m_Fe mi13_35 2905 (m_ap [(.iconst 0, 1)] ([(.ireturn, 1)])) := m_Fe_of nd2635 1822 2 rfl
theorem eF13_law_2907 : m_Fe mi13_35 2907 (m_ap [(.aload_n 1, 1), (.aload_n 0, 1), (.iload 4, 2), (.iconst 1, 1), (.iadd, 1)] ((.iaload, 1) :: (m_ap [(.aload_n 0, 1), (.iload 4, 2), (.iconst 2, 1), (.iadd, 1)] ((.iaload, 1) :: (m_ap [(.aload_n 0, 1), (.iload 4, 2), (.iconst 3, 1), (.iadd, 1)] ((.iaload, 1) :: (m_ap [(.aload_n 0, 1), (.iload 4, 2), (.iconst 4, 1), (.iadd, 1)] ((.iaload, 1) :: (m_ap [(.aload_n 0, 1), (.iload 4, 2), (.iconst 5, 1), (.iadd, 1)] ((.iaload, 1) :: (m_ap [(.aload_n 3, 1)] ((.invokestatic 289, 3) :: (m_ap [(.istore 5, 2), (.aload_n 2, 1), (.aload_n 0, 1), (.iload 4, 2), (.iconst 1, 1), (.iadd, 1)] ((.iaload, 1) :: (m_ap [(.aload_n 0, 1), (.iload 4, 2), (.iconst 2, 1), (.iadd, 1)] ((.iaload, 1) :: (m_ap [(.aload_n 0, 1), (.iload 4, 2), (.iconst 3, 1), (.iadd, 1)] ((.iaload, 1) :: (m_ap [(.aload_n 0, 1), (.iload 4, 2), (.iconst 4, 1), (.iadd, 1)] ((.iaload, 1) :: (m_ap [(.aload_n 0, 1), (.iload 4, 2), (.iconst 5, 1), (.iadd, 1)] ((.iaload, 1) :: ((.invokevirtual 292, 3) :: (m_ap [(.istore 6, 2), (.aload_n 2, 1)] ((.invokevirtual 157, 3) :: (m_ap [(.iload 5, 2)] ([(.if_icmp .eq 5, 3)]))))))))))))))))))))))))))) := m_Fe_of nd2635 1824 61 rfl
theorem eF13_law_2991 : m_Fe mi13_35 2991 (m_ap [(.iload 5, 2)] ([(.ifCond .ne 15, 3)])) := m_Fe_of nd2635 1887 2 rfl
theorem eF13_law_3008 : m_Fe mi13_35 3008 ([(.goto 146, 3)]) := m_Fe_of nd2635 1898 1 rfl
theorem eF13_law_2996 : m_Fe mi13_35 2996 (m_ap [(.aload_n 3, 1), (.iconst 0, 1)] ((.laload, 1) :: (m_ap [(.iload 6, 2), (.i2l, 1), (.lcmp, 1)] ([(.ifCond .eq 5, 3)])))) := m_Fe_of nd2635 1889 7 rfl
theorem eF13_law_3006 : m_Fe mi13_35 3006 (m_ap [(.iconst 0, 1)] ([(.ireturn, 1)])) := m_Fe_of nd2635 1896 2 rfl
theorem eF13_law_2989 : m_Fe mi13_35 2989 (m_ap [(.iconst 0, 1)] ([(.ireturn, 1)])) := m_Fe_of nd2635 1885 2 rfl
theorem eF13_law_3011 : m_Fe mi13_35 3011 (m_ap [(.aload_n 1, 1), (.aload_n 0, 1), (.iload 4, 2), (.iconst 1, 1), (.iadd, 1)] ((.iaload, 1) :: (m_ap [(.aload_n 0, 1), (.iload 4, 2), (.iconst 2, 1), (.iadd, 1)] ((.iaload, 1) :: (m_ap [(.aload_n 3, 1)] ((.invokestatic 293, 3) :: (m_ap [(.istore 5, 2), (.aload_n 2, 1), (.aload_n 0, 1), (.iload 4, 2), (.iconst 1, 1), (.iadd, 1)] ((.iaload, 1) :: (m_ap [(.aload_n 0, 1), (.iload 4, 2), (.iconst 2, 1), (.iadd, 1)] ((.iaload, 1) :: ((.invokevirtual 295, 3) :: (m_ap [(.istore 6, 2), (.aload_n 2, 1)] ((.invokevirtual 157, 3) :: (m_ap [(.iload 5, 2)] ([(.if_icmp .eq 5, 3)]))))))))))))))) := m_Fe_of nd2635 1899 31 rfl
theorem eF13_law_3059 : m_Fe mi13_35 3059 (m_ap [(.iload 5, 2)] ([(.ifCond .ne 15, 3)])) := m_Fe_of nd2635 1932 2 rfl
theorem eF13_law_3076 : m_Fe mi13_35 3076 ([(.goto 78, 3)]) := m_Fe_of nd2635 1943 1 rfl
theorem eF13_law_3064 : m_Fe mi13_35 3064 (m_ap [(.aload_n 3, 1), (.iconst 0, 1)] ((.laload, 1) :: (m_ap [(.iload 6, 2), (.i2l, 1), (.lcmp, 1)] ([(.ifCond .eq 5, 3)])))) := m_Fe_of nd2635 1934 7 rfl
theorem eF13_law_3074 : m_Fe mi13_35 3074 (m_ap [(.iconst 0, 1)] ([(.ireturn, 1)])) := m_Fe_of nd2635 1941 2 rfl
theorem eF13_law_3057 : m_Fe mi13_35 3057 (m_ap [(.iconst 0, 1)] ([(.ireturn, 1)])) := m_Fe_of nd2635 1930 2 rfl
theorem eF13_law_3079 : m_Fe mi13_35 3079 (m_ap [(.aload_n 1, 1)] ((.invokevirtual 296, 3) :: (m_ap [(.aload_n 2, 1)] ((.invokevirtual 299, 3) :: ([(.if_icmp .eq 67, 3)]))))) := m_Fe_of nd2635 1944 5 rfl
theorem eF13_law_3090 : m_Fe mi13_35 3090 (m_ap [(.iconst 0, 1)] ([(.ireturn, 1)])) := m_Fe_of nd2635 1949 2 rfl
theorem eF13_law_3092 : m_Fe mi13_35 3092 (m_ap [(.aload_n 1, 1)] ((.invokevirtual 300, 3) :: (m_ap [(.aload_n 2, 1)] ((.invokevirtual 304, 3) :: ([(.if_icmp .eq 54, 3)]))))) := m_Fe_of nd2635 1951 5 rfl
theorem eF13_law_3103 : m_Fe mi13_35 3103 (m_ap [(.iconst 0, 1)] ([(.ireturn, 1)])) := m_Fe_of nd2635 1956 2 rfl
theorem eF13_law_3105 : m_Fe mi13_35 3105 (m_ap [(.aload_n 1, 1)] ((.invokevirtual 305, 3) :: (m_ap [(.aload_n 2, 1)] ((.invokevirtual 308, 3) :: ([(.goto 41, 3)]))))) := m_Fe_of nd2635 1958 5 rfl
theorem eF13_law_3116 : m_Fe mi13_35 3116 (m_ap [(.aload_n 1, 1)] ((.invokevirtual 309, 3) :: (m_ap [(.aload_n 2, 1)] ((.invokevirtual 312, 3) :: ([(.if_icmp .eq 30, 3)]))))) := m_Fe_of nd2635 1963 5 rfl
theorem eF13_law_3127 : m_Fe mi13_35 3127 (m_ap [(.iconst 0, 1)] ([(.ireturn, 1)])) := m_Fe_of nd2635 1968 2 rfl
theorem eF13_law_3129 : m_Fe mi13_35 3129 (m_ap [(.aload_n 1, 1), (.aload_n 0, 1), (.iload 4, 2), (.iconst 1, 1), (.iadd, 1)] ((.iaload, 1) :: ((.invokevirtual 313, 3) :: (m_ap [(.aload_n 2, 1), (.aload_n 0, 1), (.iload 4, 2), (.iconst 1, 1), (.iadd, 1)] ((.iaload, 1) :: ((.invokevirtual 316, 3) :: ([(.if_icmp .eq 5, 3)]))))))) := m_Fe_of nd2635 1970 15 rfl
theorem eF13_law_3152 : m_Fe mi13_35 3152 (m_ap [(.iconst 0, 1)] ([(.ireturn, 1)])) := m_Fe_of nd2635 1985 2 rfl
theorem eF13_law_1133 : m_Fe mi13_35 1133 (m_ap [(.lcmp, 1)] ([(.ifCond .eq 5, 3)])) := m_Fe_of nd2635 626 2 rfl
theorem eF13_law_1137 : m_Fe mi13_35 1137 (m_ap [(.iconst 0, 1)] ([(.ireturn, 1)])) := m_Fe_of nd2635 628 2 rfl
theorem eF13_law_1416 : m_Fe mi13_35 1416 (m_ap [(.lcmp, 1)] ([(.ifCond .eq 5, 3)])) := m_Fe_of nd2635 816 2 rfl
theorem eF13_law_1420 : m_Fe mi13_35 1420 (m_ap [(.iconst 0, 1)] ([(.ireturn, 1)])) := m_Fe_of nd2635 818 2 rfl
theorem eF13_law_1491 : m_Fe mi13_35 1491 (m_ap [(.lcmp, 1)] ([(.ifCond .eq 5, 3)])) := m_Fe_of nd2635 864 2 rfl
theorem eF13_law_1495 : m_Fe mi13_35 1495 (m_ap [(.iconst 0, 1)] ([(.ireturn, 1)])) := m_Fe_of nd2635 866 2 rfl
theorem eF13_law_1717 : m_Fe mi13_35 1717 (m_ap [(.aload_n 3, 1)] ((.invokestatic 225, 3) :: (m_ap [(.istore 5, 2), (.aload_n 2, 1), (.aload_n 0, 1), (.iload 4, 2), (.iconst 1, 1), (.iadd, 1)] ((.iaload, 1) :: (m_ap [(.aload_n 0, 1), (.iload 4, 2), (.iconst 2, 1), (.iadd, 1)] ((.iaload, 1) :: (m_ap [(.aload_n 0, 1), (.iload 4, 2), (.iconst 3, 1), (.iadd, 1)] ((.iaload, 1) :: (m_ap [(.aload_n 0, 1), (.iload 4, 2), (.iconst 4, 1), (.iadd, 1)] ((.iaload, 1) :: ([(.ifCond .eq 7, 3)]))))))))))) := m_Fe_of nd2635 1016 25 rfl
theorem eF13_law_1755 : m_Fe mi13_35 1755 (m_ap [(.iconst 0, 1)] ([])) := m_Fe_of nd2635 1043 1 rfl
theorem eF13_law_1751 : m_Fe mi13_35 1751 (m_ap [(.iconst 1, 1)] ([(.goto 4, 3)])) := m_Fe_of nd2635 1041 2 rfl
theorem eF13_law_2297 : m_Fe mi13_35 2297 (m_ap [(.aload_n 3, 1)] ((.invokestatic 247, 3) :: (m_ap [(.istore 5, 2), (.aload_n 2, 1), (.aload_n 0, 1), (.iload 4, 2), (.iconst 1, 1), (.iadd, 1)] ((.iaload, 1) :: (m_ap [(.aload_n 0, 1), (.iload 4, 2), (.iconst 2, 1), (.iadd, 1)] ((.iaload, 1) :: (m_ap [(.aload_n 0, 1), (.iload 4, 2), (.iconst 3, 1), (.iadd, 1)] ((.iaload, 1) :: ([(.ifCond .eq 7, 3)]))))))))) := m_Fe_of nd2635 1412 20 rfl
theorem eF13_law_2329 : m_Fe mi13_35 2329 (m_ap [(.iconst 0, 1)] ([])) := m_Fe_of nd2635 1434 1 rfl
theorem eF13_law_2325 : m_Fe mi13_35 2325 (m_ap [(.iconst 1, 1)] ([(.goto 4, 3)])) := m_Fe_of nd2635 1432 2 rfl
theorem eF13_law_1756 : m_Fe mi13_35 1756 ((.invokevirtual 228, 3) :: (m_ap [(.istore 6, 2), (.aload_n 2, 1)] ((.invokevirtual 157, 3) :: (m_ap [(.iload 5, 2)] ([(.if_icmp .eq 5, 3)]))))) := m_Fe_of nd2635 1044 6 rfl
theorem eF13_law_1772 : m_Fe mi13_35 1772 (m_ap [(.iload 5, 2)] ([(.ifCond .ne 15, 3)])) := m_Fe_of nd2635 1052 2 rfl
theorem eF13_law_1789 : m_Fe mi13_35 1789 ([(.goto 1365, 3)]) := m_Fe_of nd2635 1063 1 rfl
theorem eF13_law_1777 : m_Fe mi13_35 1777 (m_ap [(.aload_n 3, 1), (.iconst 0, 1)] ((.laload, 1) :: (m_ap [(.iload 6, 2), (.i2l, 1), (.lcmp, 1)] ([(.ifCond .eq 5, 3)])))) := m_Fe_of nd2635 1054 7 rfl
theorem eF13_law_1787 : m_Fe mi13_35 1787 (m_ap [(.iconst 0, 1)] ([(.ireturn, 1)])) := m_Fe_of nd2635 1061 2 rfl
theorem eF13_law_1770 : m_Fe mi13_35 1770 (m_ap [(.iconst 0, 1)] ([(.ireturn, 1)])) := m_Fe_of nd2635 1050 2 rfl
theorem eF13_law_2330 : m_Fe mi13_35 2330 ((.invokevirtual 250, 3) :: (m_ap [(.istore 6, 2), (.aload_n 2, 1)] ((.invokevirtual 157, 3) :: (m_ap [(.iload 5, 2)] ([(.if_icmp .eq 5, 3)]))))) := m_Fe_of nd2635 1435 6 rfl
theorem eF13_law_2346 : m_Fe mi13_35 2346 (m_ap [(.iload 5, 2)] ([(.ifCond .ne 15, 3)])) := m_Fe_of nd2635 1443 2 rfl
theorem eF13_law_2363 : m_Fe mi13_35 2363 ([(.goto 791, 3)]) := m_Fe_of nd2635 1454 1 rfl
theorem eF13_law_2351 : m_Fe mi13_35 2351 (m_ap [(.aload_n 3, 1), (.iconst 0, 1)] ((.laload, 1) :: (m_ap [(.iload 6, 2), (.i2l, 1), (.lcmp, 1)] ([(.ifCond .eq 5, 3)])))) := m_Fe_of nd2635 1445 7 rfl
theorem eF13_law_2361 : m_Fe mi13_35 2361 (m_ap [(.iconst 0, 1)] ([(.ireturn, 1)])) := m_Fe_of nd2635 1452 2 rfl
theorem eF13_law_2344 : m_Fe mi13_35 2344 (m_ap [(.iconst 0, 1)] ([(.ireturn, 1)])) := m_Fe_of nd2635 1441 2 rfl
theorem SF13_law_1133 {xs : Nat → Int32} {L : Nat} (x1 : Nat) (x2 : Nat) (x3 : Nat) (x4 : Int32) (s0 : Int64) (s1 : Int64) (hp : m_H) {r : m_O × m_H} {K : ((Int32 × m_H) ⊕ (Int32 × m_H)) → Prop} (k0 : ∀ x, K (.inr x) → r = (.inl (some (.int x.1)), x.2)) (k1 : ∀ s, K (.inl s) → m_Rn xs L 405 2635 23 [(0, .ref 0), (1, .ref x1), (2, .ref x2), (3, .ref x3), (4, .int s.1)] [] s.2 r) {t : (Int32 × m_H) ⊕ (Int32 × m_H)} (h : F13_law_1133 xs L x1 x2 x3 x4 s0 s1 hp = some t) (hK : K t) : m_Rn xs L 405 2635 1133 [(0, .ref 0), (1, .ref x1), (2, .ref x2), (3, .ref x3), (4, .int x4)] [.long s0, .long s1] hp r := by
  unfold F13_law_1133 at h
  refine g_in eF13_law_1133 mx2635 ?_
  refine g_ch [(0, .ref 0), (1, .ref x1), (2, .ref x2), (3, .ref x3), (4, .int x4)] [.int (lg_cmp s1 s0)] (pc' := 1134) rfl rfl rfl ?_
  rcases m_ifd h with ⟨c1, h⟩ | ⟨c1, h⟩
  · refine g_ifc (t := 1139) rfl (m_eqT c1) ?_
    refine g_in eF13_law_1139 mx2635 ?_
    refine g_goto (t := 3154) rfl ?_
    refine g_in eF13_law_3154 mx2635 ?_
    refine g_ch [(4, .int (x4 + 6)), (0, .ref 0), (1, .ref x1), (2, .ref x2), (3, .ref x3)] [] (pc' := 3157) rfl rfl rfl ?_
    refine g_goto (t := 23) rfl ?_
    cases h
    exact r_lv (k1 ((x4 + 6), hp) hK) rfl ⟨rfl, rfl, rfl, rfl, rfl, trivial⟩
  · refine g_ifcn (t := 1139) rfl (m_eqF c1) ?_
    refine g_in eF13_law_1137 mx2635 ?_
    refine g_ch [(0, .ref 0), (1, .ref x1), (2, .ref x2), (3, .ref x3), (4, .int x4)] [.int 0] (pc' := 1138) rfl rfl rfl ?_
    cases h
    rw [k0 _ hK]
    exact g_iret rfl (by decide +kernel)
theorem SF13_law_1416 {xs : Nat → Int32} {L : Nat} (x1 : Nat) (x2 : Nat) (x3 : Nat) (x4 : Int32) (s0 : Int64) (s1 : Int64) (hp : m_H) {r : m_O × m_H} {K : ((Int32 × m_H) ⊕ (Int32 × m_H)) → Prop} (k0 : ∀ x, K (.inr x) → r = (.inl (some (.int x.1)), x.2)) (k1 : ∀ s, K (.inl s) → m_Rn xs L 405 2635 23 [(0, .ref 0), (1, .ref x1), (2, .ref x2), (3, .ref x3), (4, .int s.1)] [] s.2 r) {t : (Int32 × m_H) ⊕ (Int32 × m_H)} (h : F13_law_1416 xs L x1 x2 x3 x4 s0 s1 hp = some t) (hK : K t) : m_Rn xs L 405 2635 1416 [(0, .ref 0), (1, .ref x1), (2, .ref x2), (3, .ref x3), (4, .int x4)] [.long s0, .long s1] hp r := by
  unfold F13_law_1416 at h
  refine g_in eF13_law_1416 mx2635 ?_
  refine g_ch [(0, .ref 0), (1, .ref x1), (2, .ref x2), (3, .ref x3), (4, .int x4)] [.int (lg_cmp s1 s0)] (pc' := 1417) rfl rfl rfl ?_
  rcases m_ifd h with ⟨c1, h⟩ | ⟨c1, h⟩
  · refine g_ifc (t := 1422) rfl (m_eqT c1) ?_
    refine g_in eF13_law_1422 mx2635 ?_
    refine g_goto (t := 3154) rfl ?_
    refine g_in eF13_law_3154 mx2635 ?_
    refine g_ch [(4, .int (x4 + 6)), (0, .ref 0), (1, .ref x1), (2, .ref x2), (3, .ref x3)] [] (pc' := 3157) rfl rfl rfl ?_
    refine g_goto (t := 23) rfl ?_
    cases h
    exact r_lv (k1 ((x4 + 6), hp) hK) rfl ⟨rfl, rfl, rfl, rfl, rfl, trivial⟩
  · refine g_ifcn (t := 1422) rfl (m_eqF c1) ?_
    refine g_in eF13_law_1420 mx2635 ?_
    refine g_ch [(0, .ref 0), (1, .ref x1), (2, .ref x2), (3, .ref x3), (4, .int x4)] [.int 0] (pc' := 1421) rfl rfl rfl ?_
    cases h
    rw [k0 _ hK]
    exact g_iret rfl (by decide +kernel)
theorem SF13_law_1491 {xs : Nat → Int32} {L : Nat} (x1 : Nat) (x2 : Nat) (x3 : Nat) (x4 : Int32) (s0 : Int64) (s1 : Int64) (hp : m_H) {r : m_O × m_H} {K : ((Int32 × m_H) ⊕ (Int32 × m_H)) → Prop} (k0 : ∀ x, K (.inr x) → r = (.inl (some (.int x.1)), x.2)) (k1 : ∀ s, K (.inl s) → m_Rn xs L 405 2635 23 [(0, .ref 0), (1, .ref x1), (2, .ref x2), (3, .ref x3), (4, .int s.1)] [] s.2 r) {t : (Int32 × m_H) ⊕ (Int32 × m_H)} (h : F13_law_1491 xs L x1 x2 x3 x4 s0 s1 hp = some t) (hK : K t) : m_Rn xs L 405 2635 1491 [(0, .ref 0), (1, .ref x1), (2, .ref x2), (3, .ref x3), (4, .int x4)] [.long s0, .long s1] hp r := by
  unfold F13_law_1491 at h
  refine g_in eF13_law_1491 mx2635 ?_
  refine g_ch [(0, .ref 0), (1, .ref x1), (2, .ref x2), (3, .ref x3), (4, .int x4)] [.int (lg_cmp s1 s0)] (pc' := 1492) rfl rfl rfl ?_
  rcases m_ifd h with ⟨c1, h⟩ | ⟨c1, h⟩
  · refine g_ifc (t := 1497) rfl (m_eqT c1) ?_
    refine g_in eF13_law_1497 mx2635 ?_
    refine g_goto (t := 3154) rfl ?_
    refine g_in eF13_law_3154 mx2635 ?_
    refine g_ch [(4, .int (x4 + 6)), (0, .ref 0), (1, .ref x1), (2, .ref x2), (3, .ref x3)] [] (pc' := 3157) rfl rfl rfl ?_
    refine g_goto (t := 23) rfl ?_
    cases h
    exact r_lv (k1 ((x4 + 6), hp) hK) rfl ⟨rfl, rfl, rfl, rfl, rfl, trivial⟩
  · refine g_ifcn (t := 1497) rfl (m_eqF c1) ?_
    refine g_in eF13_law_1495 mx2635 ?_
    refine g_ch [(0, .ref 0), (1, .ref x1), (2, .ref x2), (3, .ref x3), (4, .int x4)] [.int 0] (pc' := 1496) rfl rfl rfl ?_
    cases h
    rw [k0 _ hK]
    exact g_iret rfl (by decide +kernel)
theorem SF13_law_1756 {xs : Nat → Int32} {L : Nat} (x1 : Nat) (x2 : Nat) (x3 : Nat) (x4 : Int32) (x5 : Int32) (s0 : Int32) (s1 : Int32) (s2 : Int32) (s3 : Int32) (s4 : Nat) (hp : m_H) {r : m_O × m_H} {K : ((Int32 × m_H) ⊕ (Int32 × m_H)) → Prop} (k0 : ∀ x, K (.inr x) → r = (.inl (some (.int x.1)), x.2)) (k1 : ∀ s, K (.inl s) → m_Rn xs L 405 2635 23 [(0, .ref 0), (1, .ref x1), (2, .ref x2), (3, .ref x3), (4, .int s.1)] [] s.2 r) {t : (Int32 × m_H) ⊕ (Int32 × m_H)} (h : F13_law_1756 xs L x1 x2 x3 x4 x5 s0 s1 s2 s3 s4 hp = some t) (hK : K t) : m_Rn xs L 405 2635 1756 [(0, .ref 0), (1, .ref x1), (2, .ref x2), (3, .ref x3), (4, .int x4), (5, .int x5)] [.int s0, .int s1, .int s2, .int s3, .ref s4] hp r := by
  unfold F13_law_1756 at h
  refine g_in eF13_law_1756 mx2635 ?_
  obtain ⟨z2, e1, h⟩ := m_bd h
  refine g_call (v := some (.int z2.1)) (h := z2.2) (st' := [.int z2.1]) (D1 := 9) (as := [.ref s4, .int s3, .int s2, .int s1, .int s0]) (Or.inr (Or.inl rfl)) q13_m228 (m_cv (as := [.int s0, .int s1, .int s2, .int s3]) (rest := []) (Or.inl rfl) q13_m228 jv2494 (OF12_give e1) rfl rfl rfl rfl) (by decide) (SF12_give e1) rfl ?_
  refine g_ch [(6, .int z2.1), (0, .ref 0), (1, .ref x1), (2, .ref x2), (3, .ref x3), (4, .int x4), (5, .int x5)] [.ref x2] (pc' := 1762) rfl rfl rfl ?_
  obtain ⟨v4, e3, h⟩ := m_bd h
  refine g_call (v := some (.int v4)) (h := z2.2) (st' := [.int v4]) (D1 := 0) (as := [.ref x2]) (Or.inr (Or.inl rfl)) q13_m157 (m_cv (as := []) (rest := []) (Or.inl rfl) q13_m157 jv2400 (OF12_thrown e3) rfl rfl rfl rfl) (by decide) (SF12_thrown e3) rfl ?_
  refine g_ch [(6, .int z2.1), (0, .ref 0), (1, .ref x1), (2, .ref x2), (3, .ref x3), (4, .int x4), (5, .int x5)] [.int x5, .int v4] (pc' := 1767) rfl rfl rfl ?_
  rcases m_ifd h with ⟨c5, h⟩ | ⟨c5, h⟩
  · refine g_if (t := 1772) rfl (m_eqT c5) ?_
    refine g_in eF13_law_1772 mx2635 ?_
    refine g_ch [(6, .int z2.1), (0, .ref 0), (1, .ref x1), (2, .ref x2), (3, .ref x3), (4, .int x4), (5, .int x5)] [.int x5] (pc' := 1774) rfl rfl rfl ?_
    rcases m_ifd h with ⟨c6, h⟩ | ⟨c6, h⟩
    · refine g_ifcn (t := 1789) rfl (m_neF c6) ?_
      refine g_in eF13_law_1777 mx2635 ?_
      refine g_ch [(6, .int z2.1), (0, .ref 0), (1, .ref x1), (2, .ref x2), (3, .ref x3), (4, .int x4), (5, .int x5)] [.int 0, .ref x3] (pc' := 1779) rfl rfl rfl ?_
      obtain ⟨v7, e8, h⟩ := m_bd h
      refine g_la e8 ?_
      refine g_ch [(6, .int z2.1), (0, .ref 0), (1, .ref x1), (2, .ref x2), (3, .ref x3), (4, .int x4), (5, .int x5)] [.int (lg_cmp v7 (m_i2l z2.1))] (pc' := 1784) rfl rfl rfl ?_
      rcases m_ifd h with ⟨c9, h⟩ | ⟨c9, h⟩
      · refine g_ifc (t := 1789) rfl (m_eqT c9) ?_
        refine g_in eF13_law_1789 mx2635 ?_
        refine g_goto (t := 3154) rfl ?_
        refine g_in eF13_law_3154 mx2635 ?_
        refine g_ch [(4, .int (x4 + 6)), (6, .int z2.1), (0, .ref 0), (1, .ref x1), (2, .ref x2), (3, .ref x3), (5, .int x5)] [] (pc' := 3157) rfl rfl rfl ?_
        refine g_goto (t := 23) rfl ?_
        cases h
        exact r_lv (k1 ((x4 + 6), z2.2) hK) rfl ⟨rfl, rfl, rfl, rfl, rfl, trivial⟩
      · refine g_ifcn (t := 1789) rfl (m_eqF c9) ?_
        refine g_in eF13_law_1787 mx2635 ?_
        refine g_ch [(6, .int z2.1), (0, .ref 0), (1, .ref x1), (2, .ref x2), (3, .ref x3), (4, .int x4), (5, .int x5)] [.int 0] (pc' := 1788) rfl rfl rfl ?_
        cases h
        rw [k0 _ hK]
        exact g_iret rfl (by decide +kernel)
    · refine g_ifc (t := 1789) rfl (m_neT c6) ?_
      refine g_in eF13_law_1789 mx2635 ?_
      refine g_goto (t := 3154) rfl ?_
      refine g_in eF13_law_3154 mx2635 ?_
      refine g_ch [(4, .int (x4 + 6)), (6, .int z2.1), (0, .ref 0), (1, .ref x1), (2, .ref x2), (3, .ref x3), (5, .int x5)] [] (pc' := 3157) rfl rfl rfl ?_
      refine g_goto (t := 23) rfl ?_
      cases h
      exact r_lv (k1 ((x4 + 6), z2.2) hK) rfl ⟨rfl, rfl, rfl, rfl, rfl, trivial⟩
  · refine g_ifn (t := 1772) rfl (m_eqF c5) ?_
    refine g_in eF13_law_1770 mx2635 ?_
    refine g_ch [(6, .int z2.1), (0, .ref 0), (1, .ref x1), (2, .ref x2), (3, .ref x3), (4, .int x4), (5, .int x5)] [.int 0] (pc' := 1771) rfl rfl rfl ?_
    cases h
    rw [k0 _ hK]
    exact g_iret rfl (by decide +kernel)
theorem SF13_law_1717 {xs : Nat → Int32} {L : Nat} (x1 : Nat) (x2 : Nat) (x3 : Nat) (x4 : Int32) (s0 : Int32) (s1 : Int32) (s2 : Int32) (s3 : Int32) (s4 : Nat) (hp : m_H) {r : m_O × m_H} {K : ((Int32 × m_H) ⊕ (Int32 × m_H)) → Prop} (k0 : ∀ x, K (.inr x) → r = (.inl (some (.int x.1)), x.2)) (k1 : ∀ s, K (.inl s) → m_Rn xs L 405 2635 23 [(0, .ref 0), (1, .ref x1), (2, .ref x2), (3, .ref x3), (4, .int s.1)] [] s.2 r) {t : (Int32 × m_H) ⊕ (Int32 × m_H)} (h : F13_law_1717 xs L x1 x2 x3 x4 s0 s1 s2 s3 s4 hp = some t) (hK : K t) : m_Rn xs L 405 2635 1717 [(0, .ref 0), (1, .ref x1), (2, .ref x2), (3, .ref x3), (4, .int x4)] [.int s0, .int s1, .int s2, .int s3, .ref s4] hp r := by
  unfold F13_law_1717 at h
  refine g_in eF13_law_1717 mx2635 ?_
  refine g_ch [(0, .ref 0), (1, .ref x1), (2, .ref x2), (3, .ref x3), (4, .int x4)] [.ref x3, .int s0, .int s1, .int s2, .int s3, .ref s4] (pc' := 1718) rfl rfl rfl ?_
  obtain ⟨z2, e1, h⟩ := m_bd h
  refine g_call (v := some (.int z2.1)) (h := z2.2) (st' := [.int z2.1]) (D1 := 11) (as := [.ref s4, .int s3, .int s2, .int s1, .int s0, .ref x3]) (Or.inl rfl) q13_m225 (m_cs (as := [.ref x3, .int s0, .int s1, .int s2, .int s3, .ref s4]) (rest := []) q13_m225 jv2619 rfl rfl rfl rfl rfl) (by decide) (SF13_give e1) rfl ?_
  refine g_ch [(5, .int z2.1), (0, .ref 0), (1, .ref x1), (2, .ref x2), (3, .ref x3), (4, .int x4)] [.int (x4 + 1), .ref 0, .ref x2] (pc' := 1729) rfl rfl rfl ?_
  obtain ⟨v3, e4, h⟩ := m_bd h
  refine g_sc e4 ?_
  refine g_ch [(5, .int z2.1), (0, .ref 0), (1, .ref x1), (2, .ref x2), (3, .ref x3), (4, .int x4)] [.int (x4 + 2), .ref 0, .int v3, .ref x2] (pc' := 1735) rfl rfl rfl ?_
  obtain ⟨v5, e6, h⟩ := m_bd h
  refine g_sc e6 ?_
  refine g_ch [(5, .int z2.1), (0, .ref 0), (1, .ref x1), (2, .ref x2), (3, .ref x3), (4, .int x4)] [.int (x4 + 3), .ref 0, .int v5, .int v3, .ref x2] (pc' := 1741) rfl rfl rfl ?_
  obtain ⟨v7, e8, h⟩ := m_bd h
  refine g_sc e8 ?_
  refine g_ch [(5, .int z2.1), (0, .ref 0), (1, .ref x1), (2, .ref x2), (3, .ref x3), (4, .int x4)] [.int (x4 + 4), .ref 0, .int v7, .int v5, .int v3, .ref x2] (pc' := 1747) rfl rfl rfl ?_
  obtain ⟨v9, e10, h⟩ := m_bd h
  refine g_sc e10 ?_
  rcases m_ifd h with ⟨c11, h⟩ | ⟨c11, h⟩
  · refine g_ifc (t := 1755) rfl (m_eqT c11) ?_
    refine g_in eF13_law_1755 mx2635 ?_
    refine g_ch [(5, .int z2.1), (0, .ref 0), (1, .ref x1), (2, .ref x2), (3, .ref x3), (4, .int x4)] [.int 0, .int v7, .int v5, .int v3, .ref x2] (pc' := 1756) rfl rfl rfl ?_
    refine g_end ?_
    exact r_lv (SF13_law_1756 x1 x2 x3 x4 z2.1 0 v7 v5 v3 x2 z2.2 (K := K) k0 k1 h hK) rfl ⟨rfl, rfl, rfl, rfl, rfl, rfl, trivial⟩
  · refine g_ifcn (t := 1755) rfl (m_eqF c11) ?_
    refine g_in eF13_law_1751 mx2635 ?_
    refine g_ch [(5, .int z2.1), (0, .ref 0), (1, .ref x1), (2, .ref x2), (3, .ref x3), (4, .int x4)] [.int 1, .int v7, .int v5, .int v3, .ref x2] (pc' := 1752) rfl rfl rfl ?_
    refine g_goto (t := 1756) rfl ?_
    exact r_lv (SF13_law_1756 x1 x2 x3 x4 z2.1 1 v7 v5 v3 x2 z2.2 (K := K) k0 k1 h hK) rfl ⟨rfl, rfl, rfl, rfl, rfl, rfl, trivial⟩
theorem SF13_law_2330 {xs : Nat → Int32} {L : Nat} (x1 : Nat) (x2 : Nat) (x3 : Nat) (x4 : Int32) (x5 : Int32) (s0 : Int32) (s1 : Int32) (s2 : Int32) (s3 : Nat) (hp : m_H) {r : m_O × m_H} {K : ((Int32 × m_H) ⊕ (Int32 × m_H)) → Prop} (k0 : ∀ x, K (.inr x) → r = (.inl (some (.int x.1)), x.2)) (k1 : ∀ s, K (.inl s) → m_Rn xs L 405 2635 23 [(0, .ref 0), (1, .ref x1), (2, .ref x2), (3, .ref x3), (4, .int s.1)] [] s.2 r) {t : (Int32 × m_H) ⊕ (Int32 × m_H)} (h : F13_law_2330 xs L x1 x2 x3 x4 x5 s0 s1 s2 s3 hp = some t) (hK : K t) : m_Rn xs L 405 2635 2330 [(0, .ref 0), (1, .ref x1), (2, .ref x2), (3, .ref x3), (4, .int x4), (5, .int x5)] [.int s0, .int s1, .int s2, .ref s3] hp r := by
  unfold F13_law_2330 at h
  refine g_in eF13_law_2330 mx2635 ?_
  obtain ⟨z2, e1, h⟩ := m_bd h
  refine g_call (v := some (.int z2.1)) (h := z2.2) (st' := [.int z2.1]) (D1 := 7) (as := [.ref s3, .int s2, .int s1, .int s0]) (Or.inr (Or.inl rfl)) q13_m250 (m_cv (as := [.int s0, .int s1, .int s2]) (rest := []) (Or.inl rfl) q13_m250 jv2507 (OF12_whence e1) rfl rfl rfl rfl) (by decide) (SF12_whence e1) rfl ?_
  refine g_ch [(6, .int z2.1), (0, .ref 0), (1, .ref x1), (2, .ref x2), (3, .ref x3), (4, .int x4), (5, .int x5)] [.ref x2] (pc' := 2336) rfl rfl rfl ?_
  obtain ⟨v4, e3, h⟩ := m_bd h
  refine g_call (v := some (.int v4)) (h := z2.2) (st' := [.int v4]) (D1 := 0) (as := [.ref x2]) (Or.inr (Or.inl rfl)) q13_m157 (m_cv (as := []) (rest := []) (Or.inl rfl) q13_m157 jv2400 (OF12_thrown e3) rfl rfl rfl rfl) (by decide) (SF12_thrown e3) rfl ?_
  refine g_ch [(6, .int z2.1), (0, .ref 0), (1, .ref x1), (2, .ref x2), (3, .ref x3), (4, .int x4), (5, .int x5)] [.int x5, .int v4] (pc' := 2341) rfl rfl rfl ?_
  rcases m_ifd h with ⟨c5, h⟩ | ⟨c5, h⟩
  · refine g_if (t := 2346) rfl (m_eqT c5) ?_
    refine g_in eF13_law_2346 mx2635 ?_
    refine g_ch [(6, .int z2.1), (0, .ref 0), (1, .ref x1), (2, .ref x2), (3, .ref x3), (4, .int x4), (5, .int x5)] [.int x5] (pc' := 2348) rfl rfl rfl ?_
    rcases m_ifd h with ⟨c6, h⟩ | ⟨c6, h⟩
    · refine g_ifcn (t := 2363) rfl (m_neF c6) ?_
      refine g_in eF13_law_2351 mx2635 ?_
      refine g_ch [(6, .int z2.1), (0, .ref 0), (1, .ref x1), (2, .ref x2), (3, .ref x3), (4, .int x4), (5, .int x5)] [.int 0, .ref x3] (pc' := 2353) rfl rfl rfl ?_
      obtain ⟨v7, e8, h⟩ := m_bd h
      refine g_la e8 ?_
      refine g_ch [(6, .int z2.1), (0, .ref 0), (1, .ref x1), (2, .ref x2), (3, .ref x3), (4, .int x4), (5, .int x5)] [.int (lg_cmp v7 (m_i2l z2.1))] (pc' := 2358) rfl rfl rfl ?_
      rcases m_ifd h with ⟨c9, h⟩ | ⟨c9, h⟩
      · refine g_ifc (t := 2363) rfl (m_eqT c9) ?_
        refine g_in eF13_law_2363 mx2635 ?_
        refine g_goto (t := 3154) rfl ?_
        refine g_in eF13_law_3154 mx2635 ?_
        refine g_ch [(4, .int (x4 + 6)), (6, .int z2.1), (0, .ref 0), (1, .ref x1), (2, .ref x2), (3, .ref x3), (5, .int x5)] [] (pc' := 3157) rfl rfl rfl ?_
        refine g_goto (t := 23) rfl ?_
        cases h
        exact r_lv (k1 ((x4 + 6), z2.2) hK) rfl ⟨rfl, rfl, rfl, rfl, rfl, trivial⟩
      · refine g_ifcn (t := 2363) rfl (m_eqF c9) ?_
        refine g_in eF13_law_2361 mx2635 ?_
        refine g_ch [(6, .int z2.1), (0, .ref 0), (1, .ref x1), (2, .ref x2), (3, .ref x3), (4, .int x4), (5, .int x5)] [.int 0] (pc' := 2362) rfl rfl rfl ?_
        cases h
        rw [k0 _ hK]
        exact g_iret rfl (by decide +kernel)
    · refine g_ifc (t := 2363) rfl (m_neT c6) ?_
      refine g_in eF13_law_2363 mx2635 ?_
      refine g_goto (t := 3154) rfl ?_
      refine g_in eF13_law_3154 mx2635 ?_
      refine g_ch [(4, .int (x4 + 6)), (6, .int z2.1), (0, .ref 0), (1, .ref x1), (2, .ref x2), (3, .ref x3), (5, .int x5)] [] (pc' := 3157) rfl rfl rfl ?_
      refine g_goto (t := 23) rfl ?_
      cases h
      exact r_lv (k1 ((x4 + 6), z2.2) hK) rfl ⟨rfl, rfl, rfl, rfl, rfl, trivial⟩
  · refine g_ifn (t := 2346) rfl (m_eqF c5) ?_
    refine g_in eF13_law_2344 mx2635 ?_
    refine g_ch [(6, .int z2.1), (0, .ref 0), (1, .ref x1), (2, .ref x2), (3, .ref x3), (4, .int x4), (5, .int x5)] [.int 0] (pc' := 2345) rfl rfl rfl ?_
    cases h
    rw [k0 _ hK]
    exact g_iret rfl (by decide +kernel)
theorem SF13_law_2297 {xs : Nat → Int32} {L : Nat} (x1 : Nat) (x2 : Nat) (x3 : Nat) (x4 : Int32) (s0 : Int32) (s1 : Int32) (s2 : Int32) (s3 : Nat) (hp : m_H) {r : m_O × m_H} {K : ((Int32 × m_H) ⊕ (Int32 × m_H)) → Prop} (k0 : ∀ x, K (.inr x) → r = (.inl (some (.int x.1)), x.2)) (k1 : ∀ s, K (.inl s) → m_Rn xs L 405 2635 23 [(0, .ref 0), (1, .ref x1), (2, .ref x2), (3, .ref x3), (4, .int s.1)] [] s.2 r) {t : (Int32 × m_H) ⊕ (Int32 × m_H)} (h : F13_law_2297 xs L x1 x2 x3 x4 s0 s1 s2 s3 hp = some t) (hK : K t) : m_Rn xs L 405 2635 2297 [(0, .ref 0), (1, .ref x1), (2, .ref x2), (3, .ref x3), (4, .int x4)] [.int s0, .int s1, .int s2, .ref s3] hp r := by
  unfold F13_law_2297 at h
  refine g_in eF13_law_2297 mx2635 ?_
  refine g_ch [(0, .ref 0), (1, .ref x1), (2, .ref x2), (3, .ref x3), (4, .int x4)] [.ref x3, .int s0, .int s1, .int s2, .ref s3] (pc' := 2298) rfl rfl rfl ?_
  obtain ⟨z2, e1, h⟩ := m_bd h
  refine g_call (v := some (.int z2.1)) (h := z2.2) (st' := [.int z2.1]) (D1 := 9) (as := [.ref s3, .int s2, .int s1, .int s0, .ref x3]) (Or.inl rfl) q13_m247 (m_cs (as := [.ref x3, .int s0, .int s1, .int s2, .ref s3]) (rest := []) q13_m247 jv2626 rfl rfl rfl rfl rfl) (by decide) (SF13_whence e1) rfl ?_
  refine g_ch [(5, .int z2.1), (0, .ref 0), (1, .ref x1), (2, .ref x2), (3, .ref x3), (4, .int x4)] [.int (x4 + 1), .ref 0, .ref x2] (pc' := 2309) rfl rfl rfl ?_
  obtain ⟨v3, e4, h⟩ := m_bd h
  refine g_sc e4 ?_
  refine g_ch [(5, .int z2.1), (0, .ref 0), (1, .ref x1), (2, .ref x2), (3, .ref x3), (4, .int x4)] [.int (x4 + 2), .ref 0, .int v3, .ref x2] (pc' := 2315) rfl rfl rfl ?_
  obtain ⟨v5, e6, h⟩ := m_bd h
  refine g_sc e6 ?_
  refine g_ch [(5, .int z2.1), (0, .ref 0), (1, .ref x1), (2, .ref x2), (3, .ref x3), (4, .int x4)] [.int (x4 + 3), .ref 0, .int v5, .int v3, .ref x2] (pc' := 2321) rfl rfl rfl ?_
  obtain ⟨v7, e8, h⟩ := m_bd h
  refine g_sc e8 ?_
  rcases m_ifd h with ⟨c9, h⟩ | ⟨c9, h⟩
  · refine g_ifc (t := 2329) rfl (m_eqT c9) ?_
    refine g_in eF13_law_2329 mx2635 ?_
    refine g_ch [(5, .int z2.1), (0, .ref 0), (1, .ref x1), (2, .ref x2), (3, .ref x3), (4, .int x4)] [.int 0, .int v5, .int v3, .ref x2] (pc' := 2330) rfl rfl rfl ?_
    refine g_end ?_
    exact r_lv (SF13_law_2330 x1 x2 x3 x4 z2.1 0 v5 v3 x2 z2.2 (K := K) k0 k1 h hK) rfl ⟨rfl, rfl, rfl, rfl, rfl, rfl, trivial⟩
  · refine g_ifcn (t := 2329) rfl (m_eqF c9) ?_
    refine g_in eF13_law_2325 mx2635 ?_
    refine g_ch [(5, .int z2.1), (0, .ref 0), (1, .ref x1), (2, .ref x2), (3, .ref x3), (4, .int x4)] [.int 1, .int v5, .int v3, .ref x2] (pc' := 2326) rfl rfl rfl ?_
    refine g_goto (t := 2330) rfl ?_
    exact r_lv (SF13_law_2330 x1 x2 x3 x4 z2.1 1 v5 v3 x2 z2.2 (K := K) k0 k1 h hK) rfl ⟨rfl, rfl, rfl, rfl, rfl, rfl, trivial⟩
theorem SF13_law_23b {xs : Nat → Int32} {L : Nat} (x1 : Nat) (x2 : Nat) (x3 : Nat) (s : Int32 × m_H) {r : m_O × m_H} {K : ((Int32 × m_H) ⊕ (Int32 × m_H)) → Prop} (k0 : ∀ x, K (.inr x) → r = (.inl (some (.int x.1)), x.2)) (k1 : ∀ s, K (.inl s) → m_Rn xs L 405 2635 23 [(0, .ref 0), (1, .ref x1), (2, .ref x2), (3, .ref x3), (4, .int s.1)] [] s.2 r) {t : (Int32 × m_H) ⊕ (Int32 × m_H)} (h : F13_law_23b xs L x1 x2 x3 s = some t) (hK : K t) : m_Rn xs L 405 2635 23 [(0, .ref 0), (1, .ref x1), (2, .ref x2), (3, .ref x3), (4, .int s.1)] [] s.2 r := by
  unfold F13_law_23b at h
  refine g_in eF13_law_23 mx2635 ?_
  refine g_ch [(0, .ref 0), (1, .ref x1), (2, .ref x2), (3, .ref x3), (4, .int s.1)] [.ref 0, .int s.1] (pc' := 26) rfl rfl rfl ?_
  refine g_sl ?_
  refine g_ch [(0, .ref 0), (1, .ref x1), (2, .ref x2), (3, .ref x3), (4, .int s.1)] [.int ((Int32.ofNat L) - 6), .int s.1] (pc' := 30) rfl rfl rfl ?_
  rcases m_ifd h with ⟨c1, h⟩ | ⟨c1, h⟩
  · refine g_if (t := 3160) rfl (m_gtT c1) ?_
    refine g_in eF13_law_3160 mx2635 ?_
    refine g_ch [(0, .ref 0), (1, .ref x1), (2, .ref x2), (3, .ref x3), (4, .int s.1)] [.int 1] (pc' := 3161) rfl rfl rfl ?_
    cases h
    rw [k0 _ hK]
    exact g_iret rfl (by decide +kernel)
  · refine g_ifn (t := 3160) rfl (m_gtF c1) ?_
    refine g_in eF13_law_33 mx2635 ?_
    refine g_ch [(0, .ref 0), (1, .ref x1), (2, .ref x2), (3, .ref x3), (4, .int s.1)] [.int s.1, .ref 0] (pc' := 36) rfl rfl rfl ?_
    obtain ⟨v2, e3, h⟩ := m_bd h
    refine g_sc e3 ?_
    refine g_ch [(0, .ref 0), (1, .ref x1), (2, .ref x2), (3, .ref x3), (4, .int s.1)] [.int (v2 &&& 63)] (pc' := 40) rfl rfl rfl ?_
    rcases m_swd h with ⟨e5, h⟩ | ⟨w4, e5, h⟩
    · refine g_swd e5 (t := 3154) rfl ?_
      refine g_in eF13_law_3154 mx2635 ?_
      refine g_ch [(4, .int (s.1 + 6)), (0, .ref 0), (1, .ref x1), (2, .ref x2), (3, .ref x3)] [] (pc' := 3157) rfl rfl rfl ?_
      refine g_goto (t := 23) rfl ?_
      cases h
      exact r_lv (k1 ((s.1 + 6), s.2) hK) rfl ⟨rfl, rfl, rfl, rfl, rfl, trivial⟩
    · rcases m_ifd h with ⟨c6, hc6⟩ | ⟨c6, h⟩
      · subst c6
        have h := hc6
        refine g_sw (o := 208) (t := 248) e5 rfl rfl ?_
        refine g_in eF13_law_248 mx2635 ?_
        refine g_ch [(0, .ref 0), (1, .ref x1), (2, .ref x2), (3, .ref x3), (4, .int s.1)] [.int (s.1 + 1), .ref 0, .ref x1] (pc' := 254) rfl rfl rfl ?_
        obtain ⟨v7, e8, h⟩ := m_bd h
        refine g_sc e8 ?_
        refine g_ch [(0, .ref 0), (1, .ref x1), (2, .ref x2), (3, .ref x3), (4, .int s.1)] [.int (s.1 + 2), .ref 0, .int v7, .ref x1] (pc' := 260) rfl rfl rfl ?_
        obtain ⟨v9, e10, h⟩ := m_bd h
        refine g_sc e10 ?_
        refine g_ch [(0, .ref 0), (1, .ref x1), (2, .ref x2), (3, .ref x3), (4, .int s.1)] [.int (s.1 + 3), .ref 0, .int v9, .int v7, .ref x1] (pc' := 266) rfl rfl rfl ?_
        obtain ⟨v11, e12, h⟩ := m_bd h
        refine g_sc e12 ?_
        refine g_ch [(0, .ref 0), (1, .ref x1), (2, .ref x2), (3, .ref x3), (4, .int s.1)] [.int (s.1 + 4), .ref 0, .int v11, .int v9, .int v7, .ref x1] (pc' := 272) rfl rfl rfl ?_
        obtain ⟨v13, e14, h⟩ := m_bd h
        refine g_sc e14 ?_
        refine g_ch [(0, .ref 0), (1, .ref x1), (2, .ref x2), (3, .ref x3), (4, .int s.1)] [.int (s.1 + 5), .ref 0, .int v13, .int v11, .int v9, .int v7, .ref x1] (pc' := 278) rfl rfl rfl ?_
        obtain ⟨v15, e16, h⟩ := m_bd h
        refine g_sc e16 ?_
        obtain ⟨z18, e17, h⟩ := m_bd h
        refine g_call (v := some (.int z18.1)) (h := z18.2) (st' := [.int z18.1]) (D1 := 1) (as := [.ref x1, .int v7, .int v9, .int v11, .int v13, .int v15]) (Or.inr (Or.inl rfl)) q13_m142 (m_cv (as := [.int v15, .int v13, .int v11, .int v9, .int v7]) (rest := []) (Or.inl rfl) q13_m142 jv2201 (OF11_feed e17) rfl rfl rfl rfl) (by decide) (SF11_feed e17) rfl ?_
        refine g_ch [(0, .ref 0), (1, .ref x1), (2, .ref x2), (3, .ref x3), (4, .int s.1)] [.int (s.1 + 1), .ref 0, .ref x2, .int z18.1] (pc' := 288) rfl rfl rfl ?_
        obtain ⟨v19, e20, h⟩ := m_bd h
        refine g_sc e20 ?_
        refine g_ch [(0, .ref 0), (1, .ref x1), (2, .ref x2), (3, .ref x3), (4, .int s.1)] [.int (s.1 + 2), .ref 0, .int v19, .ref x2, .int z18.1] (pc' := 294) rfl rfl rfl ?_
        obtain ⟨v21, e22, h⟩ := m_bd h
        refine g_sc e22 ?_
        refine g_ch [(0, .ref 0), (1, .ref x1), (2, .ref x2), (3, .ref x3), (4, .int s.1)] [.int (s.1 + 3), .ref 0, .int v21, .int v19, .ref x2, .int z18.1] (pc' := 300) rfl rfl rfl ?_
        obtain ⟨v23, e24, h⟩ := m_bd h
        refine g_sc e24 ?_
        refine g_ch [(0, .ref 0), (1, .ref x1), (2, .ref x2), (3, .ref x3), (4, .int s.1)] [.int (s.1 + 4), .ref 0, .int v23, .int v21, .int v19, .ref x2, .int z18.1] (pc' := 306) rfl rfl rfl ?_
        obtain ⟨v25, e26, h⟩ := m_bd h
        refine g_sc e26 ?_
        refine g_ch [(0, .ref 0), (1, .ref x1), (2, .ref x2), (3, .ref x3), (4, .int s.1)] [.int (s.1 + 5), .ref 0, .int v25, .int v23, .int v21, .int v19, .ref x2, .int z18.1] (pc' := 312) rfl rfl rfl ?_
        obtain ⟨v27, e28, h⟩ := m_bd h
        refine g_sc e28 ?_
        obtain ⟨z30, e29, h⟩ := m_bd h
        refine g_call (v := some (.int z30.1)) (h := z30.2) (st' := [.int z30.1, .int z18.1]) (D1 := 0) (as := [.ref x2, .int v19, .int v21, .int v23, .int v25, .int v27]) (Or.inr (Or.inl rfl)) q13_m145 (m_cv (as := [.int v27, .int v25, .int v23, .int v21, .int v19]) (rest := [.int z18.1]) (Or.inl rfl) q13_m145 jv2436 (OF12_feed e29) rfl rfl rfl rfl) (by decide) (SF12_feed e29) rfl ?_
        rcases m_ifd h with ⟨c31, h⟩ | ⟨c31, h⟩
        · refine g_if (t := 3154) rfl (m_eqT c31) ?_
          refine g_in eF13_law_3154 mx2635 ?_
          refine g_ch [(4, .int (s.1 + 6)), (0, .ref 0), (1, .ref x1), (2, .ref x2), (3, .ref x3)] [] (pc' := 3157) rfl rfl rfl ?_
          refine g_goto (t := 23) rfl ?_
          cases h
          exact r_lv (k1 ((s.1 + 6), z30.2) hK) rfl ⟨rfl, rfl, rfl, rfl, rfl, trivial⟩
        · refine g_ifn (t := 3154) rfl (m_eqF c31) ?_
          refine g_in eF13_law_319 mx2635 ?_
          refine g_ch [(0, .ref 0), (1, .ref x1), (2, .ref x2), (3, .ref x3), (4, .int s.1)] [.int 0] (pc' := 320) rfl rfl rfl ?_
          cases h
          rw [k0 _ hK]
          exact g_iret rfl (by decide +kernel)
      rcases m_ifd h with ⟨c32, hc32⟩ | ⟨c32, h⟩
      · subst c32
        have h := hc32
        refine g_sw (o := 281) (t := 321) e5 rfl rfl ?_
        refine g_in eF13_law_321 mx2635 ?_
        refine g_ch [(0, .ref 0), (1, .ref x1), (2, .ref x2), (3, .ref x3), (4, .int s.1)] [.int (s.1 + 1), .ref 0, .ref x1] (pc' := 327) rfl rfl rfl ?_
        obtain ⟨v33, e34, h⟩ := m_bd h
        refine g_sc e34 ?_
        obtain ⟨z36, e35, h⟩ := m_bd h
        refine g_call (v := some (.int z36.1)) (h := z36.2) (st' := [.int z36.1]) (D1 := 0) (as := [.ref x1, .int v33]) (Or.inr (Or.inl rfl)) q13_m146 (m_cv (as := [.int v33]) (rest := []) (Or.inl rfl) q13_m146 jv2202 (OF11_end e35) rfl rfl rfl rfl) (by decide) (SF11_end e35) rfl ?_
        refine g_ch [(0, .ref 0), (1, .ref x1), (2, .ref x2), (3, .ref x3), (4, .int s.1)] [.int (s.1 + 1), .ref 0, .ref x2, .int z36.1] (pc' := 337) rfl rfl rfl ?_
        obtain ⟨v37, e38, h⟩ := m_bd h
        refine g_sc e38 ?_
        obtain ⟨z40, e39, h⟩ := m_bd h
        refine g_call (v := some (.int z40.1)) (h := z40.2) (st' := [.int z40.1, .int z36.1]) (D1 := 0) (as := [.ref x2, .int v37]) (Or.inr (Or.inl rfl)) q13_m150 (m_cv (as := [.int v37]) (rest := [.int z36.1]) (Or.inl rfl) q13_m150 jv2437 (OF12_end e39) rfl rfl rfl rfl) (by decide) (SF12_end e39) rfl ?_
        rcases m_ifd h with ⟨c41, h⟩ | ⟨c41, h⟩
        · refine g_if (t := 3154) rfl (m_eqT c41) ?_
          refine g_in eF13_law_3154 mx2635 ?_
          refine g_ch [(4, .int (s.1 + 6)), (0, .ref 0), (1, .ref x1), (2, .ref x2), (3, .ref x3)] [] (pc' := 3157) rfl rfl rfl ?_
          refine g_goto (t := 23) rfl ?_
          cases h
          exact r_lv (k1 ((s.1 + 6), z40.2) hK) rfl ⟨rfl, rfl, rfl, rfl, rfl, trivial⟩
        · refine g_ifn (t := 3154) rfl (m_eqF c41) ?_
          refine g_in eF13_law_344 mx2635 ?_
          refine g_ch [(0, .ref 0), (1, .ref x1), (2, .ref x2), (3, .ref x3), (4, .int s.1)] [.int 0] (pc' := 345) rfl rfl rfl ?_
          cases h
          rw [k0 _ hK]
          exact g_iret rfl (by decide +kernel)
      rcases m_ifd h with ⟨c42, hc42⟩ | ⟨c42, h⟩
      · subst c42
        have h := hc42
        refine g_sw (o := 306) (t := 346) e5 rfl rfl ?_
        refine g_in eF13_law_346 mx2635 ?_
        refine g_ch [(0, .ref 0), (1, .ref x1), (2, .ref x2), (3, .ref x3), (4, .int s.1)] [.int (s.1 + 1), .ref 0, .ref x1] (pc' := 352) rfl rfl rfl ?_
        obtain ⟨v43, e44, h⟩ := m_bd h
        refine g_sc e44 ?_
        refine g_ch [(0, .ref 0), (1, .ref x1), (2, .ref x2), (3, .ref x3), (4, .int s.1)] [.int (s.1 + 2), .ref 0, .int v43, .ref x1] (pc' := 358) rfl rfl rfl ?_
        obtain ⟨v45, e46, h⟩ := m_bd h
        refine g_sc e46 ?_
        refine g_ch [(0, .ref 0), (1, .ref x1), (2, .ref x2), (3, .ref x3), (4, .int s.1)] [.int (s.1 + 3), .ref 0, .int v45, .int v43, .ref x1] (pc' := 364) rfl rfl rfl ?_
        obtain ⟨v47, e48, h⟩ := m_bd h
        refine g_sc e48 ?_
        refine g_ch [(0, .ref 0), (1, .ref x1), (2, .ref x2), (3, .ref x3), (4, .int s.1)] [.int (s.1 + 4), .ref 0, .int v47, .int v45, .int v43, .ref x1] (pc' := 370) rfl rfl rfl ?_
        obtain ⟨v49, e50, h⟩ := m_bd h
        refine g_sc e50 ?_
        refine g_ch [(0, .ref 0), (1, .ref x1), (2, .ref x2), (3, .ref x3), (4, .int s.1)] [.int (s.1 + 5), .ref 0, .int v49, .int v47, .int v45, .int v43, .ref x1] (pc' := 376) rfl rfl rfl ?_
        obtain ⟨v51, e52, h⟩ := m_bd h
        refine g_sc e52 ?_
        obtain ⟨z54, e53, h⟩ := m_bd h
        refine g_call (v := some (.int z54.1)) (h := z54.2) (st' := [.int z54.1]) (D1 := 9) (as := [.ref x1, .int v43, .int v45, .int v47, .int v49, .int v51]) (Or.inl rfl) q13_m151 (m_cs (as := [.int v51, .int v49, .int v47, .int v45, .int v43, .ref x1]) (rest := []) q13_m151 jv2600 rfl rfl rfl rfl rfl) (by decide) (SF13_sort e53) rfl ?_
        refine g_ch [(5, .int z54.1), (0, .ref 0), (1, .ref x1), (2, .ref x2), (3, .ref x3), (4, .int s.1)] [.int (s.1 + 1), .ref 0, .ref x2] (pc' := 388) rfl rfl rfl ?_
        obtain ⟨v55, e56, h⟩ := m_bd h
        refine g_sc e56 ?_
        refine g_ch [(5, .int z54.1), (0, .ref 0), (1, .ref x1), (2, .ref x2), (3, .ref x3), (4, .int s.1)] [.int (s.1 + 2), .ref 0, .int v55, .ref x2] (pc' := 394) rfl rfl rfl ?_
        obtain ⟨v57, e58, h⟩ := m_bd h
        refine g_sc e58 ?_
        refine g_ch [(5, .int z54.1), (0, .ref 0), (1, .ref x1), (2, .ref x2), (3, .ref x3), (4, .int s.1)] [.int (s.1 + 3), .ref 0, .int v57, .int v55, .ref x2] (pc' := 400) rfl rfl rfl ?_
        obtain ⟨v59, e60, h⟩ := m_bd h
        refine g_sc e60 ?_
        refine g_ch [(5, .int z54.1), (0, .ref 0), (1, .ref x1), (2, .ref x2), (3, .ref x3), (4, .int s.1)] [.int (s.1 + 4), .ref 0, .int v59, .int v57, .int v55, .ref x2] (pc' := 406) rfl rfl rfl ?_
        obtain ⟨v61, e62, h⟩ := m_bd h
        refine g_sc e62 ?_
        refine g_ch [(5, .int z54.1), (0, .ref 0), (1, .ref x1), (2, .ref x2), (3, .ref x3), (4, .int s.1)] [.int (s.1 + 5), .ref 0, .int v61, .int v59, .int v57, .int v55, .ref x2] (pc' := 412) rfl rfl rfl ?_
        obtain ⟨v63, e64, h⟩ := m_bd h
        refine g_sc e64 ?_
        obtain ⟨h66, e65, h⟩ := m_bd h
        refine g_call (v := none) (h := h66) (st' := []) (D1 := 2) (as := [.ref x2, .int v55, .int v57, .int v59, .int v61, .int v63]) (Or.inr (Or.inl rfl)) q13_m156 (m_cv (as := [.int v63, .int v61, .int v59, .int v57, .int v55]) (rest := []) (Or.inl rfl) q13_m156 jv2415 (OF12_sort e65) rfl rfl rfl rfl) (by decide) (SF12_sort e65) rfl ?_
        refine g_ch [(5, .int z54.1), (0, .ref 0), (1, .ref x1), (2, .ref x2), (3, .ref x3), (4, .int s.1)] [.ref x2] (pc' := 417) rfl rfl rfl ?_
        obtain ⟨v68, e67, h⟩ := m_bd h
        refine g_call (v := some (.int v68)) (h := h66) (st' := [.int v68]) (D1 := 0) (as := [.ref x2]) (Or.inr (Or.inl rfl)) q13_m157 (m_cv (as := []) (rest := []) (Or.inl rfl) q13_m157 jv2400 (OF12_thrown e67) rfl rfl rfl rfl) (by decide) (SF12_thrown e67) rfl ?_
        refine g_ch [(5, .int z54.1), (0, .ref 0), (1, .ref x1), (2, .ref x2), (3, .ref x3), (4, .int s.1)] [.int z54.1, .int v68] (pc' := 422) rfl rfl rfl ?_
        rcases m_ifd h with ⟨c69, h⟩ | ⟨c69, h⟩
        · refine g_if (t := 427) rfl (m_eqT c69) ?_
          refine g_in eF13_law_427 mx2635 ?_
          refine g_goto (t := 3154) rfl ?_
          refine g_in eF13_law_3154 mx2635 ?_
          refine g_ch [(4, .int (s.1 + 6)), (5, .int z54.1), (0, .ref 0), (1, .ref x1), (2, .ref x2), (3, .ref x3)] [] (pc' := 3157) rfl rfl rfl ?_
          refine g_goto (t := 23) rfl ?_
          cases h
          exact r_lv (k1 ((s.1 + 6), h66) hK) rfl ⟨rfl, rfl, rfl, rfl, rfl, trivial⟩
        · refine g_ifn (t := 427) rfl (m_eqF c69) ?_
          refine g_in eF13_law_425 mx2635 ?_
          refine g_ch [(5, .int z54.1), (0, .ref 0), (1, .ref x1), (2, .ref x2), (3, .ref x3), (4, .int s.1)] [.int 0] (pc' := 426) rfl rfl rfl ?_
          cases h
          rw [k0 _ hK]
          exact g_iret rfl (by decide +kernel)
      rcases m_ifd h with ⟨c70, hc70⟩ | ⟨c70, h⟩
      · subst c70
        have h := hc70
        refine g_sw (o := 390) (t := 430) e5 rfl rfl ?_
        refine g_in eF13_law_430 mx2635 ?_
        refine g_ch [(0, .ref 0), (1, .ref x1), (2, .ref x2), (3, .ref x3), (4, .int s.1)] [.int (s.1 + 1), .ref 0, .ref x1] (pc' := 436) rfl rfl rfl ?_
        obtain ⟨v71, e72, h⟩ := m_bd h
        refine g_sc e72 ?_
        refine g_ch [(0, .ref 0), (1, .ref x1), (2, .ref x2), (3, .ref x3), (4, .int s.1)] [.int (s.1 + 2), .ref 0, .int v71, .ref x1] (pc' := 442) rfl rfl rfl ?_
        obtain ⟨v73, e74, h⟩ := m_bd h
        refine g_sc e74 ?_
        refine g_ch [(0, .ref 0), (1, .ref x1), (2, .ref x2), (3, .ref x3), (4, .int s.1)] [.int (s.1 + 3), .ref 0, .int v73, .int v71, .ref x1] (pc' := 448) rfl rfl rfl ?_
        obtain ⟨v75, e76, h⟩ := m_bd h
        refine g_sc e76 ?_
        refine g_ch [(0, .ref 0), (1, .ref x1), (2, .ref x2), (3, .ref x3), (4, .int s.1)] [.ref x3, .int v75, .int v73, .int v71, .ref x1] (pc' := 450) rfl rfl rfl ?_
        obtain ⟨z78, e77, h⟩ := m_bd h
        refine g_call (v := some (.int z78.1)) (h := z78.2) (st' := [.int z78.1]) (D1 := 9) (as := [.ref x1, .int v71, .int v73, .int v75, .ref x3]) (Or.inl rfl) q13_m161 (m_cs (as := [.ref x3, .int v75, .int v73, .int v71, .ref x1]) (rest := []) q13_m161 jv2601 rfl rfl rfl rfl rfl) (by decide) (SF13_price e77) rfl ?_
        refine g_ch [(5, .int z78.1), (0, .ref 0), (1, .ref x1), (2, .ref x2), (3, .ref x3), (4, .int s.1)] [.int (s.1 + 1), .ref 0, .ref x2] (pc' := 461) rfl rfl rfl ?_
        obtain ⟨v79, e80, h⟩ := m_bd h
        refine g_sc e80 ?_
        refine g_ch [(5, .int z78.1), (0, .ref 0), (1, .ref x1), (2, .ref x2), (3, .ref x3), (4, .int s.1)] [.int (s.1 + 2), .ref 0, .int v79, .ref x2] (pc' := 467) rfl rfl rfl ?_
        obtain ⟨v81, e82, h⟩ := m_bd h
        refine g_sc e82 ?_
        refine g_ch [(5, .int z78.1), (0, .ref 0), (1, .ref x1), (2, .ref x2), (3, .ref x3), (4, .int s.1)] [.int (s.1 + 3), .ref 0, .int v81, .int v79, .ref x2] (pc' := 473) rfl rfl rfl ?_
        obtain ⟨v83, e84, h⟩ := m_bd h
        refine g_sc e84 ?_
        obtain ⟨z86, e85, h⟩ := m_bd h
        refine g_call (v := some (.int z86.1)) (h := z86.2) (st' := [.int z86.1]) (D1 := 2) (as := [.ref x2, .int v79, .int v81, .int v83]) (Or.inr (Or.inl rfl)) q13_m164 (m_cv (as := [.int v83, .int v81, .int v79]) (rest := []) (Or.inl rfl) q13_m164 jv2418 (OF12_price e85) rfl rfl rfl rfl) (by decide) (SF12_price e85) rfl ?_
        refine g_ch [(6, .int z86.1), (5, .int z78.1), (0, .ref 0), (1, .ref x1), (2, .ref x2), (3, .ref x3), (4, .int s.1)] [.ref x2] (pc' := 480) rfl rfl rfl ?_
        obtain ⟨v88, e87, h⟩ := m_bd h
        refine g_call (v := some (.int v88)) (h := z86.2) (st' := [.int v88]) (D1 := 0) (as := [.ref x2]) (Or.inr (Or.inl rfl)) q13_m157 (m_cv (as := []) (rest := []) (Or.inl rfl) q13_m157 jv2400 (OF12_thrown e87) rfl rfl rfl rfl) (by decide) (SF12_thrown e87) rfl ?_
        refine g_ch [(6, .int z86.1), (5, .int z78.1), (0, .ref 0), (1, .ref x1), (2, .ref x2), (3, .ref x3), (4, .int s.1)] [.int z78.1, .int v88] (pc' := 485) rfl rfl rfl ?_
        rcases m_ifd h with ⟨c89, h⟩ | ⟨c89, h⟩
        · refine g_if (t := 490) rfl (m_eqT c89) ?_
          refine g_in eF13_law_490 mx2635 ?_
          refine g_ch [(6, .int z86.1), (5, .int z78.1), (0, .ref 0), (1, .ref x1), (2, .ref x2), (3, .ref x3), (4, .int s.1)] [.int z78.1] (pc' := 492) rfl rfl rfl ?_
          rcases m_ifd h with ⟨c90, h⟩ | ⟨c90, h⟩
          · refine g_ifcn (t := 507) rfl (m_neF c90) ?_
            refine g_in eF13_law_495 mx2635 ?_
            refine g_ch [(6, .int z86.1), (5, .int z78.1), (0, .ref 0), (1, .ref x1), (2, .ref x2), (3, .ref x3), (4, .int s.1)] [.int 0, .ref x3] (pc' := 497) rfl rfl rfl ?_
            obtain ⟨v91, e92, h⟩ := m_bd h
            refine g_la e92 ?_
            refine g_ch [(6, .int z86.1), (5, .int z78.1), (0, .ref 0), (1, .ref x1), (2, .ref x2), (3, .ref x3), (4, .int s.1)] [.int (lg_cmp v91 (m_i2l z86.1))] (pc' := 502) rfl rfl rfl ?_
            rcases m_ifd h with ⟨c93, h⟩ | ⟨c93, h⟩
            · refine g_ifc (t := 507) rfl (m_eqT c93) ?_
              refine g_in eF13_law_507 mx2635 ?_
              refine g_goto (t := 3154) rfl ?_
              refine g_in eF13_law_3154 mx2635 ?_
              refine g_ch [(4, .int (s.1 + 6)), (6, .int z86.1), (5, .int z78.1), (0, .ref 0), (1, .ref x1), (2, .ref x2), (3, .ref x3)] [] (pc' := 3157) rfl rfl rfl ?_
              refine g_goto (t := 23) rfl ?_
              cases h
              exact r_lv (k1 ((s.1 + 6), z86.2) hK) rfl ⟨rfl, rfl, rfl, rfl, rfl, trivial⟩
            · refine g_ifcn (t := 507) rfl (m_eqF c93) ?_
              refine g_in eF13_law_505 mx2635 ?_
              refine g_ch [(6, .int z86.1), (5, .int z78.1), (0, .ref 0), (1, .ref x1), (2, .ref x2), (3, .ref x3), (4, .int s.1)] [.int 0] (pc' := 506) rfl rfl rfl ?_
              cases h
              rw [k0 _ hK]
              exact g_iret rfl (by decide +kernel)
          · refine g_ifc (t := 507) rfl (m_neT c90) ?_
            refine g_in eF13_law_507 mx2635 ?_
            refine g_goto (t := 3154) rfl ?_
            refine g_in eF13_law_3154 mx2635 ?_
            refine g_ch [(4, .int (s.1 + 6)), (6, .int z86.1), (5, .int z78.1), (0, .ref 0), (1, .ref x1), (2, .ref x2), (3, .ref x3)] [] (pc' := 3157) rfl rfl rfl ?_
            refine g_goto (t := 23) rfl ?_
            cases h
            exact r_lv (k1 ((s.1 + 6), z86.2) hK) rfl ⟨rfl, rfl, rfl, rfl, rfl, trivial⟩
        · refine g_ifn (t := 490) rfl (m_eqF c89) ?_
          refine g_in eF13_law_488 mx2635 ?_
          refine g_ch [(6, .int z86.1), (5, .int z78.1), (0, .ref 0), (1, .ref x1), (2, .ref x2), (3, .ref x3), (4, .int s.1)] [.int 0] (pc' := 489) rfl rfl rfl ?_
          cases h
          rw [k0 _ hK]
          exact g_iret rfl (by decide +kernel)
      rcases m_ifd h with ⟨c94, hc94⟩ | ⟨c94, h⟩
      · subst c94
        have h := hc94
        refine g_sw (o := 470) (t := 510) e5 rfl rfl ?_
        refine g_in eF13_law_510 mx2635 ?_
        refine g_ch [(0, .ref 0), (1, .ref x1), (2, .ref x2), (3, .ref x3), (4, .int s.1)] [.int (s.1 + 1), .ref 0, .ref x1] (pc' := 516) rfl rfl rfl ?_
        obtain ⟨v95, e96, h⟩ := m_bd h
        refine g_sc e96 ?_
        refine g_ch [(0, .ref 0), (1, .ref x1), (2, .ref x2), (3, .ref x3), (4, .int s.1)] [.int (s.1 + 2), .ref 0, .int v95, .ref x1] (pc' := 522) rfl rfl rfl ?_
        obtain ⟨v97, e98, h⟩ := m_bd h
        refine g_sc e98 ?_
        refine g_ch [(0, .ref 0), (1, .ref x1), (2, .ref x2), (3, .ref x3), (4, .int s.1)] [.ref x3, .int v97, .int v95, .ref x1] (pc' := 524) rfl rfl rfl ?_
        obtain ⟨z100, e99, h⟩ := m_bd h
        refine g_call (v := some (.int z100.1)) (h := z100.2) (st' := [.int z100.1]) (D1 := 9) (as := [.ref x1, .int v95, .int v97, .ref x3]) (Or.inl rfl) q13_m165 (m_cs (as := [.ref x3, .int v97, .int v95, .ref x1]) (rest := []) q13_m165 jv2602 rfl rfl rfl rfl rfl) (by decide) (SF13_cost e99) rfl ?_
        refine g_ch [(5, .int z100.1), (0, .ref 0), (1, .ref x1), (2, .ref x2), (3, .ref x3), (4, .int s.1)] [.int (s.1 + 1), .ref 0, .ref x2] (pc' := 535) rfl rfl rfl ?_
        obtain ⟨v101, e102, h⟩ := m_bd h
        refine g_sc e102 ?_
        refine g_ch [(5, .int z100.1), (0, .ref 0), (1, .ref x1), (2, .ref x2), (3, .ref x3), (4, .int s.1)] [.int (s.1 + 2), .ref 0, .int v101, .ref x2] (pc' := 541) rfl rfl rfl ?_
        obtain ⟨v103, e104, h⟩ := m_bd h
        refine g_sc e104 ?_
        obtain ⟨z106, e105, h⟩ := m_bd h
        refine g_call (v := some (.int z106.1)) (h := z106.2) (st' := [.int z106.1]) (D1 := 2) (as := [.ref x2, .int v101, .int v103]) (Or.inr (Or.inl rfl)) q13_m168 (m_cv (as := [.int v103, .int v101]) (rest := []) (Or.inl rfl) q13_m168 jv2420 (OF12_cost e105) rfl rfl rfl rfl) (by decide) (SF12_cost e105) rfl ?_
        refine g_ch [(6, .int z106.1), (5, .int z100.1), (0, .ref 0), (1, .ref x1), (2, .ref x2), (3, .ref x3), (4, .int s.1)] [.ref x2] (pc' := 548) rfl rfl rfl ?_
        obtain ⟨v108, e107, h⟩ := m_bd h
        refine g_call (v := some (.int v108)) (h := z106.2) (st' := [.int v108]) (D1 := 0) (as := [.ref x2]) (Or.inr (Or.inl rfl)) q13_m157 (m_cv (as := []) (rest := []) (Or.inl rfl) q13_m157 jv2400 (OF12_thrown e107) rfl rfl rfl rfl) (by decide) (SF12_thrown e107) rfl ?_
        refine g_ch [(6, .int z106.1), (5, .int z100.1), (0, .ref 0), (1, .ref x1), (2, .ref x2), (3, .ref x3), (4, .int s.1)] [.int z100.1, .int v108] (pc' := 553) rfl rfl rfl ?_
        rcases m_ifd h with ⟨c109, h⟩ | ⟨c109, h⟩
        · refine g_if (t := 558) rfl (m_eqT c109) ?_
          refine g_in eF13_law_558 mx2635 ?_
          refine g_ch [(6, .int z106.1), (5, .int z100.1), (0, .ref 0), (1, .ref x1), (2, .ref x2), (3, .ref x3), (4, .int s.1)] [.int z100.1] (pc' := 560) rfl rfl rfl ?_
          rcases m_ifd h with ⟨c110, h⟩ | ⟨c110, h⟩
          · refine g_ifcn (t := 575) rfl (m_neF c110) ?_
            refine g_in eF13_law_563 mx2635 ?_
            refine g_ch [(6, .int z106.1), (5, .int z100.1), (0, .ref 0), (1, .ref x1), (2, .ref x2), (3, .ref x3), (4, .int s.1)] [.int 0, .ref x3] (pc' := 565) rfl rfl rfl ?_
            obtain ⟨v111, e112, h⟩ := m_bd h
            refine g_la e112 ?_
            refine g_ch [(6, .int z106.1), (5, .int z100.1), (0, .ref 0), (1, .ref x1), (2, .ref x2), (3, .ref x3), (4, .int s.1)] [.int (lg_cmp v111 (m_i2l z106.1))] (pc' := 570) rfl rfl rfl ?_
            rcases m_ifd h with ⟨c113, h⟩ | ⟨c113, h⟩
            · refine g_ifc (t := 575) rfl (m_eqT c113) ?_
              refine g_in eF13_law_575 mx2635 ?_
              refine g_goto (t := 3154) rfl ?_
              refine g_in eF13_law_3154 mx2635 ?_
              refine g_ch [(4, .int (s.1 + 6)), (6, .int z106.1), (5, .int z100.1), (0, .ref 0), (1, .ref x1), (2, .ref x2), (3, .ref x3)] [] (pc' := 3157) rfl rfl rfl ?_
              refine g_goto (t := 23) rfl ?_
              cases h
              exact r_lv (k1 ((s.1 + 6), z106.2) hK) rfl ⟨rfl, rfl, rfl, rfl, rfl, trivial⟩
            · refine g_ifcn (t := 575) rfl (m_eqF c113) ?_
              refine g_in eF13_law_573 mx2635 ?_
              refine g_ch [(6, .int z106.1), (5, .int z100.1), (0, .ref 0), (1, .ref x1), (2, .ref x2), (3, .ref x3), (4, .int s.1)] [.int 0] (pc' := 574) rfl rfl rfl ?_
              cases h
              rw [k0 _ hK]
              exact g_iret rfl (by decide +kernel)
          · refine g_ifc (t := 575) rfl (m_neT c110) ?_
            refine g_in eF13_law_575 mx2635 ?_
            refine g_goto (t := 3154) rfl ?_
            refine g_in eF13_law_3154 mx2635 ?_
            refine g_ch [(4, .int (s.1 + 6)), (6, .int z106.1), (5, .int z100.1), (0, .ref 0), (1, .ref x1), (2, .ref x2), (3, .ref x3)] [] (pc' := 3157) rfl rfl rfl ?_
            refine g_goto (t := 23) rfl ?_
            cases h
            exact r_lv (k1 ((s.1 + 6), z106.2) hK) rfl ⟨rfl, rfl, rfl, rfl, rfl, trivial⟩
        · refine g_ifn (t := 558) rfl (m_eqF c109) ?_
          refine g_in eF13_law_556 mx2635 ?_
          refine g_ch [(6, .int z106.1), (5, .int z100.1), (0, .ref 0), (1, .ref x1), (2, .ref x2), (3, .ref x3), (4, .int s.1)] [.int 0] (pc' := 557) rfl rfl rfl ?_
          cases h
          rw [k0 _ hK]
          exact g_iret rfl (by decide +kernel)
      rcases m_ifd h with ⟨c114, hc114⟩ | ⟨c114, h⟩
      · subst c114
        have h := hc114
        refine g_sw (o := 538) (t := 578) e5 rfl rfl ?_
        refine g_in eF13_law_578 mx2635 ?_
        refine g_ch [(0, .ref 0), (1, .ref x1), (2, .ref x2), (3, .ref x3), (4, .int s.1)] [.int (s.1 + 1), .ref 0, .ref x1] (pc' := 584) rfl rfl rfl ?_
        obtain ⟨v115, e116, h⟩ := m_bd h
        refine g_sc e116 ?_
        refine g_ch [(0, .ref 0), (1, .ref x1), (2, .ref x2), (3, .ref x3), (4, .int s.1)] [.int (s.1 + 2), .ref 0, .int v115, .ref x1] (pc' := 590) rfl rfl rfl ?_
        obtain ⟨v117, e118, h⟩ := m_bd h
        refine g_sc e118 ?_
        refine g_ch [(0, .ref 0), (1, .ref x1), (2, .ref x2), (3, .ref x3), (4, .int s.1)] [.ref x3, .int v117, .int v115, .ref x1] (pc' := 592) rfl rfl rfl ?_
        obtain ⟨z120, e119, h⟩ := m_bd h
        refine g_call (v := some (.int z120.1)) (h := z120.2) (st' := [.int z120.1]) (D1 := 8) (as := [.ref x1, .int v115, .int v117, .ref x3]) (Or.inl rfl) q13_m169 (m_cs (as := [.ref x3, .int v117, .int v115, .ref x1]) (rest := []) q13_m169 jv2603 rfl rfl rfl rfl rfl) (by decide) (SF13_works e119) rfl ?_
        refine g_ch [(5, .int z120.1), (0, .ref 0), (1, .ref x1), (2, .ref x2), (3, .ref x3), (4, .int s.1)] [.int (s.1 + 1), .ref 0, .ref x2] (pc' := 603) rfl rfl rfl ?_
        obtain ⟨v121, e122, h⟩ := m_bd h
        refine g_sc e122 ?_
        refine g_ch [(5, .int z120.1), (0, .ref 0), (1, .ref x1), (2, .ref x2), (3, .ref x3), (4, .int s.1)] [.int (s.1 + 2), .ref 0, .int v121, .ref x2] (pc' := 609) rfl rfl rfl ?_
        obtain ⟨v123, e124, h⟩ := m_bd h
        refine g_sc e124 ?_
        obtain ⟨z126, e125, h⟩ := m_bd h
        refine g_call (v := some (.int z126.1)) (h := z126.2) (st' := [.int z126.1]) (D1 := 1) (as := [.ref x2, .int v121, .int v123]) (Or.inr (Or.inl rfl)) q13_m171 (m_cv (as := [.int v123, .int v121]) (rest := []) (Or.inl rfl) q13_m171 jv2421 (OF12_works e125) rfl rfl rfl rfl) (by decide) (SF12_works e125) rfl ?_
        refine g_ch [(6, .int z126.1), (5, .int z120.1), (0, .ref 0), (1, .ref x1), (2, .ref x2), (3, .ref x3), (4, .int s.1)] [.ref x2] (pc' := 616) rfl rfl rfl ?_
        obtain ⟨v128, e127, h⟩ := m_bd h
        refine g_call (v := some (.int v128)) (h := z126.2) (st' := [.int v128]) (D1 := 0) (as := [.ref x2]) (Or.inr (Or.inl rfl)) q13_m157 (m_cv (as := []) (rest := []) (Or.inl rfl) q13_m157 jv2400 (OF12_thrown e127) rfl rfl rfl rfl) (by decide) (SF12_thrown e127) rfl ?_
        refine g_ch [(6, .int z126.1), (5, .int z120.1), (0, .ref 0), (1, .ref x1), (2, .ref x2), (3, .ref x3), (4, .int s.1)] [.int z120.1, .int v128] (pc' := 621) rfl rfl rfl ?_
        rcases m_ifd h with ⟨c129, h⟩ | ⟨c129, h⟩
        · refine g_if (t := 626) rfl (m_eqT c129) ?_
          refine g_in eF13_law_626 mx2635 ?_
          refine g_ch [(6, .int z126.1), (5, .int z120.1), (0, .ref 0), (1, .ref x1), (2, .ref x2), (3, .ref x3), (4, .int s.1)] [.int z120.1] (pc' := 628) rfl rfl rfl ?_
          rcases m_ifd h with ⟨c130, h⟩ | ⟨c130, h⟩
          · refine g_ifcn (t := 643) rfl (m_neF c130) ?_
            refine g_in eF13_law_631 mx2635 ?_
            refine g_ch [(6, .int z126.1), (5, .int z120.1), (0, .ref 0), (1, .ref x1), (2, .ref x2), (3, .ref x3), (4, .int s.1)] [.int 0, .ref x3] (pc' := 633) rfl rfl rfl ?_
            obtain ⟨v131, e132, h⟩ := m_bd h
            refine g_la e132 ?_
            refine g_ch [(6, .int z126.1), (5, .int z120.1), (0, .ref 0), (1, .ref x1), (2, .ref x2), (3, .ref x3), (4, .int s.1)] [.int (lg_cmp v131 (m_i2l z126.1))] (pc' := 638) rfl rfl rfl ?_
            rcases m_ifd h with ⟨c133, h⟩ | ⟨c133, h⟩
            · refine g_ifc (t := 643) rfl (m_eqT c133) ?_
              refine g_in eF13_law_643 mx2635 ?_
              refine g_goto (t := 3154) rfl ?_
              refine g_in eF13_law_3154 mx2635 ?_
              refine g_ch [(4, .int (s.1 + 6)), (6, .int z126.1), (5, .int z120.1), (0, .ref 0), (1, .ref x1), (2, .ref x2), (3, .ref x3)] [] (pc' := 3157) rfl rfl rfl ?_
              refine g_goto (t := 23) rfl ?_
              cases h
              exact r_lv (k1 ((s.1 + 6), z126.2) hK) rfl ⟨rfl, rfl, rfl, rfl, rfl, trivial⟩
            · refine g_ifcn (t := 643) rfl (m_eqF c133) ?_
              refine g_in eF13_law_641 mx2635 ?_
              refine g_ch [(6, .int z126.1), (5, .int z120.1), (0, .ref 0), (1, .ref x1), (2, .ref x2), (3, .ref x3), (4, .int s.1)] [.int 0] (pc' := 642) rfl rfl rfl ?_
              cases h
              rw [k0 _ hK]
              exact g_iret rfl (by decide +kernel)
          · refine g_ifc (t := 643) rfl (m_neT c130) ?_
            refine g_in eF13_law_643 mx2635 ?_
            refine g_goto (t := 3154) rfl ?_
            refine g_in eF13_law_3154 mx2635 ?_
            refine g_ch [(4, .int (s.1 + 6)), (6, .int z126.1), (5, .int z120.1), (0, .ref 0), (1, .ref x1), (2, .ref x2), (3, .ref x3)] [] (pc' := 3157) rfl rfl rfl ?_
            refine g_goto (t := 23) rfl ?_
            cases h
            exact r_lv (k1 ((s.1 + 6), z126.2) hK) rfl ⟨rfl, rfl, rfl, rfl, rfl, trivial⟩
        · refine g_ifn (t := 626) rfl (m_eqF c129) ?_
          refine g_in eF13_law_624 mx2635 ?_
          refine g_ch [(6, .int z126.1), (5, .int z120.1), (0, .ref 0), (1, .ref x1), (2, .ref x2), (3, .ref x3), (4, .int s.1)] [.int 0] (pc' := 625) rfl rfl rfl ?_
          cases h
          rw [k0 _ hK]
          exact g_iret rfl (by decide +kernel)
      rcases m_ifd h with ⟨c134, hc134⟩ | ⟨c134, h⟩
      · subst c134
        have h := hc134
        refine g_sw (o := 606) (t := 646) e5 rfl rfl ?_
        refine g_in eF13_law_646 mx2635 ?_
        refine g_ch [(0, .ref 0), (1, .ref x1), (2, .ref x2), (3, .ref x3), (4, .int s.1)] [.int (s.1 + 1), .ref 0, .ref x1] (pc' := 652) rfl rfl rfl ?_
        obtain ⟨v135, e136, h⟩ := m_bd h
        refine g_sc e136 ?_
        refine g_ch [(0, .ref 0), (1, .ref x1), (2, .ref x2), (3, .ref x3), (4, .int s.1)] [.int (s.1 + 2), .ref 0, .int v135, .ref x1] (pc' := 658) rfl rfl rfl ?_
        obtain ⟨v137, e138, h⟩ := m_bd h
        refine g_sc e138 ?_
        refine g_ch [(0, .ref 0), (1, .ref x1), (2, .ref x2), (3, .ref x3), (4, .int s.1)] [.ref x3, .int v137, .int v135, .ref x1] (pc' := 660) rfl rfl rfl ?_
        obtain ⟨z140, e139, h⟩ := m_bd h
        refine g_call (v := some (.int z140.1)) (h := z140.2) (st' := [.int z140.1]) (D1 := 9) (as := [.ref x1, .int v135, .int v137, .ref x3]) (Or.inl rfl) q13_m172 (m_cs (as := [.ref x3, .int v137, .int v135, .ref x1]) (rest := []) q13_m172 jv2604 rfl rfl rfl rfl rfl) (by decide) (SF13_order e139) rfl ?_
        refine g_ch [(5, .int z140.1), (0, .ref 0), (1, .ref x1), (2, .ref x2), (3, .ref x3), (4, .int s.1)] [.int (s.1 + 1), .ref 0, .ref x2] (pc' := 671) rfl rfl rfl ?_
        obtain ⟨v141, e142, h⟩ := m_bd h
        refine g_sc e142 ?_
        refine g_ch [(5, .int z140.1), (0, .ref 0), (1, .ref x1), (2, .ref x2), (3, .ref x3), (4, .int s.1)] [.int (s.1 + 2), .ref 0, .int v141, .ref x2] (pc' := 677) rfl rfl rfl ?_
        obtain ⟨v143, e144, h⟩ := m_bd h
        refine g_sc e144 ?_
        obtain ⟨z146, e145, h⟩ := m_bd h
        refine g_call (v := some (.int z146.1)) (h := z146.2) (st' := [.int z146.1]) (D1 := 2) (as := [.ref x2, .int v141, .int v143]) (Or.inr (Or.inl rfl)) q13_m174 (m_cv (as := [.int v143, .int v141]) (rest := []) (Or.inl rfl) q13_m174 jv2432 (OF12_order e145) rfl rfl rfl rfl) (by decide) (SF12_order e145) rfl ?_
        refine g_ch [(6, .int z146.1), (5, .int z140.1), (0, .ref 0), (1, .ref x1), (2, .ref x2), (3, .ref x3), (4, .int s.1)] [.ref x2] (pc' := 684) rfl rfl rfl ?_
        obtain ⟨v148, e147, h⟩ := m_bd h
        refine g_call (v := some (.int v148)) (h := z146.2) (st' := [.int v148]) (D1 := 0) (as := [.ref x2]) (Or.inr (Or.inl rfl)) q13_m157 (m_cv (as := []) (rest := []) (Or.inl rfl) q13_m157 jv2400 (OF12_thrown e147) rfl rfl rfl rfl) (by decide) (SF12_thrown e147) rfl ?_
        refine g_ch [(6, .int z146.1), (5, .int z140.1), (0, .ref 0), (1, .ref x1), (2, .ref x2), (3, .ref x3), (4, .int s.1)] [.int z140.1, .int v148] (pc' := 689) rfl rfl rfl ?_
        rcases m_ifd h with ⟨c149, h⟩ | ⟨c149, h⟩
        · refine g_if (t := 694) rfl (m_eqT c149) ?_
          refine g_in eF13_law_694 mx2635 ?_
          refine g_ch [(6, .int z146.1), (5, .int z140.1), (0, .ref 0), (1, .ref x1), (2, .ref x2), (3, .ref x3), (4, .int s.1)] [.int z140.1] (pc' := 696) rfl rfl rfl ?_
          rcases m_ifd h with ⟨c150, h⟩ | ⟨c150, h⟩
          · refine g_ifcn (t := 711) rfl (m_neF c150) ?_
            refine g_in eF13_law_699 mx2635 ?_
            refine g_ch [(6, .int z146.1), (5, .int z140.1), (0, .ref 0), (1, .ref x1), (2, .ref x2), (3, .ref x3), (4, .int s.1)] [.int 0, .ref x3] (pc' := 701) rfl rfl rfl ?_
            obtain ⟨v151, e152, h⟩ := m_bd h
            refine g_la e152 ?_
            refine g_ch [(6, .int z146.1), (5, .int z140.1), (0, .ref 0), (1, .ref x1), (2, .ref x2), (3, .ref x3), (4, .int s.1)] [.int (lg_cmp v151 (m_i2l z146.1))] (pc' := 706) rfl rfl rfl ?_
            rcases m_ifd h with ⟨c153, h⟩ | ⟨c153, h⟩
            · refine g_ifc (t := 711) rfl (m_eqT c153) ?_
              refine g_in eF13_law_711 mx2635 ?_
              refine g_goto (t := 3154) rfl ?_
              refine g_in eF13_law_3154 mx2635 ?_
              refine g_ch [(4, .int (s.1 + 6)), (6, .int z146.1), (5, .int z140.1), (0, .ref 0), (1, .ref x1), (2, .ref x2), (3, .ref x3)] [] (pc' := 3157) rfl rfl rfl ?_
              refine g_goto (t := 23) rfl ?_
              cases h
              exact r_lv (k1 ((s.1 + 6), z146.2) hK) rfl ⟨rfl, rfl, rfl, rfl, rfl, trivial⟩
            · refine g_ifcn (t := 711) rfl (m_eqF c153) ?_
              refine g_in eF13_law_709 mx2635 ?_
              refine g_ch [(6, .int z146.1), (5, .int z140.1), (0, .ref 0), (1, .ref x1), (2, .ref x2), (3, .ref x3), (4, .int s.1)] [.int 0] (pc' := 710) rfl rfl rfl ?_
              cases h
              rw [k0 _ hK]
              exact g_iret rfl (by decide +kernel)
          · refine g_ifc (t := 711) rfl (m_neT c150) ?_
            refine g_in eF13_law_711 mx2635 ?_
            refine g_goto (t := 3154) rfl ?_
            refine g_in eF13_law_3154 mx2635 ?_
            refine g_ch [(4, .int (s.1 + 6)), (6, .int z146.1), (5, .int z140.1), (0, .ref 0), (1, .ref x1), (2, .ref x2), (3, .ref x3)] [] (pc' := 3157) rfl rfl rfl ?_
            refine g_goto (t := 23) rfl ?_
            cases h
            exact r_lv (k1 ((s.1 + 6), z146.2) hK) rfl ⟨rfl, rfl, rfl, rfl, rfl, trivial⟩
        · refine g_ifn (t := 694) rfl (m_eqF c149) ?_
          refine g_in eF13_law_692 mx2635 ?_
          refine g_ch [(6, .int z146.1), (5, .int z140.1), (0, .ref 0), (1, .ref x1), (2, .ref x2), (3, .ref x3), (4, .int s.1)] [.int 0] (pc' := 693) rfl rfl rfl ?_
          cases h
          rw [k0 _ hK]
          exact g_iret rfl (by decide +kernel)
      rcases m_ifd h with ⟨c154, hc154⟩ | ⟨c154, h⟩
      · subst c154
        have h := hc154
        refine g_sw (o := 674) (t := 714) e5 rfl rfl ?_
        refine g_in eF13_law_714 mx2635 ?_
        refine g_ch [(0, .ref 0), (1, .ref x1), (2, .ref x2), (3, .ref x3), (4, .int s.1)] [.int (s.1 + 1), .ref 0, .ref x1] (pc' := 720) rfl rfl rfl ?_
        obtain ⟨v155, e156, h⟩ := m_bd h
        refine g_sc e156 ?_
        refine g_ch [(0, .ref 0), (1, .ref x1), (2, .ref x2), (3, .ref x3), (4, .int s.1)] [.int (s.1 + 2), .ref 0, .int v155, .ref x1] (pc' := 726) rfl rfl rfl ?_
        obtain ⟨v157, e158, h⟩ := m_bd h
        refine g_sc e158 ?_
        refine g_ch [(0, .ref 0), (1, .ref x1), (2, .ref x2), (3, .ref x3), (4, .int s.1)] [.ref x3, .int v157, .int v155, .ref x1] (pc' := 728) rfl rfl rfl ?_
        obtain ⟨z160, e159, h⟩ := m_bd h
        refine g_call (v := some (.int z160.1)) (h := z160.2) (st' := [.int z160.1]) (D1 := 9) (as := [.ref x1, .int v155, .int v157, .ref x3]) (Or.inl rfl) q13_m175 (m_cs (as := [.ref x3, .int v157, .int v155, .ref x1]) (rest := []) q13_m175 jv2605 rfl rfl rfl rfl rfl) (by decide) (SF13_lot e159) rfl ?_
        refine g_ch [(5, .int z160.1), (0, .ref 0), (1, .ref x1), (2, .ref x2), (3, .ref x3), (4, .int s.1)] [.int (s.1 + 1), .ref 0, .ref x2] (pc' := 739) rfl rfl rfl ?_
        obtain ⟨v161, e162, h⟩ := m_bd h
        refine g_sc e162 ?_
        refine g_ch [(5, .int z160.1), (0, .ref 0), (1, .ref x1), (2, .ref x2), (3, .ref x3), (4, .int s.1)] [.int (s.1 + 2), .ref 0, .int v161, .ref x2] (pc' := 745) rfl rfl rfl ?_
        obtain ⟨v163, e164, h⟩ := m_bd h
        refine g_sc e164 ?_
        obtain ⟨z166, e165, h⟩ := m_bd h
        refine g_call (v := some (.int z166.1)) (h := z166.2) (st' := [.int z166.1]) (D1 := 2) (as := [.ref x2, .int v161, .int v163]) (Or.inr (Or.inl rfl)) q13_m177 (m_cv (as := [.int v163, .int v161]) (rest := []) (Or.inl rfl) q13_m177 jv2433 (OF12_lot e165) rfl rfl rfl rfl) (by decide) (SF12_lot e165) rfl ?_
        refine g_ch [(6, .int z166.1), (5, .int z160.1), (0, .ref 0), (1, .ref x1), (2, .ref x2), (3, .ref x3), (4, .int s.1)] [.ref x2] (pc' := 752) rfl rfl rfl ?_
        obtain ⟨v168, e167, h⟩ := m_bd h
        refine g_call (v := some (.int v168)) (h := z166.2) (st' := [.int v168]) (D1 := 0) (as := [.ref x2]) (Or.inr (Or.inl rfl)) q13_m157 (m_cv (as := []) (rest := []) (Or.inl rfl) q13_m157 jv2400 (OF12_thrown e167) rfl rfl rfl rfl) (by decide) (SF12_thrown e167) rfl ?_
        refine g_ch [(6, .int z166.1), (5, .int z160.1), (0, .ref 0), (1, .ref x1), (2, .ref x2), (3, .ref x3), (4, .int s.1)] [.int z160.1, .int v168] (pc' := 757) rfl rfl rfl ?_
        rcases m_ifd h with ⟨c169, h⟩ | ⟨c169, h⟩
        · refine g_if (t := 762) rfl (m_eqT c169) ?_
          refine g_in eF13_law_762 mx2635 ?_
          refine g_ch [(6, .int z166.1), (5, .int z160.1), (0, .ref 0), (1, .ref x1), (2, .ref x2), (3, .ref x3), (4, .int s.1)] [.int z160.1] (pc' := 764) rfl rfl rfl ?_
          rcases m_ifd h with ⟨c170, h⟩ | ⟨c170, h⟩
          · refine g_ifcn (t := 779) rfl (m_neF c170) ?_
            refine g_in eF13_law_767 mx2635 ?_
            refine g_ch [(6, .int z166.1), (5, .int z160.1), (0, .ref 0), (1, .ref x1), (2, .ref x2), (3, .ref x3), (4, .int s.1)] [.int 0, .ref x3] (pc' := 769) rfl rfl rfl ?_
            obtain ⟨v171, e172, h⟩ := m_bd h
            refine g_la e172 ?_
            refine g_ch [(6, .int z166.1), (5, .int z160.1), (0, .ref 0), (1, .ref x1), (2, .ref x2), (3, .ref x3), (4, .int s.1)] [.int (lg_cmp v171 (m_i2l z166.1))] (pc' := 774) rfl rfl rfl ?_
            rcases m_ifd h with ⟨c173, h⟩ | ⟨c173, h⟩
            · refine g_ifc (t := 779) rfl (m_eqT c173) ?_
              refine g_in eF13_law_779 mx2635 ?_
              refine g_goto (t := 3154) rfl ?_
              refine g_in eF13_law_3154 mx2635 ?_
              refine g_ch [(4, .int (s.1 + 6)), (6, .int z166.1), (5, .int z160.1), (0, .ref 0), (1, .ref x1), (2, .ref x2), (3, .ref x3)] [] (pc' := 3157) rfl rfl rfl ?_
              refine g_goto (t := 23) rfl ?_
              cases h
              exact r_lv (k1 ((s.1 + 6), z166.2) hK) rfl ⟨rfl, rfl, rfl, rfl, rfl, trivial⟩
            · refine g_ifcn (t := 779) rfl (m_eqF c173) ?_
              refine g_in eF13_law_777 mx2635 ?_
              refine g_ch [(6, .int z166.1), (5, .int z160.1), (0, .ref 0), (1, .ref x1), (2, .ref x2), (3, .ref x3), (4, .int s.1)] [.int 0] (pc' := 778) rfl rfl rfl ?_
              cases h
              rw [k0 _ hK]
              exact g_iret rfl (by decide +kernel)
          · refine g_ifc (t := 779) rfl (m_neT c170) ?_
            refine g_in eF13_law_779 mx2635 ?_
            refine g_goto (t := 3154) rfl ?_
            refine g_in eF13_law_3154 mx2635 ?_
            refine g_ch [(4, .int (s.1 + 6)), (6, .int z166.1), (5, .int z160.1), (0, .ref 0), (1, .ref x1), (2, .ref x2), (3, .ref x3)] [] (pc' := 3157) rfl rfl rfl ?_
            refine g_goto (t := 23) rfl ?_
            cases h
            exact r_lv (k1 ((s.1 + 6), z166.2) hK) rfl ⟨rfl, rfl, rfl, rfl, rfl, trivial⟩
        · refine g_ifn (t := 762) rfl (m_eqF c169) ?_
          refine g_in eF13_law_760 mx2635 ?_
          refine g_ch [(6, .int z166.1), (5, .int z160.1), (0, .ref 0), (1, .ref x1), (2, .ref x2), (3, .ref x3), (4, .int s.1)] [.int 0] (pc' := 761) rfl rfl rfl ?_
          cases h
          rw [k0 _ hK]
          exact g_iret rfl (by decide +kernel)
      rcases m_ifd h with ⟨c174, hc174⟩ | ⟨c174, h⟩
      · subst c174
        have h := hc174
        refine g_sw (o := 742) (t := 782) e5 rfl rfl ?_
        refine g_in eF13_law_782 mx2635 ?_
        refine g_ch [(0, .ref 0), (1, .ref x1), (2, .ref x2), (3, .ref x3), (4, .int s.1)] [.int (s.1 + 1), .ref 0, .ref x1] (pc' := 788) rfl rfl rfl ?_
        obtain ⟨v175, e176, h⟩ := m_bd h
        refine g_sc e176 ?_
        refine g_ch [(0, .ref 0), (1, .ref x1), (2, .ref x2), (3, .ref x3), (4, .int s.1)] [.ref x3, .int v175, .ref x1] (pc' := 790) rfl rfl rfl ?_
        obtain ⟨z178, e177, h⟩ := m_bd h
        refine g_call (v := some (.int z178.1)) (h := z178.2) (st' := [.int z178.1]) (D1 := 404) (as := [.ref x1, .int v175, .ref x3]) (Or.inl rfl) q13_m178 (m_cs (as := [.ref x3, .int v175, .ref x1]) (rest := []) q13_m178 jv2606 rfl rfl rfl rfl rfl) (by decide) (SF13_act e177) rfl ?_
        refine g_ch [(5, .int z178.1), (0, .ref 0), (1, .ref x1), (2, .ref x2), (3, .ref x3), (4, .int s.1)] [.int (s.1 + 1), .ref 0, .ref x2] (pc' := 801) rfl rfl rfl ?_
        obtain ⟨v179, e180, h⟩ := m_bd h
        refine g_sc e180 ?_
        obtain ⟨z182, e181, h⟩ := m_bd h
        refine g_call (v := some (.int z182.1)) (h := z182.2) (st' := [.int z182.1]) (D1 := 403) (as := [.ref x2, .int v179]) (Or.inr (Or.inl rfl)) q13_m181 (m_cv (as := [.int v179]) (rest := []) (Or.inl rfl) q13_m181 jv2458 (OF12_act e181) rfl rfl rfl rfl) (by decide) (SF12_act e181) rfl ?_
        refine g_ch [(6, .int z182.1), (5, .int z178.1), (0, .ref 0), (1, .ref x1), (2, .ref x2), (3, .ref x3), (4, .int s.1)] [.ref x2] (pc' := 808) rfl rfl rfl ?_
        obtain ⟨v184, e183, h⟩ := m_bd h
        refine g_call (v := some (.int v184)) (h := z182.2) (st' := [.int v184]) (D1 := 0) (as := [.ref x2]) (Or.inr (Or.inl rfl)) q13_m157 (m_cv (as := []) (rest := []) (Or.inl rfl) q13_m157 jv2400 (OF12_thrown e183) rfl rfl rfl rfl) (by decide) (SF12_thrown e183) rfl ?_
        refine g_ch [(6, .int z182.1), (5, .int z178.1), (0, .ref 0), (1, .ref x1), (2, .ref x2), (3, .ref x3), (4, .int s.1)] [.int z178.1, .int v184] (pc' := 813) rfl rfl rfl ?_
        rcases m_ifd h with ⟨c185, h⟩ | ⟨c185, h⟩
        · refine g_if (t := 818) rfl (m_eqT c185) ?_
          refine g_in eF13_law_818 mx2635 ?_
          refine g_ch [(6, .int z182.1), (5, .int z178.1), (0, .ref 0), (1, .ref x1), (2, .ref x2), (3, .ref x3), (4, .int s.1)] [.int z178.1] (pc' := 820) rfl rfl rfl ?_
          rcases m_ifd h with ⟨c186, h⟩ | ⟨c186, h⟩
          · refine g_ifcn (t := 835) rfl (m_neF c186) ?_
            refine g_in eF13_law_823 mx2635 ?_
            refine g_ch [(6, .int z182.1), (5, .int z178.1), (0, .ref 0), (1, .ref x1), (2, .ref x2), (3, .ref x3), (4, .int s.1)] [.int 0, .ref x3] (pc' := 825) rfl rfl rfl ?_
            obtain ⟨v187, e188, h⟩ := m_bd h
            refine g_la e188 ?_
            refine g_ch [(6, .int z182.1), (5, .int z178.1), (0, .ref 0), (1, .ref x1), (2, .ref x2), (3, .ref x3), (4, .int s.1)] [.int (lg_cmp v187 (m_i2l z182.1))] (pc' := 830) rfl rfl rfl ?_
            rcases m_ifd h with ⟨c189, h⟩ | ⟨c189, h⟩
            · refine g_ifc (t := 835) rfl (m_eqT c189) ?_
              refine g_in eF13_law_835 mx2635 ?_
              refine g_goto (t := 3154) rfl ?_
              refine g_in eF13_law_3154 mx2635 ?_
              refine g_ch [(4, .int (s.1 + 6)), (6, .int z182.1), (5, .int z178.1), (0, .ref 0), (1, .ref x1), (2, .ref x2), (3, .ref x3)] [] (pc' := 3157) rfl rfl rfl ?_
              refine g_goto (t := 23) rfl ?_
              cases h
              exact r_lv (k1 ((s.1 + 6), z182.2) hK) rfl ⟨rfl, rfl, rfl, rfl, rfl, trivial⟩
            · refine g_ifcn (t := 835) rfl (m_eqF c189) ?_
              refine g_in eF13_law_833 mx2635 ?_
              refine g_ch [(6, .int z182.1), (5, .int z178.1), (0, .ref 0), (1, .ref x1), (2, .ref x2), (3, .ref x3), (4, .int s.1)] [.int 0] (pc' := 834) rfl rfl rfl ?_
              cases h
              rw [k0 _ hK]
              exact g_iret rfl (by decide +kernel)
          · refine g_ifc (t := 835) rfl (m_neT c186) ?_
            refine g_in eF13_law_835 mx2635 ?_
            refine g_goto (t := 3154) rfl ?_
            refine g_in eF13_law_3154 mx2635 ?_
            refine g_ch [(4, .int (s.1 + 6)), (6, .int z182.1), (5, .int z178.1), (0, .ref 0), (1, .ref x1), (2, .ref x2), (3, .ref x3)] [] (pc' := 3157) rfl rfl rfl ?_
            refine g_goto (t := 23) rfl ?_
            cases h
            exact r_lv (k1 ((s.1 + 6), z182.2) hK) rfl ⟨rfl, rfl, rfl, rfl, rfl, trivial⟩
        · refine g_ifn (t := 818) rfl (m_eqF c185) ?_
          refine g_in eF13_law_816 mx2635 ?_
          refine g_ch [(6, .int z182.1), (5, .int z178.1), (0, .ref 0), (1, .ref x1), (2, .ref x2), (3, .ref x3), (4, .int s.1)] [.int 0] (pc' := 817) rfl rfl rfl ?_
          cases h
          rw [k0 _ hK]
          exact g_iret rfl (by decide +kernel)
      rcases m_ifd h with ⟨c190, hc190⟩ | ⟨c190, h⟩
      · subst c190
        have h := hc190
        refine g_sw (o := 798) (t := 838) e5 rfl rfl ?_
        refine g_in eF13_law_838 mx2635 ?_
        refine g_ch [(0, .ref 0), (1, .ref x1), (2, .ref x2), (3, .ref x3), (4, .int s.1)] [.ref x1] (pc' := 839) rfl rfl rfl ?_
        obtain ⟨v192, e191, h⟩ := m_bd h
        refine g_call (v := some (.int v192)) (h := s.2) (st' := [.int v192]) (D1 := 0) (as := [.ref x1]) (Or.inr (Or.inl rfl)) q13_m182 (m_cv (as := []) (rest := []) (Or.inl rfl) q13_m182 jv2204 (OF11_fault e191) rfl rfl rfl rfl) (by decide) (SF11_fault e191) rfl ?_
        refine g_ch [(0, .ref 0), (1, .ref x1), (2, .ref x2), (3, .ref x3), (4, .int s.1)] [.ref x2, .int v192] (pc' := 843) rfl rfl rfl ?_
        obtain ⟨z194, e193, h⟩ := m_bd h
        refine g_call (v := some (.int z194.1)) (h := z194.2) (st' := [.int z194.1, .int v192]) (D1 := 0) (as := [.ref x2]) (Or.inr (Or.inl rfl)) q13_m185 (m_cv (as := []) (rest := [.int v192]) (Or.inl rfl) q13_m185 jv2446 (OF12_fault e193) rfl rfl rfl rfl) (by decide) (SF12_fault e193) rfl ?_
        rcases m_ifd h with ⟨c195, h⟩ | ⟨c195, h⟩
        · refine g_if (t := 3154) rfl (m_eqT c195) ?_
          refine g_in eF13_law_3154 mx2635 ?_
          refine g_ch [(4, .int (s.1 + 6)), (0, .ref 0), (1, .ref x1), (2, .ref x2), (3, .ref x3)] [] (pc' := 3157) rfl rfl rfl ?_
          refine g_goto (t := 23) rfl ?_
          cases h
          exact r_lv (k1 ((s.1 + 6), z194.2) hK) rfl ⟨rfl, rfl, rfl, rfl, rfl, trivial⟩
        · refine g_ifn (t := 3154) rfl (m_eqF c195) ?_
          refine g_in eF13_law_849 mx2635 ?_
          refine g_ch [(0, .ref 0), (1, .ref x1), (2, .ref x2), (3, .ref x3), (4, .int s.1)] [.int 0] (pc' := 850) rfl rfl rfl ?_
          cases h
          rw [k0 _ hK]
          exact g_iret rfl (by decide +kernel)
      rcases m_ifd h with ⟨c196, hc196⟩ | ⟨c196, h⟩
      · subst c196
        have h := hc196
        refine g_sw (o := 811) (t := 851) e5 rfl rfl ?_
        refine g_in eF13_law_851 mx2635 ?_
        refine g_ch [(0, .ref 0), (1, .ref x1), (2, .ref x2), (3, .ref x3), (4, .int s.1)] [.int (s.1 + 1), .ref 0, .ref x1] (pc' := 857) rfl rfl rfl ?_
        obtain ⟨v197, e198, h⟩ := m_bd h
        refine g_sc e198 ?_
        refine g_ch [(0, .ref 0), (1, .ref x1), (2, .ref x2), (3, .ref x3), (4, .int s.1)] [.int (s.1 + 2), .ref 0, .int v197, .ref x1] (pc' := 863) rfl rfl rfl ?_
        obtain ⟨v199, e200, h⟩ := m_bd h
        refine g_sc e200 ?_
        refine g_ch [(0, .ref 0), (1, .ref x1), (2, .ref x2), (3, .ref x3), (4, .int s.1)] [.int (s.1 + 3), .ref 0, .int v199, .int v197, .ref x1] (pc' := 869) rfl rfl rfl ?_
        obtain ⟨v201, e202, h⟩ := m_bd h
        refine g_sc e202 ?_
        refine g_ch [(0, .ref 0), (1, .ref x1), (2, .ref x2), (3, .ref x3), (4, .int s.1)] [.int (s.1 + 4), .ref 0, .int v201, .int v199, .int v197, .ref x1] (pc' := 875) rfl rfl rfl ?_
        obtain ⟨v203, e204, h⟩ := m_bd h
        refine g_sc e204 ?_
        refine g_ch [(0, .ref 0), (1, .ref x1), (2, .ref x2), (3, .ref x3), (4, .int s.1)] [.ref x3, .int v203, .int v201, .int v199, .int v197, .ref x1] (pc' := 877) rfl rfl rfl ?_
        obtain ⟨z206, e205, h⟩ := m_bd h
        refine g_call (v := some (.int z206.1)) (h := z206.2) (st' := [.int z206.1]) (D1 := 9) (as := [.ref x1, .int v197, .int v199, .int v201, .int v203, .ref x3]) (Or.inl rfl) q13_m186 (m_cs (as := [.ref x3, .int v203, .int v201, .int v199, .int v197, .ref x1]) (rest := []) q13_m186 jv2607 rfl rfl rfl rfl rfl) (by decide) (SF13_ask e205) rfl ?_
        refine g_ch [(5, .int z206.1), (0, .ref 0), (1, .ref x1), (2, .ref x2), (3, .ref x3), (4, .int s.1)] [.int (s.1 + 1), .ref 0, .ref x2] (pc' := 888) rfl rfl rfl ?_
        obtain ⟨v207, e208, h⟩ := m_bd h
        refine g_sc e208 ?_
        refine g_ch [(5, .int z206.1), (0, .ref 0), (1, .ref x1), (2, .ref x2), (3, .ref x3), (4, .int s.1)] [.int (s.1 + 2), .ref 0, .int v207, .ref x2] (pc' := 894) rfl rfl rfl ?_
        obtain ⟨v209, e210, h⟩ := m_bd h
        refine g_sc e210 ?_
        refine g_ch [(5, .int z206.1), (0, .ref 0), (1, .ref x1), (2, .ref x2), (3, .ref x3), (4, .int s.1)] [.int (s.1 + 3), .ref 0, .int v209, .int v207, .ref x2] (pc' := 900) rfl rfl rfl ?_
        obtain ⟨v211, e212, h⟩ := m_bd h
        refine g_sc e212 ?_
        refine g_ch [(5, .int z206.1), (0, .ref 0), (1, .ref x1), (2, .ref x2), (3, .ref x3), (4, .int s.1)] [.int (s.1 + 4), .ref 0, .int v211, .int v209, .int v207, .ref x2] (pc' := 906) rfl rfl rfl ?_
        obtain ⟨v213, e214, h⟩ := m_bd h
        refine g_sc e214 ?_
        obtain ⟨z216, e215, h⟩ := m_bd h
        refine g_call (v := some (.int z216.1)) (h := z216.2) (st' := [.int z216.1]) (D1 := 2) (as := [.ref x2, .int v207, .int v209, .int v211, .int v213]) (Or.inr (Or.inl rfl)) q13_m189 (m_cv (as := [.int v213, .int v211, .int v209, .int v207]) (rest := []) (Or.inl rfl) q13_m189 jv2467 (OF12_ask e215) rfl rfl rfl rfl) (by decide) (SF12_ask e215) rfl ?_
        refine g_ch [(6, .int z216.1), (5, .int z206.1), (0, .ref 0), (1, .ref x1), (2, .ref x2), (3, .ref x3), (4, .int s.1)] [.ref x2] (pc' := 913) rfl rfl rfl ?_
        obtain ⟨v218, e217, h⟩ := m_bd h
        refine g_call (v := some (.int v218)) (h := z216.2) (st' := [.int v218]) (D1 := 0) (as := [.ref x2]) (Or.inr (Or.inl rfl)) q13_m157 (m_cv (as := []) (rest := []) (Or.inl rfl) q13_m157 jv2400 (OF12_thrown e217) rfl rfl rfl rfl) (by decide) (SF12_thrown e217) rfl ?_
        refine g_ch [(6, .int z216.1), (5, .int z206.1), (0, .ref 0), (1, .ref x1), (2, .ref x2), (3, .ref x3), (4, .int s.1)] [.int z206.1, .int v218] (pc' := 918) rfl rfl rfl ?_
        rcases m_ifd h with ⟨c219, h⟩ | ⟨c219, h⟩
        · refine g_if (t := 923) rfl (m_eqT c219) ?_
          refine g_in eF13_law_923 mx2635 ?_
          refine g_ch [(6, .int z216.1), (5, .int z206.1), (0, .ref 0), (1, .ref x1), (2, .ref x2), (3, .ref x3), (4, .int s.1)] [.int z206.1] (pc' := 925) rfl rfl rfl ?_
          rcases m_ifd h with ⟨c220, h⟩ | ⟨c220, h⟩
          · refine g_ifcn (t := 940) rfl (m_neF c220) ?_
            refine g_in eF13_law_928 mx2635 ?_
            refine g_ch [(6, .int z216.1), (5, .int z206.1), (0, .ref 0), (1, .ref x1), (2, .ref x2), (3, .ref x3), (4, .int s.1)] [.int 0, .ref x3] (pc' := 930) rfl rfl rfl ?_
            obtain ⟨v221, e222, h⟩ := m_bd h
            refine g_la e222 ?_
            refine g_ch [(6, .int z216.1), (5, .int z206.1), (0, .ref 0), (1, .ref x1), (2, .ref x2), (3, .ref x3), (4, .int s.1)] [.int (lg_cmp v221 (m_i2l z216.1))] (pc' := 935) rfl rfl rfl ?_
            rcases m_ifd h with ⟨c223, h⟩ | ⟨c223, h⟩
            · refine g_ifc (t := 940) rfl (m_eqT c223) ?_
              refine g_in eF13_law_940 mx2635 ?_
              refine g_goto (t := 3154) rfl ?_
              refine g_in eF13_law_3154 mx2635 ?_
              refine g_ch [(4, .int (s.1 + 6)), (6, .int z216.1), (5, .int z206.1), (0, .ref 0), (1, .ref x1), (2, .ref x2), (3, .ref x3)] [] (pc' := 3157) rfl rfl rfl ?_
              refine g_goto (t := 23) rfl ?_
              cases h
              exact r_lv (k1 ((s.1 + 6), z216.2) hK) rfl ⟨rfl, rfl, rfl, rfl, rfl, trivial⟩
            · refine g_ifcn (t := 940) rfl (m_eqF c223) ?_
              refine g_in eF13_law_938 mx2635 ?_
              refine g_ch [(6, .int z216.1), (5, .int z206.1), (0, .ref 0), (1, .ref x1), (2, .ref x2), (3, .ref x3), (4, .int s.1)] [.int 0] (pc' := 939) rfl rfl rfl ?_
              cases h
              rw [k0 _ hK]
              exact g_iret rfl (by decide +kernel)
          · refine g_ifc (t := 940) rfl (m_neT c220) ?_
            refine g_in eF13_law_940 mx2635 ?_
            refine g_goto (t := 3154) rfl ?_
            refine g_in eF13_law_3154 mx2635 ?_
            refine g_ch [(4, .int (s.1 + 6)), (6, .int z216.1), (5, .int z206.1), (0, .ref 0), (1, .ref x1), (2, .ref x2), (3, .ref x3)] [] (pc' := 3157) rfl rfl rfl ?_
            refine g_goto (t := 23) rfl ?_
            cases h
            exact r_lv (k1 ((s.1 + 6), z216.2) hK) rfl ⟨rfl, rfl, rfl, rfl, rfl, trivial⟩
        · refine g_ifn (t := 923) rfl (m_eqF c219) ?_
          refine g_in eF13_law_921 mx2635 ?_
          refine g_ch [(6, .int z216.1), (5, .int z206.1), (0, .ref 0), (1, .ref x1), (2, .ref x2), (3, .ref x3), (4, .int s.1)] [.int 0] (pc' := 922) rfl rfl rfl ?_
          cases h
          rw [k0 _ hK]
          exact g_iret rfl (by decide +kernel)
      rcases m_ifd h with ⟨c224, hc224⟩ | ⟨c224, h⟩
      · subst c224
        have h := hc224
        refine g_sw (o := 903) (t := 943) e5 rfl rfl ?_
        refine g_in eF13_law_943 mx2635 ?_
        refine g_ch [(0, .ref 0), (1, .ref x1), (2, .ref x2), (3, .ref x3), (4, .int s.1)] [.int (s.1 + 1), .ref 0, .ref x1] (pc' := 949) rfl rfl rfl ?_
        obtain ⟨v225, e226, h⟩ := m_bd h
        refine g_sc e226 ?_
        refine g_ch [(0, .ref 0), (1, .ref x1), (2, .ref x2), (3, .ref x3), (4, .int s.1)] [.int (s.1 + 2), .ref 0, .int v225, .ref x1] (pc' := 955) rfl rfl rfl ?_
        obtain ⟨v227, e228, h⟩ := m_bd h
        refine g_sc e228 ?_
        refine g_ch [(0, .ref 0), (1, .ref x1), (2, .ref x2), (3, .ref x3), (4, .int s.1)] [.ref x3, .int v227, .int v225, .ref x1] (pc' := 957) rfl rfl rfl ?_
        obtain ⟨z230, e229, h⟩ := m_bd h
        refine g_call (v := some (.int z230.1)) (h := z230.2) (st' := [.int z230.1]) (D1 := 11) (as := [.ref x1, .int v225, .int v227, .ref x3]) (Or.inl rfl) q13_m190 (m_cs (as := [.ref x3, .int v227, .int v225, .ref x1]) (rest := []) q13_m190 jv2608 rfl rfl rfl rfl rfl) (by decide) (SF13_weigh e229) rfl ?_
        refine g_ch [(5, .int z230.1), (0, .ref 0), (1, .ref x1), (2, .ref x2), (3, .ref x3), (4, .int s.1)] [.int (s.1 + 1), .ref 0, .ref x2] (pc' := 968) rfl rfl rfl ?_
        obtain ⟨v231, e232, h⟩ := m_bd h
        refine g_sc e232 ?_
        refine g_ch [(5, .int z230.1), (0, .ref 0), (1, .ref x1), (2, .ref x2), (3, .ref x3), (4, .int s.1)] [.int (s.1 + 2), .ref 0, .int v231, .ref x2] (pc' := 974) rfl rfl rfl ?_
        obtain ⟨v233, e234, h⟩ := m_bd h
        refine g_sc e234 ?_
        obtain ⟨z236, e235, h⟩ := m_bd h
        refine g_call (v := some (.int z236.1)) (h := z236.2) (st' := [.int z236.1]) (D1 := 9) (as := [.ref x2, .int v231, .int v233]) (Or.inr (Or.inl rfl)) q13_m192 (m_cv (as := [.int v233, .int v231]) (rest := []) (Or.inl rfl) q13_m192 jv2470 (OF12_weigh e235) rfl rfl rfl rfl) (by decide) (SF12_weigh e235) rfl ?_
        refine g_ch [(6, .int z236.1), (5, .int z230.1), (0, .ref 0), (1, .ref x1), (2, .ref x2), (3, .ref x3), (4, .int s.1)] [.ref x2] (pc' := 981) rfl rfl rfl ?_
        obtain ⟨v238, e237, h⟩ := m_bd h
        refine g_call (v := some (.int v238)) (h := z236.2) (st' := [.int v238]) (D1 := 0) (as := [.ref x2]) (Or.inr (Or.inl rfl)) q13_m157 (m_cv (as := []) (rest := []) (Or.inl rfl) q13_m157 jv2400 (OF12_thrown e237) rfl rfl rfl rfl) (by decide) (SF12_thrown e237) rfl ?_
        refine g_ch [(6, .int z236.1), (5, .int z230.1), (0, .ref 0), (1, .ref x1), (2, .ref x2), (3, .ref x3), (4, .int s.1)] [.int z230.1, .int v238] (pc' := 986) rfl rfl rfl ?_
        rcases m_ifd h with ⟨c239, h⟩ | ⟨c239, h⟩
        · refine g_if (t := 991) rfl (m_eqT c239) ?_
          refine g_in eF13_law_991 mx2635 ?_
          refine g_ch [(6, .int z236.1), (5, .int z230.1), (0, .ref 0), (1, .ref x1), (2, .ref x2), (3, .ref x3), (4, .int s.1)] [.int z230.1] (pc' := 993) rfl rfl rfl ?_
          rcases m_ifd h with ⟨c240, h⟩ | ⟨c240, h⟩
          · refine g_ifcn (t := 1008) rfl (m_neF c240) ?_
            refine g_in eF13_law_996 mx2635 ?_
            refine g_ch [(6, .int z236.1), (5, .int z230.1), (0, .ref 0), (1, .ref x1), (2, .ref x2), (3, .ref x3), (4, .int s.1)] [.int 0, .ref x3] (pc' := 998) rfl rfl rfl ?_
            obtain ⟨v241, e242, h⟩ := m_bd h
            refine g_la e242 ?_
            refine g_ch [(6, .int z236.1), (5, .int z230.1), (0, .ref 0), (1, .ref x1), (2, .ref x2), (3, .ref x3), (4, .int s.1)] [.int (lg_cmp v241 (m_i2l z236.1))] (pc' := 1003) rfl rfl rfl ?_
            rcases m_ifd h with ⟨c243, h⟩ | ⟨c243, h⟩
            · refine g_ifc (t := 1008) rfl (m_eqT c243) ?_
              refine g_in eF13_law_1008 mx2635 ?_
              refine g_goto (t := 3154) rfl ?_
              refine g_in eF13_law_3154 mx2635 ?_
              refine g_ch [(4, .int (s.1 + 6)), (6, .int z236.1), (5, .int z230.1), (0, .ref 0), (1, .ref x1), (2, .ref x2), (3, .ref x3)] [] (pc' := 3157) rfl rfl rfl ?_
              refine g_goto (t := 23) rfl ?_
              cases h
              exact r_lv (k1 ((s.1 + 6), z236.2) hK) rfl ⟨rfl, rfl, rfl, rfl, rfl, trivial⟩
            · refine g_ifcn (t := 1008) rfl (m_eqF c243) ?_
              refine g_in eF13_law_1006 mx2635 ?_
              refine g_ch [(6, .int z236.1), (5, .int z230.1), (0, .ref 0), (1, .ref x1), (2, .ref x2), (3, .ref x3), (4, .int s.1)] [.int 0] (pc' := 1007) rfl rfl rfl ?_
              cases h
              rw [k0 _ hK]
              exact g_iret rfl (by decide +kernel)
          · refine g_ifc (t := 1008) rfl (m_neT c240) ?_
            refine g_in eF13_law_1008 mx2635 ?_
            refine g_goto (t := 3154) rfl ?_
            refine g_in eF13_law_3154 mx2635 ?_
            refine g_ch [(4, .int (s.1 + 6)), (6, .int z236.1), (5, .int z230.1), (0, .ref 0), (1, .ref x1), (2, .ref x2), (3, .ref x3)] [] (pc' := 3157) rfl rfl rfl ?_
            refine g_goto (t := 23) rfl ?_
            cases h
            exact r_lv (k1 ((s.1 + 6), z236.2) hK) rfl ⟨rfl, rfl, rfl, rfl, rfl, trivial⟩
        · refine g_ifn (t := 991) rfl (m_eqF c239) ?_
          refine g_in eF13_law_989 mx2635 ?_
          refine g_ch [(6, .int z236.1), (5, .int z230.1), (0, .ref 0), (1, .ref x1), (2, .ref x2), (3, .ref x3), (4, .int s.1)] [.int 0] (pc' := 990) rfl rfl rfl ?_
          cases h
          rw [k0 _ hK]
          exact g_iret rfl (by decide +kernel)
      rcases m_ifd h with ⟨c244, hc244⟩ | ⟨c244, h⟩
      · subst c244
        have h := hc244
        refine g_sw (o := 971) (t := 1011) e5 rfl rfl ?_
        refine g_in eF13_law_1011 mx2635 ?_
        refine g_ch [(0, .ref 0), (1, .ref x1), (2, .ref x2), (3, .ref x3), (4, .int s.1)] [.int (s.1 + 1), .ref 0, .ref x1] (pc' := 1017) rfl rfl rfl ?_
        obtain ⟨v245, e246, h⟩ := m_bd h
        refine g_sc e246 ?_
        refine g_ch [(0, .ref 0), (1, .ref x1), (2, .ref x2), (3, .ref x3), (4, .int s.1)] [.ref x3, .int v245, .ref x1] (pc' := 1019) rfl rfl rfl ?_
        obtain ⟨z248, e247, h⟩ := m_bd h
        refine g_call (v := some (.int z248.1)) (h := z248.2) (st' := [.int z248.1]) (D1 := 11) (as := [.ref x1, .int v245, .ref x3]) (Or.inl rfl) q13_m193 (m_cs (as := [.ref x3, .int v245, .ref x1]) (rest := []) q13_m193 jv2609 rfl rfl rfl rfl rfl) (by decide) (SF13_allot e247) rfl ?_
        refine g_ch [(5, .int z248.1), (0, .ref 0), (1, .ref x1), (2, .ref x2), (3, .ref x3), (4, .int s.1)] [.int (s.1 + 1), .ref 0, .ref x2] (pc' := 1030) rfl rfl rfl ?_
        obtain ⟨v249, e250, h⟩ := m_bd h
        refine g_sc e250 ?_
        obtain ⟨z252, e251, h⟩ := m_bd h
        refine g_call (v := some (.int z252.1)) (h := z252.2) (st' := [.int z252.1]) (D1 := 9) (as := [.ref x2, .int v249]) (Or.inr (Or.inl rfl)) q13_m195 (m_cv (as := [.int v249]) (rest := []) (Or.inl rfl) q13_m195 jv2475 (OF12_allot e251) rfl rfl rfl rfl) (by decide) (SF12_allot e251) rfl ?_
        refine g_ch [(6, .int z252.1), (5, .int z248.1), (0, .ref 0), (1, .ref x1), (2, .ref x2), (3, .ref x3), (4, .int s.1)] [.ref x2] (pc' := 1037) rfl rfl rfl ?_
        obtain ⟨v254, e253, h⟩ := m_bd h
        refine g_call (v := some (.int v254)) (h := z252.2) (st' := [.int v254]) (D1 := 0) (as := [.ref x2]) (Or.inr (Or.inl rfl)) q13_m157 (m_cv (as := []) (rest := []) (Or.inl rfl) q13_m157 jv2400 (OF12_thrown e253) rfl rfl rfl rfl) (by decide) (SF12_thrown e253) rfl ?_
        refine g_ch [(6, .int z252.1), (5, .int z248.1), (0, .ref 0), (1, .ref x1), (2, .ref x2), (3, .ref x3), (4, .int s.1)] [.int z248.1, .int v254] (pc' := 1042) rfl rfl rfl ?_
        rcases m_ifd h with ⟨c255, h⟩ | ⟨c255, h⟩
        · refine g_if (t := 1047) rfl (m_eqT c255) ?_
          refine g_in eF13_law_1047 mx2635 ?_
          refine g_ch [(6, .int z252.1), (5, .int z248.1), (0, .ref 0), (1, .ref x1), (2, .ref x2), (3, .ref x3), (4, .int s.1)] [.int z248.1] (pc' := 1049) rfl rfl rfl ?_
          rcases m_ifd h with ⟨c256, h⟩ | ⟨c256, h⟩
          · refine g_ifcn (t := 1064) rfl (m_neF c256) ?_
            refine g_in eF13_law_1052 mx2635 ?_
            refine g_ch [(6, .int z252.1), (5, .int z248.1), (0, .ref 0), (1, .ref x1), (2, .ref x2), (3, .ref x3), (4, .int s.1)] [.int 0, .ref x3] (pc' := 1054) rfl rfl rfl ?_
            obtain ⟨v257, e258, h⟩ := m_bd h
            refine g_la e258 ?_
            refine g_ch [(6, .int z252.1), (5, .int z248.1), (0, .ref 0), (1, .ref x1), (2, .ref x2), (3, .ref x3), (4, .int s.1)] [.int (lg_cmp v257 (m_i2l z252.1))] (pc' := 1059) rfl rfl rfl ?_
            rcases m_ifd h with ⟨c259, h⟩ | ⟨c259, h⟩
            · refine g_ifc (t := 1064) rfl (m_eqT c259) ?_
              refine g_in eF13_law_1064 mx2635 ?_
              refine g_goto (t := 3154) rfl ?_
              refine g_in eF13_law_3154 mx2635 ?_
              refine g_ch [(4, .int (s.1 + 6)), (6, .int z252.1), (5, .int z248.1), (0, .ref 0), (1, .ref x1), (2, .ref x2), (3, .ref x3)] [] (pc' := 3157) rfl rfl rfl ?_
              refine g_goto (t := 23) rfl ?_
              cases h
              exact r_lv (k1 ((s.1 + 6), z252.2) hK) rfl ⟨rfl, rfl, rfl, rfl, rfl, trivial⟩
            · refine g_ifcn (t := 1064) rfl (m_eqF c259) ?_
              refine g_in eF13_law_1062 mx2635 ?_
              refine g_ch [(6, .int z252.1), (5, .int z248.1), (0, .ref 0), (1, .ref x1), (2, .ref x2), (3, .ref x3), (4, .int s.1)] [.int 0] (pc' := 1063) rfl rfl rfl ?_
              cases h
              rw [k0 _ hK]
              exact g_iret rfl (by decide +kernel)
          · refine g_ifc (t := 1064) rfl (m_neT c256) ?_
            refine g_in eF13_law_1064 mx2635 ?_
            refine g_goto (t := 3154) rfl ?_
            refine g_in eF13_law_3154 mx2635 ?_
            refine g_ch [(4, .int (s.1 + 6)), (6, .int z252.1), (5, .int z248.1), (0, .ref 0), (1, .ref x1), (2, .ref x2), (3, .ref x3)] [] (pc' := 3157) rfl rfl rfl ?_
            refine g_goto (t := 23) rfl ?_
            cases h
            exact r_lv (k1 ((s.1 + 6), z252.2) hK) rfl ⟨rfl, rfl, rfl, rfl, rfl, trivial⟩
        · refine g_ifn (t := 1047) rfl (m_eqF c255) ?_
          refine g_in eF13_law_1045 mx2635 ?_
          refine g_ch [(6, .int z252.1), (5, .int z248.1), (0, .ref 0), (1, .ref x1), (2, .ref x2), (3, .ref x3), (4, .int s.1)] [.int 0] (pc' := 1046) rfl rfl rfl ?_
          cases h
          rw [k0 _ hK]
          exact g_iret rfl (by decide +kernel)
      rcases m_ifd h with ⟨c260, hc260⟩ | ⟨c260, h⟩
      · subst c260
        have h := hc260
        refine g_sw (o := 1027) (t := 1067) e5 rfl rfl ?_
        refine g_in eF13_law_1067 mx2635 ?_
        refine g_ch [(0, .ref 0), (1, .ref x1), (2, .ref x2), (3, .ref x3), (4, .int s.1)] [.int (s.1 + 1), .ref 0, .ref x1] (pc' := 1073) rfl rfl rfl ?_
        obtain ⟨v261, e262, h⟩ := m_bd h
        refine g_sc e262 ?_
        refine g_ch [(0, .ref 0), (1, .ref x1), (2, .ref x2), (3, .ref x3), (4, .int s.1)] [.int (s.1 + 2), .ref 0, .int v261, .ref x1] (pc' := 1079) rfl rfl rfl ?_
        obtain ⟨v263, e264, h⟩ := m_bd h
        refine g_sc e264 ?_
        refine g_ch [(0, .ref 0), (1, .ref x1), (2, .ref x2), (3, .ref x3), (4, .int s.1)] [.ref x3, .int v263, .int v261, .ref x1] (pc' := 1081) rfl rfl rfl ?_
        obtain ⟨z266, e265, h⟩ := m_bd h
        refine g_call (v := some (.int z266.1)) (h := z266.2) (st' := [.int z266.1]) (D1 := 9) (as := [.ref x1, .int v261, .int v263, .ref x3]) (Or.inl rfl) q13_m196 (m_cs (as := [.ref x3, .int v263, .int v261, .ref x1]) (rest := []) q13_m196 jv2610 rfl rfl rfl rfl rfl) (by decide) (SF13_label e265) rfl ?_
        refine g_ch [(5, .int z266.1), (0, .ref 0), (1, .ref x1), (2, .ref x2), (3, .ref x3), (4, .int s.1)] [.int (s.1 + 1), .ref 0, .ref x2] (pc' := 1092) rfl rfl rfl ?_
        obtain ⟨v267, e268, h⟩ := m_bd h
        refine g_sc e268 ?_
        refine g_ch [(5, .int z266.1), (0, .ref 0), (1, .ref x1), (2, .ref x2), (3, .ref x3), (4, .int s.1)] [.int (s.1 + 2), .ref 0, .int v267, .ref x2] (pc' := 1098) rfl rfl rfl ?_
        obtain ⟨v269, e270, h⟩ := m_bd h
        refine g_sc e270 ?_
        obtain ⟨z272, e271, h⟩ := m_bd h
        refine g_call (v := some (.int z272.1)) (h := z272.2) (st' := [.int z272.1]) (D1 := 3) (as := [.ref x2, .int v267, .int v269]) (Or.inr (Or.inl rfl)) q13_m198 (m_cv (as := [.int v269, .int v267]) (rest := []) (Or.inl rfl) q13_m198 jv2435 (OF12_label e271) rfl rfl rfl rfl) (by decide) (SF12_label e271) rfl ?_
        refine g_ch [(6, .int z272.1), (5, .int z266.1), (0, .ref 0), (1, .ref x1), (2, .ref x2), (3, .ref x3), (4, .int s.1)] [.ref x2] (pc' := 1105) rfl rfl rfl ?_
        obtain ⟨v274, e273, h⟩ := m_bd h
        refine g_call (v := some (.int v274)) (h := z272.2) (st' := [.int v274]) (D1 := 0) (as := [.ref x2]) (Or.inr (Or.inl rfl)) q13_m157 (m_cv (as := []) (rest := []) (Or.inl rfl) q13_m157 jv2400 (OF12_thrown e273) rfl rfl rfl rfl) (by decide) (SF12_thrown e273) rfl ?_
        refine g_ch [(6, .int z272.1), (5, .int z266.1), (0, .ref 0), (1, .ref x1), (2, .ref x2), (3, .ref x3), (4, .int s.1)] [.int z266.1, .int v274] (pc' := 1110) rfl rfl rfl ?_
        rcases m_ifd h with ⟨c275, h⟩ | ⟨c275, h⟩
        · refine g_if (t := 1115) rfl (m_eqT c275) ?_
          refine g_in eF13_law_1115 mx2635 ?_
          refine g_ch [(6, .int z272.1), (5, .int z266.1), (0, .ref 0), (1, .ref x1), (2, .ref x2), (3, .ref x3), (4, .int s.1)] [.int z266.1] (pc' := 1117) rfl rfl rfl ?_
          rcases m_ifd h with ⟨c276, h⟩ | ⟨c276, h⟩
          · refine g_ifcn (t := 1139) rfl (m_neF c276) ?_
            refine g_in eF13_law_1120 mx2635 ?_
            refine g_ch [(6, .int z272.1), (5, .int z266.1), (0, .ref 0), (1, .ref x1), (2, .ref x2), (3, .ref x3), (4, .int s.1)] [.int 0, .ref x3] (pc' := 1122) rfl rfl rfl ?_
            obtain ⟨v277, e278, h⟩ := m_bd h
            refine g_la e278 ?_
            refine g_ch [(6, .int z272.1), (5, .int z266.1), (0, .ref 0), (1, .ref x1), (2, .ref x2), (3, .ref x3), (4, .int s.1)] [.int z272.1, .long v277] (pc' := 1125) rfl rfl rfl ?_
            rcases m_ifd h with ⟨c279, h⟩ | ⟨c279, h⟩
            · refine g_ifc (t := 1132) rfl (m_eqT c279) ?_
              refine g_in eF13_law_1132 mx2635 ?_
              refine g_ch [(6, .int z272.1), (5, .int z266.1), (0, .ref 0), (1, .ref x1), (2, .ref x2), (3, .ref x3), (4, .int s.1)] [.long 0, .long v277] (pc' := 1133) rfl rfl rfl ?_
              refine g_end ?_
              exact r_lv (SF13_law_1133 x1 x2 x3 s.1 0 v277 z272.2 (K := K) k0 k1 h hK) rfl ⟨rfl, rfl, rfl, rfl, rfl, trivial⟩
            · refine g_ifcn (t := 1132) rfl (m_eqF c279) ?_
              refine g_in eF13_law_1128 mx2635 ?_
              refine g_ch [(6, .int z272.1), (5, .int z266.1), (0, .ref 0), (1, .ref x1), (2, .ref x2), (3, .ref x3), (4, .int s.1)] [.long 1, .long v277] (pc' := 1129) rfl rfl rfl ?_
              refine g_goto (t := 1133) rfl ?_
              exact r_lv (SF13_law_1133 x1 x2 x3 s.1 1 v277 z272.2 (K := K) k0 k1 h hK) rfl ⟨rfl, rfl, rfl, rfl, rfl, trivial⟩
          · refine g_ifc (t := 1139) rfl (m_neT c276) ?_
            refine g_in eF13_law_1139 mx2635 ?_
            refine g_goto (t := 3154) rfl ?_
            refine g_in eF13_law_3154 mx2635 ?_
            refine g_ch [(4, .int (s.1 + 6)), (6, .int z272.1), (5, .int z266.1), (0, .ref 0), (1, .ref x1), (2, .ref x2), (3, .ref x3)] [] (pc' := 3157) rfl rfl rfl ?_
            refine g_goto (t := 23) rfl ?_
            cases h
            exact r_lv (k1 ((s.1 + 6), z272.2) hK) rfl ⟨rfl, rfl, rfl, rfl, rfl, trivial⟩
        · refine g_ifn (t := 1115) rfl (m_eqF c275) ?_
          refine g_in eF13_law_1113 mx2635 ?_
          refine g_ch [(6, .int z272.1), (5, .int z266.1), (0, .ref 0), (1, .ref x1), (2, .ref x2), (3, .ref x3), (4, .int s.1)] [.int 0] (pc' := 1114) rfl rfl rfl ?_
          cases h
          rw [k0 _ hK]
          exact g_iret rfl (by decide +kernel)
      rcases m_ifd h with ⟨c280, hc280⟩ | ⟨c280, h⟩
      · subst c280
        have h := hc280
        refine g_sw (o := 1102) (t := 1142) e5 rfl rfl ?_
        refine g_in eF13_law_1142 mx2635 ?_
        refine g_ch [(0, .ref 0), (1, .ref x1), (2, .ref x2), (3, .ref x3), (4, .int s.1)] [.int (s.1 + 1), .ref 0, .ref x1] (pc' := 1148) rfl rfl rfl ?_
        obtain ⟨v281, e282, h⟩ := m_bd h
        refine g_sc e282 ?_
        refine g_ch [(0, .ref 0), (1, .ref x1), (2, .ref x2), (3, .ref x3), (4, .int s.1)] [.int (s.1 + 2), .ref 0, .int v281, .ref x1] (pc' := 1154) rfl rfl rfl ?_
        obtain ⟨v283, e284, h⟩ := m_bd h
        refine g_sc e284 ?_
        refine g_ch [(0, .ref 0), (1, .ref x1), (2, .ref x2), (3, .ref x3), (4, .int s.1)] [.ref x3, .int v283, .int v281, .ref x1] (pc' := 1156) rfl rfl rfl ?_
        obtain ⟨z286, e285, h⟩ := m_bd h
        refine g_call (v := some (.int z286.1)) (h := z286.2) (st' := [.int z286.1]) (D1 := 8) (as := [.ref x1, .int v281, .int v283, .ref x3]) (Or.inl rfl) q13_m199 (m_cs (as := [.ref x3, .int v283, .int v281, .ref x1]) (rest := []) q13_m199 jv2611 rfl rfl rfl rfl rfl) (by decide) (SF13_ship e285) rfl ?_
        refine g_ch [(5, .int z286.1), (0, .ref 0), (1, .ref x1), (2, .ref x2), (3, .ref x3), (4, .int s.1)] [.int (s.1 + 1), .ref 0, .ref x2] (pc' := 1167) rfl rfl rfl ?_
        obtain ⟨v287, e288, h⟩ := m_bd h
        refine g_sc e288 ?_
        refine g_ch [(5, .int z286.1), (0, .ref 0), (1, .ref x1), (2, .ref x2), (3, .ref x3), (4, .int s.1)] [.int (s.1 + 2), .ref 0, .int v287, .ref x2] (pc' := 1173) rfl rfl rfl ?_
        obtain ⟨v289, e290, h⟩ := m_bd h
        refine g_sc e290 ?_
        obtain ⟨z292, e291, h⟩ := m_bd h
        refine g_call (v := some (.int z292.1)) (h := z292.2) (st' := [.int z292.1]) (D1 := 2) (as := [.ref x2, .int v287, .int v289]) (Or.inr (Or.inl rfl)) q13_m201 (m_cv (as := [.int v289, .int v287]) (rest := []) (Or.inl rfl) q13_m201 jv2480 (OF12_ship e291) rfl rfl rfl rfl) (by decide) (SF12_ship e291) rfl ?_
        refine g_ch [(6, .int z292.1), (5, .int z286.1), (0, .ref 0), (1, .ref x1), (2, .ref x2), (3, .ref x3), (4, .int s.1)] [.ref x2] (pc' := 1180) rfl rfl rfl ?_
        obtain ⟨v294, e293, h⟩ := m_bd h
        refine g_call (v := some (.int v294)) (h := z292.2) (st' := [.int v294]) (D1 := 0) (as := [.ref x2]) (Or.inr (Or.inl rfl)) q13_m157 (m_cv (as := []) (rest := []) (Or.inl rfl) q13_m157 jv2400 (OF12_thrown e293) rfl rfl rfl rfl) (by decide) (SF12_thrown e293) rfl ?_
        refine g_ch [(6, .int z292.1), (5, .int z286.1), (0, .ref 0), (1, .ref x1), (2, .ref x2), (3, .ref x3), (4, .int s.1)] [.int z286.1, .int v294] (pc' := 1185) rfl rfl rfl ?_
        rcases m_ifd h with ⟨c295, h⟩ | ⟨c295, h⟩
        · refine g_if (t := 1190) rfl (m_eqT c295) ?_
          refine g_in eF13_law_1190 mx2635 ?_
          refine g_ch [(6, .int z292.1), (5, .int z286.1), (0, .ref 0), (1, .ref x1), (2, .ref x2), (3, .ref x3), (4, .int s.1)] [.int z286.1] (pc' := 1192) rfl rfl rfl ?_
          rcases m_ifd h with ⟨c296, h⟩ | ⟨c296, h⟩
          · refine g_ifcn (t := 1207) rfl (m_neF c296) ?_
            refine g_in eF13_law_1195 mx2635 ?_
            refine g_ch [(6, .int z292.1), (5, .int z286.1), (0, .ref 0), (1, .ref x1), (2, .ref x2), (3, .ref x3), (4, .int s.1)] [.int 0, .ref x3] (pc' := 1197) rfl rfl rfl ?_
            obtain ⟨v297, e298, h⟩ := m_bd h
            refine g_la e298 ?_
            refine g_ch [(6, .int z292.1), (5, .int z286.1), (0, .ref 0), (1, .ref x1), (2, .ref x2), (3, .ref x3), (4, .int s.1)] [.int (lg_cmp v297 (m_i2l z292.1))] (pc' := 1202) rfl rfl rfl ?_
            rcases m_ifd h with ⟨c299, h⟩ | ⟨c299, h⟩
            · refine g_ifc (t := 1207) rfl (m_eqT c299) ?_
              refine g_in eF13_law_1207 mx2635 ?_
              refine g_goto (t := 3154) rfl ?_
              refine g_in eF13_law_3154 mx2635 ?_
              refine g_ch [(4, .int (s.1 + 6)), (6, .int z292.1), (5, .int z286.1), (0, .ref 0), (1, .ref x1), (2, .ref x2), (3, .ref x3)] [] (pc' := 3157) rfl rfl rfl ?_
              refine g_goto (t := 23) rfl ?_
              cases h
              exact r_lv (k1 ((s.1 + 6), z292.2) hK) rfl ⟨rfl, rfl, rfl, rfl, rfl, trivial⟩
            · refine g_ifcn (t := 1207) rfl (m_eqF c299) ?_
              refine g_in eF13_law_1205 mx2635 ?_
              refine g_ch [(6, .int z292.1), (5, .int z286.1), (0, .ref 0), (1, .ref x1), (2, .ref x2), (3, .ref x3), (4, .int s.1)] [.int 0] (pc' := 1206) rfl rfl rfl ?_
              cases h
              rw [k0 _ hK]
              exact g_iret rfl (by decide +kernel)
          · refine g_ifc (t := 1207) rfl (m_neT c296) ?_
            refine g_in eF13_law_1207 mx2635 ?_
            refine g_goto (t := 3154) rfl ?_
            refine g_in eF13_law_3154 mx2635 ?_
            refine g_ch [(4, .int (s.1 + 6)), (6, .int z292.1), (5, .int z286.1), (0, .ref 0), (1, .ref x1), (2, .ref x2), (3, .ref x3)] [] (pc' := 3157) rfl rfl rfl ?_
            refine g_goto (t := 23) rfl ?_
            cases h
            exact r_lv (k1 ((s.1 + 6), z292.2) hK) rfl ⟨rfl, rfl, rfl, rfl, rfl, trivial⟩
        · refine g_ifn (t := 1190) rfl (m_eqF c295) ?_
          refine g_in eF13_law_1188 mx2635 ?_
          refine g_ch [(6, .int z292.1), (5, .int z286.1), (0, .ref 0), (1, .ref x1), (2, .ref x2), (3, .ref x3), (4, .int s.1)] [.int 0] (pc' := 1189) rfl rfl rfl ?_
          cases h
          rw [k0 _ hK]
          exact g_iret rfl (by decide +kernel)
      rcases m_ifd h with ⟨c300, hc300⟩ | ⟨c300, h⟩
      · subst c300
        have h := hc300
        refine g_sw (o := 1170) (t := 1210) e5 rfl rfl ?_
        refine g_in eF13_law_1210 mx2635 ?_
        refine g_ch [(0, .ref 0), (1, .ref x1), (2, .ref x2), (3, .ref x3), (4, .int s.1)] [.int (s.1 + 1), .ref 0, .ref x1] (pc' := 1216) rfl rfl rfl ?_
        obtain ⟨v301, e302, h⟩ := m_bd h
        refine g_sc e302 ?_
        refine g_ch [(0, .ref 0), (1, .ref x1), (2, .ref x2), (3, .ref x3), (4, .int s.1)] [.int (s.1 + 2), .ref 0, .int v301, .ref x1] (pc' := 1222) rfl rfl rfl ?_
        obtain ⟨v303, e304, h⟩ := m_bd h
        refine g_sc e304 ?_
        obtain ⟨z306, e305, h⟩ := m_bd h
        refine g_call (v := some (.int z306.1)) (h := z306.2) (st' := [.int z306.1]) (D1 := 9) (as := [.ref x1, .int v301, .int v303]) (Or.inl rfl) q13_m202 (m_cs (as := [.int v303, .int v301, .ref x1]) (rest := []) q13_m202 jv2612 rfl rfl rfl rfl rfl) (by decide) (SF13_way e305) rfl ?_
        refine g_ch [(5, .int z306.1), (0, .ref 0), (1, .ref x1), (2, .ref x2), (3, .ref x3), (4, .int s.1)] [.int (s.1 + 1), .ref 0, .ref x2] (pc' := 1234) rfl rfl rfl ?_
        obtain ⟨v307, e308, h⟩ := m_bd h
        refine g_sc e308 ?_
        refine g_ch [(5, .int z306.1), (0, .ref 0), (1, .ref x1), (2, .ref x2), (3, .ref x3), (4, .int s.1)] [.int (s.1 + 2), .ref 0, .int v307, .ref x2] (pc' := 1240) rfl rfl rfl ?_
        obtain ⟨v309, e310, h⟩ := m_bd h
        refine g_sc e310 ?_
        obtain ⟨h312, e311, h⟩ := m_bd h
        refine g_call (v := none) (h := h312) (st' := []) (D1 := 2) (as := [.ref x2, .int v307, .int v309]) (Or.inr (Or.inl rfl)) q13_m205 (m_cv (as := [.int v309, .int v307]) (rest := []) (Or.inl rfl) q13_m205 jv2422 (OF12_way e311) rfl rfl rfl rfl) (by decide) (SF12_way e311) rfl ?_
        refine g_ch [(5, .int z306.1), (0, .ref 0), (1, .ref x1), (2, .ref x2), (3, .ref x3), (4, .int s.1)] [.ref x2] (pc' := 1245) rfl rfl rfl ?_
        obtain ⟨v314, e313, h⟩ := m_bd h
        refine g_call (v := some (.int v314)) (h := h312) (st' := [.int v314]) (D1 := 0) (as := [.ref x2]) (Or.inr (Or.inl rfl)) q13_m157 (m_cv (as := []) (rest := []) (Or.inl rfl) q13_m157 jv2400 (OF12_thrown e313) rfl rfl rfl rfl) (by decide) (SF12_thrown e313) rfl ?_
        refine g_ch [(5, .int z306.1), (0, .ref 0), (1, .ref x1), (2, .ref x2), (3, .ref x3), (4, .int s.1)] [.int z306.1, .int v314] (pc' := 1250) rfl rfl rfl ?_
        rcases m_ifd h with ⟨c315, h⟩ | ⟨c315, h⟩
        · refine g_if (t := 1255) rfl (m_eqT c315) ?_
          refine g_in eF13_law_1255 mx2635 ?_
          refine g_goto (t := 3154) rfl ?_
          refine g_in eF13_law_3154 mx2635 ?_
          refine g_ch [(4, .int (s.1 + 6)), (5, .int z306.1), (0, .ref 0), (1, .ref x1), (2, .ref x2), (3, .ref x3)] [] (pc' := 3157) rfl rfl rfl ?_
          refine g_goto (t := 23) rfl ?_
          cases h
          exact r_lv (k1 ((s.1 + 6), h312) hK) rfl ⟨rfl, rfl, rfl, rfl, rfl, trivial⟩
        · refine g_ifn (t := 1255) rfl (m_eqF c315) ?_
          refine g_in eF13_law_1253 mx2635 ?_
          refine g_ch [(5, .int z306.1), (0, .ref 0), (1, .ref x1), (2, .ref x2), (3, .ref x3), (4, .int s.1)] [.int 0] (pc' := 1254) rfl rfl rfl ?_
          cases h
          rw [k0 _ hK]
          exact g_iret rfl (by decide +kernel)
      rcases m_ifd h with ⟨c316, hc316⟩ | ⟨c316, h⟩
      · subst c316
        have h := hc316
        refine g_sw (o := 1218) (t := 1258) e5 rfl rfl ?_
        refine g_in eF13_law_1258 mx2635 ?_
        refine g_ch [(0, .ref 0), (1, .ref x1), (2, .ref x2), (3, .ref x3), (4, .int s.1)] [.int (s.1 + 1), .ref 0, .ref x1] (pc' := 1264) rfl rfl rfl ?_
        obtain ⟨v317, e318, h⟩ := m_bd h
        refine g_sc e318 ?_
        refine g_ch [(0, .ref 0), (1, .ref x1), (2, .ref x2), (3, .ref x3), (4, .int s.1)] [.int (s.1 + 2), .ref 0, .int v317, .ref x1] (pc' := 1270) rfl rfl rfl ?_
        obtain ⟨v319, e320, h⟩ := m_bd h
        refine g_sc e320 ?_
        refine g_ch [(0, .ref 0), (1, .ref x1), (2, .ref x2), (3, .ref x3), (4, .int s.1)] [.int (s.1 + 3), .ref 0, .int v319, .int v317, .ref x1] (pc' := 1276) rfl rfl rfl ?_
        obtain ⟨v321, e322, h⟩ := m_bd h
        refine g_sc e322 ?_
        refine g_ch [(0, .ref 0), (1, .ref x1), (2, .ref x2), (3, .ref x3), (4, .int s.1)] [.ref x3, .int v321, .int v319, .int v317, .ref x1] (pc' := 1278) rfl rfl rfl ?_
        obtain ⟨z324, e323, h⟩ := m_bd h
        refine g_call (v := some (.int z324.1)) (h := z324.2) (st' := [.int z324.1]) (D1 := 9) (as := [.ref x1, .int v317, .int v319, .int v321, .ref x3]) (Or.inl rfl) q13_m206 (m_cs (as := [.ref x3, .int v321, .int v319, .int v317, .ref x1]) (rest := []) q13_m206 jv2613 rfl rfl rfl rfl rfl) (by decide) (SF13_risk e323) rfl ?_
        refine g_ch [(5, .int z324.1), (0, .ref 0), (1, .ref x1), (2, .ref x2), (3, .ref x3), (4, .int s.1)] [.int (s.1 + 1), .ref 0, .ref x2] (pc' := 1289) rfl rfl rfl ?_
        obtain ⟨v325, e326, h⟩ := m_bd h
        refine g_sc e326 ?_
        refine g_ch [(5, .int z324.1), (0, .ref 0), (1, .ref x1), (2, .ref x2), (3, .ref x3), (4, .int s.1)] [.int (s.1 + 2), .ref 0, .int v325, .ref x2] (pc' := 1295) rfl rfl rfl ?_
        obtain ⟨v327, e328, h⟩ := m_bd h
        refine g_sc e328 ?_
        refine g_ch [(5, .int z324.1), (0, .ref 0), (1, .ref x1), (2, .ref x2), (3, .ref x3), (4, .int s.1)] [.int (s.1 + 3), .ref 0, .int v327, .int v325, .ref x2] (pc' := 1301) rfl rfl rfl ?_
        obtain ⟨v329, e330, h⟩ := m_bd h
        refine g_sc e330 ?_
        obtain ⟨z332, e331, h⟩ := m_bd h
        refine g_call (v := some (.int z332.1)) (h := z332.2) (st' := [.int z332.1]) (D1 := 2) (as := [.ref x2, .int v325, .int v327, .int v329]) (Or.inr (Or.inl rfl)) q13_m208 (m_cv (as := [.int v329, .int v327, .int v325]) (rest := []) (Or.inl rfl) q13_m208 jv2423 (OF12_risk e331) rfl rfl rfl rfl) (by decide) (SF12_risk e331) rfl ?_
        refine g_ch [(6, .int z332.1), (5, .int z324.1), (0, .ref 0), (1, .ref x1), (2, .ref x2), (3, .ref x3), (4, .int s.1)] [.ref x2] (pc' := 1308) rfl rfl rfl ?_
        obtain ⟨v334, e333, h⟩ := m_bd h
        refine g_call (v := some (.int v334)) (h := z332.2) (st' := [.int v334]) (D1 := 0) (as := [.ref x2]) (Or.inr (Or.inl rfl)) q13_m157 (m_cv (as := []) (rest := []) (Or.inl rfl) q13_m157 jv2400 (OF12_thrown e333) rfl rfl rfl rfl) (by decide) (SF12_thrown e333) rfl ?_
        refine g_ch [(6, .int z332.1), (5, .int z324.1), (0, .ref 0), (1, .ref x1), (2, .ref x2), (3, .ref x3), (4, .int s.1)] [.int z324.1, .int v334] (pc' := 1313) rfl rfl rfl ?_
        rcases m_ifd h with ⟨c335, h⟩ | ⟨c335, h⟩
        · refine g_if (t := 1318) rfl (m_eqT c335) ?_
          refine g_in eF13_law_1318 mx2635 ?_
          refine g_ch [(6, .int z332.1), (5, .int z324.1), (0, .ref 0), (1, .ref x1), (2, .ref x2), (3, .ref x3), (4, .int s.1)] [.int z324.1] (pc' := 1320) rfl rfl rfl ?_
          rcases m_ifd h with ⟨c336, h⟩ | ⟨c336, h⟩
          · refine g_ifcn (t := 1335) rfl (m_neF c336) ?_
            refine g_in eF13_law_1323 mx2635 ?_
            refine g_ch [(6, .int z332.1), (5, .int z324.1), (0, .ref 0), (1, .ref x1), (2, .ref x2), (3, .ref x3), (4, .int s.1)] [.int 0, .ref x3] (pc' := 1325) rfl rfl rfl ?_
            obtain ⟨v337, e338, h⟩ := m_bd h
            refine g_la e338 ?_
            refine g_ch [(6, .int z332.1), (5, .int z324.1), (0, .ref 0), (1, .ref x1), (2, .ref x2), (3, .ref x3), (4, .int s.1)] [.int (lg_cmp v337 (m_i2l z332.1))] (pc' := 1330) rfl rfl rfl ?_
            rcases m_ifd h with ⟨c339, h⟩ | ⟨c339, h⟩
            · refine g_ifc (t := 1335) rfl (m_eqT c339) ?_
              refine g_in eF13_law_1335 mx2635 ?_
              refine g_goto (t := 3154) rfl ?_
              refine g_in eF13_law_3154 mx2635 ?_
              refine g_ch [(4, .int (s.1 + 6)), (6, .int z332.1), (5, .int z324.1), (0, .ref 0), (1, .ref x1), (2, .ref x2), (3, .ref x3)] [] (pc' := 3157) rfl rfl rfl ?_
              refine g_goto (t := 23) rfl ?_
              cases h
              exact r_lv (k1 ((s.1 + 6), z332.2) hK) rfl ⟨rfl, rfl, rfl, rfl, rfl, trivial⟩
            · refine g_ifcn (t := 1335) rfl (m_eqF c339) ?_
              refine g_in eF13_law_1333 mx2635 ?_
              refine g_ch [(6, .int z332.1), (5, .int z324.1), (0, .ref 0), (1, .ref x1), (2, .ref x2), (3, .ref x3), (4, .int s.1)] [.int 0] (pc' := 1334) rfl rfl rfl ?_
              cases h
              rw [k0 _ hK]
              exact g_iret rfl (by decide +kernel)
          · refine g_ifc (t := 1335) rfl (m_neT c336) ?_
            refine g_in eF13_law_1335 mx2635 ?_
            refine g_goto (t := 3154) rfl ?_
            refine g_in eF13_law_3154 mx2635 ?_
            refine g_ch [(4, .int (s.1 + 6)), (6, .int z332.1), (5, .int z324.1), (0, .ref 0), (1, .ref x1), (2, .ref x2), (3, .ref x3)] [] (pc' := 3157) rfl rfl rfl ?_
            refine g_goto (t := 23) rfl ?_
            cases h
            exact r_lv (k1 ((s.1 + 6), z332.2) hK) rfl ⟨rfl, rfl, rfl, rfl, rfl, trivial⟩
        · refine g_ifn (t := 1318) rfl (m_eqF c335) ?_
          refine g_in eF13_law_1316 mx2635 ?_
          refine g_ch [(6, .int z332.1), (5, .int z324.1), (0, .ref 0), (1, .ref x1), (2, .ref x2), (3, .ref x3), (4, .int s.1)] [.int 0] (pc' := 1317) rfl rfl rfl ?_
          cases h
          rw [k0 _ hK]
          exact g_iret rfl (by decide +kernel)
      rcases m_ifd h with ⟨c340, hc340⟩ | ⟨c340, h⟩
      · subst c340
        have h := hc340
        refine g_sw (o := 1298) (t := 1338) e5 rfl rfl ?_
        refine g_in eF13_law_1338 mx2635 ?_
        refine g_ch [(0, .ref 0), (1, .ref x1), (2, .ref x2), (3, .ref x3), (4, .int s.1)] [.int (s.1 + 1), .ref 0, .ref x1] (pc' := 1344) rfl rfl rfl ?_
        obtain ⟨v341, e342, h⟩ := m_bd h
        refine g_sc e342 ?_
        refine g_ch [(0, .ref 0), (1, .ref x1), (2, .ref x2), (3, .ref x3), (4, .int s.1)] [.int (s.1 + 2), .ref 0, .int v341, .ref x1] (pc' := 1350) rfl rfl rfl ?_
        obtain ⟨v343, e344, h⟩ := m_bd h
        refine g_sc e344 ?_
        refine g_ch [(0, .ref 0), (1, .ref x1), (2, .ref x2), (3, .ref x3), (4, .int s.1)] [.int (s.1 + 3), .ref 0, .int v343, .int v341, .ref x1] (pc' := 1356) rfl rfl rfl ?_
        obtain ⟨v345, e346, h⟩ := m_bd h
        refine g_sc e346 ?_
        refine g_ch [(0, .ref 0), (1, .ref x1), (2, .ref x2), (3, .ref x3), (4, .int s.1)] [.ref x3, .int v345, .int v343, .int v341, .ref x1] (pc' := 1358) rfl rfl rfl ?_
        obtain ⟨z348, e347, h⟩ := m_bd h
        refine g_call (v := some (.int z348.1)) (h := z348.2) (st' := [.int z348.1]) (D1 := 11) (as := [.ref x1, .int v341, .int v343, .int v345, .ref x3]) (Or.inl rfl) q13_m209 (m_cs (as := [.ref x3, .int v345, .int v343, .int v341, .ref x1]) (rest := []) q13_m209 jv2614 rfl rfl rfl rfl rfl) (by decide) (SF13_load e347) rfl ?_
        refine g_ch [(5, .int z348.1), (0, .ref 0), (1, .ref x1), (2, .ref x2), (3, .ref x3), (4, .int s.1)] [.int (s.1 + 1), .ref 0, .ref x2] (pc' := 1369) rfl rfl rfl ?_
        obtain ⟨v349, e350, h⟩ := m_bd h
        refine g_sc e350 ?_
        refine g_ch [(5, .int z348.1), (0, .ref 0), (1, .ref x1), (2, .ref x2), (3, .ref x3), (4, .int s.1)] [.int (s.1 + 2), .ref 0, .int v349, .ref x2] (pc' := 1375) rfl rfl rfl ?_
        obtain ⟨v351, e352, h⟩ := m_bd h
        refine g_sc e352 ?_
        refine g_ch [(5, .int z348.1), (0, .ref 0), (1, .ref x1), (2, .ref x2), (3, .ref x3), (4, .int s.1)] [.int (s.1 + 3), .ref 0, .int v351, .int v349, .ref x2] (pc' := 1381) rfl rfl rfl ?_
        obtain ⟨v353, e354, h⟩ := m_bd h
        refine g_sc e354 ?_
        obtain ⟨z356, e355, h⟩ := m_bd h
        refine g_call (v := some (.int z356.1)) (h := z356.2) (st' := [.int z356.1]) (D1 := 3) (as := [.ref x2, .int v349, .int v351, .int v353]) (Or.inr (Or.inl rfl)) q13_m211 (m_cv (as := [.int v353, .int v351, .int v349]) (rest := []) (Or.inl rfl) q13_m211 jv2483 (OF12_load e355) rfl rfl rfl rfl) (by decide) (SF12_load e355) rfl ?_
        refine g_ch [(6, .int z356.1), (5, .int z348.1), (0, .ref 0), (1, .ref x1), (2, .ref x2), (3, .ref x3), (4, .int s.1)] [.ref x2] (pc' := 1388) rfl rfl rfl ?_
        obtain ⟨v358, e357, h⟩ := m_bd h
        refine g_call (v := some (.int v358)) (h := z356.2) (st' := [.int v358]) (D1 := 0) (as := [.ref x2]) (Or.inr (Or.inl rfl)) q13_m157 (m_cv (as := []) (rest := []) (Or.inl rfl) q13_m157 jv2400 (OF12_thrown e357) rfl rfl rfl rfl) (by decide) (SF12_thrown e357) rfl ?_
        refine g_ch [(6, .int z356.1), (5, .int z348.1), (0, .ref 0), (1, .ref x1), (2, .ref x2), (3, .ref x3), (4, .int s.1)] [.int z348.1, .int v358] (pc' := 1393) rfl rfl rfl ?_
        rcases m_ifd h with ⟨c359, h⟩ | ⟨c359, h⟩
        · refine g_if (t := 1398) rfl (m_eqT c359) ?_
          refine g_in eF13_law_1398 mx2635 ?_
          refine g_ch [(6, .int z356.1), (5, .int z348.1), (0, .ref 0), (1, .ref x1), (2, .ref x2), (3, .ref x3), (4, .int s.1)] [.int z348.1] (pc' := 1400) rfl rfl rfl ?_
          rcases m_ifd h with ⟨c360, h⟩ | ⟨c360, h⟩
          · refine g_ifcn (t := 1422) rfl (m_neF c360) ?_
            refine g_in eF13_law_1403 mx2635 ?_
            refine g_ch [(6, .int z356.1), (5, .int z348.1), (0, .ref 0), (1, .ref x1), (2, .ref x2), (3, .ref x3), (4, .int s.1)] [.int 0, .ref x3] (pc' := 1405) rfl rfl rfl ?_
            obtain ⟨v361, e362, h⟩ := m_bd h
            refine g_la e362 ?_
            refine g_ch [(6, .int z356.1), (5, .int z348.1), (0, .ref 0), (1, .ref x1), (2, .ref x2), (3, .ref x3), (4, .int s.1)] [.int z356.1, .long v361] (pc' := 1408) rfl rfl rfl ?_
            rcases m_ifd h with ⟨c363, h⟩ | ⟨c363, h⟩
            · refine g_ifc (t := 1415) rfl (m_eqT c363) ?_
              refine g_in eF13_law_1415 mx2635 ?_
              refine g_ch [(6, .int z356.1), (5, .int z348.1), (0, .ref 0), (1, .ref x1), (2, .ref x2), (3, .ref x3), (4, .int s.1)] [.long 0, .long v361] (pc' := 1416) rfl rfl rfl ?_
              refine g_end ?_
              exact r_lv (SF13_law_1416 x1 x2 x3 s.1 0 v361 z356.2 (K := K) k0 k1 h hK) rfl ⟨rfl, rfl, rfl, rfl, rfl, trivial⟩
            · refine g_ifcn (t := 1415) rfl (m_eqF c363) ?_
              refine g_in eF13_law_1411 mx2635 ?_
              refine g_ch [(6, .int z356.1), (5, .int z348.1), (0, .ref 0), (1, .ref x1), (2, .ref x2), (3, .ref x3), (4, .int s.1)] [.long 1, .long v361] (pc' := 1412) rfl rfl rfl ?_
              refine g_goto (t := 1416) rfl ?_
              exact r_lv (SF13_law_1416 x1 x2 x3 s.1 1 v361 z356.2 (K := K) k0 k1 h hK) rfl ⟨rfl, rfl, rfl, rfl, rfl, trivial⟩
          · refine g_ifc (t := 1422) rfl (m_neT c360) ?_
            refine g_in eF13_law_1422 mx2635 ?_
            refine g_goto (t := 3154) rfl ?_
            refine g_in eF13_law_3154 mx2635 ?_
            refine g_ch [(4, .int (s.1 + 6)), (6, .int z356.1), (5, .int z348.1), (0, .ref 0), (1, .ref x1), (2, .ref x2), (3, .ref x3)] [] (pc' := 3157) rfl rfl rfl ?_
            refine g_goto (t := 23) rfl ?_
            cases h
            exact r_lv (k1 ((s.1 + 6), z356.2) hK) rfl ⟨rfl, rfl, rfl, rfl, rfl, trivial⟩
        · refine g_ifn (t := 1398) rfl (m_eqF c359) ?_
          refine g_in eF13_law_1396 mx2635 ?_
          refine g_ch [(6, .int z356.1), (5, .int z348.1), (0, .ref 0), (1, .ref x1), (2, .ref x2), (3, .ref x3), (4, .int s.1)] [.int 0] (pc' := 1397) rfl rfl rfl ?_
          cases h
          rw [k0 _ hK]
          exact g_iret rfl (by decide +kernel)
      rcases m_ifd h with ⟨c364, hc364⟩ | ⟨c364, h⟩
      · subst c364
        have h := hc364
        refine g_sw (o := 1385) (t := 1425) e5 rfl rfl ?_
        refine g_in eF13_law_1425 mx2635 ?_
        refine g_ch [(0, .ref 0), (1, .ref x1), (2, .ref x2), (3, .ref x3), (4, .int s.1)] [.int (s.1 + 1), .ref 0, .ref x1] (pc' := 1431) rfl rfl rfl ?_
        obtain ⟨v365, e366, h⟩ := m_bd h
        refine g_sc e366 ?_
        refine g_ch [(0, .ref 0), (1, .ref x1), (2, .ref x2), (3, .ref x3), (4, .int s.1)] [.int (s.1 + 2), .ref 0, .int v365, .ref x1] (pc' := 1437) rfl rfl rfl ?_
        obtain ⟨v367, e368, h⟩ := m_bd h
        refine g_sc e368 ?_
        refine g_ch [(0, .ref 0), (1, .ref x1), (2, .ref x2), (3, .ref x3), (4, .int s.1)] [.ref x3, .int v367, .int v365, .ref x1] (pc' := 1439) rfl rfl rfl ?_
        obtain ⟨z370, e369, h⟩ := m_bd h
        refine g_call (v := some (.int z370.1)) (h := z370.2) (st' := [.int z370.1]) (D1 := 11) (as := [.ref x1, .int v365, .int v367, .ref x3]) (Or.inl rfl) q13_m212 (m_cs (as := [.ref x3, .int v367, .int v365, .ref x1]) (rest := []) q13_m212 jv2615 rfl rfl rfl rfl rfl) (by decide) (SF13_sail e369) rfl ?_
        refine g_ch [(5, .int z370.1), (0, .ref 0), (1, .ref x1), (2, .ref x2), (3, .ref x3), (4, .int s.1)] [.int (s.1 + 1), .ref 0, .ref x2] (pc' := 1450) rfl rfl rfl ?_
        obtain ⟨v371, e372, h⟩ := m_bd h
        refine g_sc e372 ?_
        refine g_ch [(5, .int z370.1), (0, .ref 0), (1, .ref x1), (2, .ref x2), (3, .ref x3), (4, .int s.1)] [.int (s.1 + 2), .ref 0, .int v371, .ref x2] (pc' := 1456) rfl rfl rfl ?_
        obtain ⟨v373, e374, h⟩ := m_bd h
        refine g_sc e374 ?_
        obtain ⟨z376, e375, h⟩ := m_bd h
        refine g_call (v := some (.int z376.1)) (h := z376.2) (st' := [.int z376.1]) (D1 := 2) (as := [.ref x2, .int v371, .int v373]) (Or.inr (Or.inl rfl)) q13_m214 (m_cv (as := [.int v373, .int v371]) (rest := []) (Or.inl rfl) q13_m214 jv2484 (OF12_sail e375) rfl rfl rfl rfl) (by decide) (SF12_sail e375) rfl ?_
        refine g_ch [(6, .int z376.1), (5, .int z370.1), (0, .ref 0), (1, .ref x1), (2, .ref x2), (3, .ref x3), (4, .int s.1)] [.ref x2] (pc' := 1463) rfl rfl rfl ?_
        obtain ⟨v378, e377, h⟩ := m_bd h
        refine g_call (v := some (.int v378)) (h := z376.2) (st' := [.int v378]) (D1 := 0) (as := [.ref x2]) (Or.inr (Or.inl rfl)) q13_m157 (m_cv (as := []) (rest := []) (Or.inl rfl) q13_m157 jv2400 (OF12_thrown e377) rfl rfl rfl rfl) (by decide) (SF12_thrown e377) rfl ?_
        refine g_ch [(6, .int z376.1), (5, .int z370.1), (0, .ref 0), (1, .ref x1), (2, .ref x2), (3, .ref x3), (4, .int s.1)] [.int z370.1, .int v378] (pc' := 1468) rfl rfl rfl ?_
        rcases m_ifd h with ⟨c379, h⟩ | ⟨c379, h⟩
        · refine g_if (t := 1473) rfl (m_eqT c379) ?_
          refine g_in eF13_law_1473 mx2635 ?_
          refine g_ch [(6, .int z376.1), (5, .int z370.1), (0, .ref 0), (1, .ref x1), (2, .ref x2), (3, .ref x3), (4, .int s.1)] [.int z370.1] (pc' := 1475) rfl rfl rfl ?_
          rcases m_ifd h with ⟨c380, h⟩ | ⟨c380, h⟩
          · refine g_ifcn (t := 1497) rfl (m_neF c380) ?_
            refine g_in eF13_law_1478 mx2635 ?_
            refine g_ch [(6, .int z376.1), (5, .int z370.1), (0, .ref 0), (1, .ref x1), (2, .ref x2), (3, .ref x3), (4, .int s.1)] [.int 0, .ref x3] (pc' := 1480) rfl rfl rfl ?_
            obtain ⟨v381, e382, h⟩ := m_bd h
            refine g_la e382 ?_
            refine g_ch [(6, .int z376.1), (5, .int z370.1), (0, .ref 0), (1, .ref x1), (2, .ref x2), (3, .ref x3), (4, .int s.1)] [.int z376.1, .long v381] (pc' := 1483) rfl rfl rfl ?_
            rcases m_ifd h with ⟨c383, h⟩ | ⟨c383, h⟩
            · refine g_ifc (t := 1490) rfl (m_eqT c383) ?_
              refine g_in eF13_law_1490 mx2635 ?_
              refine g_ch [(6, .int z376.1), (5, .int z370.1), (0, .ref 0), (1, .ref x1), (2, .ref x2), (3, .ref x3), (4, .int s.1)] [.long 0, .long v381] (pc' := 1491) rfl rfl rfl ?_
              refine g_end ?_
              exact r_lv (SF13_law_1491 x1 x2 x3 s.1 0 v381 z376.2 (K := K) k0 k1 h hK) rfl ⟨rfl, rfl, rfl, rfl, rfl, trivial⟩
            · refine g_ifcn (t := 1490) rfl (m_eqF c383) ?_
              refine g_in eF13_law_1486 mx2635 ?_
              refine g_ch [(6, .int z376.1), (5, .int z370.1), (0, .ref 0), (1, .ref x1), (2, .ref x2), (3, .ref x3), (4, .int s.1)] [.long 1, .long v381] (pc' := 1487) rfl rfl rfl ?_
              refine g_goto (t := 1491) rfl ?_
              exact r_lv (SF13_law_1491 x1 x2 x3 s.1 1 v381 z376.2 (K := K) k0 k1 h hK) rfl ⟨rfl, rfl, rfl, rfl, rfl, trivial⟩
          · refine g_ifc (t := 1497) rfl (m_neT c380) ?_
            refine g_in eF13_law_1497 mx2635 ?_
            refine g_goto (t := 3154) rfl ?_
            refine g_in eF13_law_3154 mx2635 ?_
            refine g_ch [(4, .int (s.1 + 6)), (6, .int z376.1), (5, .int z370.1), (0, .ref 0), (1, .ref x1), (2, .ref x2), (3, .ref x3)] [] (pc' := 3157) rfl rfl rfl ?_
            refine g_goto (t := 23) rfl ?_
            cases h
            exact r_lv (k1 ((s.1 + 6), z376.2) hK) rfl ⟨rfl, rfl, rfl, rfl, rfl, trivial⟩
        · refine g_ifn (t := 1473) rfl (m_eqF c379) ?_
          refine g_in eF13_law_1471 mx2635 ?_
          refine g_ch [(6, .int z376.1), (5, .int z370.1), (0, .ref 0), (1, .ref x1), (2, .ref x2), (3, .ref x3), (4, .int s.1)] [.int 0] (pc' := 1472) rfl rfl rfl ?_
          cases h
          rw [k0 _ hK]
          exact g_iret rfl (by decide +kernel)
      rcases m_ifd h with ⟨c384, hc384⟩ | ⟨c384, h⟩
      · subst c384
        have h := hc384
        refine g_sw (o := 1460) (t := 1500) e5 rfl rfl ?_
        refine g_in eF13_law_1500 mx2635 ?_
        refine g_ch [(0, .ref 0), (1, .ref x1), (2, .ref x2), (3, .ref x3), (4, .int s.1)] [.int (s.1 + 1), .ref 0, .ref x1] (pc' := 1506) rfl rfl rfl ?_
        obtain ⟨v385, e386, h⟩ := m_bd h
        refine g_sc e386 ?_
        refine g_ch [(0, .ref 0), (1, .ref x1), (2, .ref x2), (3, .ref x3), (4, .int s.1)] [.int (s.1 + 2), .ref 0, .int v385, .ref x1] (pc' := 1512) rfl rfl rfl ?_
        obtain ⟨v387, e388, h⟩ := m_bd h
        refine g_sc e388 ?_
        refine g_ch [(0, .ref 0), (1, .ref x1), (2, .ref x2), (3, .ref x3), (4, .int s.1)] [.ref x3, .int v387, .int v385, .ref x1] (pc' := 1514) rfl rfl rfl ?_
        obtain ⟨z390, e389, h⟩ := m_bd h
        refine g_call (v := some (.int z390.1)) (h := z390.2) (st' := [.int z390.1]) (D1 := 9) (as := [.ref x1, .int v385, .int v387, .ref x3]) (Or.inl rfl) q13_m215 (m_cs (as := [.ref x3, .int v387, .int v385, .ref x1]) (rest := []) q13_m215 jv2616 rfl rfl rfl rfl rfl) (by decide) (SF13_led e389) rfl ?_
        refine g_ch [(5, .int z390.1), (0, .ref 0), (1, .ref x1), (2, .ref x2), (3, .ref x3), (4, .int s.1)] [.int (s.1 + 1), .ref 0, .ref x2] (pc' := 1525) rfl rfl rfl ?_
        obtain ⟨v391, e392, h⟩ := m_bd h
        refine g_sc e392 ?_
        refine g_ch [(5, .int z390.1), (0, .ref 0), (1, .ref x1), (2, .ref x2), (3, .ref x3), (4, .int s.1)] [.int (s.1 + 2), .ref 0, .int v391, .ref x2] (pc' := 1531) rfl rfl rfl ?_
        obtain ⟨v393, e394, h⟩ := m_bd h
        refine g_sc e394 ?_
        obtain ⟨z396, e395, h⟩ := m_bd h
        refine g_call (v := some (.int z396.1)) (h := z396.2) (st' := [.int z396.1]) (D1 := 3) (as := [.ref x2, .int v391, .int v393]) (Or.inr (Or.inl rfl)) q13_m217 (m_cv (as := [.int v393, .int v391]) (rest := []) (Or.inl rfl) q13_m217 jv2485 (OF12_led e395) rfl rfl rfl rfl) (by decide) (SF12_led e395) rfl ?_
        refine g_ch [(6, .int z396.1), (5, .int z390.1), (0, .ref 0), (1, .ref x1), (2, .ref x2), (3, .ref x3), (4, .int s.1)] [.ref x2] (pc' := 1538) rfl rfl rfl ?_
        obtain ⟨v398, e397, h⟩ := m_bd h
        refine g_call (v := some (.int v398)) (h := z396.2) (st' := [.int v398]) (D1 := 0) (as := [.ref x2]) (Or.inr (Or.inl rfl)) q13_m157 (m_cv (as := []) (rest := []) (Or.inl rfl) q13_m157 jv2400 (OF12_thrown e397) rfl rfl rfl rfl) (by decide) (SF12_thrown e397) rfl ?_
        refine g_ch [(6, .int z396.1), (5, .int z390.1), (0, .ref 0), (1, .ref x1), (2, .ref x2), (3, .ref x3), (4, .int s.1)] [.int z390.1, .int v398] (pc' := 1543) rfl rfl rfl ?_
        rcases m_ifd h with ⟨c399, h⟩ | ⟨c399, h⟩
        · refine g_if (t := 1548) rfl (m_eqT c399) ?_
          refine g_in eF13_law_1548 mx2635 ?_
          refine g_ch [(6, .int z396.1), (5, .int z390.1), (0, .ref 0), (1, .ref x1), (2, .ref x2), (3, .ref x3), (4, .int s.1)] [.int z390.1] (pc' := 1550) rfl rfl rfl ?_
          rcases m_ifd h with ⟨c400, h⟩ | ⟨c400, h⟩
          · refine g_ifcn (t := 1565) rfl (m_neF c400) ?_
            refine g_in eF13_law_1553 mx2635 ?_
            refine g_ch [(6, .int z396.1), (5, .int z390.1), (0, .ref 0), (1, .ref x1), (2, .ref x2), (3, .ref x3), (4, .int s.1)] [.int 0, .ref x3] (pc' := 1555) rfl rfl rfl ?_
            obtain ⟨v401, e402, h⟩ := m_bd h
            refine g_la e402 ?_
            refine g_ch [(6, .int z396.1), (5, .int z390.1), (0, .ref 0), (1, .ref x1), (2, .ref x2), (3, .ref x3), (4, .int s.1)] [.int (lg_cmp v401 (m_i2l z396.1))] (pc' := 1560) rfl rfl rfl ?_
            rcases m_ifd h with ⟨c403, h⟩ | ⟨c403, h⟩
            · refine g_ifc (t := 1565) rfl (m_eqT c403) ?_
              refine g_in eF13_law_1565 mx2635 ?_
              refine g_goto (t := 3154) rfl ?_
              refine g_in eF13_law_3154 mx2635 ?_
              refine g_ch [(4, .int (s.1 + 6)), (6, .int z396.1), (5, .int z390.1), (0, .ref 0), (1, .ref x1), (2, .ref x2), (3, .ref x3)] [] (pc' := 3157) rfl rfl rfl ?_
              refine g_goto (t := 23) rfl ?_
              cases h
              exact r_lv (k1 ((s.1 + 6), z396.2) hK) rfl ⟨rfl, rfl, rfl, rfl, rfl, trivial⟩
            · refine g_ifcn (t := 1565) rfl (m_eqF c403) ?_
              refine g_in eF13_law_1563 mx2635 ?_
              refine g_ch [(6, .int z396.1), (5, .int z390.1), (0, .ref 0), (1, .ref x1), (2, .ref x2), (3, .ref x3), (4, .int s.1)] [.int 0] (pc' := 1564) rfl rfl rfl ?_
              cases h
              rw [k0 _ hK]
              exact g_iret rfl (by decide +kernel)
          · refine g_ifc (t := 1565) rfl (m_neT c400) ?_
            refine g_in eF13_law_1565 mx2635 ?_
            refine g_goto (t := 3154) rfl ?_
            refine g_in eF13_law_3154 mx2635 ?_
            refine g_ch [(4, .int (s.1 + 6)), (6, .int z396.1), (5, .int z390.1), (0, .ref 0), (1, .ref x1), (2, .ref x2), (3, .ref x3)] [] (pc' := 3157) rfl rfl rfl ?_
            refine g_goto (t := 23) rfl ?_
            cases h
            exact r_lv (k1 ((s.1 + 6), z396.2) hK) rfl ⟨rfl, rfl, rfl, rfl, rfl, trivial⟩
        · refine g_ifn (t := 1548) rfl (m_eqF c399) ?_
          refine g_in eF13_law_1546 mx2635 ?_
          refine g_ch [(6, .int z396.1), (5, .int z390.1), (0, .ref 0), (1, .ref x1), (2, .ref x2), (3, .ref x3), (4, .int s.1)] [.int 0] (pc' := 1547) rfl rfl rfl ?_
          cases h
          rw [k0 _ hK]
          exact g_iret rfl (by decide +kernel)
      rcases m_ifd h with ⟨c404, hc404⟩ | ⟨c404, h⟩
      · subst c404
        have h := hc404
        refine g_sw (o := 1528) (t := 1568) e5 rfl rfl ?_
        refine g_in eF13_law_1568 mx2635 ?_
        refine g_ch [(0, .ref 0), (1, .ref x1), (2, .ref x2), (3, .ref x3), (4, .int s.1)] [.int (s.1 + 1), .ref 0, .ref x1] (pc' := 1574) rfl rfl rfl ?_
        obtain ⟨v405, e406, h⟩ := m_bd h
        refine g_sc e406 ?_
        refine g_ch [(0, .ref 0), (1, .ref x1), (2, .ref x2), (3, .ref x3), (4, .int s.1)] [.int (s.1 + 2), .ref 0, .int v405, .ref x1] (pc' := 1580) rfl rfl rfl ?_
        obtain ⟨v407, e408, h⟩ := m_bd h
        refine g_sc e408 ?_
        refine g_ch [(0, .ref 0), (1, .ref x1), (2, .ref x2), (3, .ref x3), (4, .int s.1)] [.int (s.1 + 3), .ref 0, .int v407, .int v405, .ref x1] (pc' := 1586) rfl rfl rfl ?_
        obtain ⟨v409, e410, h⟩ := m_bd h
        refine g_sc e410 ?_
        obtain ⟨z412, e411, h⟩ := m_bd h
        refine g_call (v := some (.int z412.1)) (h := z412.2) (st' := [.int z412.1]) (D1 := 9) (as := [.ref x1, .int v405, .int v407, .int v409]) (Or.inl rfl) q13_m218 (m_cs (as := [.int v409, .int v407, .int v405, .ref x1]) (rest := []) q13_m218 jv2617 rfl rfl rfl rfl rfl) (by decide) (SF13_need e411) rfl ?_
        refine g_ch [(5, .int z412.1), (0, .ref 0), (1, .ref x1), (2, .ref x2), (3, .ref x3), (4, .int s.1)] [.int (s.1 + 1), .ref 0, .ref x2] (pc' := 1598) rfl rfl rfl ?_
        obtain ⟨v413, e414, h⟩ := m_bd h
        refine g_sc e414 ?_
        refine g_ch [(5, .int z412.1), (0, .ref 0), (1, .ref x1), (2, .ref x2), (3, .ref x3), (4, .int s.1)] [.int (s.1 + 2), .ref 0, .int v413, .ref x2] (pc' := 1604) rfl rfl rfl ?_
        obtain ⟨v415, e416, h⟩ := m_bd h
        refine g_sc e416 ?_
        refine g_ch [(5, .int z412.1), (0, .ref 0), (1, .ref x1), (2, .ref x2), (3, .ref x3), (4, .int s.1)] [.int (s.1 + 3), .ref 0, .int v415, .int v413, .ref x2] (pc' := 1610) rfl rfl rfl ?_
        obtain ⟨v417, e418, h⟩ := m_bd h
        refine g_sc e418 ?_
        obtain ⟨h420, e419, h⟩ := m_bd h
        refine g_call (v := none) (h := h420) (st' := []) (D1 := 2) (as := [.ref x2, .int v413, .int v415, .int v417]) (Or.inr (Or.inl rfl)) q13_m221 (m_cv (as := [.int v417, .int v415, .int v413]) (rest := []) (Or.inl rfl) q13_m221 jv2424 (OF12_need e419) rfl rfl rfl rfl) (by decide) (SF12_need e419) rfl ?_
        refine g_ch [(5, .int z412.1), (0, .ref 0), (1, .ref x1), (2, .ref x2), (3, .ref x3), (4, .int s.1)] [.ref x2] (pc' := 1615) rfl rfl rfl ?_
        obtain ⟨v422, e421, h⟩ := m_bd h
        refine g_call (v := some (.int v422)) (h := h420) (st' := [.int v422]) (D1 := 0) (as := [.ref x2]) (Or.inr (Or.inl rfl)) q13_m157 (m_cv (as := []) (rest := []) (Or.inl rfl) q13_m157 jv2400 (OF12_thrown e421) rfl rfl rfl rfl) (by decide) (SF12_thrown e421) rfl ?_
        refine g_ch [(5, .int z412.1), (0, .ref 0), (1, .ref x1), (2, .ref x2), (3, .ref x3), (4, .int s.1)] [.int z412.1, .int v422] (pc' := 1620) rfl rfl rfl ?_
        rcases m_ifd h with ⟨c423, h⟩ | ⟨c423, h⟩
        · refine g_if (t := 1625) rfl (m_eqT c423) ?_
          refine g_in eF13_law_1625 mx2635 ?_
          refine g_goto (t := 3154) rfl ?_
          refine g_in eF13_law_3154 mx2635 ?_
          refine g_ch [(4, .int (s.1 + 6)), (5, .int z412.1), (0, .ref 0), (1, .ref x1), (2, .ref x2), (3, .ref x3)] [] (pc' := 3157) rfl rfl rfl ?_
          refine g_goto (t := 23) rfl ?_
          cases h
          exact r_lv (k1 ((s.1 + 6), h420) hK) rfl ⟨rfl, rfl, rfl, rfl, rfl, trivial⟩
        · refine g_ifn (t := 1625) rfl (m_eqF c423) ?_
          refine g_in eF13_law_1623 mx2635 ?_
          refine g_ch [(5, .int z412.1), (0, .ref 0), (1, .ref x1), (2, .ref x2), (3, .ref x3), (4, .int s.1)] [.int 0] (pc' := 1624) rfl rfl rfl ?_
          cases h
          rw [k0 _ hK]
          exact g_iret rfl (by decide +kernel)
      rcases m_ifd h with ⟨c424, hc424⟩ | ⟨c424, h⟩
      · subst c424
        have h := hc424
        refine g_sw (o := 1588) (t := 1628) e5 rfl rfl ?_
        refine g_in eF13_law_1628 mx2635 ?_
        refine g_ch [(0, .ref 0), (1, .ref x1), (2, .ref x2), (3, .ref x3), (4, .int s.1)] [.int (s.1 + 1), .ref 0, .ref x1] (pc' := 1634) rfl rfl rfl ?_
        obtain ⟨v425, e426, h⟩ := m_bd h
        refine g_sc e426 ?_
        refine g_ch [(0, .ref 0), (1, .ref x1), (2, .ref x2), (3, .ref x3), (4, .int s.1)] [.ref x3, .int v425, .ref x1] (pc' := 1636) rfl rfl rfl ?_
        obtain ⟨z428, e427, h⟩ := m_bd h
        refine g_call (v := some (.int z428.1)) (h := z428.2) (st' := [.int z428.1]) (D1 := 11) (as := [.ref x1, .int v425, .ref x3]) (Or.inl rfl) q13_m222 (m_cs (as := [.ref x3, .int v425, .ref x1]) (rest := []) q13_m222 jv2618 rfl rfl rfl rfl rfl) (by decide) (SF13_weeks e427) rfl ?_
        refine g_ch [(5, .int z428.1), (0, .ref 0), (1, .ref x1), (2, .ref x2), (3, .ref x3), (4, .int s.1)] [.int (s.1 + 1), .ref 0, .ref x2] (pc' := 1647) rfl rfl rfl ?_
        obtain ⟨v429, e430, h⟩ := m_bd h
        refine g_sc e430 ?_
        obtain ⟨z432, e431, h⟩ := m_bd h
        refine g_call (v := some (.int z432.1)) (h := z432.2) (st' := [.int z432.1]) (D1 := 10) (as := [.ref x2, .int v429]) (Or.inr (Or.inl rfl)) q13_m224 (m_cv (as := [.int v429]) (rest := []) (Or.inl rfl) q13_m224 jv2493 (OF12_weeks e431) rfl rfl rfl rfl) (by decide) (SF12_weeks e431) rfl ?_
        refine g_ch [(6, .int z432.1), (5, .int z428.1), (0, .ref 0), (1, .ref x1), (2, .ref x2), (3, .ref x3), (4, .int s.1)] [.ref x2] (pc' := 1654) rfl rfl rfl ?_
        obtain ⟨v434, e433, h⟩ := m_bd h
        refine g_call (v := some (.int v434)) (h := z432.2) (st' := [.int v434]) (D1 := 0) (as := [.ref x2]) (Or.inr (Or.inl rfl)) q13_m157 (m_cv (as := []) (rest := []) (Or.inl rfl) q13_m157 jv2400 (OF12_thrown e433) rfl rfl rfl rfl) (by decide) (SF12_thrown e433) rfl ?_
        refine g_ch [(6, .int z432.1), (5, .int z428.1), (0, .ref 0), (1, .ref x1), (2, .ref x2), (3, .ref x3), (4, .int s.1)] [.int z428.1, .int v434] (pc' := 1659) rfl rfl rfl ?_
        rcases m_ifd h with ⟨c435, h⟩ | ⟨c435, h⟩
        · refine g_if (t := 1664) rfl (m_eqT c435) ?_
          refine g_in eF13_law_1664 mx2635 ?_
          refine g_ch [(6, .int z432.1), (5, .int z428.1), (0, .ref 0), (1, .ref x1), (2, .ref x2), (3, .ref x3), (4, .int s.1)] [.int z428.1] (pc' := 1666) rfl rfl rfl ?_
          rcases m_ifd h with ⟨c436, h⟩ | ⟨c436, h⟩
          · refine g_ifcn (t := 1681) rfl (m_neF c436) ?_
            refine g_in eF13_law_1669 mx2635 ?_
            refine g_ch [(6, .int z432.1), (5, .int z428.1), (0, .ref 0), (1, .ref x1), (2, .ref x2), (3, .ref x3), (4, .int s.1)] [.int 0, .ref x3] (pc' := 1671) rfl rfl rfl ?_
            obtain ⟨v437, e438, h⟩ := m_bd h
            refine g_la e438 ?_
            refine g_ch [(6, .int z432.1), (5, .int z428.1), (0, .ref 0), (1, .ref x1), (2, .ref x2), (3, .ref x3), (4, .int s.1)] [.int (lg_cmp v437 (m_i2l z432.1))] (pc' := 1676) rfl rfl rfl ?_
            rcases m_ifd h with ⟨c439, h⟩ | ⟨c439, h⟩
            · refine g_ifc (t := 1681) rfl (m_eqT c439) ?_
              refine g_in eF13_law_1681 mx2635 ?_
              refine g_goto (t := 3154) rfl ?_
              refine g_in eF13_law_3154 mx2635 ?_
              refine g_ch [(4, .int (s.1 + 6)), (6, .int z432.1), (5, .int z428.1), (0, .ref 0), (1, .ref x1), (2, .ref x2), (3, .ref x3)] [] (pc' := 3157) rfl rfl rfl ?_
              refine g_goto (t := 23) rfl ?_
              cases h
              exact r_lv (k1 ((s.1 + 6), z432.2) hK) rfl ⟨rfl, rfl, rfl, rfl, rfl, trivial⟩
            · refine g_ifcn (t := 1681) rfl (m_eqF c439) ?_
              refine g_in eF13_law_1679 mx2635 ?_
              refine g_ch [(6, .int z432.1), (5, .int z428.1), (0, .ref 0), (1, .ref x1), (2, .ref x2), (3, .ref x3), (4, .int s.1)] [.int 0] (pc' := 1680) rfl rfl rfl ?_
              cases h
              rw [k0 _ hK]
              exact g_iret rfl (by decide +kernel)
          · refine g_ifc (t := 1681) rfl (m_neT c436) ?_
            refine g_in eF13_law_1681 mx2635 ?_
            refine g_goto (t := 3154) rfl ?_
            refine g_in eF13_law_3154 mx2635 ?_
            refine g_ch [(4, .int (s.1 + 6)), (6, .int z432.1), (5, .int z428.1), (0, .ref 0), (1, .ref x1), (2, .ref x2), (3, .ref x3)] [] (pc' := 3157) rfl rfl rfl ?_
            refine g_goto (t := 23) rfl ?_
            cases h
            exact r_lv (k1 ((s.1 + 6), z432.2) hK) rfl ⟨rfl, rfl, rfl, rfl, rfl, trivial⟩
        · refine g_ifn (t := 1664) rfl (m_eqF c435) ?_
          refine g_in eF13_law_1662 mx2635 ?_
          refine g_ch [(6, .int z432.1), (5, .int z428.1), (0, .ref 0), (1, .ref x1), (2, .ref x2), (3, .ref x3), (4, .int s.1)] [.int 0] (pc' := 1663) rfl rfl rfl ?_
          cases h
          rw [k0 _ hK]
          exact g_iret rfl (by decide +kernel)
      rcases m_ifd h with ⟨c440, hc440⟩ | ⟨c440, h⟩
      · subst c440
        have h := hc440
        refine g_sw (o := 1644) (t := 1684) e5 rfl rfl ?_
        refine g_in eF13_law_1684 mx2635 ?_
        refine g_ch [(0, .ref 0), (1, .ref x1), (2, .ref x2), (3, .ref x3), (4, .int s.1)] [.int (s.1 + 1), .ref 0, .ref x1] (pc' := 1690) rfl rfl rfl ?_
        obtain ⟨v441, e442, h⟩ := m_bd h
        refine g_sc e442 ?_
        refine g_ch [(0, .ref 0), (1, .ref x1), (2, .ref x2), (3, .ref x3), (4, .int s.1)] [.int (s.1 + 2), .ref 0, .int v441, .ref x1] (pc' := 1696) rfl rfl rfl ?_
        obtain ⟨v443, e444, h⟩ := m_bd h
        refine g_sc e444 ?_
        refine g_ch [(0, .ref 0), (1, .ref x1), (2, .ref x2), (3, .ref x3), (4, .int s.1)] [.int (s.1 + 3), .ref 0, .int v443, .int v441, .ref x1] (pc' := 1702) rfl rfl rfl ?_
        obtain ⟨v445, e446, h⟩ := m_bd h
        refine g_sc e446 ?_
        refine g_ch [(0, .ref 0), (1, .ref x1), (2, .ref x2), (3, .ref x3), (4, .int s.1)] [.int (s.1 + 4), .ref 0, .int v445, .int v443, .int v441, .ref x1] (pc' := 1708) rfl rfl rfl ?_
        obtain ⟨v447, e448, h⟩ := m_bd h
        refine g_sc e448 ?_
        rcases m_ifd h with ⟨c449, h⟩ | ⟨c449, h⟩
        · refine g_ifc (t := 1716) rfl (m_eqT c449) ?_
          refine g_in eF13_law_1716 mx2635 ?_
          refine g_ch [(0, .ref 0), (1, .ref x1), (2, .ref x2), (3, .ref x3), (4, .int s.1)] [.int 0, .int v445, .int v443, .int v441, .ref x1] (pc' := 1717) rfl rfl rfl ?_
          refine g_end ?_
          exact r_lv (SF13_law_1717 x1 x2 x3 s.1 0 v445 v443 v441 x1 s.2 (K := K) k0 k1 h hK) rfl ⟨rfl, rfl, rfl, rfl, rfl, trivial⟩
        · refine g_ifcn (t := 1716) rfl (m_eqF c449) ?_
          refine g_in eF13_law_1712 mx2635 ?_
          refine g_ch [(0, .ref 0), (1, .ref x1), (2, .ref x2), (3, .ref x3), (4, .int s.1)] [.int 1, .int v445, .int v443, .int v441, .ref x1] (pc' := 1713) rfl rfl rfl ?_
          refine g_goto (t := 1717) rfl ?_
          exact r_lv (SF13_law_1717 x1 x2 x3 s.1 1 v445 v443 v441 x1 s.2 (K := K) k0 k1 h hK) rfl ⟨rfl, rfl, rfl, rfl, rfl, trivial⟩
      rcases m_ifd h with ⟨c450, hc450⟩ | ⟨c450, h⟩
      · subst c450
        have h := hc450
        refine g_sw (o := 1752) (t := 1792) e5 rfl rfl ?_
        refine g_in eF13_law_1792 mx2635 ?_
        refine g_ch [(0, .ref 0), (1, .ref x1), (2, .ref x2), (3, .ref x3), (4, .int s.1)] [.int (s.1 + 1), .ref 0, .ref x1] (pc' := 1798) rfl rfl rfl ?_
        obtain ⟨v451, e452, h⟩ := m_bd h
        refine g_sc e452 ?_
        refine g_ch [(0, .ref 0), (1, .ref x1), (2, .ref x2), (3, .ref x3), (4, .int s.1)] [.int (s.1 + 2), .ref 0, .int v451, .ref x1] (pc' := 1804) rfl rfl rfl ?_
        obtain ⟨v453, e454, h⟩ := m_bd h
        refine g_sc e454 ?_
        refine g_ch [(0, .ref 0), (1, .ref x1), (2, .ref x2), (3, .ref x3), (4, .int s.1)] [.int (s.1 + 3), .ref 0, .int v453, .int v451, .ref x1] (pc' := 1810) rfl rfl rfl ?_
        obtain ⟨v455, e456, h⟩ := m_bd h
        refine g_sc e456 ?_
        refine g_ch [(0, .ref 0), (1, .ref x1), (2, .ref x2), (3, .ref x3), (4, .int s.1)] [.ref x3, .int v455, .int v453, .int v451, .ref x1] (pc' := 1812) rfl rfl rfl ?_
        obtain ⟨z458, e457, h⟩ := m_bd h
        refine g_call (v := some (.int z458.1)) (h := z458.2) (st' := [.int z458.1]) (D1 := 9) (as := [.ref x1, .int v451, .int v453, .int v455, .ref x3]) (Or.inl rfl) q13_m229 (m_cs (as := [.ref x3, .int v455, .int v453, .int v451, .ref x1]) (rest := []) q13_m229 jv2620 rfl rfl rfl rfl rfl) (by decide) (SF13_back e457) rfl ?_
        refine g_ch [(5, .int z458.1), (0, .ref 0), (1, .ref x1), (2, .ref x2), (3, .ref x3), (4, .int s.1)] [.int (s.1 + 1), .ref 0, .ref x2] (pc' := 1823) rfl rfl rfl ?_
        obtain ⟨v459, e460, h⟩ := m_bd h
        refine g_sc e460 ?_
        refine g_ch [(5, .int z458.1), (0, .ref 0), (1, .ref x1), (2, .ref x2), (3, .ref x3), (4, .int s.1)] [.int (s.1 + 2), .ref 0, .int v459, .ref x2] (pc' := 1829) rfl rfl rfl ?_
        obtain ⟨v461, e462, h⟩ := m_bd h
        refine g_sc e462 ?_
        refine g_ch [(5, .int z458.1), (0, .ref 0), (1, .ref x1), (2, .ref x2), (3, .ref x3), (4, .int s.1)] [.int (s.1 + 3), .ref 0, .int v461, .int v459, .ref x2] (pc' := 1835) rfl rfl rfl ?_
        obtain ⟨v463, e464, h⟩ := m_bd h
        refine g_sc e464 ?_
        obtain ⟨z466, e465, h⟩ := m_bd h
        refine g_call (v := some (.int z466.1)) (h := z466.2) (st' := [.int z466.1]) (D1 := 2) (as := [.ref x2, .int v459, .int v461, .int v463]) (Or.inr (Or.inl rfl)) q13_m231 (m_cv (as := [.int v463, .int v461, .int v459]) (rest := []) (Or.inl rfl) q13_m231 jv2434 (OF12_back e465) rfl rfl rfl rfl) (by decide) (SF12_back e465) rfl ?_
        refine g_ch [(6, .int z466.1), (5, .int z458.1), (0, .ref 0), (1, .ref x1), (2, .ref x2), (3, .ref x3), (4, .int s.1)] [.ref x2] (pc' := 1842) rfl rfl rfl ?_
        obtain ⟨v468, e467, h⟩ := m_bd h
        refine g_call (v := some (.int v468)) (h := z466.2) (st' := [.int v468]) (D1 := 0) (as := [.ref x2]) (Or.inr (Or.inl rfl)) q13_m157 (m_cv (as := []) (rest := []) (Or.inl rfl) q13_m157 jv2400 (OF12_thrown e467) rfl rfl rfl rfl) (by decide) (SF12_thrown e467) rfl ?_
        refine g_ch [(6, .int z466.1), (5, .int z458.1), (0, .ref 0), (1, .ref x1), (2, .ref x2), (3, .ref x3), (4, .int s.1)] [.int z458.1, .int v468] (pc' := 1847) rfl rfl rfl ?_
        rcases m_ifd h with ⟨c469, h⟩ | ⟨c469, h⟩
        · refine g_if (t := 1852) rfl (m_eqT c469) ?_
          refine g_in eF13_law_1852 mx2635 ?_
          refine g_ch [(6, .int z466.1), (5, .int z458.1), (0, .ref 0), (1, .ref x1), (2, .ref x2), (3, .ref x3), (4, .int s.1)] [.int z458.1] (pc' := 1854) rfl rfl rfl ?_
          rcases m_ifd h with ⟨c470, h⟩ | ⟨c470, h⟩
          · refine g_ifcn (t := 1869) rfl (m_neF c470) ?_
            refine g_in eF13_law_1857 mx2635 ?_
            refine g_ch [(6, .int z466.1), (5, .int z458.1), (0, .ref 0), (1, .ref x1), (2, .ref x2), (3, .ref x3), (4, .int s.1)] [.int 0, .ref x3] (pc' := 1859) rfl rfl rfl ?_
            obtain ⟨v471, e472, h⟩ := m_bd h
            refine g_la e472 ?_
            refine g_ch [(6, .int z466.1), (5, .int z458.1), (0, .ref 0), (1, .ref x1), (2, .ref x2), (3, .ref x3), (4, .int s.1)] [.int (lg_cmp v471 (m_i2l z466.1))] (pc' := 1864) rfl rfl rfl ?_
            rcases m_ifd h with ⟨c473, h⟩ | ⟨c473, h⟩
            · refine g_ifc (t := 1869) rfl (m_eqT c473) ?_
              refine g_in eF13_law_1869 mx2635 ?_
              refine g_goto (t := 3154) rfl ?_
              refine g_in eF13_law_3154 mx2635 ?_
              refine g_ch [(4, .int (s.1 + 6)), (6, .int z466.1), (5, .int z458.1), (0, .ref 0), (1, .ref x1), (2, .ref x2), (3, .ref x3)] [] (pc' := 3157) rfl rfl rfl ?_
              refine g_goto (t := 23) rfl ?_
              cases h
              exact r_lv (k1 ((s.1 + 6), z466.2) hK) rfl ⟨rfl, rfl, rfl, rfl, rfl, trivial⟩
            · refine g_ifcn (t := 1869) rfl (m_eqF c473) ?_
              refine g_in eF13_law_1867 mx2635 ?_
              refine g_ch [(6, .int z466.1), (5, .int z458.1), (0, .ref 0), (1, .ref x1), (2, .ref x2), (3, .ref x3), (4, .int s.1)] [.int 0] (pc' := 1868) rfl rfl rfl ?_
              cases h
              rw [k0 _ hK]
              exact g_iret rfl (by decide +kernel)
          · refine g_ifc (t := 1869) rfl (m_neT c470) ?_
            refine g_in eF13_law_1869 mx2635 ?_
            refine g_goto (t := 3154) rfl ?_
            refine g_in eF13_law_3154 mx2635 ?_
            refine g_ch [(4, .int (s.1 + 6)), (6, .int z466.1), (5, .int z458.1), (0, .ref 0), (1, .ref x1), (2, .ref x2), (3, .ref x3)] [] (pc' := 3157) rfl rfl rfl ?_
            refine g_goto (t := 23) rfl ?_
            cases h
            exact r_lv (k1 ((s.1 + 6), z466.2) hK) rfl ⟨rfl, rfl, rfl, rfl, rfl, trivial⟩
        · refine g_ifn (t := 1852) rfl (m_eqF c469) ?_
          refine g_in eF13_law_1850 mx2635 ?_
          refine g_ch [(6, .int z466.1), (5, .int z458.1), (0, .ref 0), (1, .ref x1), (2, .ref x2), (3, .ref x3), (4, .int s.1)] [.int 0] (pc' := 1851) rfl rfl rfl ?_
          cases h
          rw [k0 _ hK]
          exact g_iret rfl (by decide +kernel)
      rcases m_ifd h with ⟨c474, hc474⟩ | ⟨c474, h⟩
      · subst c474
        have h := hc474
        refine g_sw (o := 1832) (t := 1872) e5 rfl rfl ?_
        refine g_in eF13_law_1872 mx2635 ?_
        refine g_ch [(0, .ref 0), (1, .ref x1), (2, .ref x2), (3, .ref x3), (4, .int s.1)] [.int (s.1 + 1), .ref 0, .ref x1] (pc' := 1878) rfl rfl rfl ?_
        obtain ⟨v475, e476, h⟩ := m_bd h
        refine g_sc e476 ?_
        refine g_ch [(0, .ref 0), (1, .ref x1), (2, .ref x2), (3, .ref x3), (4, .int s.1)] [.int (s.1 + 2), .ref 0, .int v475, .ref x1] (pc' := 1884) rfl rfl rfl ?_
        obtain ⟨v477, e478, h⟩ := m_bd h
        refine g_sc e478 ?_
        refine g_ch [(0, .ref 0), (1, .ref x1), (2, .ref x2), (3, .ref x3), (4, .int s.1)] [.ref x3, .int v477, .int v475, .ref x1] (pc' := 1886) rfl rfl rfl ?_
        obtain ⟨z480, e479, h⟩ := m_bd h
        refine g_call (v := some (.int z480.1)) (h := z480.2) (st' := [.int z480.1]) (D1 := 9) (as := [.ref x1, .int v475, .int v477, .ref x3]) (Or.inl rfl) q13_m232 (m_cs (as := [.ref x3, .int v477, .int v475, .ref x1]) (rest := []) q13_m232 jv2621 rfl rfl rfl rfl rfl) (by decide) (SF13_land e479) rfl ?_
        refine g_ch [(5, .int z480.1), (0, .ref 0), (1, .ref x1), (2, .ref x2), (3, .ref x3), (4, .int s.1)] [.int (s.1 + 1), .ref 0, .ref x2] (pc' := 1897) rfl rfl rfl ?_
        obtain ⟨v481, e482, h⟩ := m_bd h
        refine g_sc e482 ?_
        refine g_ch [(5, .int z480.1), (0, .ref 0), (1, .ref x1), (2, .ref x2), (3, .ref x3), (4, .int s.1)] [.int (s.1 + 2), .ref 0, .int v481, .ref x2] (pc' := 1903) rfl rfl rfl ?_
        obtain ⟨v483, e484, h⟩ := m_bd h
        refine g_sc e484 ?_
        obtain ⟨z486, e485, h⟩ := m_bd h
        refine g_call (v := some (.long z486.1)) (h := z486.2) (st' := [.long z486.1]) (D1 := 8) (as := [.ref x2, .int v481, .int v483]) (Or.inr (Or.inl rfl)) q13_m234 (m_cv (as := [.int v483, .int v481]) (rest := []) (Or.inl rfl) q13_m234 jv2501 (OF12_land e485) rfl rfl rfl rfl) (by decide) (SF12_land e485) rfl ?_
        refine g_ch [(6, .long z486.1), (5, .int z480.1), (0, .ref 0), (1, .ref x1), (2, .ref x2), (3, .ref x3), (4, .int s.1)] [.ref x2] (pc' := 1910) rfl rfl rfl ?_
        obtain ⟨v488, e487, h⟩ := m_bd h
        refine g_call (v := some (.int v488)) (h := z486.2) (st' := [.int v488]) (D1 := 0) (as := [.ref x2]) (Or.inr (Or.inl rfl)) q13_m157 (m_cv (as := []) (rest := []) (Or.inl rfl) q13_m157 jv2400 (OF12_thrown e487) rfl rfl rfl rfl) (by decide) (SF12_thrown e487) rfl ?_
        refine g_ch [(6, .long z486.1), (5, .int z480.1), (0, .ref 0), (1, .ref x1), (2, .ref x2), (3, .ref x3), (4, .int s.1)] [.int z480.1, .int v488] (pc' := 1915) rfl rfl rfl ?_
        rcases m_ifd h with ⟨c489, h⟩ | ⟨c489, h⟩
        · refine g_if (t := 1920) rfl (m_eqT c489) ?_
          refine g_in eF13_law_1920 mx2635 ?_
          refine g_ch [(6, .long z486.1), (5, .int z480.1), (0, .ref 0), (1, .ref x1), (2, .ref x2), (3, .ref x3), (4, .int s.1)] [.int z480.1] (pc' := 1922) rfl rfl rfl ?_
          rcases m_ifd h with ⟨c490, h⟩ | ⟨c490, h⟩
          · refine g_ifcn (t := 1936) rfl (m_neF c490) ?_
            refine g_in eF13_law_1925 mx2635 ?_
            refine g_ch [(6, .long z486.1), (5, .int z480.1), (0, .ref 0), (1, .ref x1), (2, .ref x2), (3, .ref x3), (4, .int s.1)] [.int 0, .ref x3] (pc' := 1927) rfl rfl rfl ?_
            obtain ⟨v491, e492, h⟩ := m_bd h
            refine g_la e492 ?_
            refine g_ch [(6, .long z486.1), (5, .int z480.1), (0, .ref 0), (1, .ref x1), (2, .ref x2), (3, .ref x3), (4, .int s.1)] [.int (lg_cmp v491 z486.1)] (pc' := 1931) rfl rfl rfl ?_
            rcases m_ifd h with ⟨c493, h⟩ | ⟨c493, h⟩
            · refine g_ifc (t := 1936) rfl (m_eqT c493) ?_
              refine g_in eF13_law_1936 mx2635 ?_
              refine g_goto (t := 3154) rfl ?_
              refine g_in eF13_law_3154 mx2635 ?_
              refine g_ch [(4, .int (s.1 + 6)), (6, .long z486.1), (5, .int z480.1), (0, .ref 0), (1, .ref x1), (2, .ref x2), (3, .ref x3)] [] (pc' := 3157) rfl rfl rfl ?_
              refine g_goto (t := 23) rfl ?_
              cases h
              exact r_lv (k1 ((s.1 + 6), z486.2) hK) rfl ⟨rfl, rfl, rfl, rfl, rfl, trivial⟩
            · refine g_ifcn (t := 1936) rfl (m_eqF c493) ?_
              refine g_in eF13_law_1934 mx2635 ?_
              refine g_ch [(6, .long z486.1), (5, .int z480.1), (0, .ref 0), (1, .ref x1), (2, .ref x2), (3, .ref x3), (4, .int s.1)] [.int 0] (pc' := 1935) rfl rfl rfl ?_
              cases h
              rw [k0 _ hK]
              exact g_iret rfl (by decide +kernel)
          · refine g_ifc (t := 1936) rfl (m_neT c490) ?_
            refine g_in eF13_law_1936 mx2635 ?_
            refine g_goto (t := 3154) rfl ?_
            refine g_in eF13_law_3154 mx2635 ?_
            refine g_ch [(4, .int (s.1 + 6)), (6, .long z486.1), (5, .int z480.1), (0, .ref 0), (1, .ref x1), (2, .ref x2), (3, .ref x3)] [] (pc' := 3157) rfl rfl rfl ?_
            refine g_goto (t := 23) rfl ?_
            cases h
            exact r_lv (k1 ((s.1 + 6), z486.2) hK) rfl ⟨rfl, rfl, rfl, rfl, rfl, trivial⟩
        · refine g_ifn (t := 1920) rfl (m_eqF c489) ?_
          refine g_in eF13_law_1918 mx2635 ?_
          refine g_ch [(6, .long z486.1), (5, .int z480.1), (0, .ref 0), (1, .ref x1), (2, .ref x2), (3, .ref x3), (4, .int s.1)] [.int 0] (pc' := 1919) rfl rfl rfl ?_
          cases h
          rw [k0 _ hK]
          exact g_iret rfl (by decide +kernel)
      rcases m_ifd h with ⟨c494, hc494⟩ | ⟨c494, h⟩
      · subst c494
        have h := hc494
        refine g_sw (o := 1899) (t := 1939) e5 rfl rfl ?_
        refine g_in eF13_law_1939 mx2635 ?_
        refine g_ch [(0, .ref 0), (1, .ref x1), (2, .ref x2), (3, .ref x3), (4, .int s.1)] [.int (s.1 + 1), .ref 0, .ref x1] (pc' := 1945) rfl rfl rfl ?_
        obtain ⟨v495, e496, h⟩ := m_bd h
        refine g_sc e496 ?_
        refine g_ch [(0, .ref 0), (1, .ref x1), (2, .ref x2), (3, .ref x3), (4, .int s.1)] [.int (s.1 + 2), .ref 0, .int v495, .ref x1] (pc' := 1951) rfl rfl rfl ?_
        obtain ⟨v497, e498, h⟩ := m_bd h
        refine g_sc e498 ?_
        refine g_ch [(0, .ref 0), (1, .ref x1), (2, .ref x2), (3, .ref x3), (4, .int s.1)] [.int (s.1 + 3), .ref 0, .int v497, .int v495, .ref x1] (pc' := 1957) rfl rfl rfl ?_
        obtain ⟨v499, e500, h⟩ := m_bd h
        refine g_sc e500 ?_
        refine g_ch [(0, .ref 0), (1, .ref x1), (2, .ref x2), (3, .ref x3), (4, .int s.1)] [.ref x3, .int v499, .int v497, .int v495, .ref x1] (pc' := 1959) rfl rfl rfl ?_
        obtain ⟨z502, e501, h⟩ := m_bd h
        refine g_call (v := some (.int z502.1)) (h := z502.2) (st' := [.int z502.1]) (D1 := 9) (as := [.ref x1, .int v495, .int v497, .int v499, .ref x3]) (Or.inl rfl) q13_m235 (m_cs (as := [.ref x3, .int v499, .int v497, .int v495, .ref x1]) (rest := []) q13_m235 jv2622 rfl rfl rfl rfl rfl) (by decide) (SF13_balance e501) rfl ?_
        refine g_ch [(5, .int z502.1), (0, .ref 0), (1, .ref x1), (2, .ref x2), (3, .ref x3), (4, .int s.1)] [.int (s.1 + 1), .ref 0, .ref x2] (pc' := 1970) rfl rfl rfl ?_
        obtain ⟨v503, e504, h⟩ := m_bd h
        refine g_sc e504 ?_
        refine g_ch [(5, .int z502.1), (0, .ref 0), (1, .ref x1), (2, .ref x2), (3, .ref x3), (4, .int s.1)] [.int (s.1 + 2), .ref 0, .int v503, .ref x2] (pc' := 1976) rfl rfl rfl ?_
        obtain ⟨v505, e506, h⟩ := m_bd h
        refine g_sc e506 ?_
        refine g_ch [(5, .int z502.1), (0, .ref 0), (1, .ref x1), (2, .ref x2), (3, .ref x3), (4, .int s.1)] [.int (s.1 + 3), .ref 0, .int v505, .int v503, .ref x2] (pc' := 1982) rfl rfl rfl ?_
        obtain ⟨v507, e508, h⟩ := m_bd h
        refine g_sc e508 ?_
        obtain ⟨z510, e509, h⟩ := m_bd h
        refine g_call (v := some (.long z510.1)) (h := z510.2) (st' := [.long z510.1]) (D1 := 2) (as := [.ref x2, .int v503, .int v505, .int v507]) (Or.inr (Or.inl rfl)) q13_m237 (m_cv (as := [.int v507, .int v505, .int v503]) (rest := []) (Or.inl rfl) q13_m237 jv2502 (OF12_balance e509) rfl rfl rfl rfl) (by decide) (SF12_balance e509) rfl ?_
        refine g_ch [(6, .long z510.1), (5, .int z502.1), (0, .ref 0), (1, .ref x1), (2, .ref x2), (3, .ref x3), (4, .int s.1)] [.ref x2] (pc' := 1989) rfl rfl rfl ?_
        obtain ⟨v512, e511, h⟩ := m_bd h
        refine g_call (v := some (.int v512)) (h := z510.2) (st' := [.int v512]) (D1 := 0) (as := [.ref x2]) (Or.inr (Or.inl rfl)) q13_m157 (m_cv (as := []) (rest := []) (Or.inl rfl) q13_m157 jv2400 (OF12_thrown e511) rfl rfl rfl rfl) (by decide) (SF12_thrown e511) rfl ?_
        refine g_ch [(6, .long z510.1), (5, .int z502.1), (0, .ref 0), (1, .ref x1), (2, .ref x2), (3, .ref x3), (4, .int s.1)] [.int z502.1, .int v512] (pc' := 1994) rfl rfl rfl ?_
        rcases m_ifd h with ⟨c513, h⟩ | ⟨c513, h⟩
        · refine g_if (t := 1999) rfl (m_eqT c513) ?_
          refine g_in eF13_law_1999 mx2635 ?_
          refine g_ch [(6, .long z510.1), (5, .int z502.1), (0, .ref 0), (1, .ref x1), (2, .ref x2), (3, .ref x3), (4, .int s.1)] [.int z502.1] (pc' := 2001) rfl rfl rfl ?_
          rcases m_ifd h with ⟨c514, h⟩ | ⟨c514, h⟩
          · refine g_ifcn (t := 2015) rfl (m_neF c514) ?_
            refine g_in eF13_law_2004 mx2635 ?_
            refine g_ch [(6, .long z510.1), (5, .int z502.1), (0, .ref 0), (1, .ref x1), (2, .ref x2), (3, .ref x3), (4, .int s.1)] [.int 0, .ref x3] (pc' := 2006) rfl rfl rfl ?_
            obtain ⟨v515, e516, h⟩ := m_bd h
            refine g_la e516 ?_
            refine g_ch [(6, .long z510.1), (5, .int z502.1), (0, .ref 0), (1, .ref x1), (2, .ref x2), (3, .ref x3), (4, .int s.1)] [.int (lg_cmp v515 z510.1)] (pc' := 2010) rfl rfl rfl ?_
            rcases m_ifd h with ⟨c517, h⟩ | ⟨c517, h⟩
            · refine g_ifc (t := 2015) rfl (m_eqT c517) ?_
              refine g_in eF13_law_2015 mx2635 ?_
              refine g_goto (t := 3154) rfl ?_
              refine g_in eF13_law_3154 mx2635 ?_
              refine g_ch [(4, .int (s.1 + 6)), (6, .long z510.1), (5, .int z502.1), (0, .ref 0), (1, .ref x1), (2, .ref x2), (3, .ref x3)] [] (pc' := 3157) rfl rfl rfl ?_
              refine g_goto (t := 23) rfl ?_
              cases h
              exact r_lv (k1 ((s.1 + 6), z510.2) hK) rfl ⟨rfl, rfl, rfl, rfl, rfl, trivial⟩
            · refine g_ifcn (t := 2015) rfl (m_eqF c517) ?_
              refine g_in eF13_law_2013 mx2635 ?_
              refine g_ch [(6, .long z510.1), (5, .int z502.1), (0, .ref 0), (1, .ref x1), (2, .ref x2), (3, .ref x3), (4, .int s.1)] [.int 0] (pc' := 2014) rfl rfl rfl ?_
              cases h
              rw [k0 _ hK]
              exact g_iret rfl (by decide +kernel)
          · refine g_ifc (t := 2015) rfl (m_neT c514) ?_
            refine g_in eF13_law_2015 mx2635 ?_
            refine g_goto (t := 3154) rfl ?_
            refine g_in eF13_law_3154 mx2635 ?_
            refine g_ch [(4, .int (s.1 + 6)), (6, .long z510.1), (5, .int z502.1), (0, .ref 0), (1, .ref x1), (2, .ref x2), (3, .ref x3)] [] (pc' := 3157) rfl rfl rfl ?_
            refine g_goto (t := 23) rfl ?_
            cases h
            exact r_lv (k1 ((s.1 + 6), z510.2) hK) rfl ⟨rfl, rfl, rfl, rfl, rfl, trivial⟩
        · refine g_ifn (t := 1999) rfl (m_eqF c513) ?_
          refine g_in eF13_law_1997 mx2635 ?_
          refine g_ch [(6, .long z510.1), (5, .int z502.1), (0, .ref 0), (1, .ref x1), (2, .ref x2), (3, .ref x3), (4, .int s.1)] [.int 0] (pc' := 1998) rfl rfl rfl ?_
          cases h
          rw [k0 _ hK]
          exact g_iret rfl (by decide +kernel)
      rcases m_ifd h with ⟨c518, hc518⟩ | ⟨c518, h⟩
      · subst c518
        have h := hc518
        refine g_sw (o := 1978) (t := 2018) e5 rfl rfl ?_
        refine g_in eF13_law_2018 mx2635 ?_
        refine g_ch [(0, .ref 0), (1, .ref x1), (2, .ref x2), (3, .ref x3), (4, .int s.1)] [.int (s.1 + 1), .ref 0, .ref x1] (pc' := 2024) rfl rfl rfl ?_
        obtain ⟨v519, e520, h⟩ := m_bd h
        refine g_sc e520 ?_
        refine g_ch [(0, .ref 0), (1, .ref x1), (2, .ref x2), (3, .ref x3), (4, .int s.1)] [.int (s.1 + 2), .ref 0, .int v519, .ref x1] (pc' := 2030) rfl rfl rfl ?_
        obtain ⟨v521, e522, h⟩ := m_bd h
        refine g_sc e522 ?_
        refine g_ch [(0, .ref 0), (1, .ref x1), (2, .ref x2), (3, .ref x3), (4, .int s.1)] [.int (s.1 + 3), .ref 0, .int v521, .int v519, .ref x1] (pc' := 2036) rfl rfl rfl ?_
        obtain ⟨v523, e524, h⟩ := m_bd h
        refine g_sc e524 ?_
        refine g_ch [(0, .ref 0), (1, .ref x1), (2, .ref x2), (3, .ref x3), (4, .int s.1)] [.int (s.1 + 4), .ref 0, .int v523, .int v521, .int v519, .ref x1] (pc' := 2042) rfl rfl rfl ?_
        obtain ⟨v525, e526, h⟩ := m_bd h
        refine g_sc e526 ?_
        refine g_ch [(0, .ref 0), (1, .ref x1), (2, .ref x2), (3, .ref x3), (4, .int s.1)] [.ref x3, .int v525, .int v523, .int v521, .int v519, .ref x1] (pc' := 2044) rfl rfl rfl ?_
        obtain ⟨z528, e527, h⟩ := m_bd h
        refine g_call (v := some (.int z528.1)) (h := z528.2) (st' := [.int z528.1]) (D1 := 9) (as := [.ref x1, .int v519, .int v521, .int v523, .int v525, .ref x3]) (Or.inl rfl) q13_m238 (m_cs (as := [.ref x3, .int v525, .int v523, .int v521, .int v519, .ref x1]) (rest := []) q13_m238 jv2623 rfl rfl rfl rfl rfl) (by decide) (SF13_returned e527) rfl ?_
        refine g_ch [(5, .int z528.1), (0, .ref 0), (1, .ref x1), (2, .ref x2), (3, .ref x3), (4, .int s.1)] [.int (s.1 + 1), .ref 0, .ref x2] (pc' := 2055) rfl rfl rfl ?_
        obtain ⟨v529, e530, h⟩ := m_bd h
        refine g_sc e530 ?_
        refine g_ch [(5, .int z528.1), (0, .ref 0), (1, .ref x1), (2, .ref x2), (3, .ref x3), (4, .int s.1)] [.int (s.1 + 2), .ref 0, .int v529, .ref x2] (pc' := 2061) rfl rfl rfl ?_
        obtain ⟨v531, e532, h⟩ := m_bd h
        refine g_sc e532 ?_
        refine g_ch [(5, .int z528.1), (0, .ref 0), (1, .ref x1), (2, .ref x2), (3, .ref x3), (4, .int s.1)] [.int (s.1 + 3), .ref 0, .int v531, .int v529, .ref x2] (pc' := 2067) rfl rfl rfl ?_
        obtain ⟨v533, e534, h⟩ := m_bd h
        refine g_sc e534 ?_
        refine g_ch [(5, .int z528.1), (0, .ref 0), (1, .ref x1), (2, .ref x2), (3, .ref x3), (4, .int s.1)] [.int (s.1 + 4), .ref 0, .int v533, .int v531, .int v529, .ref x2] (pc' := 2073) rfl rfl rfl ?_
        obtain ⟨v535, e536, h⟩ := m_bd h
        refine g_sc e536 ?_
        obtain ⟨z538, e537, h⟩ := m_bd h
        refine g_call (v := some (.int z538.1)) (h := z538.2) (st' := [.int z538.1]) (D1 := 2) (as := [.ref x2, .int v529, .int v531, .int v533, .int v535]) (Or.inr (Or.inl rfl)) q13_m240 (m_cv (as := [.int v535, .int v533, .int v531, .int v529]) (rest := []) (Or.inl rfl) q13_m240 jv2503 (OF12_returned e537) rfl rfl rfl rfl) (by decide) (SF12_returned e537) rfl ?_
        refine g_ch [(6, .int z538.1), (5, .int z528.1), (0, .ref 0), (1, .ref x1), (2, .ref x2), (3, .ref x3), (4, .int s.1)] [.ref x2] (pc' := 2080) rfl rfl rfl ?_
        obtain ⟨v540, e539, h⟩ := m_bd h
        refine g_call (v := some (.int v540)) (h := z538.2) (st' := [.int v540]) (D1 := 0) (as := [.ref x2]) (Or.inr (Or.inl rfl)) q13_m157 (m_cv (as := []) (rest := []) (Or.inl rfl) q13_m157 jv2400 (OF12_thrown e539) rfl rfl rfl rfl) (by decide) (SF12_thrown e539) rfl ?_
        refine g_ch [(6, .int z538.1), (5, .int z528.1), (0, .ref 0), (1, .ref x1), (2, .ref x2), (3, .ref x3), (4, .int s.1)] [.int z528.1, .int v540] (pc' := 2085) rfl rfl rfl ?_
        rcases m_ifd h with ⟨c541, h⟩ | ⟨c541, h⟩
        · refine g_if (t := 2090) rfl (m_eqT c541) ?_
          refine g_in eF13_law_2090 mx2635 ?_
          refine g_ch [(6, .int z538.1), (5, .int z528.1), (0, .ref 0), (1, .ref x1), (2, .ref x2), (3, .ref x3), (4, .int s.1)] [.int z528.1] (pc' := 2092) rfl rfl rfl ?_
          rcases m_ifd h with ⟨c542, h⟩ | ⟨c542, h⟩
          · refine g_ifcn (t := 2107) rfl (m_neF c542) ?_
            refine g_in eF13_law_2095 mx2635 ?_
            refine g_ch [(6, .int z538.1), (5, .int z528.1), (0, .ref 0), (1, .ref x1), (2, .ref x2), (3, .ref x3), (4, .int s.1)] [.int 0, .ref x3] (pc' := 2097) rfl rfl rfl ?_
            obtain ⟨v543, e544, h⟩ := m_bd h
            refine g_la e544 ?_
            refine g_ch [(6, .int z538.1), (5, .int z528.1), (0, .ref 0), (1, .ref x1), (2, .ref x2), (3, .ref x3), (4, .int s.1)] [.int (lg_cmp v543 (m_i2l z538.1))] (pc' := 2102) rfl rfl rfl ?_
            rcases m_ifd h with ⟨c545, h⟩ | ⟨c545, h⟩
            · refine g_ifc (t := 2107) rfl (m_eqT c545) ?_
              refine g_in eF13_law_2107 mx2635 ?_
              refine g_goto (t := 3154) rfl ?_
              refine g_in eF13_law_3154 mx2635 ?_
              refine g_ch [(4, .int (s.1 + 6)), (6, .int z538.1), (5, .int z528.1), (0, .ref 0), (1, .ref x1), (2, .ref x2), (3, .ref x3)] [] (pc' := 3157) rfl rfl rfl ?_
              refine g_goto (t := 23) rfl ?_
              cases h
              exact r_lv (k1 ((s.1 + 6), z538.2) hK) rfl ⟨rfl, rfl, rfl, rfl, rfl, trivial⟩
            · refine g_ifcn (t := 2107) rfl (m_eqF c545) ?_
              refine g_in eF13_law_2105 mx2635 ?_
              refine g_ch [(6, .int z538.1), (5, .int z528.1), (0, .ref 0), (1, .ref x1), (2, .ref x2), (3, .ref x3), (4, .int s.1)] [.int 0] (pc' := 2106) rfl rfl rfl ?_
              cases h
              rw [k0 _ hK]
              exact g_iret rfl (by decide +kernel)
          · refine g_ifc (t := 2107) rfl (m_neT c542) ?_
            refine g_in eF13_law_2107 mx2635 ?_
            refine g_goto (t := 3154) rfl ?_
            refine g_in eF13_law_3154 mx2635 ?_
            refine g_ch [(4, .int (s.1 + 6)), (6, .int z538.1), (5, .int z528.1), (0, .ref 0), (1, .ref x1), (2, .ref x2), (3, .ref x3)] [] (pc' := 3157) rfl rfl rfl ?_
            refine g_goto (t := 23) rfl ?_
            cases h
            exact r_lv (k1 ((s.1 + 6), z538.2) hK) rfl ⟨rfl, rfl, rfl, rfl, rfl, trivial⟩
        · refine g_ifn (t := 2090) rfl (m_eqF c541) ?_
          refine g_in eF13_law_2088 mx2635 ?_
          refine g_ch [(6, .int z538.1), (5, .int z528.1), (0, .ref 0), (1, .ref x1), (2, .ref x2), (3, .ref x3), (4, .int s.1)] [.int 0] (pc' := 2089) rfl rfl rfl ?_
          cases h
          rw [k0 _ hK]
          exact g_iret rfl (by decide +kernel)
      rcases m_ifd h with ⟨c546, hc546⟩ | ⟨c546, h⟩
      · subst c546
        have h := hc546
        refine g_sw (o := 2070) (t := 2110) e5 rfl rfl ?_
        refine g_in eF13_law_2110 mx2635 ?_
        refine g_ch [(0, .ref 0), (1, .ref x1), (2, .ref x2), (3, .ref x3), (4, .int s.1)] [.int (s.1 + 1), .ref 0, .ref x1] (pc' := 2116) rfl rfl rfl ?_
        obtain ⟨v547, e548, h⟩ := m_bd h
        refine g_sc e548 ?_
        refine g_ch [(0, .ref 0), (1, .ref x1), (2, .ref x2), (3, .ref x3), (4, .int s.1)] [.int (s.1 + 2), .ref 0, .int v547, .ref x1] (pc' := 2122) rfl rfl rfl ?_
        obtain ⟨v549, e550, h⟩ := m_bd h
        refine g_sc e550 ?_
        refine g_ch [(0, .ref 0), (1, .ref x1), (2, .ref x2), (3, .ref x3), (4, .int s.1)] [.int (s.1 + 3), .ref 0, .int v549, .int v547, .ref x1] (pc' := 2128) rfl rfl rfl ?_
        obtain ⟨v551, e552, h⟩ := m_bd h
        refine g_sc e552 ?_
        refine g_ch [(0, .ref 0), (1, .ref x1), (2, .ref x2), (3, .ref x3), (4, .int s.1)] [.ref x3, .int v551, .int v549, .int v547, .ref x1] (pc' := 2130) rfl rfl rfl ?_
        obtain ⟨z554, e553, h⟩ := m_bd h
        refine g_call (v := some (.int z554.1)) (h := z554.2) (st' := [.int z554.1]) (D1 := 9) (as := [.ref x1, .int v547, .int v549, .int v551, .ref x3]) (Or.inl rfl) q13_m241 (m_cs (as := [.ref x3, .int v551, .int v549, .int v547, .ref x1]) (rest := []) q13_m241 jv2624 rfl rfl rfl rfl rfl) (by decide) (SF13_mustBe e553) rfl ?_
        refine g_ch [(5, .int z554.1), (0, .ref 0), (1, .ref x1), (2, .ref x2), (3, .ref x3), (4, .int s.1)] [.int (s.1 + 1), .ref 0, .ref x2] (pc' := 2141) rfl rfl rfl ?_
        obtain ⟨v555, e556, h⟩ := m_bd h
        refine g_sc e556 ?_
        refine g_ch [(5, .int z554.1), (0, .ref 0), (1, .ref x1), (2, .ref x2), (3, .ref x3), (4, .int s.1)] [.int (s.1 + 2), .ref 0, .int v555, .ref x2] (pc' := 2147) rfl rfl rfl ?_
        obtain ⟨v557, e558, h⟩ := m_bd h
        refine g_sc e558 ?_
        refine g_ch [(5, .int z554.1), (0, .ref 0), (1, .ref x1), (2, .ref x2), (3, .ref x3), (4, .int s.1)] [.int (s.1 + 3), .ref 0, .int v557, .int v555, .ref x2] (pc' := 2153) rfl rfl rfl ?_
        obtain ⟨v559, e560, h⟩ := m_bd h
        refine g_sc e560 ?_
        obtain ⟨z562, e561, h⟩ := m_bd h
        refine g_call (v := some (.int z562.1)) (h := z562.2) (st' := [.int z562.1]) (D1 := 5) (as := [.ref x2, .int v555, .int v557, .int v559]) (Or.inr (Or.inl rfl)) q13_m243 (m_cv (as := [.int v559, .int v557, .int v555]) (rest := []) (Or.inl rfl) q13_m243 jv2504 (OF12_mustBe e561) rfl rfl rfl rfl) (by decide) (SF12_mustBe e561) rfl ?_
        refine g_ch [(6, .int z562.1), (5, .int z554.1), (0, .ref 0), (1, .ref x1), (2, .ref x2), (3, .ref x3), (4, .int s.1)] [.ref x2] (pc' := 2160) rfl rfl rfl ?_
        obtain ⟨v564, e563, h⟩ := m_bd h
        refine g_call (v := some (.int v564)) (h := z562.2) (st' := [.int v564]) (D1 := 0) (as := [.ref x2]) (Or.inr (Or.inl rfl)) q13_m157 (m_cv (as := []) (rest := []) (Or.inl rfl) q13_m157 jv2400 (OF12_thrown e563) rfl rfl rfl rfl) (by decide) (SF12_thrown e563) rfl ?_
        refine g_ch [(6, .int z562.1), (5, .int z554.1), (0, .ref 0), (1, .ref x1), (2, .ref x2), (3, .ref x3), (4, .int s.1)] [.int z554.1, .int v564] (pc' := 2165) rfl rfl rfl ?_
        rcases m_ifd h with ⟨c565, h⟩ | ⟨c565, h⟩
        · refine g_if (t := 2170) rfl (m_eqT c565) ?_
          refine g_in eF13_law_2170 mx2635 ?_
          refine g_ch [(6, .int z562.1), (5, .int z554.1), (0, .ref 0), (1, .ref x1), (2, .ref x2), (3, .ref x3), (4, .int s.1)] [.int z554.1] (pc' := 2172) rfl rfl rfl ?_
          rcases m_ifd h with ⟨c566, h⟩ | ⟨c566, h⟩
          · refine g_ifcn (t := 2187) rfl (m_neF c566) ?_
            refine g_in eF13_law_2175 mx2635 ?_
            refine g_ch [(6, .int z562.1), (5, .int z554.1), (0, .ref 0), (1, .ref x1), (2, .ref x2), (3, .ref x3), (4, .int s.1)] [.int 0, .ref x3] (pc' := 2177) rfl rfl rfl ?_
            obtain ⟨v567, e568, h⟩ := m_bd h
            refine g_la e568 ?_
            refine g_ch [(6, .int z562.1), (5, .int z554.1), (0, .ref 0), (1, .ref x1), (2, .ref x2), (3, .ref x3), (4, .int s.1)] [.int (lg_cmp v567 (m_i2l z562.1))] (pc' := 2182) rfl rfl rfl ?_
            rcases m_ifd h with ⟨c569, h⟩ | ⟨c569, h⟩
            · refine g_ifc (t := 2187) rfl (m_eqT c569) ?_
              refine g_in eF13_law_2187 mx2635 ?_
              refine g_goto (t := 3154) rfl ?_
              refine g_in eF13_law_3154 mx2635 ?_
              refine g_ch [(4, .int (s.1 + 6)), (6, .int z562.1), (5, .int z554.1), (0, .ref 0), (1, .ref x1), (2, .ref x2), (3, .ref x3)] [] (pc' := 3157) rfl rfl rfl ?_
              refine g_goto (t := 23) rfl ?_
              cases h
              exact r_lv (k1 ((s.1 + 6), z562.2) hK) rfl ⟨rfl, rfl, rfl, rfl, rfl, trivial⟩
            · refine g_ifcn (t := 2187) rfl (m_eqF c569) ?_
              refine g_in eF13_law_2185 mx2635 ?_
              refine g_ch [(6, .int z562.1), (5, .int z554.1), (0, .ref 0), (1, .ref x1), (2, .ref x2), (3, .ref x3), (4, .int s.1)] [.int 0] (pc' := 2186) rfl rfl rfl ?_
              cases h
              rw [k0 _ hK]
              exact g_iret rfl (by decide +kernel)
          · refine g_ifc (t := 2187) rfl (m_neT c566) ?_
            refine g_in eF13_law_2187 mx2635 ?_
            refine g_goto (t := 3154) rfl ?_
            refine g_in eF13_law_3154 mx2635 ?_
            refine g_ch [(4, .int (s.1 + 6)), (6, .int z562.1), (5, .int z554.1), (0, .ref 0), (1, .ref x1), (2, .ref x2), (3, .ref x3)] [] (pc' := 3157) rfl rfl rfl ?_
            refine g_goto (t := 23) rfl ?_
            cases h
            exact r_lv (k1 ((s.1 + 6), z562.2) hK) rfl ⟨rfl, rfl, rfl, rfl, rfl, trivial⟩
        · refine g_ifn (t := 2170) rfl (m_eqF c565) ?_
          refine g_in eF13_law_2168 mx2635 ?_
          refine g_ch [(6, .int z562.1), (5, .int z554.1), (0, .ref 0), (1, .ref x1), (2, .ref x2), (3, .ref x3), (4, .int s.1)] [.int 0] (pc' := 2169) rfl rfl rfl ?_
          cases h
          rw [k0 _ hK]
          exact g_iret rfl (by decide +kernel)
      rcases m_ifd h with ⟨c570, hc570⟩ | ⟨c570, h⟩
      · subst c570
        have h := hc570
        refine g_sw (o := 2150) (t := 2190) e5 rfl rfl ?_
        refine g_in eF13_law_2190 mx2635 ?_
        refine g_ch [(0, .ref 0), (1, .ref x1), (2, .ref x2), (3, .ref x3), (4, .int s.1)] [.int (s.1 + 1), .ref 0, .ref x1] (pc' := 2196) rfl rfl rfl ?_
        obtain ⟨v571, e572, h⟩ := m_bd h
        refine g_sc e572 ?_
        refine g_ch [(0, .ref 0), (1, .ref x1), (2, .ref x2), (3, .ref x3), (4, .int s.1)] [.int (s.1 + 2), .ref 0, .int v571, .ref x1] (pc' := 2202) rfl rfl rfl ?_
        obtain ⟨v573, e574, h⟩ := m_bd h
        refine g_sc e574 ?_
        refine g_ch [(0, .ref 0), (1, .ref x1), (2, .ref x2), (3, .ref x3), (4, .int s.1)] [.int (s.1 + 3), .ref 0, .int v573, .int v571, .ref x1] (pc' := 2208) rfl rfl rfl ?_
        obtain ⟨v575, e576, h⟩ := m_bd h
        refine g_sc e576 ?_
        refine g_ch [(0, .ref 0), (1, .ref x1), (2, .ref x2), (3, .ref x3), (4, .int s.1)] [.ref x3, .int v575, .int v573, .int v571, .ref x1] (pc' := 2210) rfl rfl rfl ?_
        obtain ⟨z578, e577, h⟩ := m_bd h
        refine g_call (v := some (.int z578.1)) (h := z578.2) (st' := [.int z578.1]) (D1 := 9) (as := [.ref x1, .int v571, .int v573, .int v575, .ref x3]) (Or.inl rfl) q13_m244 (m_cs (as := [.ref x3, .int v575, .int v573, .int v571, .ref x1]) (rest := []) q13_m244 jv2625 rfl rfl rfl rfl rfl) (by decide) (SF13_seen e577) rfl ?_
        refine g_ch [(5, .int z578.1), (0, .ref 0), (1, .ref x1), (2, .ref x2), (3, .ref x3), (4, .int s.1)] [.int (s.1 + 1), .ref 0, .ref x2] (pc' := 2221) rfl rfl rfl ?_
        obtain ⟨v579, e580, h⟩ := m_bd h
        refine g_sc e580 ?_
        refine g_ch [(5, .int z578.1), (0, .ref 0), (1, .ref x1), (2, .ref x2), (3, .ref x3), (4, .int s.1)] [.int (s.1 + 2), .ref 0, .int v579, .ref x2] (pc' := 2227) rfl rfl rfl ?_
        obtain ⟨v581, e582, h⟩ := m_bd h
        refine g_sc e582 ?_
        refine g_ch [(5, .int z578.1), (0, .ref 0), (1, .ref x1), (2, .ref x2), (3, .ref x3), (4, .int s.1)] [.int (s.1 + 3), .ref 0, .int v581, .int v579, .ref x2] (pc' := 2233) rfl rfl rfl ?_
        obtain ⟨v583, e584, h⟩ := m_bd h
        refine g_sc e584 ?_
        obtain ⟨z586, e585, h⟩ := m_bd h
        refine g_call (v := some (.int z586.1)) (h := z586.2) (st' := [.int z586.1]) (D1 := 2) (as := [.ref x2, .int v579, .int v581, .int v583]) (Or.inr (Or.inl rfl)) q13_m246 (m_cv (as := [.int v583, .int v581, .int v579]) (rest := []) (Or.inl rfl) q13_m246 jv2505 (OF12_seen e585) rfl rfl rfl rfl) (by decide) (SF12_seen e585) rfl ?_
        refine g_ch [(6, .int z586.1), (5, .int z578.1), (0, .ref 0), (1, .ref x1), (2, .ref x2), (3, .ref x3), (4, .int s.1)] [.ref x2] (pc' := 2240) rfl rfl rfl ?_
        obtain ⟨v588, e587, h⟩ := m_bd h
        refine g_call (v := some (.int v588)) (h := z586.2) (st' := [.int v588]) (D1 := 0) (as := [.ref x2]) (Or.inr (Or.inl rfl)) q13_m157 (m_cv (as := []) (rest := []) (Or.inl rfl) q13_m157 jv2400 (OF12_thrown e587) rfl rfl rfl rfl) (by decide) (SF12_thrown e587) rfl ?_
        refine g_ch [(6, .int z586.1), (5, .int z578.1), (0, .ref 0), (1, .ref x1), (2, .ref x2), (3, .ref x3), (4, .int s.1)] [.int z578.1, .int v588] (pc' := 2245) rfl rfl rfl ?_
        rcases m_ifd h with ⟨c589, h⟩ | ⟨c589, h⟩
        · refine g_if (t := 2250) rfl (m_eqT c589) ?_
          refine g_in eF13_law_2250 mx2635 ?_
          refine g_ch [(6, .int z586.1), (5, .int z578.1), (0, .ref 0), (1, .ref x1), (2, .ref x2), (3, .ref x3), (4, .int s.1)] [.int z578.1] (pc' := 2252) rfl rfl rfl ?_
          rcases m_ifd h with ⟨c590, h⟩ | ⟨c590, h⟩
          · refine g_ifcn (t := 2267) rfl (m_neF c590) ?_
            refine g_in eF13_law_2255 mx2635 ?_
            refine g_ch [(6, .int z586.1), (5, .int z578.1), (0, .ref 0), (1, .ref x1), (2, .ref x2), (3, .ref x3), (4, .int s.1)] [.int 0, .ref x3] (pc' := 2257) rfl rfl rfl ?_
            obtain ⟨v591, e592, h⟩ := m_bd h
            refine g_la e592 ?_
            refine g_ch [(6, .int z586.1), (5, .int z578.1), (0, .ref 0), (1, .ref x1), (2, .ref x2), (3, .ref x3), (4, .int s.1)] [.int (lg_cmp v591 (m_i2l z586.1))] (pc' := 2262) rfl rfl rfl ?_
            rcases m_ifd h with ⟨c593, h⟩ | ⟨c593, h⟩
            · refine g_ifc (t := 2267) rfl (m_eqT c593) ?_
              refine g_in eF13_law_2267 mx2635 ?_
              refine g_goto (t := 3154) rfl ?_
              refine g_in eF13_law_3154 mx2635 ?_
              refine g_ch [(4, .int (s.1 + 6)), (6, .int z586.1), (5, .int z578.1), (0, .ref 0), (1, .ref x1), (2, .ref x2), (3, .ref x3)] [] (pc' := 3157) rfl rfl rfl ?_
              refine g_goto (t := 23) rfl ?_
              cases h
              exact r_lv (k1 ((s.1 + 6), z586.2) hK) rfl ⟨rfl, rfl, rfl, rfl, rfl, trivial⟩
            · refine g_ifcn (t := 2267) rfl (m_eqF c593) ?_
              refine g_in eF13_law_2265 mx2635 ?_
              refine g_ch [(6, .int z586.1), (5, .int z578.1), (0, .ref 0), (1, .ref x1), (2, .ref x2), (3, .ref x3), (4, .int s.1)] [.int 0] (pc' := 2266) rfl rfl rfl ?_
              cases h
              rw [k0 _ hK]
              exact g_iret rfl (by decide +kernel)
          · refine g_ifc (t := 2267) rfl (m_neT c590) ?_
            refine g_in eF13_law_2267 mx2635 ?_
            refine g_goto (t := 3154) rfl ?_
            refine g_in eF13_law_3154 mx2635 ?_
            refine g_ch [(4, .int (s.1 + 6)), (6, .int z586.1), (5, .int z578.1), (0, .ref 0), (1, .ref x1), (2, .ref x2), (3, .ref x3)] [] (pc' := 3157) rfl rfl rfl ?_
            refine g_goto (t := 23) rfl ?_
            cases h
            exact r_lv (k1 ((s.1 + 6), z586.2) hK) rfl ⟨rfl, rfl, rfl, rfl, rfl, trivial⟩
        · refine g_ifn (t := 2250) rfl (m_eqF c589) ?_
          refine g_in eF13_law_2248 mx2635 ?_
          refine g_ch [(6, .int z586.1), (5, .int z578.1), (0, .ref 0), (1, .ref x1), (2, .ref x2), (3, .ref x3), (4, .int s.1)] [.int 0] (pc' := 2249) rfl rfl rfl ?_
          cases h
          rw [k0 _ hK]
          exact g_iret rfl (by decide +kernel)
      rcases m_ifd h with ⟨c594, hc594⟩ | ⟨c594, h⟩
      · subst c594
        have h := hc594
        refine g_sw (o := 2230) (t := 2270) e5 rfl rfl ?_
        refine g_in eF13_law_2270 mx2635 ?_
        refine g_ch [(0, .ref 0), (1, .ref x1), (2, .ref x2), (3, .ref x3), (4, .int s.1)] [.int (s.1 + 1), .ref 0, .ref x1] (pc' := 2276) rfl rfl rfl ?_
        obtain ⟨v595, e596, h⟩ := m_bd h
        refine g_sc e596 ?_
        refine g_ch [(0, .ref 0), (1, .ref x1), (2, .ref x2), (3, .ref x3), (4, .int s.1)] [.int (s.1 + 2), .ref 0, .int v595, .ref x1] (pc' := 2282) rfl rfl rfl ?_
        obtain ⟨v597, e598, h⟩ := m_bd h
        refine g_sc e598 ?_
        refine g_ch [(0, .ref 0), (1, .ref x1), (2, .ref x2), (3, .ref x3), (4, .int s.1)] [.int (s.1 + 3), .ref 0, .int v597, .int v595, .ref x1] (pc' := 2288) rfl rfl rfl ?_
        obtain ⟨v599, e600, h⟩ := m_bd h
        refine g_sc e600 ?_
        rcases m_ifd h with ⟨c601, h⟩ | ⟨c601, h⟩
        · refine g_ifc (t := 2296) rfl (m_eqT c601) ?_
          refine g_in eF13_law_2296 mx2635 ?_
          refine g_ch [(0, .ref 0), (1, .ref x1), (2, .ref x2), (3, .ref x3), (4, .int s.1)] [.int 0, .int v597, .int v595, .ref x1] (pc' := 2297) rfl rfl rfl ?_
          refine g_end ?_
          exact r_lv (SF13_law_2297 x1 x2 x3 s.1 0 v597 v595 x1 s.2 (K := K) k0 k1 h hK) rfl ⟨rfl, rfl, rfl, rfl, rfl, trivial⟩
        · refine g_ifcn (t := 2296) rfl (m_eqF c601) ?_
          refine g_in eF13_law_2292 mx2635 ?_
          refine g_ch [(0, .ref 0), (1, .ref x1), (2, .ref x2), (3, .ref x3), (4, .int s.1)] [.int 1, .int v597, .int v595, .ref x1] (pc' := 2293) rfl rfl rfl ?_
          refine g_goto (t := 2297) rfl ?_
          exact r_lv (SF13_law_2297 x1 x2 x3 s.1 1 v597 v595 x1 s.2 (K := K) k0 k1 h hK) rfl ⟨rfl, rfl, rfl, rfl, rfl, trivial⟩
      rcases m_ifd h with ⟨c602, hc602⟩ | ⟨c602, h⟩
      · subst c602
        have h := hc602
        refine g_sw (o := 2326) (t := 2366) e5 rfl rfl ?_
        refine g_in eF13_law_2366 mx2635 ?_
        refine g_ch [(0, .ref 0), (1, .ref x1), (2, .ref x2), (3, .ref x3), (4, .int s.1)] [.int (s.1 + 1), .ref 0, .ref x1] (pc' := 2372) rfl rfl rfl ?_
        obtain ⟨v603, e604, h⟩ := m_bd h
        refine g_sc e604 ?_
        refine g_ch [(0, .ref 0), (1, .ref x1), (2, .ref x2), (3, .ref x3), (4, .int s.1)] [.int (s.1 + 2), .ref 0, .int v603, .ref x1] (pc' := 2378) rfl rfl rfl ?_
        obtain ⟨v605, e606, h⟩ := m_bd h
        refine g_sc e606 ?_
        refine g_ch [(0, .ref 0), (1, .ref x1), (2, .ref x2), (3, .ref x3), (4, .int s.1)] [.int (s.1 + 3), .ref 0, .int v605, .int v603, .ref x1] (pc' := 2384) rfl rfl rfl ?_
        obtain ⟨v607, e608, h⟩ := m_bd h
        refine g_sc e608 ?_
        refine g_ch [(0, .ref 0), (1, .ref x1), (2, .ref x2), (3, .ref x3), (4, .int s.1)] [.int (s.1 + 4), .ref 0, .int v607, .int v605, .int v603, .ref x1] (pc' := 2390) rfl rfl rfl ?_
        obtain ⟨v609, e610, h⟩ := m_bd h
        refine g_sc e610 ?_
        refine g_ch [(0, .ref 0), (1, .ref x1), (2, .ref x2), (3, .ref x3), (4, .int s.1)] [.ref x3, .int v609, .int v607, .int v605, .int v603, .ref x1] (pc' := 2392) rfl rfl rfl ?_
        obtain ⟨z612, e611, h⟩ := m_bd h
        refine g_call (v := some (.int z612.1)) (h := z612.2) (st' := [.int z612.1]) (D1 := 9) (as := [.ref x1, .int v603, .int v605, .int v607, .int v609, .ref x3]) (Or.inl rfl) q13_m251 (m_cs (as := [.ref x3, .int v609, .int v607, .int v605, .int v603, .ref x1]) (rest := []) q13_m251 jv2627 rfl rfl rfl rfl rfl) (by decide) (SF13_rock e611) rfl ?_
        refine g_ch [(5, .int z612.1), (0, .ref 0), (1, .ref x1), (2, .ref x2), (3, .ref x3), (4, .int s.1)] [.int (s.1 + 1), .ref 0, .ref x2] (pc' := 2403) rfl rfl rfl ?_
        obtain ⟨v613, e614, h⟩ := m_bd h
        refine g_sc e614 ?_
        refine g_ch [(5, .int z612.1), (0, .ref 0), (1, .ref x1), (2, .ref x2), (3, .ref x3), (4, .int s.1)] [.int (s.1 + 2), .ref 0, .int v613, .ref x2] (pc' := 2409) rfl rfl rfl ?_
        obtain ⟨v615, e616, h⟩ := m_bd h
        refine g_sc e616 ?_
        refine g_ch [(5, .int z612.1), (0, .ref 0), (1, .ref x1), (2, .ref x2), (3, .ref x3), (4, .int s.1)] [.int (s.1 + 3), .ref 0, .int v615, .int v613, .ref x2] (pc' := 2415) rfl rfl rfl ?_
        obtain ⟨v617, e618, h⟩ := m_bd h
        refine g_sc e618 ?_
        refine g_ch [(5, .int z612.1), (0, .ref 0), (1, .ref x1), (2, .ref x2), (3, .ref x3), (4, .int s.1)] [.int (s.1 + 4), .ref 0, .int v617, .int v615, .int v613, .ref x2] (pc' := 2421) rfl rfl rfl ?_
        obtain ⟨v619, e620, h⟩ := m_bd h
        refine g_sc e620 ?_
        obtain ⟨z622, e621, h⟩ := m_bd h
        refine g_call (v := some (.int z622.1)) (h := z622.2) (st' := [.int z622.1]) (D1 := 2) (as := [.ref x2, .int v613, .int v615, .int v617, .int v619]) (Or.inr (Or.inl rfl)) q13_m253 (m_cv (as := [.int v619, .int v617, .int v615, .int v613]) (rest := []) (Or.inl rfl) q13_m253 jv2509 (OF12_rock e621) rfl rfl rfl rfl) (by decide) (SF12_rock e621) rfl ?_
        refine g_ch [(6, .int z622.1), (5, .int z612.1), (0, .ref 0), (1, .ref x1), (2, .ref x2), (3, .ref x3), (4, .int s.1)] [.ref x2] (pc' := 2428) rfl rfl rfl ?_
        obtain ⟨v624, e623, h⟩ := m_bd h
        refine g_call (v := some (.int v624)) (h := z622.2) (st' := [.int v624]) (D1 := 0) (as := [.ref x2]) (Or.inr (Or.inl rfl)) q13_m157 (m_cv (as := []) (rest := []) (Or.inl rfl) q13_m157 jv2400 (OF12_thrown e623) rfl rfl rfl rfl) (by decide) (SF12_thrown e623) rfl ?_
        refine g_ch [(6, .int z622.1), (5, .int z612.1), (0, .ref 0), (1, .ref x1), (2, .ref x2), (3, .ref x3), (4, .int s.1)] [.int z612.1, .int v624] (pc' := 2433) rfl rfl rfl ?_
        rcases m_ifd h with ⟨c625, h⟩ | ⟨c625, h⟩
        · refine g_if (t := 2438) rfl (m_eqT c625) ?_
          refine g_in eF13_law_2438 mx2635 ?_
          refine g_ch [(6, .int z622.1), (5, .int z612.1), (0, .ref 0), (1, .ref x1), (2, .ref x2), (3, .ref x3), (4, .int s.1)] [.int z612.1] (pc' := 2440) rfl rfl rfl ?_
          rcases m_ifd h with ⟨c626, h⟩ | ⟨c626, h⟩
          · refine g_ifcn (t := 2455) rfl (m_neF c626) ?_
            refine g_in eF13_law_2443 mx2635 ?_
            refine g_ch [(6, .int z622.1), (5, .int z612.1), (0, .ref 0), (1, .ref x1), (2, .ref x2), (3, .ref x3), (4, .int s.1)] [.int 0, .ref x3] (pc' := 2445) rfl rfl rfl ?_
            obtain ⟨v627, e628, h⟩ := m_bd h
            refine g_la e628 ?_
            refine g_ch [(6, .int z622.1), (5, .int z612.1), (0, .ref 0), (1, .ref x1), (2, .ref x2), (3, .ref x3), (4, .int s.1)] [.int (lg_cmp v627 (m_i2l z622.1))] (pc' := 2450) rfl rfl rfl ?_
            rcases m_ifd h with ⟨c629, h⟩ | ⟨c629, h⟩
            · refine g_ifc (t := 2455) rfl (m_eqT c629) ?_
              refine g_in eF13_law_2455 mx2635 ?_
              refine g_goto (t := 3154) rfl ?_
              refine g_in eF13_law_3154 mx2635 ?_
              refine g_ch [(4, .int (s.1 + 6)), (6, .int z622.1), (5, .int z612.1), (0, .ref 0), (1, .ref x1), (2, .ref x2), (3, .ref x3)] [] (pc' := 3157) rfl rfl rfl ?_
              refine g_goto (t := 23) rfl ?_
              cases h
              exact r_lv (k1 ((s.1 + 6), z622.2) hK) rfl ⟨rfl, rfl, rfl, rfl, rfl, trivial⟩
            · refine g_ifcn (t := 2455) rfl (m_eqF c629) ?_
              refine g_in eF13_law_2453 mx2635 ?_
              refine g_ch [(6, .int z622.1), (5, .int z612.1), (0, .ref 0), (1, .ref x1), (2, .ref x2), (3, .ref x3), (4, .int s.1)] [.int 0] (pc' := 2454) rfl rfl rfl ?_
              cases h
              rw [k0 _ hK]
              exact g_iret rfl (by decide +kernel)
          · refine g_ifc (t := 2455) rfl (m_neT c626) ?_
            refine g_in eF13_law_2455 mx2635 ?_
            refine g_goto (t := 3154) rfl ?_
            refine g_in eF13_law_3154 mx2635 ?_
            refine g_ch [(4, .int (s.1 + 6)), (6, .int z622.1), (5, .int z612.1), (0, .ref 0), (1, .ref x1), (2, .ref x2), (3, .ref x3)] [] (pc' := 3157) rfl rfl rfl ?_
            refine g_goto (t := 23) rfl ?_
            cases h
            exact r_lv (k1 ((s.1 + 6), z622.2) hK) rfl ⟨rfl, rfl, rfl, rfl, rfl, trivial⟩
        · refine g_ifn (t := 2438) rfl (m_eqF c625) ?_
          refine g_in eF13_law_2436 mx2635 ?_
          refine g_ch [(6, .int z622.1), (5, .int z612.1), (0, .ref 0), (1, .ref x1), (2, .ref x2), (3, .ref x3), (4, .int s.1)] [.int 0] (pc' := 2437) rfl rfl rfl ?_
          cases h
          rw [k0 _ hK]
          exact g_iret rfl (by decide +kernel)
      rcases m_ifd h with ⟨c630, hc630⟩ | ⟨c630, h⟩
      · subst c630
        have h := hc630
        refine g_sw (o := 2418) (t := 2458) e5 rfl rfl ?_
        refine g_in eF13_law_2458 mx2635 ?_
        refine g_ch [(0, .ref 0), (1, .ref x1), (2, .ref x2), (3, .ref x3), (4, .int s.1)] [.int (s.1 + 1), .ref 0, .ref x1] (pc' := 2464) rfl rfl rfl ?_
        obtain ⟨v631, e632, h⟩ := m_bd h
        refine g_sc e632 ?_
        refine g_ch [(0, .ref 0), (1, .ref x1), (2, .ref x2), (3, .ref x3), (4, .int s.1)] [.ref x3, .int v631, .ref x1] (pc' := 2466) rfl rfl rfl ?_
        obtain ⟨z634, e633, h⟩ := m_bd h
        refine g_call (v := some (.int z634.1)) (h := z634.2) (st' := [.int z634.1]) (D1 := 8) (as := [.ref x1, .int v631, .ref x3]) (Or.inl rfl) q13_m254 (m_cs (as := [.ref x3, .int v631, .ref x1]) (rest := []) q13_m254 jv2628 rfl rfl rfl rfl rfl) (by decide) (SF13_net e633) rfl ?_
        refine g_ch [(5, .int z634.1), (0, .ref 0), (1, .ref x1), (2, .ref x2), (3, .ref x3), (4, .int s.1)] [.int (s.1 + 1), .ref 0, .ref x2] (pc' := 2477) rfl rfl rfl ?_
        obtain ⟨v635, e636, h⟩ := m_bd h
        refine g_sc e636 ?_
        obtain ⟨z638, e637, h⟩ := m_bd h
        refine g_call (v := some (.int z638.1)) (h := z638.2) (st' := [.int z638.1]) (D1 := 1) (as := [.ref x2, .int v635]) (Or.inr (Or.inl rfl)) q13_m256 (m_cv (as := [.int v635]) (rest := []) (Or.inl rfl) q13_m256 jv2510 (OF12_net e637) rfl rfl rfl rfl) (by decide) (SF12_net e637) rfl ?_
        refine g_ch [(6, .int z638.1), (5, .int z634.1), (0, .ref 0), (1, .ref x1), (2, .ref x2), (3, .ref x3), (4, .int s.1)] [.ref x2] (pc' := 2484) rfl rfl rfl ?_
        obtain ⟨v640, e639, h⟩ := m_bd h
        refine g_call (v := some (.int v640)) (h := z638.2) (st' := [.int v640]) (D1 := 0) (as := [.ref x2]) (Or.inr (Or.inl rfl)) q13_m157 (m_cv (as := []) (rest := []) (Or.inl rfl) q13_m157 jv2400 (OF12_thrown e639) rfl rfl rfl rfl) (by decide) (SF12_thrown e639) rfl ?_
        refine g_ch [(6, .int z638.1), (5, .int z634.1), (0, .ref 0), (1, .ref x1), (2, .ref x2), (3, .ref x3), (4, .int s.1)] [.int z634.1, .int v640] (pc' := 2489) rfl rfl rfl ?_
        rcases m_ifd h with ⟨c641, h⟩ | ⟨c641, h⟩
        · refine g_if (t := 2494) rfl (m_eqT c641) ?_
          refine g_in eF13_law_2494 mx2635 ?_
          refine g_ch [(6, .int z638.1), (5, .int z634.1), (0, .ref 0), (1, .ref x1), (2, .ref x2), (3, .ref x3), (4, .int s.1)] [.int z634.1] (pc' := 2496) rfl rfl rfl ?_
          rcases m_ifd h with ⟨c642, h⟩ | ⟨c642, h⟩
          · refine g_ifcn (t := 2511) rfl (m_neF c642) ?_
            refine g_in eF13_law_2499 mx2635 ?_
            refine g_ch [(6, .int z638.1), (5, .int z634.1), (0, .ref 0), (1, .ref x1), (2, .ref x2), (3, .ref x3), (4, .int s.1)] [.int 0, .ref x3] (pc' := 2501) rfl rfl rfl ?_
            obtain ⟨v643, e644, h⟩ := m_bd h
            refine g_la e644 ?_
            refine g_ch [(6, .int z638.1), (5, .int z634.1), (0, .ref 0), (1, .ref x1), (2, .ref x2), (3, .ref x3), (4, .int s.1)] [.int (lg_cmp v643 (m_i2l z638.1))] (pc' := 2506) rfl rfl rfl ?_
            rcases m_ifd h with ⟨c645, h⟩ | ⟨c645, h⟩
            · refine g_ifc (t := 2511) rfl (m_eqT c645) ?_
              refine g_in eF13_law_2511 mx2635 ?_
              refine g_goto (t := 3154) rfl ?_
              refine g_in eF13_law_3154 mx2635 ?_
              refine g_ch [(4, .int (s.1 + 6)), (6, .int z638.1), (5, .int z634.1), (0, .ref 0), (1, .ref x1), (2, .ref x2), (3, .ref x3)] [] (pc' := 3157) rfl rfl rfl ?_
              refine g_goto (t := 23) rfl ?_
              cases h
              exact r_lv (k1 ((s.1 + 6), z638.2) hK) rfl ⟨rfl, rfl, rfl, rfl, rfl, trivial⟩
            · refine g_ifcn (t := 2511) rfl (m_eqF c645) ?_
              refine g_in eF13_law_2509 mx2635 ?_
              refine g_ch [(6, .int z638.1), (5, .int z634.1), (0, .ref 0), (1, .ref x1), (2, .ref x2), (3, .ref x3), (4, .int s.1)] [.int 0] (pc' := 2510) rfl rfl rfl ?_
              cases h
              rw [k0 _ hK]
              exact g_iret rfl (by decide +kernel)
          · refine g_ifc (t := 2511) rfl (m_neT c642) ?_
            refine g_in eF13_law_2511 mx2635 ?_
            refine g_goto (t := 3154) rfl ?_
            refine g_in eF13_law_3154 mx2635 ?_
            refine g_ch [(4, .int (s.1 + 6)), (6, .int z638.1), (5, .int z634.1), (0, .ref 0), (1, .ref x1), (2, .ref x2), (3, .ref x3)] [] (pc' := 3157) rfl rfl rfl ?_
            refine g_goto (t := 23) rfl ?_
            cases h
            exact r_lv (k1 ((s.1 + 6), z638.2) hK) rfl ⟨rfl, rfl, rfl, rfl, rfl, trivial⟩
        · refine g_ifn (t := 2494) rfl (m_eqF c641) ?_
          refine g_in eF13_law_2492 mx2635 ?_
          refine g_ch [(6, .int z638.1), (5, .int z634.1), (0, .ref 0), (1, .ref x1), (2, .ref x2), (3, .ref x3), (4, .int s.1)] [.int 0] (pc' := 2493) rfl rfl rfl ?_
          cases h
          rw [k0 _ hK]
          exact g_iret rfl (by decide +kernel)
      rcases m_ifd h with ⟨c646, hc646⟩ | ⟨c646, h⟩
      · subst c646
        have h := hc646
        refine g_sw (o := 2474) (t := 2514) e5 rfl rfl ?_
        refine g_in eF13_law_2514 mx2635 ?_
        refine g_ch [(0, .ref 0), (1, .ref x1), (2, .ref x2), (3, .ref x3), (4, .int s.1)] [.ref x1] (pc' := 2515) rfl rfl rfl ?_
        obtain ⟨z648, e647, h⟩ := m_bd h
        refine g_call (v := some (.int z648.1)) (h := z648.2) (st' := [.int z648.1]) (D1 := 4) (as := [.ref x1]) (Or.inr (Or.inl rfl)) q13_m257 (m_cv (as := []) (rest := []) (Or.inl rfl) q13_m257 jv2228 (OF11_over e647) rfl rfl rfl rfl) (by decide) (SF11_over e647) rfl ?_
        refine g_ch [(0, .ref 0), (1, .ref x1), (2, .ref x2), (3, .ref x3), (4, .int s.1)] [.ref x2, .int z648.1] (pc' := 2519) rfl rfl rfl ?_
        obtain ⟨z650, e649, h⟩ := m_bd h
        refine g_call (v := some (.int z650.1)) (h := z650.2) (st' := [.int z650.1, .int z648.1]) (D1 := 2) (as := [.ref x2]) (Or.inr (Or.inl rfl)) q13_m260 (m_cv (as := []) (rest := [.int z648.1]) (Or.inl rfl) q13_m260 jv2511 (OF12_over e649) rfl rfl rfl rfl) (by decide) (SF12_over e649) rfl ?_
        rcases m_ifd h with ⟨c651, h⟩ | ⟨c651, h⟩
        · refine g_if (t := 3154) rfl (m_eqT c651) ?_
          refine g_in eF13_law_3154 mx2635 ?_
          refine g_ch [(4, .int (s.1 + 6)), (0, .ref 0), (1, .ref x1), (2, .ref x2), (3, .ref x3)] [] (pc' := 3157) rfl rfl rfl ?_
          refine g_goto (t := 23) rfl ?_
          cases h
          exact r_lv (k1 ((s.1 + 6), z650.2) hK) rfl ⟨rfl, rfl, rfl, rfl, rfl, trivial⟩
        · refine g_ifn (t := 3154) rfl (m_eqF c651) ?_
          refine g_in eF13_law_2525 mx2635 ?_
          refine g_ch [(0, .ref 0), (1, .ref x1), (2, .ref x2), (3, .ref x3), (4, .int s.1)] [.int 0] (pc' := 2526) rfl rfl rfl ?_
          cases h
          rw [k0 _ hK]
          exact g_iret rfl (by decide +kernel)
      rcases m_ifd h with ⟨c652, hc652⟩ | ⟨c652, h⟩
      · subst c652
        have h := hc652
        refine g_sw (o := 2487) (t := 2527) e5 rfl rfl ?_
        refine g_in eF13_law_2527 mx2635 ?_
        refine g_ch [(0, .ref 0), (1, .ref x1), (2, .ref x2), (3, .ref x3), (4, .int s.1)] [.int (s.1 + 1), .ref 0, .ref x1] (pc' := 2533) rfl rfl rfl ?_
        obtain ⟨v653, e654, h⟩ := m_bd h
        refine g_sc e654 ?_
        refine g_ch [(0, .ref 0), (1, .ref x1), (2, .ref x2), (3, .ref x3), (4, .int s.1)] [.int (s.1 + 2), .ref 0, .int v653, .ref x1] (pc' := 2539) rfl rfl rfl ?_
        obtain ⟨v655, e656, h⟩ := m_bd h
        refine g_sc e656 ?_
        obtain ⟨z658, e657, h⟩ := m_bd h
        refine g_call (v := some (.int z658.1)) (h := z658.2) (st' := [.int z658.1]) (D1 := 9) (as := [.ref x1, .int v653, .int v655]) (Or.inl rfl) q13_m261 (m_cs (as := [.int v655, .int v653, .ref x1]) (rest := []) q13_m261 jv2629 rfl rfl rfl rfl rfl) (by decide) (SF13_tons e657) rfl ?_
        refine g_ch [(5, .int z658.1), (0, .ref 0), (1, .ref x1), (2, .ref x2), (3, .ref x3), (4, .int s.1)] [.int (s.1 + 1), .ref 0, .ref x2] (pc' := 2551) rfl rfl rfl ?_
        obtain ⟨v659, e660, h⟩ := m_bd h
        refine g_sc e660 ?_
        refine g_ch [(5, .int z658.1), (0, .ref 0), (1, .ref x1), (2, .ref x2), (3, .ref x3), (4, .int s.1)] [.int (s.1 + 2), .ref 0, .int v659, .ref x2] (pc' := 2557) rfl rfl rfl ?_
        obtain ⟨v661, e662, h⟩ := m_bd h
        refine g_sc e662 ?_
        obtain ⟨h664, e663, h⟩ := m_bd h
        refine g_call (v := none) (h := h664) (st' := []) (D1 := 2) (as := [.ref x2, .int v659, .int v661]) (Or.inr (Or.inl rfl)) q13_m263 (m_cv (as := [.int v661, .int v659]) (rest := []) (Or.inl rfl) q13_m263 jv2512 (OF12_tons e663) rfl rfl rfl rfl) (by decide) (SF12_tons e663) rfl ?_
        refine g_ch [(5, .int z658.1), (0, .ref 0), (1, .ref x1), (2, .ref x2), (3, .ref x3), (4, .int s.1)] [.ref x2] (pc' := 2562) rfl rfl rfl ?_
        obtain ⟨v666, e665, h⟩ := m_bd h
        refine g_call (v := some (.int v666)) (h := h664) (st' := [.int v666]) (D1 := 0) (as := [.ref x2]) (Or.inr (Or.inl rfl)) q13_m157 (m_cv (as := []) (rest := []) (Or.inl rfl) q13_m157 jv2400 (OF12_thrown e665) rfl rfl rfl rfl) (by decide) (SF12_thrown e665) rfl ?_
        refine g_ch [(5, .int z658.1), (0, .ref 0), (1, .ref x1), (2, .ref x2), (3, .ref x3), (4, .int s.1)] [.int z658.1, .int v666] (pc' := 2567) rfl rfl rfl ?_
        rcases m_ifd h with ⟨c667, h⟩ | ⟨c667, h⟩
        · refine g_if (t := 2572) rfl (m_eqT c667) ?_
          refine g_in eF13_law_2572 mx2635 ?_
          refine g_goto (t := 3154) rfl ?_
          refine g_in eF13_law_3154 mx2635 ?_
          refine g_ch [(4, .int (s.1 + 6)), (5, .int z658.1), (0, .ref 0), (1, .ref x1), (2, .ref x2), (3, .ref x3)] [] (pc' := 3157) rfl rfl rfl ?_
          refine g_goto (t := 23) rfl ?_
          cases h
          exact r_lv (k1 ((s.1 + 6), h664) hK) rfl ⟨rfl, rfl, rfl, rfl, rfl, trivial⟩
        · refine g_ifn (t := 2572) rfl (m_eqF c667) ?_
          refine g_in eF13_law_2570 mx2635 ?_
          refine g_ch [(5, .int z658.1), (0, .ref 0), (1, .ref x1), (2, .ref x2), (3, .ref x3), (4, .int s.1)] [.int 0] (pc' := 2571) rfl rfl rfl ?_
          cases h
          rw [k0 _ hK]
          exact g_iret rfl (by decide +kernel)
      rcases m_ifd h with ⟨c668, hc668⟩ | ⟨c668, h⟩
      · subst c668
        have h := hc668
        refine g_sw (o := 2535) (t := 2575) e5 rfl rfl ?_
        refine g_in eF13_law_2575 mx2635 ?_
        refine g_ch [(0, .ref 0), (1, .ref x1), (2, .ref x2), (3, .ref x3), (4, .int s.1)] [.int (s.1 + 1), .ref 0, .ref x1] (pc' := 2581) rfl rfl rfl ?_
        obtain ⟨v669, e670, h⟩ := m_bd h
        refine g_sc e670 ?_
        obtain ⟨z672, e671, h⟩ := m_bd h
        refine g_call (v := some (.int z672.1)) (h := z672.2) (st' := [.int z672.1]) (D1 := 402) (as := [.ref x1, .int v669]) (Or.inr (Or.inl rfl)) q13_m264 (m_cv (as := [.int v669]) (rest := []) (Or.inl rfl) q13_m264 jv2238 (OF11_hulls e671) rfl rfl rfl rfl) (by decide) (SF11_hulls e671) rfl ?_
        refine g_ch [(0, .ref 0), (1, .ref x1), (2, .ref x2), (3, .ref x3), (4, .int s.1)] [.int (s.1 + 1), .ref 0, .ref x2, .int z672.1] (pc' := 2591) rfl rfl rfl ?_
        obtain ⟨v673, e674, h⟩ := m_bd h
        refine g_sc e674 ?_
        obtain ⟨z676, e675, h⟩ := m_bd h
        refine g_call (v := some (.int z676.1)) (h := z676.2) (st' := [.int z676.1, .int z672.1]) (D1 := 401) (as := [.ref x2, .int v673]) (Or.inr (Or.inl rfl)) q13_m267 (m_cv (as := [.int v673]) (rest := [.int z672.1]) (Or.inl rfl) q13_m267 jv2514 (OF12_hulls e675) rfl rfl rfl rfl) (by decide) (SF12_hulls e675) rfl ?_
        rcases m_ifd h with ⟨c677, h⟩ | ⟨c677, h⟩
        · refine g_if (t := 3154) rfl (m_eqT c677) ?_
          refine g_in eF13_law_3154 mx2635 ?_
          refine g_ch [(4, .int (s.1 + 6)), (0, .ref 0), (1, .ref x1), (2, .ref x2), (3, .ref x3)] [] (pc' := 3157) rfl rfl rfl ?_
          refine g_goto (t := 23) rfl ?_
          cases h
          exact r_lv (k1 ((s.1 + 6), z676.2) hK) rfl ⟨rfl, rfl, rfl, rfl, rfl, trivial⟩
        · refine g_ifn (t := 3154) rfl (m_eqF c677) ?_
          refine g_in eF13_law_2598 mx2635 ?_
          refine g_ch [(0, .ref 0), (1, .ref x1), (2, .ref x2), (3, .ref x3), (4, .int s.1)] [.int 0] (pc' := 2599) rfl rfl rfl ?_
          cases h
          rw [k0 _ hK]
          exact g_iret rfl (by decide +kernel)
      rcases m_ifd h with ⟨c678, hc678⟩ | ⟨c678, h⟩
      · subst c678
        have h := hc678
        refine g_sw (o := 2560) (t := 2600) e5 rfl rfl ?_
        refine g_in eF13_law_2600 mx2635 ?_
        refine g_ch [(0, .ref 0), (1, .ref x1), (2, .ref x2), (3, .ref x3), (4, .int s.1)] [.ref x1] (pc' := 2601) rfl rfl rfl ?_
        obtain ⟨z680, e679, h⟩ := m_bd h
        refine g_call (v := some (.int z680.1)) (h := z680.2) (st' := [.int z680.1]) (D1 := 8) (as := [.ref x1]) (Or.inr (Or.inl rfl)) q13_m268 (m_cv (as := []) (rest := []) (Or.inl rfl) q13_m268 jv2239 (OF11_bestOrders e679) rfl rfl rfl rfl) (by decide) (SF11_bestOrders e679) rfl ?_
        refine g_ch [(0, .ref 0), (1, .ref x1), (2, .ref x2), (3, .ref x3), (4, .int s.1)] [.ref x2, .int z680.1] (pc' := 2605) rfl rfl rfl ?_
        obtain ⟨z682, e681, h⟩ := m_bd h
        refine g_call (v := some (.int z682.1)) (h := z682.2) (st' := [.int z682.1, .int z680.1]) (D1 := 4) (as := [.ref x2]) (Or.inr (Or.inl rfl)) q13_m271 (m_cv (as := []) (rest := [.int z680.1]) (Or.inl rfl) q13_m271 jv2515 (OF12_bestOrders e681) rfl rfl rfl rfl) (by decide) (SF12_bestOrders e681) rfl ?_
        rcases m_ifd h with ⟨c683, h⟩ | ⟨c683, h⟩
        · refine g_if (t := 3154) rfl (m_eqT c683) ?_
          refine g_in eF13_law_3154 mx2635 ?_
          refine g_ch [(4, .int (s.1 + 6)), (0, .ref 0), (1, .ref x1), (2, .ref x2), (3, .ref x3)] [] (pc' := 3157) rfl rfl rfl ?_
          refine g_goto (t := 23) rfl ?_
          cases h
          exact r_lv (k1 ((s.1 + 6), z682.2) hK) rfl ⟨rfl, rfl, rfl, rfl, rfl, trivial⟩
        · refine g_ifn (t := 3154) rfl (m_eqF c683) ?_
          refine g_in eF13_law_2611 mx2635 ?_
          refine g_ch [(0, .ref 0), (1, .ref x1), (2, .ref x2), (3, .ref x3), (4, .int s.1)] [.int 0] (pc' := 2612) rfl rfl rfl ?_
          cases h
          rw [k0 _ hK]
          exact g_iret rfl (by decide +kernel)
      rcases m_ifd h with ⟨c684, hc684⟩ | ⟨c684, h⟩
      · subst c684
        have h := hc684
        refine g_sw (o := 2573) (t := 2613) e5 rfl rfl ?_
        refine g_in eF13_law_2613 mx2635 ?_
        refine g_ch [(0, .ref 0), (1, .ref x1), (2, .ref x2), (3, .ref x3), (4, .int s.1)] [.int (s.1 + 1), .ref 0, .ref x1] (pc' := 2619) rfl rfl rfl ?_
        obtain ⟨v685, e686, h⟩ := m_bd h
        refine g_sc e686 ?_
        refine g_ch [(0, .ref 0), (1, .ref x1), (2, .ref x2), (3, .ref x3), (4, .int s.1)] [.int (s.1 + 2), .ref 0, .int v685, .ref x1] (pc' := 2625) rfl rfl rfl ?_
        obtain ⟨v687, e688, h⟩ := m_bd h
        refine g_sc e688 ?_
        refine g_ch [(0, .ref 0), (1, .ref x1), (2, .ref x2), (3, .ref x3), (4, .int s.1)] [.ref x3, .int v687, .int v685, .ref x1] (pc' := 2627) rfl rfl rfl ?_
        obtain ⟨z690, e689, h⟩ := m_bd h
        refine g_call (v := some (.int z690.1)) (h := z690.2) (st' := [.int z690.1]) (D1 := 8) (as := [.ref x1, .int v685, .int v687, .ref x3]) (Or.inl rfl) q13_m272 (m_cs (as := [.ref x3, .int v687, .int v685, .ref x1]) (rest := []) q13_m272 jv2630 rfl rfl rfl rfl rfl) (by decide) (SF13_page e689) rfl ?_
        refine g_ch [(5, .int z690.1), (0, .ref 0), (1, .ref x1), (2, .ref x2), (3, .ref x3), (4, .int s.1)] [.int (s.1 + 1), .ref 0, .ref x2] (pc' := 2638) rfl rfl rfl ?_
        obtain ⟨v691, e692, h⟩ := m_bd h
        refine g_sc e692 ?_
        refine g_ch [(5, .int z690.1), (0, .ref 0), (1, .ref x1), (2, .ref x2), (3, .ref x3), (4, .int s.1)] [.int (s.1 + 2), .ref 0, .int v691, .ref x2] (pc' := 2644) rfl rfl rfl ?_
        obtain ⟨v693, e694, h⟩ := m_bd h
        refine g_sc e694 ?_
        obtain ⟨z696, e695, h⟩ := m_bd h
        refine g_call (v := some (.int z696.1)) (h := z696.2) (st' := [.int z696.1]) (D1 := 1) (as := [.ref x2, .int v691, .int v693]) (Or.inr (Or.inl rfl)) q13_m274 (m_cv (as := [.int v693, .int v691]) (rest := []) (Or.inl rfl) q13_m274 jv2516 (OF12_page e695) rfl rfl rfl rfl) (by decide) (SF12_page e695) rfl ?_
        refine g_ch [(6, .int z696.1), (5, .int z690.1), (0, .ref 0), (1, .ref x1), (2, .ref x2), (3, .ref x3), (4, .int s.1)] [.ref x2] (pc' := 2651) rfl rfl rfl ?_
        obtain ⟨v698, e697, h⟩ := m_bd h
        refine g_call (v := some (.int v698)) (h := z696.2) (st' := [.int v698]) (D1 := 0) (as := [.ref x2]) (Or.inr (Or.inl rfl)) q13_m157 (m_cv (as := []) (rest := []) (Or.inl rfl) q13_m157 jv2400 (OF12_thrown e697) rfl rfl rfl rfl) (by decide) (SF12_thrown e697) rfl ?_
        refine g_ch [(6, .int z696.1), (5, .int z690.1), (0, .ref 0), (1, .ref x1), (2, .ref x2), (3, .ref x3), (4, .int s.1)] [.int z690.1, .int v698] (pc' := 2656) rfl rfl rfl ?_
        rcases m_ifd h with ⟨c699, h⟩ | ⟨c699, h⟩
        · refine g_if (t := 2661) rfl (m_eqT c699) ?_
          refine g_in eF13_law_2661 mx2635 ?_
          refine g_ch [(6, .int z696.1), (5, .int z690.1), (0, .ref 0), (1, .ref x1), (2, .ref x2), (3, .ref x3), (4, .int s.1)] [.int z690.1] (pc' := 2663) rfl rfl rfl ?_
          rcases m_ifd h with ⟨c700, h⟩ | ⟨c700, h⟩
          · refine g_ifcn (t := 2678) rfl (m_neF c700) ?_
            refine g_in eF13_law_2666 mx2635 ?_
            refine g_ch [(6, .int z696.1), (5, .int z690.1), (0, .ref 0), (1, .ref x1), (2, .ref x2), (3, .ref x3), (4, .int s.1)] [.int 0, .ref x3] (pc' := 2668) rfl rfl rfl ?_
            obtain ⟨v701, e702, h⟩ := m_bd h
            refine g_la e702 ?_
            refine g_ch [(6, .int z696.1), (5, .int z690.1), (0, .ref 0), (1, .ref x1), (2, .ref x2), (3, .ref x3), (4, .int s.1)] [.int (lg_cmp v701 (m_i2l z696.1))] (pc' := 2673) rfl rfl rfl ?_
            rcases m_ifd h with ⟨c703, h⟩ | ⟨c703, h⟩
            · refine g_ifc (t := 2678) rfl (m_eqT c703) ?_
              refine g_in eF13_law_2678 mx2635 ?_
              refine g_goto (t := 3154) rfl ?_
              refine g_in eF13_law_3154 mx2635 ?_
              refine g_ch [(4, .int (s.1 + 6)), (6, .int z696.1), (5, .int z690.1), (0, .ref 0), (1, .ref x1), (2, .ref x2), (3, .ref x3)] [] (pc' := 3157) rfl rfl rfl ?_
              refine g_goto (t := 23) rfl ?_
              cases h
              exact r_lv (k1 ((s.1 + 6), z696.2) hK) rfl ⟨rfl, rfl, rfl, rfl, rfl, trivial⟩
            · refine g_ifcn (t := 2678) rfl (m_eqF c703) ?_
              refine g_in eF13_law_2676 mx2635 ?_
              refine g_ch [(6, .int z696.1), (5, .int z690.1), (0, .ref 0), (1, .ref x1), (2, .ref x2), (3, .ref x3), (4, .int s.1)] [.int 0] (pc' := 2677) rfl rfl rfl ?_
              cases h
              rw [k0 _ hK]
              exact g_iret rfl (by decide +kernel)
          · refine g_ifc (t := 2678) rfl (m_neT c700) ?_
            refine g_in eF13_law_2678 mx2635 ?_
            refine g_goto (t := 3154) rfl ?_
            refine g_in eF13_law_3154 mx2635 ?_
            refine g_ch [(4, .int (s.1 + 6)), (6, .int z696.1), (5, .int z690.1), (0, .ref 0), (1, .ref x1), (2, .ref x2), (3, .ref x3)] [] (pc' := 3157) rfl rfl rfl ?_
            refine g_goto (t := 23) rfl ?_
            cases h
            exact r_lv (k1 ((s.1 + 6), z696.2) hK) rfl ⟨rfl, rfl, rfl, rfl, rfl, trivial⟩
        · refine g_ifn (t := 2661) rfl (m_eqF c699) ?_
          refine g_in eF13_law_2659 mx2635 ?_
          refine g_ch [(6, .int z696.1), (5, .int z690.1), (0, .ref 0), (1, .ref x1), (2, .ref x2), (3, .ref x3), (4, .int s.1)] [.int 0] (pc' := 2660) rfl rfl rfl ?_
          cases h
          rw [k0 _ hK]
          exact g_iret rfl (by decide +kernel)
      rcases m_ifd h with ⟨c704, hc704⟩ | ⟨c704, h⟩
      · subst c704
        have h := hc704
        refine g_sw (o := 2641) (t := 2681) e5 rfl rfl ?_
        refine g_in eF13_law_2681 mx2635 ?_
        refine g_ch [(0, .ref 0), (1, .ref x1), (2, .ref x2), (3, .ref x3), (4, .int s.1)] [.int (s.1 + 1), .ref 0, .ref x1] (pc' := 2687) rfl rfl rfl ?_
        obtain ⟨v705, e706, h⟩ := m_bd h
        refine g_sc e706 ?_
        refine g_ch [(0, .ref 0), (1, .ref x1), (2, .ref x2), (3, .ref x3), (4, .int s.1)] [.int (s.1 + 2), .ref 0, .int v705, .ref x1] (pc' := 2693) rfl rfl rfl ?_
        obtain ⟨v707, e708, h⟩ := m_bd h
        refine g_sc e708 ?_
        obtain ⟨v710, e709, h⟩ := m_bd h
        refine g_call (v := some (.int v710)) (h := s.2) (st' := [.int v710]) (D1 := 4) (as := [.ref x1, .int v705, .int v707]) (Or.inr (Or.inl rfl)) q13_m275 (m_cv (as := [.int v707, .int v705]) (rest := []) (Or.inl rfl) q13_m275 jv2241 (OF11_signed e709) rfl rfl rfl rfl) (by decide) (SF11_signed e709) rfl ?_
        refine g_ch [(0, .ref 0), (1, .ref x1), (2, .ref x2), (3, .ref x3), (4, .int s.1)] [.int (s.1 + 1), .ref 0, .ref x2, .int v710] (pc' := 2703) rfl rfl rfl ?_
        obtain ⟨v711, e712, h⟩ := m_bd h
        refine g_sc e712 ?_
        refine g_ch [(0, .ref 0), (1, .ref x1), (2, .ref x2), (3, .ref x3), (4, .int s.1)] [.int (s.1 + 2), .ref 0, .int v711, .ref x2, .int v710] (pc' := 2709) rfl rfl rfl ?_
        obtain ⟨v713, e714, h⟩ := m_bd h
        refine g_sc e714 ?_
        obtain ⟨z716, e715, h⟩ := m_bd h
        refine g_call (v := some (.int z716.1)) (h := z716.2) (st' := [.int z716.1, .int v710]) (D1 := 0) (as := [.ref x2, .int v711, .int v713]) (Or.inr (Or.inl rfl)) q13_m278 (m_cv (as := [.int v713, .int v711]) (rest := [.int v710]) (Or.inl rfl) q13_m278 jv2517 (OF12_signed e715) rfl rfl rfl rfl) (by decide) (SF12_signed e715) rfl ?_
        rcases m_ifd h with ⟨c717, h⟩ | ⟨c717, h⟩
        · refine g_if (t := 3154) rfl (m_eqT c717) ?_
          refine g_in eF13_law_3154 mx2635 ?_
          refine g_ch [(4, .int (s.1 + 6)), (0, .ref 0), (1, .ref x1), (2, .ref x2), (3, .ref x3)] [] (pc' := 3157) rfl rfl rfl ?_
          refine g_goto (t := 23) rfl ?_
          cases h
          exact r_lv (k1 ((s.1 + 6), z716.2) hK) rfl ⟨rfl, rfl, rfl, rfl, rfl, trivial⟩
        · refine g_ifn (t := 3154) rfl (m_eqF c717) ?_
          refine g_in eF13_law_2716 mx2635 ?_
          refine g_ch [(0, .ref 0), (1, .ref x1), (2, .ref x2), (3, .ref x3), (4, .int s.1)] [.int 0] (pc' := 2717) rfl rfl rfl ?_
          cases h
          rw [k0 _ hK]
          exact g_iret rfl (by decide +kernel)
      rcases m_ifd h with ⟨c718, hc718⟩ | ⟨c718, h⟩
      · subst c718
        have h := hc718
        refine g_sw (o := 2678) (t := 2718) e5 rfl rfl ?_
        refine g_in eF13_law_2718 mx2635 ?_
        refine g_ch [(0, .ref 0), (1, .ref x1), (2, .ref x2), (3, .ref x3), (4, .int s.1)] [.int (s.1 + 1), .ref 0, .ref x1] (pc' := 2724) rfl rfl rfl ?_
        obtain ⟨v719, e720, h⟩ := m_bd h
        refine g_sc e720 ?_
        refine g_ch [(0, .ref 0), (1, .ref x1), (2, .ref x2), (3, .ref x3), (4, .int s.1)] [.int (s.1 + 2), .ref 0, .int v719, .ref x1] (pc' := 2730) rfl rfl rfl ?_
        obtain ⟨v721, e722, h⟩ := m_bd h
        refine g_sc e722 ?_
        refine g_ch [(0, .ref 0), (1, .ref x1), (2, .ref x2), (3, .ref x3), (4, .int s.1)] [.int (s.1 + 3), .ref 0, .int v721, .int v719, .ref x1] (pc' := 2736) rfl rfl rfl ?_
        obtain ⟨v723, e724, h⟩ := m_bd h
        refine g_sc e724 ?_
        refine g_ch [(0, .ref 0), (1, .ref x1), (2, .ref x2), (3, .ref x3), (4, .int s.1)] [.int (s.1 + 4), .ref 0, .int v723, .int v721, .int v719, .ref x1] (pc' := 2742) rfl rfl rfl ?_
        obtain ⟨v725, e726, h⟩ := m_bd h
        refine g_sc e726 ?_
        refine g_ch [(0, .ref 0), (1, .ref x1), (2, .ref x2), (3, .ref x3), (4, .int s.1)] [.ref x3, .int v725, .int v723, .int v721, .int v719, .ref x1] (pc' := 2744) rfl rfl rfl ?_
        obtain ⟨z728, e727, h⟩ := m_bd h
        refine g_call (v := some (.int z728.1)) (h := z728.2) (st' := [.int z728.1]) (D1 := 8) (as := [.ref x1, .int v719, .int v721, .int v723, .int v725, .ref x3]) (Or.inl rfl) q13_m279 (m_cs (as := [.ref x3, .int v725, .int v723, .int v721, .int v719, .ref x1]) (rest := []) q13_m279 jv2631 rfl rfl rfl rfl rfl) (by decide) (SF13_choice e727) rfl ?_
        refine g_ch [(5, .int z728.1), (0, .ref 0), (1, .ref x1), (2, .ref x2), (3, .ref x3), (4, .int s.1)] [.int (s.1 + 1), .ref 0, .ref x2] (pc' := 2755) rfl rfl rfl ?_
        obtain ⟨v729, e730, h⟩ := m_bd h
        refine g_sc e730 ?_
        refine g_ch [(5, .int z728.1), (0, .ref 0), (1, .ref x1), (2, .ref x2), (3, .ref x3), (4, .int s.1)] [.int (s.1 + 2), .ref 0, .int v729, .ref x2] (pc' := 2761) rfl rfl rfl ?_
        obtain ⟨v731, e732, h⟩ := m_bd h
        refine g_sc e732 ?_
        refine g_ch [(5, .int z728.1), (0, .ref 0), (1, .ref x1), (2, .ref x2), (3, .ref x3), (4, .int s.1)] [.int (s.1 + 3), .ref 0, .int v731, .int v729, .ref x2] (pc' := 2767) rfl rfl rfl ?_
        obtain ⟨v733, e734, h⟩ := m_bd h
        refine g_sc e734 ?_
        refine g_ch [(5, .int z728.1), (0, .ref 0), (1, .ref x1), (2, .ref x2), (3, .ref x3), (4, .int s.1)] [.int (s.1 + 4), .ref 0, .int v733, .int v731, .int v729, .ref x2] (pc' := 2773) rfl rfl rfl ?_
        obtain ⟨v735, e736, h⟩ := m_bd h
        refine g_sc e736 ?_
        obtain ⟨z738, e737, h⟩ := m_bd h
        refine g_call (v := some (.int z738.1)) (h := z738.2) (st' := [.int z738.1]) (D1 := 1) (as := [.ref x2, .int v729, .int v731, .int v733, .int v735]) (Or.inr (Or.inl rfl)) q13_m281 (m_cv (as := [.int v735, .int v733, .int v731, .int v729]) (rest := []) (Or.inl rfl) q13_m281 jv2518 (OF12_choice e737) rfl rfl rfl rfl) (by decide) (SF12_choice e737) rfl ?_
        refine g_ch [(6, .int z738.1), (5, .int z728.1), (0, .ref 0), (1, .ref x1), (2, .ref x2), (3, .ref x3), (4, .int s.1)] [.ref x2] (pc' := 2780) rfl rfl rfl ?_
        obtain ⟨v740, e739, h⟩ := m_bd h
        refine g_call (v := some (.int v740)) (h := z738.2) (st' := [.int v740]) (D1 := 0) (as := [.ref x2]) (Or.inr (Or.inl rfl)) q13_m157 (m_cv (as := []) (rest := []) (Or.inl rfl) q13_m157 jv2400 (OF12_thrown e739) rfl rfl rfl rfl) (by decide) (SF12_thrown e739) rfl ?_
        refine g_ch [(6, .int z738.1), (5, .int z728.1), (0, .ref 0), (1, .ref x1), (2, .ref x2), (3, .ref x3), (4, .int s.1)] [.int z728.1, .int v740] (pc' := 2785) rfl rfl rfl ?_
        rcases m_ifd h with ⟨c741, h⟩ | ⟨c741, h⟩
        · refine g_if (t := 2790) rfl (m_eqT c741) ?_
          refine g_in eF13_law_2790 mx2635 ?_
          refine g_ch [(6, .int z738.1), (5, .int z728.1), (0, .ref 0), (1, .ref x1), (2, .ref x2), (3, .ref x3), (4, .int s.1)] [.int z728.1] (pc' := 2792) rfl rfl rfl ?_
          rcases m_ifd h with ⟨c742, h⟩ | ⟨c742, h⟩
          · refine g_ifcn (t := 2807) rfl (m_neF c742) ?_
            refine g_in eF13_law_2795 mx2635 ?_
            refine g_ch [(6, .int z738.1), (5, .int z728.1), (0, .ref 0), (1, .ref x1), (2, .ref x2), (3, .ref x3), (4, .int s.1)] [.int 0, .ref x3] (pc' := 2797) rfl rfl rfl ?_
            obtain ⟨v743, e744, h⟩ := m_bd h
            refine g_la e744 ?_
            refine g_ch [(6, .int z738.1), (5, .int z728.1), (0, .ref 0), (1, .ref x1), (2, .ref x2), (3, .ref x3), (4, .int s.1)] [.int (lg_cmp v743 (m_i2l z738.1))] (pc' := 2802) rfl rfl rfl ?_
            rcases m_ifd h with ⟨c745, h⟩ | ⟨c745, h⟩
            · refine g_ifc (t := 2807) rfl (m_eqT c745) ?_
              refine g_in eF13_law_2807 mx2635 ?_
              refine g_goto (t := 3154) rfl ?_
              refine g_in eF13_law_3154 mx2635 ?_
              refine g_ch [(4, .int (s.1 + 6)), (6, .int z738.1), (5, .int z728.1), (0, .ref 0), (1, .ref x1), (2, .ref x2), (3, .ref x3)] [] (pc' := 3157) rfl rfl rfl ?_
              refine g_goto (t := 23) rfl ?_
              cases h
              exact r_lv (k1 ((s.1 + 6), z738.2) hK) rfl ⟨rfl, rfl, rfl, rfl, rfl, trivial⟩
            · refine g_ifcn (t := 2807) rfl (m_eqF c745) ?_
              refine g_in eF13_law_2805 mx2635 ?_
              refine g_ch [(6, .int z738.1), (5, .int z728.1), (0, .ref 0), (1, .ref x1), (2, .ref x2), (3, .ref x3), (4, .int s.1)] [.int 0] (pc' := 2806) rfl rfl rfl ?_
              cases h
              rw [k0 _ hK]
              exact g_iret rfl (by decide +kernel)
          · refine g_ifc (t := 2807) rfl (m_neT c742) ?_
            refine g_in eF13_law_2807 mx2635 ?_
            refine g_goto (t := 3154) rfl ?_
            refine g_in eF13_law_3154 mx2635 ?_
            refine g_ch [(4, .int (s.1 + 6)), (6, .int z738.1), (5, .int z728.1), (0, .ref 0), (1, .ref x1), (2, .ref x2), (3, .ref x3)] [] (pc' := 3157) rfl rfl rfl ?_
            refine g_goto (t := 23) rfl ?_
            cases h
            exact r_lv (k1 ((s.1 + 6), z738.2) hK) rfl ⟨rfl, rfl, rfl, rfl, rfl, trivial⟩
        · refine g_ifn (t := 2790) rfl (m_eqF c741) ?_
          refine g_in eF13_law_2788 mx2635 ?_
          refine g_ch [(6, .int z738.1), (5, .int z728.1), (0, .ref 0), (1, .ref x1), (2, .ref x2), (3, .ref x3), (4, .int s.1)] [.int 0] (pc' := 2789) rfl rfl rfl ?_
          cases h
          rw [k0 _ hK]
          exact g_iret rfl (by decide +kernel)
      rcases m_ifd h with ⟨c746, hc746⟩ | ⟨c746, h⟩
      · subst c746
        have h := hc746
        refine g_sw (o := 2770) (t := 2810) e5 rfl rfl ?_
        refine g_in eF13_law_2810 mx2635 ?_
        refine g_ch [(0, .ref 0), (1, .ref x1), (2, .ref x2), (3, .ref x3), (4, .int s.1)] [.int (s.1 + 1), .ref 0, .ref x1] (pc' := 2816) rfl rfl rfl ?_
        obtain ⟨v747, e748, h⟩ := m_bd h
        refine g_sc e748 ?_
        refine g_ch [(0, .ref 0), (1, .ref x1), (2, .ref x2), (3, .ref x3), (4, .int s.1)] [.int (s.1 + 2), .ref 0, .int v747, .ref x1] (pc' := 2822) rfl rfl rfl ?_
        obtain ⟨v749, e750, h⟩ := m_bd h
        refine g_sc e750 ?_
        refine g_ch [(0, .ref 0), (1, .ref x1), (2, .ref x2), (3, .ref x3), (4, .int s.1)] [.int (s.1 + 3), .ref 0, .int v749, .int v747, .ref x1] (pc' := 2828) rfl rfl rfl ?_
        obtain ⟨v751, e752, h⟩ := m_bd h
        refine g_sc e752 ?_
        refine g_ch [(0, .ref 0), (1, .ref x1), (2, .ref x2), (3, .ref x3), (4, .int s.1)] [.int (s.1 + 4), .ref 0, .int v751, .int v749, .int v747, .ref x1] (pc' := 2834) rfl rfl rfl ?_
        obtain ⟨v753, e754, h⟩ := m_bd h
        refine g_sc e754 ?_
        refine g_ch [(0, .ref 0), (1, .ref x1), (2, .ref x2), (3, .ref x3), (4, .int s.1)] [.int (s.1 + 5), .ref 0, .int v753, .int v751, .int v749, .int v747, .ref x1] (pc' := 2840) rfl rfl rfl ?_
        obtain ⟨v755, e756, h⟩ := m_bd h
        refine g_sc e756 ?_
        obtain ⟨z758, e757, h⟩ := m_bd h
        refine g_call (v := some (.int z758.1)) (h := z758.2) (st' := [.int z758.1]) (D1 := 8) (as := [.ref x1, .int v747, .int v749, .int v751, .int v753, .int v755]) (Or.inl rfl) q13_m282 (m_cs (as := [.int v755, .int v753, .int v751, .int v749, .int v747, .ref x1]) (rest := []) q13_m282 jv2632 rfl rfl rfl rfl rfl) (by decide) (SF13_row e757) rfl ?_
        refine g_ch [(5, .int z758.1), (0, .ref 0), (1, .ref x1), (2, .ref x2), (3, .ref x3), (4, .int s.1)] [.int (s.1 + 1), .ref 0, .ref x2] (pc' := 2852) rfl rfl rfl ?_
        obtain ⟨v759, e760, h⟩ := m_bd h
        refine g_sc e760 ?_
        refine g_ch [(5, .int z758.1), (0, .ref 0), (1, .ref x1), (2, .ref x2), (3, .ref x3), (4, .int s.1)] [.int (s.1 + 2), .ref 0, .int v759, .ref x2] (pc' := 2858) rfl rfl rfl ?_
        obtain ⟨v761, e762, h⟩ := m_bd h
        refine g_sc e762 ?_
        refine g_ch [(5, .int z758.1), (0, .ref 0), (1, .ref x1), (2, .ref x2), (3, .ref x3), (4, .int s.1)] [.int (s.1 + 3), .ref 0, .int v761, .int v759, .ref x2] (pc' := 2864) rfl rfl rfl ?_
        obtain ⟨v763, e764, h⟩ := m_bd h
        refine g_sc e764 ?_
        refine g_ch [(5, .int z758.1), (0, .ref 0), (1, .ref x1), (2, .ref x2), (3, .ref x3), (4, .int s.1)] [.int (s.1 + 4), .ref 0, .int v763, .int v761, .int v759, .ref x2] (pc' := 2870) rfl rfl rfl ?_
        obtain ⟨v765, e766, h⟩ := m_bd h
        refine g_sc e766 ?_
        refine g_ch [(5, .int z758.1), (0, .ref 0), (1, .ref x1), (2, .ref x2), (3, .ref x3), (4, .int s.1)] [.int (s.1 + 5), .ref 0, .int v765, .int v763, .int v761, .int v759, .ref x2] (pc' := 2876) rfl rfl rfl ?_
        obtain ⟨v767, e768, h⟩ := m_bd h
        refine g_sc e768 ?_
        obtain ⟨h770, e769, h⟩ := m_bd h
        refine g_call (v := none) (h := h770) (st' := []) (D1 := 1) (as := [.ref x2, .int v759, .int v761, .int v763, .int v765, .int v767]) (Or.inr (Or.inl rfl)) q13_m284 (m_cv (as := [.int v767, .int v765, .int v763, .int v761, .int v759]) (rest := []) (Or.inl rfl) q13_m284 jv2519 (OF12_row e769) rfl rfl rfl rfl) (by decide) (SF12_row e769) rfl ?_
        refine g_ch [(5, .int z758.1), (0, .ref 0), (1, .ref x1), (2, .ref x2), (3, .ref x3), (4, .int s.1)] [.ref x2] (pc' := 2881) rfl rfl rfl ?_
        obtain ⟨v772, e771, h⟩ := m_bd h
        refine g_call (v := some (.int v772)) (h := h770) (st' := [.int v772]) (D1 := 0) (as := [.ref x2]) (Or.inr (Or.inl rfl)) q13_m157 (m_cv (as := []) (rest := []) (Or.inl rfl) q13_m157 jv2400 (OF12_thrown e771) rfl rfl rfl rfl) (by decide) (SF12_thrown e771) rfl ?_
        refine g_ch [(5, .int z758.1), (0, .ref 0), (1, .ref x1), (2, .ref x2), (3, .ref x3), (4, .int s.1)] [.int z758.1, .int v772] (pc' := 2886) rfl rfl rfl ?_
        rcases m_ifd h with ⟨c773, h⟩ | ⟨c773, h⟩
        · refine g_if (t := 2891) rfl (m_eqT c773) ?_
          refine g_in eF13_law_2891 mx2635 ?_
          refine g_goto (t := 3154) rfl ?_
          refine g_in eF13_law_3154 mx2635 ?_
          refine g_ch [(4, .int (s.1 + 6)), (5, .int z758.1), (0, .ref 0), (1, .ref x1), (2, .ref x2), (3, .ref x3)] [] (pc' := 3157) rfl rfl rfl ?_
          refine g_goto (t := 23) rfl ?_
          cases h
          exact r_lv (k1 ((s.1 + 6), h770) hK) rfl ⟨rfl, rfl, rfl, rfl, rfl, trivial⟩
        · refine g_ifn (t := 2891) rfl (m_eqF c773) ?_
          refine g_in eF13_law_2889 mx2635 ?_
          refine g_ch [(5, .int z758.1), (0, .ref 0), (1, .ref x1), (2, .ref x2), (3, .ref x3), (4, .int s.1)] [.int 0] (pc' := 2890) rfl rfl rfl ?_
          cases h
          rw [k0 _ hK]
          exact g_iret rfl (by decide +kernel)
      rcases m_ifd h with ⟨c774, hc774⟩ | ⟨c774, h⟩
      · subst c774
        have h := hc774
        refine g_sw (o := 2854) (t := 2894) e5 rfl rfl ?_
        refine g_in eF13_law_2894 mx2635 ?_
        refine g_ch [(0, .ref 0), (1, .ref x1), (2, .ref x2), (3, .ref x3), (4, .int s.1)] [.ref x1] (pc' := 2895) rfl rfl rfl ?_
        obtain ⟨v776, e775, h⟩ := m_bd h
        refine g_call (v := some (.int v776)) (h := s.2) (st' := [.int v776]) (D1 := 5) (as := [.ref x1]) (Or.inr (Or.inl rfl)) q13_m285 (m_cv (as := []) (rest := []) (Or.inl rfl) q13_m285 jv2244 (OF11_lasts e775) rfl rfl rfl rfl) (by decide) (SF11_lasts e775) rfl ?_
        refine g_ch [(0, .ref 0), (1, .ref x1), (2, .ref x2), (3, .ref x3), (4, .int s.1)] [.ref x2, .int v776] (pc' := 2899) rfl rfl rfl ?_
        obtain ⟨z778, e777, h⟩ := m_bd h
        refine g_call (v := some (.int z778.1)) (h := z778.2) (st' := [.int z778.1, .int v776]) (D1 := 2) (as := [.ref x2]) (Or.inr (Or.inl rfl)) q13_m288 (m_cv (as := []) (rest := [.int v776]) (Or.inl rfl) q13_m288 jv2523 (OF12_lasts e777) rfl rfl rfl rfl) (by decide) (SF12_lasts e777) rfl ?_
        rcases m_ifd h with ⟨c779, h⟩ | ⟨c779, h⟩
        · refine g_if (t := 3154) rfl (m_eqT c779) ?_
          refine g_in eF13_law_3154 mx2635 ?_
          refine g_ch [(4, .int (s.1 + 6)), (0, .ref 0), (1, .ref x1), (2, .ref x2), (3, .ref x3)] [] (pc' := 3157) rfl rfl rfl ?_
          refine g_goto (t := 23) rfl ?_
          cases h
          exact r_lv (k1 ((s.1 + 6), z778.2) hK) rfl ⟨rfl, rfl, rfl, rfl, rfl, trivial⟩
        · refine g_ifn (t := 3154) rfl (m_eqF c779) ?_
          refine g_in eF13_law_2905 mx2635 ?_
          refine g_ch [(0, .ref 0), (1, .ref x1), (2, .ref x2), (3, .ref x3), (4, .int s.1)] [.int 0] (pc' := 2906) rfl rfl rfl ?_
          cases h
          rw [k0 _ hK]
          exact g_iret rfl (by decide +kernel)
      rcases m_ifd h with ⟨c780, hc780⟩ | ⟨c780, h⟩
      · subst c780
        have h := hc780
        refine g_sw (o := 2867) (t := 2907) e5 rfl rfl ?_
        refine g_in eF13_law_2907 mx2635 ?_
        refine g_ch [(0, .ref 0), (1, .ref x1), (2, .ref x2), (3, .ref x3), (4, .int s.1)] [.int (s.1 + 1), .ref 0, .ref x1] (pc' := 2913) rfl rfl rfl ?_
        obtain ⟨v781, e782, h⟩ := m_bd h
        refine g_sc e782 ?_
        refine g_ch [(0, .ref 0), (1, .ref x1), (2, .ref x2), (3, .ref x3), (4, .int s.1)] [.int (s.1 + 2), .ref 0, .int v781, .ref x1] (pc' := 2919) rfl rfl rfl ?_
        obtain ⟨v783, e784, h⟩ := m_bd h
        refine g_sc e784 ?_
        refine g_ch [(0, .ref 0), (1, .ref x1), (2, .ref x2), (3, .ref x3), (4, .int s.1)] [.int (s.1 + 3), .ref 0, .int v783, .int v781, .ref x1] (pc' := 2925) rfl rfl rfl ?_
        obtain ⟨v785, e786, h⟩ := m_bd h
        refine g_sc e786 ?_
        refine g_ch [(0, .ref 0), (1, .ref x1), (2, .ref x2), (3, .ref x3), (4, .int s.1)] [.int (s.1 + 4), .ref 0, .int v785, .int v783, .int v781, .ref x1] (pc' := 2931) rfl rfl rfl ?_
        obtain ⟨v787, e788, h⟩ := m_bd h
        refine g_sc e788 ?_
        refine g_ch [(0, .ref 0), (1, .ref x1), (2, .ref x2), (3, .ref x3), (4, .int s.1)] [.int (s.1 + 5), .ref 0, .int v787, .int v785, .int v783, .int v781, .ref x1] (pc' := 2937) rfl rfl rfl ?_
        obtain ⟨v789, e790, h⟩ := m_bd h
        refine g_sc e790 ?_
        refine g_ch [(0, .ref 0), (1, .ref x1), (2, .ref x2), (3, .ref x3), (4, .int s.1)] [.ref x3, .int v789, .int v787, .int v785, .int v783, .int v781, .ref x1] (pc' := 2939) rfl rfl rfl ?_
        obtain ⟨z792, e791, h⟩ := m_bd h
        refine g_call (v := some (.int z792.1)) (h := z792.2) (st' := [.int z792.1]) (D1 := 8) (as := [.ref x1, .int v781, .int v783, .int v785, .int v787, .int v789, .ref x3]) (Or.inl rfl) q13_m289 (m_cs (as := [.ref x3, .int v789, .int v787, .int v785, .int v783, .int v781, .ref x1]) (rest := []) q13_m289 jv2633 rfl rfl rfl rfl rfl) (by decide) (SF13_cash e791) rfl ?_
        refine g_ch [(5, .int z792.1), (0, .ref 0), (1, .ref x1), (2, .ref x2), (3, .ref x3), (4, .int s.1)] [.int (s.1 + 1), .ref 0, .ref x2] (pc' := 2950) rfl rfl rfl ?_
        obtain ⟨v793, e794, h⟩ := m_bd h
        refine g_sc e794 ?_
        refine g_ch [(5, .int z792.1), (0, .ref 0), (1, .ref x1), (2, .ref x2), (3, .ref x3), (4, .int s.1)] [.int (s.1 + 2), .ref 0, .int v793, .ref x2] (pc' := 2956) rfl rfl rfl ?_
        obtain ⟨v795, e796, h⟩ := m_bd h
        refine g_sc e796 ?_
        refine g_ch [(5, .int z792.1), (0, .ref 0), (1, .ref x1), (2, .ref x2), (3, .ref x3), (4, .int s.1)] [.int (s.1 + 3), .ref 0, .int v795, .int v793, .ref x2] (pc' := 2962) rfl rfl rfl ?_
        obtain ⟨v797, e798, h⟩ := m_bd h
        refine g_sc e798 ?_
        refine g_ch [(5, .int z792.1), (0, .ref 0), (1, .ref x1), (2, .ref x2), (3, .ref x3), (4, .int s.1)] [.int (s.1 + 4), .ref 0, .int v797, .int v795, .int v793, .ref x2] (pc' := 2968) rfl rfl rfl ?_
        obtain ⟨v799, e800, h⟩ := m_bd h
        refine g_sc e800 ?_
        refine g_ch [(5, .int z792.1), (0, .ref 0), (1, .ref x1), (2, .ref x2), (3, .ref x3), (4, .int s.1)] [.int (s.1 + 5), .ref 0, .int v799, .int v797, .int v795, .int v793, .ref x2] (pc' := 2974) rfl rfl rfl ?_
        obtain ⟨v801, e802, h⟩ := m_bd h
        refine g_sc e802 ?_
        obtain ⟨z804, e803, h⟩ := m_bd h
        refine g_call (v := some (.int z804.1)) (h := z804.2) (st' := [.int z804.1]) (D1 := 2) (as := [.ref x2, .int v793, .int v795, .int v797, .int v799, .int v801]) (Or.inr (Or.inl rfl)) q13_m292 (m_cv (as := [.int v801, .int v799, .int v797, .int v795, .int v793]) (rest := []) (Or.inl rfl) q13_m292 jv2524 (OF12_cash e803) rfl rfl rfl rfl) (by decide) (SF12_cash e803) rfl ?_
        refine g_ch [(6, .int z804.1), (5, .int z792.1), (0, .ref 0), (1, .ref x1), (2, .ref x2), (3, .ref x3), (4, .int s.1)] [.ref x2] (pc' := 2981) rfl rfl rfl ?_
        obtain ⟨v806, e805, h⟩ := m_bd h
        refine g_call (v := some (.int v806)) (h := z804.2) (st' := [.int v806]) (D1 := 0) (as := [.ref x2]) (Or.inr (Or.inl rfl)) q13_m157 (m_cv (as := []) (rest := []) (Or.inl rfl) q13_m157 jv2400 (OF12_thrown e805) rfl rfl rfl rfl) (by decide) (SF12_thrown e805) rfl ?_
        refine g_ch [(6, .int z804.1), (5, .int z792.1), (0, .ref 0), (1, .ref x1), (2, .ref x2), (3, .ref x3), (4, .int s.1)] [.int z792.1, .int v806] (pc' := 2986) rfl rfl rfl ?_
        rcases m_ifd h with ⟨c807, h⟩ | ⟨c807, h⟩
        · refine g_if (t := 2991) rfl (m_eqT c807) ?_
          refine g_in eF13_law_2991 mx2635 ?_
          refine g_ch [(6, .int z804.1), (5, .int z792.1), (0, .ref 0), (1, .ref x1), (2, .ref x2), (3, .ref x3), (4, .int s.1)] [.int z792.1] (pc' := 2993) rfl rfl rfl ?_
          rcases m_ifd h with ⟨c808, h⟩ | ⟨c808, h⟩
          · refine g_ifcn (t := 3008) rfl (m_neF c808) ?_
            refine g_in eF13_law_2996 mx2635 ?_
            refine g_ch [(6, .int z804.1), (5, .int z792.1), (0, .ref 0), (1, .ref x1), (2, .ref x2), (3, .ref x3), (4, .int s.1)] [.int 0, .ref x3] (pc' := 2998) rfl rfl rfl ?_
            obtain ⟨v809, e810, h⟩ := m_bd h
            refine g_la e810 ?_
            refine g_ch [(6, .int z804.1), (5, .int z792.1), (0, .ref 0), (1, .ref x1), (2, .ref x2), (3, .ref x3), (4, .int s.1)] [.int (lg_cmp v809 (m_i2l z804.1))] (pc' := 3003) rfl rfl rfl ?_
            rcases m_ifd h with ⟨c811, h⟩ | ⟨c811, h⟩
            · refine g_ifc (t := 3008) rfl (m_eqT c811) ?_
              refine g_in eF13_law_3008 mx2635 ?_
              refine g_goto (t := 3154) rfl ?_
              refine g_in eF13_law_3154 mx2635 ?_
              refine g_ch [(4, .int (s.1 + 6)), (6, .int z804.1), (5, .int z792.1), (0, .ref 0), (1, .ref x1), (2, .ref x2), (3, .ref x3)] [] (pc' := 3157) rfl rfl rfl ?_
              refine g_goto (t := 23) rfl ?_
              cases h
              exact r_lv (k1 ((s.1 + 6), z804.2) hK) rfl ⟨rfl, rfl, rfl, rfl, rfl, trivial⟩
            · refine g_ifcn (t := 3008) rfl (m_eqF c811) ?_
              refine g_in eF13_law_3006 mx2635 ?_
              refine g_ch [(6, .int z804.1), (5, .int z792.1), (0, .ref 0), (1, .ref x1), (2, .ref x2), (3, .ref x3), (4, .int s.1)] [.int 0] (pc' := 3007) rfl rfl rfl ?_
              cases h
              rw [k0 _ hK]
              exact g_iret rfl (by decide +kernel)
          · refine g_ifc (t := 3008) rfl (m_neT c808) ?_
            refine g_in eF13_law_3008 mx2635 ?_
            refine g_goto (t := 3154) rfl ?_
            refine g_in eF13_law_3154 mx2635 ?_
            refine g_ch [(4, .int (s.1 + 6)), (6, .int z804.1), (5, .int z792.1), (0, .ref 0), (1, .ref x1), (2, .ref x2), (3, .ref x3)] [] (pc' := 3157) rfl rfl rfl ?_
            refine g_goto (t := 23) rfl ?_
            cases h
            exact r_lv (k1 ((s.1 + 6), z804.2) hK) rfl ⟨rfl, rfl, rfl, rfl, rfl, trivial⟩
        · refine g_ifn (t := 2991) rfl (m_eqF c807) ?_
          refine g_in eF13_law_2989 mx2635 ?_
          refine g_ch [(6, .int z804.1), (5, .int z792.1), (0, .ref 0), (1, .ref x1), (2, .ref x2), (3, .ref x3), (4, .int s.1)] [.int 0] (pc' := 2990) rfl rfl rfl ?_
          cases h
          rw [k0 _ hK]
          exact g_iret rfl (by decide +kernel)
      rcases m_ifd h with ⟨c812, hc812⟩ | ⟨c812, h⟩
      · subst c812
        have h := hc812
        refine g_sw (o := 2971) (t := 3011) e5 rfl rfl ?_
        refine g_in eF13_law_3011 mx2635 ?_
        refine g_ch [(0, .ref 0), (1, .ref x1), (2, .ref x2), (3, .ref x3), (4, .int s.1)] [.int (s.1 + 1), .ref 0, .ref x1] (pc' := 3017) rfl rfl rfl ?_
        obtain ⟨v813, e814, h⟩ := m_bd h
        refine g_sc e814 ?_
        refine g_ch [(0, .ref 0), (1, .ref x1), (2, .ref x2), (3, .ref x3), (4, .int s.1)] [.int (s.1 + 2), .ref 0, .int v813, .ref x1] (pc' := 3023) rfl rfl rfl ?_
        obtain ⟨v815, e816, h⟩ := m_bd h
        refine g_sc e816 ?_
        refine g_ch [(0, .ref 0), (1, .ref x1), (2, .ref x2), (3, .ref x3), (4, .int s.1)] [.ref x3, .int v815, .int v813, .ref x1] (pc' := 3025) rfl rfl rfl ?_
        obtain ⟨z818, e817, h⟩ := m_bd h
        refine g_call (v := some (.int z818.1)) (h := z818.2) (st' := [.int z818.1]) (D1 := 8) (as := [.ref x1, .int v813, .int v815, .ref x3]) (Or.inl rfl) q13_m293 (m_cs (as := [.ref x3, .int v815, .int v813, .ref x1]) (rest := []) q13_m293 jv2634 rfl rfl rfl rfl rfl) (by decide) (SF13_tear e817) rfl ?_
        refine g_ch [(5, .int z818.1), (0, .ref 0), (1, .ref x1), (2, .ref x2), (3, .ref x3), (4, .int s.1)] [.int (s.1 + 1), .ref 0, .ref x2] (pc' := 3036) rfl rfl rfl ?_
        obtain ⟨v819, e820, h⟩ := m_bd h
        refine g_sc e820 ?_
        refine g_ch [(5, .int z818.1), (0, .ref 0), (1, .ref x1), (2, .ref x2), (3, .ref x3), (4, .int s.1)] [.int (s.1 + 2), .ref 0, .int v819, .ref x2] (pc' := 3042) rfl rfl rfl ?_
        obtain ⟨v821, e822, h⟩ := m_bd h
        refine g_sc e822 ?_
        obtain ⟨z824, e823, h⟩ := m_bd h
        refine g_call (v := some (.int z824.1)) (h := z824.2) (st' := [.int z824.1]) (D1 := 8) (as := [.ref x2, .int v819, .int v821]) (Or.inr (Or.inl rfl)) q13_m295 (m_cv (as := [.int v821, .int v819]) (rest := []) (Or.inl rfl) q13_m295 jv2526 (OF12_tear e823) rfl rfl rfl rfl) (by decide) (SF12_tear e823) rfl ?_
        refine g_ch [(6, .int z824.1), (5, .int z818.1), (0, .ref 0), (1, .ref x1), (2, .ref x2), (3, .ref x3), (4, .int s.1)] [.ref x2] (pc' := 3049) rfl rfl rfl ?_
        obtain ⟨v826, e825, h⟩ := m_bd h
        refine g_call (v := some (.int v826)) (h := z824.2) (st' := [.int v826]) (D1 := 0) (as := [.ref x2]) (Or.inr (Or.inl rfl)) q13_m157 (m_cv (as := []) (rest := []) (Or.inl rfl) q13_m157 jv2400 (OF12_thrown e825) rfl rfl rfl rfl) (by decide) (SF12_thrown e825) rfl ?_
        refine g_ch [(6, .int z824.1), (5, .int z818.1), (0, .ref 0), (1, .ref x1), (2, .ref x2), (3, .ref x3), (4, .int s.1)] [.int z818.1, .int v826] (pc' := 3054) rfl rfl rfl ?_
        rcases m_ifd h with ⟨c827, h⟩ | ⟨c827, h⟩
        · refine g_if (t := 3059) rfl (m_eqT c827) ?_
          refine g_in eF13_law_3059 mx2635 ?_
          refine g_ch [(6, .int z824.1), (5, .int z818.1), (0, .ref 0), (1, .ref x1), (2, .ref x2), (3, .ref x3), (4, .int s.1)] [.int z818.1] (pc' := 3061) rfl rfl rfl ?_
          rcases m_ifd h with ⟨c828, h⟩ | ⟨c828, h⟩
          · refine g_ifcn (t := 3076) rfl (m_neF c828) ?_
            refine g_in eF13_law_3064 mx2635 ?_
            refine g_ch [(6, .int z824.1), (5, .int z818.1), (0, .ref 0), (1, .ref x1), (2, .ref x2), (3, .ref x3), (4, .int s.1)] [.int 0, .ref x3] (pc' := 3066) rfl rfl rfl ?_
            obtain ⟨v829, e830, h⟩ := m_bd h
            refine g_la e830 ?_
            refine g_ch [(6, .int z824.1), (5, .int z818.1), (0, .ref 0), (1, .ref x1), (2, .ref x2), (3, .ref x3), (4, .int s.1)] [.int (lg_cmp v829 (m_i2l z824.1))] (pc' := 3071) rfl rfl rfl ?_
            rcases m_ifd h with ⟨c831, h⟩ | ⟨c831, h⟩
            · refine g_ifc (t := 3076) rfl (m_eqT c831) ?_
              refine g_in eF13_law_3076 mx2635 ?_
              refine g_goto (t := 3154) rfl ?_
              refine g_in eF13_law_3154 mx2635 ?_
              refine g_ch [(4, .int (s.1 + 6)), (6, .int z824.1), (5, .int z818.1), (0, .ref 0), (1, .ref x1), (2, .ref x2), (3, .ref x3)] [] (pc' := 3157) rfl rfl rfl ?_
              refine g_goto (t := 23) rfl ?_
              cases h
              exact r_lv (k1 ((s.1 + 6), z824.2) hK) rfl ⟨rfl, rfl, rfl, rfl, rfl, trivial⟩
            · refine g_ifcn (t := 3076) rfl (m_eqF c831) ?_
              refine g_in eF13_law_3074 mx2635 ?_
              refine g_ch [(6, .int z824.1), (5, .int z818.1), (0, .ref 0), (1, .ref x1), (2, .ref x2), (3, .ref x3), (4, .int s.1)] [.int 0] (pc' := 3075) rfl rfl rfl ?_
              cases h
              rw [k0 _ hK]
              exact g_iret rfl (by decide +kernel)
          · refine g_ifc (t := 3076) rfl (m_neT c828) ?_
            refine g_in eF13_law_3076 mx2635 ?_
            refine g_goto (t := 3154) rfl ?_
            refine g_in eF13_law_3154 mx2635 ?_
            refine g_ch [(4, .int (s.1 + 6)), (6, .int z824.1), (5, .int z818.1), (0, .ref 0), (1, .ref x1), (2, .ref x2), (3, .ref x3)] [] (pc' := 3157) rfl rfl rfl ?_
            refine g_goto (t := 23) rfl ?_
            cases h
            exact r_lv (k1 ((s.1 + 6), z824.2) hK) rfl ⟨rfl, rfl, rfl, rfl, rfl, trivial⟩
        · refine g_ifn (t := 3059) rfl (m_eqF c827) ?_
          refine g_in eF13_law_3057 mx2635 ?_
          refine g_ch [(6, .int z824.1), (5, .int z818.1), (0, .ref 0), (1, .ref x1), (2, .ref x2), (3, .ref x3), (4, .int s.1)] [.int 0] (pc' := 3058) rfl rfl rfl ?_
          cases h
          rw [k0 _ hK]
          exact g_iret rfl (by decide +kernel)
      rcases m_ifd h with ⟨c832, hc832⟩ | ⟨c832, h⟩
      · subst c832
        have h := hc832
        refine g_sw (o := 3039) (t := 3079) e5 rfl rfl ?_
        refine g_in eF13_law_3079 mx2635 ?_
        refine g_ch [(0, .ref 0), (1, .ref x1), (2, .ref x2), (3, .ref x3), (4, .int s.1)] [.ref x1] (pc' := 3080) rfl rfl rfl ?_
        obtain ⟨v834, e833, h⟩ := m_bd h
        refine g_call (v := some (.int v834)) (h := s.2) (st' := [.int v834]) (D1 := 7) (as := [.ref x1]) (Or.inr (Or.inl rfl)) q13_m296 (m_cv (as := []) (rest := []) (Or.inl rfl) q13_m296 jv2234 (OF11_check e833) rfl rfl rfl rfl) (by decide) (SF11_check e833) rfl ?_
        refine g_ch [(0, .ref 0), (1, .ref x1), (2, .ref x2), (3, .ref x3), (4, .int s.1)] [.ref x2, .int v834] (pc' := 3084) rfl rfl rfl ?_
        obtain ⟨z836, e835, h⟩ := m_bd h
        refine g_call (v := some (.int z836.1)) (h := z836.2) (st' := [.int z836.1, .int v834]) (D1 := 8) (as := [.ref x2]) (Or.inr (Or.inl rfl)) q13_m299 (m_cv (as := []) (rest := [.int v834]) (Or.inl rfl) q13_m299 jv2527 (OF12_check e835) rfl rfl rfl rfl) (by decide) (SF12_check e835) rfl ?_
        rcases m_ifd h with ⟨c837, h⟩ | ⟨c837, h⟩
        · refine g_if (t := 3154) rfl (m_eqT c837) ?_
          refine g_in eF13_law_3154 mx2635 ?_
          refine g_ch [(4, .int (s.1 + 6)), (0, .ref 0), (1, .ref x1), (2, .ref x2), (3, .ref x3)] [] (pc' := 3157) rfl rfl rfl ?_
          refine g_goto (t := 23) rfl ?_
          cases h
          exact r_lv (k1 ((s.1 + 6), z836.2) hK) rfl ⟨rfl, rfl, rfl, rfl, rfl, trivial⟩
        · refine g_ifn (t := 3154) rfl (m_eqF c837) ?_
          refine g_in eF13_law_3090 mx2635 ?_
          refine g_ch [(0, .ref 0), (1, .ref x1), (2, .ref x2), (3, .ref x3), (4, .int s.1)] [.int 0] (pc' := 3091) rfl rfl rfl ?_
          cases h
          rw [k0 _ hK]
          exact g_iret rfl (by decide +kernel)
      rcases m_ifd h with ⟨c838, hc838⟩ | ⟨c838, h⟩
      · subst c838
        have h := hc838
        refine g_sw (o := 3052) (t := 3092) e5 rfl rfl ?_
        refine g_in eF13_law_3092 mx2635 ?_
        refine g_ch [(0, .ref 0), (1, .ref x1), (2, .ref x2), (3, .ref x3), (4, .int s.1)] [.ref x1] (pc' := 3093) rfl rfl rfl ?_
        obtain ⟨z840, e839, h⟩ := m_bd h
        refine g_call (v := some (.int z840.1)) (h := z840.2) (st' := [.int z840.1]) (D1 := 9) (as := [.ref x1]) (Or.inr (Or.inl rfl)) q13_m300 (m_cv (as := []) (rest := []) (Or.inl rfl) q13_m300 jv2246 (OF11_undo e839) rfl rfl rfl rfl) (by decide) (SF11_undo e839) rfl ?_
        refine g_ch [(0, .ref 0), (1, .ref x1), (2, .ref x2), (3, .ref x3), (4, .int s.1)] [.ref x2, .int z840.1] (pc' := 3097) rfl rfl rfl ?_
        obtain ⟨z842, e841, h⟩ := m_bd h
        refine g_call (v := some (.int z842.1)) (h := z842.2) (st' := [.int z842.1, .int z840.1]) (D1 := 0) (as := [.ref x2]) (Or.inr (Or.inl rfl)) q13_m304 (m_cv (as := []) (rest := [.int z840.1]) (Or.inl rfl) q13_m304 jv2407 (OF12_undo e841) rfl rfl rfl rfl) (by decide) (SF12_undo e841) rfl ?_
        rcases m_ifd h with ⟨c843, h⟩ | ⟨c843, h⟩
        · refine g_if (t := 3154) rfl (m_eqT c843) ?_
          refine g_in eF13_law_3154 mx2635 ?_
          refine g_ch [(4, .int (s.1 + 6)), (0, .ref 0), (1, .ref x1), (2, .ref x2), (3, .ref x3)] [] (pc' := 3157) rfl rfl rfl ?_
          refine g_goto (t := 23) rfl ?_
          cases h
          exact r_lv (k1 ((s.1 + 6), z842.2) hK) rfl ⟨rfl, rfl, rfl, rfl, rfl, trivial⟩
        · refine g_ifn (t := 3154) rfl (m_eqF c843) ?_
          refine g_in eF13_law_3103 mx2635 ?_
          refine g_ch [(0, .ref 0), (1, .ref x1), (2, .ref x2), (3, .ref x3), (4, .int s.1)] [.int 0] (pc' := 3104) rfl rfl rfl ?_
          cases h
          rw [k0 _ hK]
          exact g_iret rfl (by decide +kernel)
      rcases m_ifd h with ⟨c844, hc844⟩ | ⟨c844, h⟩
      · subst c844
        have h := hc844
        refine g_sw (o := 3065) (t := 3105) e5 rfl rfl ?_
        refine g_in eF13_law_3105 mx2635 ?_
        refine g_ch [(0, .ref 0), (1, .ref x1), (2, .ref x2), (3, .ref x3), (4, .int s.1)] [.ref x1] (pc' := 3106) rfl rfl rfl ?_
        obtain ⟨h846, e845, h⟩ := m_bd h
        refine g_call (v := none) (h := h846) (st' := []) (D1 := 9) (as := [.ref x1]) (Or.inr (Or.inl rfl)) q13_m305 (m_cv (as := []) (rest := []) (Or.inl rfl) q13_m305 jv2247 (OF11_keep e845) rfl rfl rfl rfl) (by decide) (SF11_keep e845) rfl ?_
        refine g_ch [(0, .ref 0), (1, .ref x1), (2, .ref x2), (3, .ref x3), (4, .int s.1)] [.ref x2] (pc' := 3110) rfl rfl rfl ?_
        obtain ⟨h848, e847, h⟩ := m_bd h
        refine g_call (v := none) (h := h848) (st' := []) (D1 := 0) (as := [.ref x2]) (Or.inr (Or.inl rfl)) q13_m308 (m_cv (as := []) (rest := []) (Or.inl rfl) q13_m308 jv2408 (OF12_keep e847) rfl rfl rfl rfl) (by decide) (SF12_keep e847) rfl ?_
        refine g_goto (t := 3154) rfl ?_
        refine g_in eF13_law_3154 mx2635 ?_
        refine g_ch [(4, .int (s.1 + 6)), (0, .ref 0), (1, .ref x1), (2, .ref x2), (3, .ref x3)] [] (pc' := 3157) rfl rfl rfl ?_
        refine g_goto (t := 23) rfl ?_
        cases h
        exact r_lv (k1 ((s.1 + 6), h848) hK) rfl ⟨rfl, rfl, rfl, rfl, rfl, trivial⟩
      rcases m_ifd h with ⟨c849, hc849⟩ | ⟨c849, h⟩
      · subst c849
        have h := hc849
        refine g_sw (o := 3076) (t := 3116) e5 rfl rfl ?_
        refine g_in eF13_law_3116 mx2635 ?_
        refine g_ch [(0, .ref 0), (1, .ref x1), (2, .ref x2), (3, .ref x3), (4, .int s.1)] [.ref x1] (pc' := 3117) rfl rfl rfl ?_
        obtain ⟨z851, e850, h⟩ := m_bd h
        refine g_call (v := some (.int z851.1)) (h := z851.2) (st' := [.int z851.1]) (D1 := 9) (as := [.ref x1]) (Or.inr (Or.inl rfl)) q13_m309 (m_cv (as := []) (rest := []) (Or.inl rfl) q13_m309 jv2248 (OF11_again e850) rfl rfl rfl rfl) (by decide) (SF11_again e850) rfl ?_
        refine g_ch [(0, .ref 0), (1, .ref x1), (2, .ref x2), (3, .ref x3), (4, .int s.1)] [.ref x2, .int z851.1] (pc' := 3121) rfl rfl rfl ?_
        obtain ⟨z853, e852, h⟩ := m_bd h
        refine g_call (v := some (.int z853.1)) (h := z853.2) (st' := [.int z853.1, .int z851.1]) (D1 := 0) (as := [.ref x2]) (Or.inr (Or.inl rfl)) q13_m312 (m_cv (as := []) (rest := [.int z851.1]) (Or.inl rfl) q13_m312 jv2409 (OF12_again e852) rfl rfl rfl rfl) (by decide) (SF12_again e852) rfl ?_
        rcases m_ifd h with ⟨c854, h⟩ | ⟨c854, h⟩
        · refine g_if (t := 3154) rfl (m_eqT c854) ?_
          refine g_in eF13_law_3154 mx2635 ?_
          refine g_ch [(4, .int (s.1 + 6)), (0, .ref 0), (1, .ref x1), (2, .ref x2), (3, .ref x3)] [] (pc' := 3157) rfl rfl rfl ?_
          refine g_goto (t := 23) rfl ?_
          cases h
          exact r_lv (k1 ((s.1 + 6), z853.2) hK) rfl ⟨rfl, rfl, rfl, rfl, rfl, trivial⟩
        · refine g_ifn (t := 3154) rfl (m_eqF c854) ?_
          refine g_in eF13_law_3127 mx2635 ?_
          refine g_ch [(0, .ref 0), (1, .ref x1), (2, .ref x2), (3, .ref x3), (4, .int s.1)] [.int 0] (pc' := 3128) rfl rfl rfl ?_
          cases h
          rw [k0 _ hK]
          exact g_iret rfl (by decide +kernel)
      rcases m_ifd h with ⟨c855, hc855⟩ | ⟨c855, h⟩
      · subst c855
        have h := hc855
        refine g_sw (o := 3089) (t := 3129) e5 rfl rfl ?_
        refine g_in eF13_law_3129 mx2635 ?_
        refine g_ch [(0, .ref 0), (1, .ref x1), (2, .ref x2), (3, .ref x3), (4, .int s.1)] [.int (s.1 + 1), .ref 0, .ref x1] (pc' := 3135) rfl rfl rfl ?_
        obtain ⟨v856, e857, h⟩ := m_bd h
        refine g_sc e857 ?_
        obtain ⟨v859, e858, h⟩ := m_bd h
        refine g_call (v := some (.int v859)) (h := s.2) (st' := [.int v859]) (D1 := 4) (as := [.ref x1, .int v856]) (Or.inr (Or.inl rfl)) q13_m313 (m_cv (as := [.int v856]) (rest := []) (Or.inl rfl) q13_m313 jv2249 (OF11_count e858) rfl rfl rfl rfl) (by decide) (SF11_count e858) rfl ?_
        refine g_ch [(0, .ref 0), (1, .ref x1), (2, .ref x2), (3, .ref x3), (4, .int s.1)] [.int (s.1 + 1), .ref 0, .ref x2, .int v859] (pc' := 3145) rfl rfl rfl ?_
        obtain ⟨v860, e861, h⟩ := m_bd h
        refine g_sc e861 ?_
        obtain ⟨z863, e862, h⟩ := m_bd h
        refine g_call (v := some (.int z863.1)) (h := z863.2) (st' := [.int z863.1, .int v859]) (D1 := 2) (as := [.ref x2, .int v860]) (Or.inr (Or.inl rfl)) q13_m316 (m_cv (as := [.int v860]) (rest := [.int v859]) (Or.inl rfl) q13_m316 jv2528 (OF12_count e862) rfl rfl rfl rfl) (by decide) (SF12_count e862) rfl ?_
        rcases m_ifd h with ⟨c864, h⟩ | ⟨c864, h⟩
        · refine g_if (t := 3154) rfl (m_eqT c864) ?_
          refine g_in eF13_law_3154 mx2635 ?_
          refine g_ch [(4, .int (s.1 + 6)), (0, .ref 0), (1, .ref x1), (2, .ref x2), (3, .ref x3)] [] (pc' := 3157) rfl rfl rfl ?_
          refine g_goto (t := 23) rfl ?_
          cases h
          exact r_lv (k1 ((s.1 + 6), z863.2) hK) rfl ⟨rfl, rfl, rfl, rfl, rfl, trivial⟩
        · refine g_ifn (t := 3154) rfl (m_eqF c864) ?_
          refine g_in eF13_law_3152 mx2635 ?_
          refine g_ch [(0, .ref 0), (1, .ref x1), (2, .ref x2), (3, .ref x3), (4, .int s.1)] [.int 0] (pc' := 3153) rfl rfl rfl ?_
          cases h
          rw [k0 _ hK]
          exact g_iret rfl (by decide +kernel)
      cases h
theorem SF13_law_23 {xs : Nat → Int32} {L : Nat} (x1 : Nat) (x2 : Nat) (x3 : Nat) (x4 : Int32) (hp : m_H) {r : m_O × m_H} {K : Int32 × m_H → Prop} (k0 : ∀ x, K x → r = (.inl (some (.int x.1)), x.2)) {t : Int32 × m_H} (h : F13_law_23 xs L x1 x2 x3 x4 hp = some t) (hK : K t) : m_Rn xs L 405 2635 23 [(0, .ref 0), (1, .ref x1), (2, .ref x2), (3, .ref x3), (4, .int x4)] [] hp r :=
  m_wh_ok (P := fun s => m_Rn xs L 405 2635 23 [(0, .ref 0), (1, .ref x1), (2, .ref x2), (3, .ref x3), (4, .int s.1)] [] s.2 r) (Q := K) (fun s t hb hK => SF13_law_23b x1 x2 x3 s (K := m_KK (fun s => m_Rn xs L 405 2635 23 [(0, .ref 0), (1, .ref x1), (2, .ref x2), (3, .ref x3), (4, .int s.1)] [] s.2 r) K) k0 (fun _ q => q) hb hK) m_N _ _ h hK
theorem SF13_law_0 {xs : Nat → Int32} {L : Nat} (hp : m_H) {r : m_O × m_H} {K : (Int32 × m_H) → Prop} (k0 : ∀ x, K x → r = (.inl (some (.int x.1)), x.2)) {t : Int32 × m_H} (h : F13_law_0 xs L hp = some t) (hK : K t) : m_Rn xs L 405 2635 0 [(0, .ref 0)] [] hp r := by
  unfold F13_law_0 at h
  refine g_in eF13_law_0 mx2635 ?_
  obtain ⟨h1, e2, h⟩ := m_bd h
  refine g_newo (by decide +kernel) (by decide +kernel) e2 ?_
  refine g_ch [(0, .ref 0)] [.ref (m_id hp), .ref (m_id hp)] (pc' := 4) rfl rfl rfl ?_
  obtain ⟨h4, e3, h⟩ := m_bd h
  refine g_call (v := none) (h := h4) (st' := [.ref (m_id hp)]) (D1 := 9) (as := [.ref (m_id hp)]) (Or.inr (Or.inr rfl)) q13_m138 (m_cv (as := []) (rest := [.ref (m_id hp)]) (Or.inr rfl) q13_m138 jv2200 (OF11_init e3) rfl rfl rfl rfl) (by decide) (SF11_init e3) rfl ?_
  refine g_ch [(1, .ref (m_id hp)), (0, .ref 0)] [] (pc' := 8) rfl rfl rfl ?_
  obtain ⟨h5, e6, h⟩ := m_bd h
  refine g_newo (by decide +kernel) (by decide +kernel) e6 ?_
  refine g_ch [(1, .ref (m_id hp)), (0, .ref 0)] [.ref (m_id h4), .ref (m_id h4)] (pc' := 12) rfl rfl rfl ?_
  obtain ⟨h8, e7, h⟩ := m_bd h
  refine g_call (v := none) (h := h8) (st' := [.ref (m_id h4)]) (D1 := 7) (as := [.ref (m_id h4)]) (Or.inr (Or.inr rfl)) q13_m141 (m_cv (as := []) (rest := [.ref (m_id h4)]) (Or.inr rfl) q13_m141 jv2403 (OF12_init e7) rfl rfl rfl rfl) (by decide) (SF12_init e7) rfl ?_
  refine g_ch [(2, .ref (m_id h4)), (1, .ref (m_id hp)), (0, .ref 0)] [.int 1] (pc' := 17) rfl rfl rfl ?_
  obtain ⟨h9, e10, h⟩ := m_bd h
  refine g_na rfl e10 ?_
  refine g_ch [(4, .int 0), (3, .ref (m_id h8)), (2, .ref (m_id h4)), (1, .ref (m_id hp)), (0, .ref 0)] [] (pc' := 23) rfl rfl rfl ?_
  refine g_end ?_
  exact r_lv (SF13_law_23 (m_id hp) (m_id h4) (m_id h8) 0 h9 (K := K) k0 h hK) rfl ⟨rfl, rfl, rfl, rfl, rfl, trivial⟩
theorem SF13_law {xs : Nat → Int32} {L : Nat} {hp : m_H} {x : Int32 × m_H} (h : F13_law xs L hp = some x) : m_Rn xs L 405 2635 0 (lv_args 0 [.ref 0]) [] hp (.inl (some (.int x.1)), x.2) :=
  r_lv (SF13_law_0 hp (K := fun y => y = x) (fun y e => by rw [e]) h rfl) rfl ⟨rfl, trivial⟩
