/-! ===== m_: entries of the pools, numbers of the methods (printed) ===== -/
theorem q0_f9 : mq0.1 9 = some (0, 0) := by decide +kernel
theorem q0_f15 : mq0.1 15 = some (5, 7) := by decide +kernel
theorem q0_f20 : mq0.1 20 = some (5, 4) := by decide +kernel
theorem q0_f33 : mq0.1 33 = some (0, 1) := by decide +kernel
theorem q0_f40 : mq0.1 40 = some (0, 2) := by decide +kernel
theorem q0_f41 : mq0.1 41 = some (5, 5) := by decide +kernel
theorem q0_f44 : mq0.1 44 = some (0, 3) := by decide +kernel
theorem q0_f45 : mq0.1 45 = some (5, 6) := by decide +kernel
theorem q0_f48 : mq0.1 48 = some (0, 4) := by decide +kernel
theorem q0_f49 : mq0.1 49 = some (5, 8) := by decide +kernel
theorem q0_f52 : mq0.1 52 = some (5, 9) := by decide +kernel
theorem q0_f55 : mq0.1 55 = some (0, 5) := by decide +kernel
theorem q0_m3 : mq0.2.2.2.2.2.1 3 = some (.inr 0) := by decide +kernel
theorem q0_m24 : mq0.2.2.2.2.2.1 24 = some (.inr 2) := by decide +kernel
theorem q0_m30 : mq0.2.2.2.2.2.1 30 = some (.inr 1) := by decide +kernel
theorem q0_m34 : mq0.2.2.2.2.2.1 34 = some (.inr 5) := by decide +kernel
theorem q1_f11 : mq1.1 11 = some (1, 0) := by decide +kernel
theorem q1_f15 : mq1.1 15 = some (3, 0) := by decide +kernel
theorem q1_f29 : mq1.1 29 = some (3, 8) := by decide +kernel
theorem q1_f33 : mq1.1 33 = some (6, 2) := by decide +kernel
theorem q1_m3 : mq1.2.2.2.2.2.1 3 = some (.inr 0) := by decide +kernel
theorem q1_m21 : mq1.2.2.2.2.2.1 21 = some (.inl 203) := by decide +kernel
theorem q1_m25 : mq1.2.2.2.2.2.1 25 = some (.inl 202) := by decide +kernel
theorem q1_m38 : mq1.2.2.2.2.2.1 38 = some (.inl 616) := by decide +kernel
theorem q1_m42 : mq1.2.2.2.2.2.1 42 = some (.inl 614) := by decide +kernel
theorem q1_m46 : mq1.2.2.2.2.2.1 46 = some (.inl 1604) := by decide +kernel
theorem q1_m49 : mq1.2.2.2.2.2.1 49 = some (.inl 603) := by decide +kernel
theorem q1_m52 : mq1.2.2.2.2.2.1 52 = some (.inr 1) := by decide +kernel
theorem q1_m57 : mq1.2.2.2.2.2.1 57 = some (.inr 2) := by decide +kernel
theorem q1_m60 : mq1.2.2.2.2.2.1 60 = some (.inr 5) := by decide +kernel
theorem q1_m66 : mq1.2.2.2.2.2.1 66 = some (.inr 4) := by decide +kernel
theorem q2_f11 : mq2.1 11 = some (2, 0) := by decide +kernel
theorem q2_f17 : mq2.1 17 = some (2, 1) := by decide +kernel
theorem q2_f21 : mq2.1 21 = some (2, 2) := by decide +kernel
theorem q2_f26 : mq2.1 26 = some (2, 3) := by decide +kernel
theorem q2_f30 : mq2.1 30 = some (3, 9) := by decide +kernel
theorem q2_f68 : mq2.1 68 = some (2, 5) := by decide +kernel
theorem q2_f76 : mq2.1 76 = some (3, 0) := by decide +kernel
theorem q2_f80 : mq2.1 80 = some (3, 6) := by decide +kernel
theorem q2_f86 : mq2.1 86 = some (3, 12) := by decide +kernel
theorem q2_f92 : mq2.1 92 = some (3, 11) := by decide +kernel
theorem q2_f98 : mq2.1 98 = some (0, 1) := by decide +kernel
theorem q2_f121 : mq2.1 121 = some (0, 5) := by decide +kernel
theorem q2_f127 : mq2.1 127 = some (2, 4) := by decide +kernel
theorem q2_m3 : mq2.2.2.2.2.2.1 3 = some (.inr 0) := by decide +kernel
theorem q2_m34 : mq2.2.2.2.2.2.1 34 = some (.inl 1601) := by decide +kernel
theorem q2_m40 : mq2.2.2.2.2.2.1 40 = some (.inl 625) := by decide +kernel
theorem q2_m44 : mq2.2.2.2.2.2.1 44 = some (.inl 1604) := by decide +kernel
theorem q2_m48 : mq2.2.2.2.2.2.1 48 = some (.inl 404) := by decide +kernel
theorem q2_m52 : mq2.2.2.2.2.2.1 52 = some (.inl 408) := by decide +kernel
theorem q2_m56 : mq2.2.2.2.2.2.1 56 = some (.inl 403) := by decide +kernel
theorem q2_m60 : mq2.2.2.2.2.2.1 60 = some (.inl 405) := by decide +kernel
theorem q2_m64 : mq2.2.2.2.2.2.1 64 = some (.inl 609) := by decide +kernel
theorem q2_m72 : mq2.2.2.2.2.2.1 72 = some (.inl 406) := by decide +kernel
theorem q2_m83 : mq2.2.2.2.2.2.1 83 = some (.inl 606) := by decide +kernel
theorem q2_m89 : mq2.2.2.2.2.2.1 89 = some (.inl 603) := by decide +kernel
theorem q2_m95 : mq2.2.2.2.2.2.1 95 = some (.inl 627) := by decide +kernel
theorem q2_m103 : mq2.2.2.2.2.2.1 103 = some (.inl 410) := by decide +kernel
theorem q2_m107 : mq2.2.2.2.2.2.1 107 = some (.inl 2) := by decide +kernel
theorem q2_m110 : mq2.2.2.2.2.2.1 110 = some (.inr 1) := by decide +kernel
theorem q2_m115 : mq2.2.2.2.2.2.1 115 = some (.inl 1) := by decide +kernel
theorem q2_m118 : mq2.2.2.2.2.2.1 118 = some (.inl 3) := by decide +kernel
theorem q2_m124 : mq2.2.2.2.2.2.1 124 = some (.inr 2) := by decide +kernel
theorem q2_m130 : mq2.2.2.2.2.2.1 130 = some (.inl 411) := by decide +kernel
theorem q2_m134 : mq2.2.2.2.2.2.1 134 = some (.inl 414) := by decide +kernel
theorem q2_m138 : mq2.2.2.2.2.2.1 138 = some (.inl 413) := by decide +kernel
theorem q2_m142 : mq2.2.2.2.2.2.1 142 = some (.inl 412) := by decide +kernel
theorem q3_f13 : mq3.1 13 = some (3, 4) := by decide +kernel
theorem q3_f22 : mq3.1 22 = some (3, 6) := by decide +kernel
theorem q3_f26 : mq3.1 26 = some (3, 7) := by decide +kernel
theorem q3_f29 : mq3.1 29 = some (3, 8) := by decide +kernel
theorem q3_f32 : mq3.1 32 = some (3, 9) := by decide +kernel
theorem q3_f35 : mq3.1 35 = some (3, 10) := by decide +kernel
theorem q3_f38 : mq3.1 38 = some (3, 11) := by decide +kernel
theorem q3_f41 : mq3.1 41 = some (3, 12) := by decide +kernel
theorem q3_f44 : mq3.1 44 = some (3, 13) := by decide +kernel
theorem q3_f47 : mq3.1 47 = some (3, 14) := by decide +kernel
theorem q3_f50 : mq3.1 50 = some (3, 15) := by decide +kernel
theorem q3_f53 : mq3.1 53 = some (3, 16) := by decide +kernel
theorem q3_f56 : mq3.1 56 = some (3, 17) := by decide +kernel
theorem q3_f59 : mq3.1 59 = some (3, 18) := by decide +kernel
theorem q3_f62 : mq3.1 62 = some (3, 19) := by decide +kernel
theorem q3_f76 : mq3.1 76 = some (3, 0) := by decide +kernel
theorem q3_f80 : mq3.1 80 = some (3, 1) := by decide +kernel
theorem q3_f83 : mq3.1 83 = some (3, 2) := by decide +kernel
theorem q3_f86 : mq3.1 86 = some (3, 3) := by decide +kernel
theorem q3_f90 : mq3.1 90 = some (3, 5) := by decide +kernel
theorem q3_f97 : mq3.1 97 = some (6, 2) := by decide +kernel
theorem q3_f108 : mq3.1 108 = some (0, 0) := by decide +kernel
theorem q3_f115 : mq3.1 115 = some (0, 1) := by decide +kernel
theorem q3_m3 : mq3.2.2.2.2.2.1 3 = some (.inr 0) := by decide +kernel
theorem q3_m19 : mq3.2.2.2.2.2.1 19 = some (.inl 1600) := by decide +kernel
theorem q3_m65 : mq3.2.2.2.2.2.1 65 = some (.inl 601) := by decide +kernel
theorem q3_m68 : mq3.2.2.2.2.2.1 68 = some (.inl 1607) := by decide +kernel
theorem q3_m72 : mq3.2.2.2.2.2.1 72 = some (.inl 1605) := by decide +kernel
theorem q3_m93 : mq3.2.2.2.2.2.1 93 = some (.inl 1610) := by decide +kernel
theorem q3_m100 : mq3.2.2.2.2.2.1 100 = some (.inl 1604) := by decide +kernel
theorem q3_m104 : mq3.2.2.2.2.2.1 104 = some (.inl 605) := by decide +kernel
theorem q3_m111 : mq3.2.2.2.2.2.1 111 = some (.inl 609) := by decide +kernel
theorem q3_m118 : mq3.2.2.2.2.2.1 118 = some (.inl 612) := by decide +kernel
theorem q3_m122 : mq3.2.2.2.2.2.1 122 = some (.inl 1606) := by decide +kernel
theorem q3_m125 : mq3.2.2.2.2.2.1 125 = some (.inl 1609) := by decide +kernel
theorem q3_m129 : mq3.2.2.2.2.2.1 129 = some (.inl 616) := by decide +kernel
theorem q3_m132 : mq3.2.2.2.2.2.1 132 = some (.inr 2) := by decide +kernel
theorem q3_m137 : mq3.2.2.2.2.2.1 137 = some (.inl 621) := by decide +kernel
theorem q3_m140 : mq3.2.2.2.2.2.1 140 = some (.inl 611) := by decide +kernel
theorem q3_m144 : mq3.2.2.2.2.2.1 144 = some (.inl 606) := by decide +kernel
theorem q3_m147 : mq3.2.2.2.2.2.1 147 = some (.inl 617) := by decide +kernel
theorem q3_m151 : mq3.2.2.2.2.2.1 151 = some (.inl 603) := by decide +kernel
theorem q3_m154 : mq3.2.2.2.2.2.1 154 = some (.inl 625) := by decide +kernel
theorem q3_m157 : mq3.2.2.2.2.2.1 157 = some (.inl 629) := by decide +kernel
theorem q3_m160 : mq3.2.2.2.2.2.1 160 = some (.inl 628) := by decide +kernel
theorem q3_m163 : mq3.2.2.2.2.2.1 163 = some (.inl 631) := by decide +kernel
theorem q3_m166 : mq3.2.2.2.2.2.1 166 = some (.inl 634) := by decide +kernel
theorem q3_m170 : mq3.2.2.2.2.2.1 170 = some (.inl 632) := by decide +kernel
theorem q3_m173 : mq3.2.2.2.2.2.1 173 = some (.inl 630) := by decide +kernel
theorem q3_m176 : mq3.2.2.2.2.2.1 176 = some (.inl 614) := by decide +kernel
theorem q3_m179 : mq3.2.2.2.2.2.1 179 = some (.inl 635) := by decide +kernel
theorem q3_m182 : mq3.2.2.2.2.2.1 182 = some (.inl 613) := by decide +kernel
theorem q4_f11 : mq4.1 11 = some (4, 0) := by decide +kernel
theorem q4_f15 : mq4.1 15 = some (4, 1) := by decide +kernel
theorem q4_f18 : mq4.1 18 = some (4, 2) := by decide +kernel
theorem q4_f21 : mq4.1 21 = some (4, 3) := by decide +kernel
theorem q4_f24 : mq4.1 24 = some (4, 4) := by decide +kernel
theorem q4_f27 : mq4.1 27 = some (4, 5) := by decide +kernel
theorem q4_f30 : mq4.1 30 = some (4, 6) := by decide +kernel
theorem q4_f35 : mq4.1 35 = some (4, 7) := by decide +kernel
theorem q4_f38 : mq4.1 38 = some (3, 10) := by decide +kernel
theorem q4_f43 : mq4.1 43 = some (6, 2) := by decide +kernel
theorem q4_f52 : mq4.1 52 = some (3, 11) := by decide +kernel
theorem q4_f55 : mq4.1 55 = some (3, 0) := by decide +kernel
theorem q4_m3 : mq4.2.2.2.2.2.1 3 = some (.inr 0) := by decide +kernel
theorem q4_m48 : mq4.2.2.2.2.2.1 48 = some (.inl 1604) := by decide +kernel
theorem q4_m58 : mq4.2.2.2.2.2.1 58 = some (.inl 607) := by decide +kernel
theorem q4_m61 : mq4.2.2.2.2.2.1 61 = some (.inl 802) := by decide +kernel
theorem q4_m65 : mq4.2.2.2.2.2.1 65 = some (.inl 803) := by decide +kernel
theorem q4_m69 : mq4.2.2.2.2.2.1 69 = some (.inr 2) := by decide +kernel
theorem q4_m74 : mq4.2.2.2.2.2.1 74 = some (.inr 4) := by decide +kernel
theorem q4_m80 : mq4.2.2.2.2.2.1 80 = some (.inr 1) := by decide +kernel
theorem q5_f9 : mq5.1 9 = some (3, 8) := by decide +kernel
theorem q5_f25 : mq5.1 25 = some (6, 2) := by decide +kernel
theorem q5_f44 : mq5.1 44 = some (3, 0) := by decide +kernel
theorem q5_f57 : mq5.1 57 = some (3, 14) := by decide +kernel
theorem q5_f73 : mq5.1 73 = some (3, 12) := by decide +kernel
theorem q5_f89 : mq5.1 89 = some (3, 6) := by decide +kernel
theorem q5_f92 : mq5.1 92 = some (3, 15) := by decide +kernel
theorem q5_m15 : mq5.2.2.2.2.2.1 15 = some (.inl 1604) := by decide +kernel
theorem q5_m21 : mq5.2.2.2.2.2.1 21 = some (.inl 614) := by decide +kernel
theorem q5_m29 : mq5.2.2.2.2.2.1 29 = some (.inl 1000) := by decide +kernel
theorem q5_m35 : mq5.2.2.2.2.2.1 35 = some (.inl 1002) := by decide +kernel
theorem q5_m39 : mq5.2.2.2.2.2.1 39 = some (.inl 616) := by decide +kernel
theorem q5_m47 : mq5.2.2.2.2.2.1 47 = some (.inl 1004) := by decide +kernel
theorem q5_m51 : mq5.2.2.2.2.2.1 51 = some (.inl 204) := by decide +kernel
theorem q5_m60 : mq5.2.2.2.2.2.1 60 = some (.inl 1006) := by decide +kernel
theorem q5_m63 : mq5.2.2.2.2.2.1 63 = some (.inl 1005) := by decide +kernel
theorem q5_m67 : mq5.2.2.2.2.2.1 67 = some (.inr 3) := by decide +kernel
theorem q5_m76 : mq5.2.2.2.2.2.1 76 = some (.inl 603) := by decide +kernel
theorem q5_m79 : mq5.2.2.2.2.2.1 79 = some (.inl 1011) := by decide +kernel
theorem q5_m82 : mq5.2.2.2.2.2.1 82 = some (.inl 1010) := by decide +kernel
theorem q5_m86 : mq5.2.2.2.2.2.1 86 = some (.inl 606) := by decide +kernel
theorem q5_m95 : mq5.2.2.2.2.2.1 95 = some (.inr 1) := by decide +kernel
theorem q6_f9 : mq6.1 9 = some (3, 8) := by decide +kernel
theorem q6_f15 : mq6.1 15 = some (6, 2) := by decide +kernel
theorem q6_f47 : mq6.1 47 = some (3, 0) := by decide +kernel
theorem q6_f53 : mq6.1 53 = some (3, 1) := by decide +kernel
theorem q6_f56 : mq6.1 56 = some (3, 2) := by decide +kernel
theorem q6_f63 : mq6.1 63 = some (3, 18) := by decide +kernel
theorem q6_f80 : mq6.1 80 = some (3, 19) := by decide +kernel
theorem q6_m21 : mq6.2.2.2.2.2.1 21 = some (.inl 615) := by decide +kernel
theorem q6_m27 : mq6.2.2.2.2.2.1 27 = some (.inl 1201) := by decide +kernel
theorem q6_m31 : mq6.2.2.2.2.2.1 31 = some (.inr 2) := by decide +kernel
theorem q6_m37 : mq6.2.2.2.2.2.1 37 = some (.inl 1200) := by decide +kernel
theorem q6_m41 : mq6.2.2.2.2.2.1 41 = some (.inl 619) := by decide +kernel
theorem q6_m44 : mq6.2.2.2.2.2.1 44 = some (.inl 1604) := by decide +kernel
theorem q6_m50 : mq6.2.2.2.2.2.1 50 = some (.inl 606) := by decide +kernel
theorem q6_m59 : mq6.2.2.2.2.2.1 59 = some (.inl 1203) := by decide +kernel
theorem q6_m66 : mq6.2.2.2.2.2.1 66 = some (.inl 1207) := by decide +kernel
theorem q6_m70 : mq6.2.2.2.2.2.1 70 = some (.inl 2800) := by decide +kernel
theorem q6_m76 : mq6.2.2.2.2.2.1 76 = some (.inl 1206) := by decide +kernel
theorem q7_f9 : mq7.1 9 = some (5, 0) := by decide +kernel
theorem q7_f17 : mq7.1 17 = some (5, 8) := by decide +kernel
theorem q7_f21 : mq7.1 21 = some (5, 4) := by decide +kernel
theorem q7_f24 : mq7.1 24 = some (5, 5) := by decide +kernel
theorem q7_f27 : mq7.1 27 = some (5, 6) := by decide +kernel
theorem q7_f30 : mq7.1 30 = some (5, 3) := by decide +kernel
theorem q7_f34 : mq7.1 34 = some (5, 7) := by decide +kernel
theorem q7_f37 : mq7.1 37 = some (5, 9) := by decide +kernel
theorem q7_f47 : mq7.1 47 = some (5, 2) := by decide +kernel
theorem q7_f56 : mq7.1 56 = some (5, 1) := by decide +kernel
theorem q7_f82 : mq7.1 82 = some (7, 7) := by decide +kernel
theorem q7_f85 : mq7.1 85 = some (7, 5) := by decide +kernel
theorem q7_f88 : mq7.1 88 = some (7, 2) := by decide +kernel
theorem q7_f91 : mq7.1 91 = some (7, 4) := by decide +kernel
theorem q7_m3 : mq7.2.2.2.2.2.1 3 = some (.inr 0) := by decide +kernel
theorem q7_m40 : mq7.2.2.2.2.2.1 40 = some (.inl 1803) := by decide +kernel
theorem q7_m43 : mq7.2.2.2.2.2.1 43 = some (.inl 1409) := by decide +kernel
theorem q7_m50 : mq7.2.2.2.2.2.1 50 = some (.inl 1402) := by decide +kernel
theorem q7_m53 : mq7.2.2.2.2.2.1 53 = some (.inl 1408) := by decide +kernel
theorem q7_m59 : mq7.2.2.2.2.2.1 59 = some (.inl 1811) := by decide +kernel
theorem q7_m63 : mq7.2.2.2.2.2.1 63 = some (.inl 1404) := by decide +kernel
theorem q7_m66 : mq7.2.2.2.2.2.1 66 = some (.inl 1403) := by decide +kernel
theorem q7_m70 : mq7.2.2.2.2.2.1 70 = some (.inl 1405) := by decide +kernel
theorem q7_m73 : mq7.2.2.2.2.2.1 73 = some (.inl 1410) := by decide +kernel
theorem q7_m76 : mq7.2.2.2.2.2.1 76 = some (.inl 1406) := by decide +kernel
theorem q7_m79 : mq7.2.2.2.2.2.1 79 = some (.inl 1407) := by decide +kernel
theorem q8_f15 : mq8.1 15 = some (6, 0) := by decide +kernel
theorem q8_f21 : mq8.1 21 = some (6, 1) := by decide +kernel
theorem q8_f25 : mq8.1 25 = some (6, 2) := by decide +kernel
theorem q8_m3 : mq8.2.2.2.2.2.1 3 = some (.inr 0) := by decide +kernel
theorem q8_m9 : mq8.2.2.2.2.2.1 9 = some (.inr 1) := by decide +kernel
theorem q8_m28 : mq8.2.2.2.2.2.1 28 = some (.inl 1603) := by decide +kernel
theorem q8_m32 : mq8.2.2.2.2.2.1 32 = some (.inl 1602) := by decide +kernel
theorem q8_m36 : mq8.2.2.2.2.2.1 36 = some (.inl 1605) := by decide +kernel
theorem q8_m40 : mq8.2.2.2.2.2.1 40 = some (.inl 1604) := by decide +kernel
theorem q8_m43 : mq8.2.2.2.2.2.1 43 = some (.inr 4) := by decide +kernel
theorem q9_f11 : mq9.1 11 = some (7, 0) := by decide +kernel
theorem q9_f15 : mq9.1 15 = some (7, 4) := by decide +kernel
theorem q9_f19 : mq9.1 19 = some (7, 5) := by decide +kernel
theorem q9_f22 : mq9.1 22 = some (7, 6) := by decide +kernel
theorem q9_f25 : mq9.1 25 = some (7, 1) := by decide +kernel
theorem q9_f29 : mq9.1 29 = some (7, 2) := by decide +kernel
theorem q9_f32 : mq9.1 32 = some (7, 3) := by decide +kernel
theorem q9_f35 : mq9.1 35 = some (7, 7) := by decide +kernel
theorem q9_m3 : mq9.2.2.2.2.2.1 3 = some (.inr 0) := by decide +kernel
theorem q9_m38 : mq9.2.2.2.2.2.1 38 = some (.inl 1804) := by decide +kernel
theorem q9_m41 : mq9.2.2.2.2.2.1 41 = some (.inl 1810) := by decide +kernel
theorem q9_m45 : mq9.2.2.2.2.2.1 45 = some (.inl 1812) := by decide +kernel
theorem q9_m49 : mq9.2.2.2.2.2.1 49 = some (.inl 1805) := by decide +kernel
theorem q9_m53 : mq9.2.2.2.2.2.1 53 = some (.inl 1813) := by decide +kernel
theorem q9_m57 : mq9.2.2.2.2.2.1 57 = some (.inl 1806) := by decide +kernel
theorem q9_m61 : mq9.2.2.2.2.2.1 61 = some (.inl 1814) := by decide +kernel
theorem q9_m64 : mq9.2.2.2.2.2.1 64 = some (.inl 1807) := by decide +kernel
theorem q9_m67 : mq9.2.2.2.2.2.1 67 = some (.inl 1808) := by decide +kernel
theorem q9_m71 : mq9.2.2.2.2.2.1 71 = some (.inl 1815) := by decide +kernel
theorem q9_m75 : mq9.2.2.2.2.2.1 75 = some (.inl 1809) := by decide +kernel
theorem q9_m79 : mq9.2.2.2.2.2.1 79 = some (.inr 6) := by decide +kernel
theorem q9_m83 : mq9.2.2.2.2.2.1 83 = some (.inr 7) := by decide +kernel
theorem q9_m102 : mq9.2.2.2.2.2.1 102 = some (.inl 1816) := by decide +kernel
theorem q10_f9 : mq10.1 9 = some (3, 0) := by decide +kernel
theorem q10_f15 : mq10.1 15 = some (3, 3) := by decide +kernel
theorem q10_f28 : mq10.1 28 = some (3, 10) := by decide +kernel
theorem q10_f32 : mq10.1 32 = some (6, 2) := by decide +kernel
theorem q10_f48 : mq10.1 48 = some (3, 11) := by decide +kernel
theorem q10_f58 : mq10.1 58 = some (3, 8) := by decide +kernel
theorem q10_f68 : mq10.1 68 = some (3, 1) := by decide +kernel
theorem q10_f74 : mq10.1 74 = some (3, 2) := by decide +kernel
theorem q10_f83 : mq10.1 83 = some (3, 6) := by decide +kernel
theorem q10_f109 : mq10.1 109 = some (3, 12) := by decide +kernel
theorem q10_f133 : mq10.1 133 = some (3, 16) := by decide +kernel
theorem q10_m19 : mq10.2.2.2.2.2.1 19 = some (.inl 2001) := by decide +kernel
theorem q10_m25 : mq10.2.2.2.2.2.1 25 = some (.inl 2002) := by decide +kernel
theorem q10_m37 : mq10.2.2.2.2.2.1 37 = some (.inl 1604) := by decide +kernel
theorem q10_m41 : mq10.2.2.2.2.2.1 41 = some (.inl 2004) := by decide +kernel
theorem q10_m45 : mq10.2.2.2.2.2.1 45 = some (.inl 2009) := by decide +kernel
theorem q10_m51 : mq10.2.2.2.2.2.1 51 = some (.inl 1606) := by decide +kernel
theorem q10_m55 : mq10.2.2.2.2.2.1 55 = some (.inl 2011) := by decide +kernel
theorem q10_m61 : mq10.2.2.2.2.2.1 61 = some (.inl 615) := by decide +kernel
theorem q10_m65 : mq10.2.2.2.2.2.1 65 = some (.inl 619) := by decide +kernel
theorem q10_m71 : mq10.2.2.2.2.2.1 71 = some (.inl 1605) := by decide +kernel
theorem q10_m77 : mq10.2.2.2.2.2.1 77 = some (.inl 616) := by decide +kernel
theorem q10_m80 : mq10.2.2.2.2.2.1 80 = some (.inl 2003) := by decide +kernel
theorem q10_m86 : mq10.2.2.2.2.2.1 86 = some (.inl 617) := by decide +kernel
theorem q10_m90 : mq10.2.2.2.2.2.1 90 = some (.inl 607) := by decide +kernel
theorem q10_m93 : mq10.2.2.2.2.2.1 93 = some (.inl 2005) := by decide +kernel
theorem q10_m96 : mq10.2.2.2.2.2.1 96 = some (.inl 2006) := by decide +kernel
theorem q10_m99 : mq10.2.2.2.2.2.1 99 = some (.inl 2007) := by decide +kernel
theorem q10_m102 : mq10.2.2.2.2.2.1 102 = some (.inl 2008) := by decide +kernel
theorem q10_m106 : mq10.2.2.2.2.2.1 106 = some (.inl 628) := by decide +kernel
theorem q10_m112 : mq10.2.2.2.2.2.1 112 = some (.inl 603) := by decide +kernel
theorem q10_m115 : mq10.2.2.2.2.2.1 115 = some (.inl 629) := by decide +kernel
theorem q10_m118 : mq10.2.2.2.2.2.1 118 = some (.inr 1) := by decide +kernel
theorem q10_m123 : mq10.2.2.2.2.2.1 123 = some (.inl 2010) := by decide +kernel
theorem q10_m127 : mq10.2.2.2.2.2.1 127 = some (.inl 614) := by decide +kernel
theorem q10_m130 : mq10.2.2.2.2.2.1 130 = some (.inr 2) := by decide +kernel
theorem q11_f12 : mq11.1 12 = some (8, 0) := by decide +kernel
theorem q11_f21 : mq11.1 21 = some (8, 1) := by decide +kernel
theorem q11_f28 : mq11.1 28 = some (8, 2) := by decide +kernel
theorem q11_f35 : mq11.1 35 = some (8, 3) := by decide +kernel
theorem q11_f42 : mq11.1 42 = some (8, 4) := by decide +kernel
theorem q11_f46 : mq11.1 46 = some (8, 5) := by decide +kernel
theorem q11_f49 : mq11.1 49 = some (8, 6) := by decide +kernel
theorem q11_f55 : mq11.1 55 = some (8, 7) := by decide +kernel
theorem q11_f59 : mq11.1 59 = some (8, 8) := by decide +kernel
theorem q11_f62 : mq11.1 62 = some (8, 11) := by decide +kernel
theorem q11_f66 : mq11.1 66 = some (7, 1) := by decide +kernel
theorem q11_f76 : mq11.1 76 = some (3, 0) := by decide +kernel
theorem q11_f93 : mq11.1 93 = some (5, 3) := by decide +kernel
theorem q11_f98 : mq11.1 98 = some (3, 5) := by decide +kernel
theorem q11_f115 : mq11.1 115 = some (0, 1) := by decide +kernel
theorem q11_f123 : mq11.1 123 = some (3, 6) := by decide +kernel
theorem q11_f135 : mq11.1 135 = some (3, 7) := by decide +kernel
theorem q11_f147 : mq11.1 147 = some (3, 1) := by decide +kernel
theorem q11_f152 : mq11.1 152 = some (3, 2) := by decide +kernel
theorem q11_f176 : mq11.1 176 = some (3, 8) := by decide +kernel
theorem q11_f190 : mq11.1 190 = some (3, 9) := by decide +kernel
theorem q11_f274 : mq11.1 274 = some (3, 10) := by decide +kernel
theorem q11_f281 : mq11.1 281 = some (3, 11) := by decide +kernel
theorem q11_f286 : mq11.1 286 = some (3, 13) := by decide +kernel
theorem q11_f313 : mq11.1 313 = some (3, 12) := by decide +kernel
theorem q11_f358 : mq11.1 358 = some (3, 3) := by decide +kernel
theorem q11_f368 : mq11.1 368 = some (3, 14) := by decide +kernel
theorem q11_f371 : mq11.1 371 = some (6, 2) := by decide +kernel
theorem q11_f380 : mq11.1 380 = some (3, 15) := by decide +kernel
theorem q11_f394 : mq11.1 394 = some (3, 16) := by decide +kernel
theorem q11_f419 : mq11.1 419 = some (3, 17) := by decide +kernel
theorem q11_f428 : mq11.1 428 = some (3, 18) := by decide +kernel
theorem q11_f433 : mq11.1 433 = some (3, 19) := by decide +kernel
theorem q11_f445 : mq11.1 445 = some (8, 9) := by decide +kernel
theorem q11_f454 : mq11.1 454 = some (8, 10) := by decide +kernel
theorem q11_m3 : mq11.2.2.2.2.2.1 3 = some (.inr 0) := by decide +kernel
theorem q11_m11 : mq11.2.2.2.2.2.1 11 = some (.inl 1800) := by decide +kernel
theorem q11_m18 : mq11.2.2.2.2.2.1 18 = some (.inl 1400) := by decide +kernel
theorem q11_m27 : mq11.2.2.2.2.2.1 27 = some (.inl 400) := by decide +kernel
theorem q11_m34 : mq11.2.2.2.2.2.1 34 = some (.inl 800) := by decide +kernel
theorem q11_m41 : mq11.2.2.2.2.2.1 41 = some (.inl 600) := by decide +kernel
theorem q11_m54 : mq11.2.2.2.2.2.1 54 = some (.inl 200) := by decide +kernel
theorem q11_m69 : mq11.2.2.2.2.2.1 69 = some (.inl 1801) := by decide +kernel
theorem q11_m73 : mq11.2.2.2.2.2.1 73 = some (.inl 1802) := by decide +kernel
theorem q11_m79 : mq11.2.2.2.2.2.1 79 = some (.inl 2251) := by decide +kernel
theorem q11_m90 : mq11.2.2.2.2.2.1 90 = some (.inl 1401) := by decide +kernel
theorem q11_m108 : mq11.2.2.2.2.2.1 108 = some (.inl 0) := by decide +kernel
theorem q11_m111 : mq11.2.2.2.2.2.1 111 = some (.inl 608) := by decide +kernel
theorem q11_m118 : mq11.2.2.2.2.2.1 118 = some (.inl 2254) := by decide +kernel
theorem q11_m127 : mq11.2.2.2.2.2.1 127 = some (.inl 1605) := by decide +kernel
theorem q11_m138 : mq11.2.2.2.2.2.1 138 = some (.inl 604) := by decide +kernel
theorem q11_m142 : mq11.2.2.2.2.2.1 142 = some (.inl 606) := by decide +kernel
theorem q11_m155 : mq11.2.2.2.2.2.1 155 = some (.inl 2255) := by decide +kernel
theorem q11_m158 : mq11.2.2.2.2.2.1 158 = some (.inl 2258) := by decide +kernel
theorem q11_m161 : mq11.2.2.2.2.2.1 161 = some (.inl 2259) := by decide +kernel
theorem q11_m164 : mq11.2.2.2.2.2.1 164 = some (.inl 611) := by decide +kernel
theorem q11_m168 : mq11.2.2.2.2.2.1 168 = some (.inl 2256) := by decide +kernel
theorem q11_m179 : mq11.2.2.2.2.2.1 179 = some (.inl 1604) := by decide +kernel
theorem q11_m182 : mq11.2.2.2.2.2.1 182 = some (.inl 2252) := by decide +kernel
theorem q11_m185 : mq11.2.2.2.2.2.1 185 = some (.inl 2253) := by decide +kernel
theorem q11_m193 : mq11.2.2.2.2.2.1 193 = some (.inl 1602) := by decide +kernel
theorem q11_m199 : mq11.2.2.2.2.2.1 199 = some (.inl 1607) := by decide +kernel
theorem q11_m203 : mq11.2.2.2.2.2.1 203 = some (.inl 1601) := by decide +kernel
theorem q11_m214 : mq11.2.2.2.2.2.1 214 = some (.inl 625) := by decide +kernel
theorem q11_m218 : mq11.2.2.2.2.2.1 218 = some (.inl 404) := by decide +kernel
theorem q11_m222 : mq11.2.2.2.2.2.1 222 = some (.inl 2213) := by decide +kernel
theorem q11_m225 : mq11.2.2.2.2.2.1 225 = some (.inl 408) := by decide +kernel
theorem q11_m228 : mq11.2.2.2.2.2.1 228 = some (.inl 407) := by decide +kernel
theorem q11_m231 : mq11.2.2.2.2.2.1 231 = some (.inl 409) := by decide +kernel
theorem q11_m234 : mq11.2.2.2.2.2.1 234 = some (.inl 401) := by decide +kernel
theorem q11_m238 : mq11.2.2.2.2.2.1 238 = some (.inl 620) := by decide +kernel
theorem q11_m241 : mq11.2.2.2.2.2.1 241 = some (.inl 402) := by decide +kernel
theorem q11_m245 : mq11.2.2.2.2.2.1 245 = some (.inr 2) := by decide +kernel
theorem q11_m250 : mq11.2.2.2.2.2.1 250 = some (.inl 2250) := by decide +kernel
theorem q11_m253 : mq11.2.2.2.2.2.1 253 = some (.inl 622) := by decide +kernel
theorem q11_m258 : mq11.2.2.2.2.2.1 258 = some (.inl 614) := by decide +kernel
theorem q11_m261 : mq11.2.2.2.2.2.1 261 = some (.inl 616) := by decide +kernel
theorem q11_m264 : mq11.2.2.2.2.2.1 264 = some (.inl 405) := by decide +kernel
theorem q11_m268 : mq11.2.2.2.2.2.1 268 = some (.inl 623) := by decide +kernel
theorem q11_m289 : mq11.2.2.2.2.2.1 289 = some (.inl 2257) := by decide +kernel
theorem q11_m292 : mq11.2.2.2.2.2.1 292 = some (.inl 633) := by decide +kernel
theorem q11_m295 : mq11.2.2.2.2.2.1 295 = some (.inl 636) := by decide +kernel
theorem q11_m298 : mq11.2.2.2.2.2.1 298 = some (.inl 637) := by decide +kernel
theorem q11_m302 : mq11.2.2.2.2.2.1 302 = some (.inl 638) := by decide +kernel
theorem q11_m306 : mq11.2.2.2.2.2.1 306 = some (.inl 630) := by decide +kernel
theorem q11_m316 : mq11.2.2.2.2.2.1 316 = some (.inl 603) := by decide +kernel
theorem q11_m321 : mq11.2.2.2.2.2.1 321 = some (.inl 201) := by decide +kernel
theorem q11_m325 : mq11.2.2.2.2.2.1 325 = some (.inl 2000) := by decide +kernel
theorem q11_m330 : mq11.2.2.2.2.2.1 330 = some (.inl 1001) := by decide +kernel
theorem q11_m336 : mq11.2.2.2.2.2.1 336 = some (.inl 1003) := by decide +kernel
theorem q11_m340 : mq11.2.2.2.2.2.1 340 = some (.inl 627) := by decide +kernel
theorem q11_m343 : mq11.2.2.2.2.2.1 343 = some (.inl 1007) := by decide +kernel
theorem q11_m347 : mq11.2.2.2.2.2.1 347 = some (.inl 1008) := by decide +kernel
theorem q11_m354 : mq11.2.2.2.2.2.1 354 = some (.inl 1009) := by decide +kernel
theorem q11_m362 : mq11.2.2.2.2.2.1 362 = some (.inl 624) := by decide +kernel
theorem q11_m374 : mq11.2.2.2.2.2.1 374 = some (.inl 1005) := by decide +kernel
theorem q11_m383 : mq11.2.2.2.2.2.1 383 = some (.inl 1013) := by decide +kernel
theorem q11_m387 : mq11.2.2.2.2.2.1 387 = some (.inl 1012) := by decide +kernel
theorem q11_m403 : mq11.2.2.2.2.2.1 403 = some (.inl 801) := by decide +kernel
theorem q11_m406 : mq11.2.2.2.2.2.1 406 = some (.inl 804) := by decide +kernel
theorem q11_m409 : mq11.2.2.2.2.2.1 409 = some (.inl 805) := by decide +kernel
theorem q11_m412 : mq11.2.2.2.2.2.1 412 = some (.inl 1202) := by decide +kernel
theorem q11_m422 : mq11.2.2.2.2.2.1 422 = some (.inl 1204) := by decide +kernel
theorem q11_m436 : mq11.2.2.2.2.2.1 436 = some (.inl 1205) := by decide +kernel
theorem q11_m441 : mq11.2.2.2.2.2.1 441 = some (.inl 1014) := by decide +kernel
theorem q11_m448 : mq11.2.2.2.2.2.1 448 = some (.inl 602) := by decide +kernel
theorem q11_m451 : mq11.2.2.2.2.2.1 451 = some (.inl 205) := by decide +kernel
theorem q11_m457 : mq11.2.2.2.2.2.1 457 = some (.inl 618) := by decide +kernel
theorem q11_m460 : mq11.2.2.2.2.2.1 460 = some (.inl 610) := by decide +kernel
theorem q11_m463 : mq11.2.2.2.2.2.1 463 = some (.inl 626) := by decide +kernel
theorem q11_m466 : mq11.2.2.2.2.2.1 466 = some (.inl 1608) := by decide +kernel
theorem q11_m469 : mq11.2.2.2.2.2.1 469 = some (.inl 1609) := by decide +kernel
theorem q12_f3 : mq12.1 3 = some (9, 0) := by decide +kernel
theorem q12_f14 : mq12.1 14 = some (9, 1) := by decide +kernel
theorem q12_f19 : mq12.1 19 = some (9, 2) := by decide +kernel
theorem q12_f22 : mq12.1 22 = some (9, 3) := by decide +kernel
theorem q12_f25 : mq12.1 25 = some (9, 6) := by decide +kernel
theorem q12_f29 : mq12.1 29 = some (9, 12) := by decide +kernel
theorem q12_f32 : mq12.1 32 = some (9, 13) := by decide +kernel
theorem q12_f35 : mq12.1 35 = some (9, 15) := by decide +kernel
theorem q12_f39 : mq12.1 39 = some (9, 16) := by decide +kernel
theorem q12_f42 : mq12.1 42 = some (9, 17) := by decide +kernel
theorem q12_f45 : mq12.1 45 = some (9, 18) := by decide +kernel
theorem q12_f49 : mq12.1 49 = some (9, 19) := by decide +kernel
theorem q12_f52 : mq12.1 52 = some (9, 20) := by decide +kernel
theorem q12_f55 : mq12.1 55 = some (9, 21) := by decide +kernel
theorem q12_f58 : mq12.1 58 = some (9, 22) := by decide +kernel
theorem q12_f61 : mq12.1 61 = some (9, 24) := by decide +kernel
theorem q12_f64 : mq12.1 64 = some (9, 25) := by decide +kernel
theorem q12_f67 : mq12.1 67 = some (9, 5) := by decide +kernel
theorem q12_f71 : mq12.1 71 = some (9, 4) := by decide +kernel
theorem q12_f131 : mq12.1 131 = some (9, 7) := by decide +kernel
theorem q12_f134 : mq12.1 134 = some (9, 9) := by decide +kernel
theorem q12_f137 : mq12.1 137 = some (9, 8) := by decide +kernel
theorem q12_f144 : mq12.1 144 = some (9, 10) := by decide +kernel
theorem q12_f170 : mq12.1 170 = some (9, 14) := by decide +kernel
theorem q12_f210 : mq12.1 210 = some (9, 11) := by decide +kernel
theorem q12_f392 : mq12.1 392 = some (9, 23) := by decide +kernel
theorem q12_m7 : mq12.2.2.2.2.2.1 7 = some (.inr 0) := by decide +kernel
theorem q12_m74 : mq12.2.2.2.2.2.1 74 = some (.inl 2402) := by decide +kernel
theorem q12_m78 : mq12.2.2.2.2.2.1 78 = some (.inl 2410) := by decide +kernel
theorem q12_m82 : mq12.2.2.2.2.2.1 82 = some (.inl 2401) := by decide +kernel
theorem q12_m86 : mq12.2.2.2.2.2.1 86 = some (.inl 2404) := by decide +kernel
theorem q12_m90 : mq12.2.2.2.2.2.1 90 = some (.inl 2416) := by decide +kernel
theorem q12_m94 : mq12.2.2.2.2.2.1 94 = some (.inl 2417) := by decide +kernel
theorem q12_m98 : mq12.2.2.2.2.2.1 98 = some (.inl 2419) := by decide +kernel
theorem q12_m103 : mq12.2.2.2.2.2.1 103 = some (.inl 2411) := by decide +kernel
theorem q12_m106 : mq12.2.2.2.2.2.1 106 = some (.inl 2413) := by decide +kernel
theorem q12_m109 : mq12.2.2.2.2.2.1 109 = some (.inl 2414) := by decide +kernel
theorem q12_m112 : mq12.2.2.2.2.2.1 112 = some (.inl 2425) := by decide +kernel
theorem q12_m115 : mq12.2.2.2.2.2.1 115 = some (.inl 2426) := by decide +kernel
theorem q12_m118 : mq12.2.2.2.2.2.1 118 = some (.inl 2405) := by decide +kernel
theorem q12_m122 : mq12.2.2.2.2.2.1 122 = some (.inl 2428) := by decide +kernel
theorem q12_m125 : mq12.2.2.2.2.2.1 125 = some (.inl 2427) := by decide +kernel
theorem q12_m128 : mq12.2.2.2.2.2.1 128 = some (.inl 2430) := by decide +kernel
theorem q12_m140 : mq12.2.2.2.2.2.1 140 = some (.inl 2439) := by decide +kernel
theorem q12_m147 : mq12.2.2.2.2.2.1 147 = some (.inl 2440) := by decide +kernel
theorem q12_m150 : mq12.2.2.2.2.2.1 150 = some (.inr 6) := by decide +kernel
theorem q12_m155 : mq12.2.2.2.2.2.1 155 = some (.inr 7) := by decide +kernel
theorem q12_m159 : mq12.2.2.2.2.2.1 159 = some (.inl 2441) := by decide +kernel
theorem q12_m162 : mq12.2.2.2.2.2.1 162 = some (.inl 2442) := by decide +kernel
theorem q12_m166 : mq12.2.2.2.2.2.1 166 = some (.inl 2447) := by decide +kernel
theorem q12_m192 : mq12.2.2.2.2.2.1 192 = some (.inl 2450) := by decide +kernel
theorem q12_m196 : mq12.2.2.2.2.2.1 196 = some (.inl 2449) := by decide +kernel
theorem q12_m201 : mq12.2.2.2.2.2.1 201 = some (.inl 2445) := by decide +kernel
theorem q12_m204 : mq12.2.2.2.2.2.1 204 = some (.inl 2451) := by decide +kernel
theorem q12_m207 : mq12.2.2.2.2.2.1 207 = some (.inl 2444) := by decide +kernel
theorem q12_m213 : mq12.2.2.2.2.2.1 213 = some (.inl 2455) := by decide +kernel
theorem q12_m218 : mq12.2.2.2.2.2.1 218 = some (.inl 2443) := by decide +kernel
theorem q12_m221 : mq12.2.2.2.2.2.1 221 = some (.inl 2453) := by decide +kernel
theorem q12_m224 : mq12.2.2.2.2.2.1 224 = some (.inl 2452) := by decide +kernel
theorem q12_m229 : mq12.2.2.2.2.2.1 229 = some (.inl 2454) := by decide +kernel
theorem q12_m234 : mq12.2.2.2.2.2.1 234 = some (.inl 2448) := by decide +kernel
theorem q12_m247 : mq12.2.2.2.2.2.1 247 = some (.inl 2456) := by decide +kernel
theorem q12_m250 : mq12.2.2.2.2.2.1 250 = some (.inl 2438) := by decide +kernel
theorem q12_m253 : mq12.2.2.2.2.2.1 253 = some (.inl 2457) := by decide +kernel
theorem q12_m256 : mq12.2.2.2.2.2.1 256 = some (.inl 2412) := by decide +kernel
theorem q12_m259 : mq12.2.2.2.2.2.1 259 = some (.inl 2500) := by decide +kernel
theorem q12_m262 : mq12.2.2.2.2.2.1 262 = some (.inr 3) := by decide +kernel
theorem q12_m268 : mq12.2.2.2.2.2.1 268 = some (.inl 2459) := by decide +kernel
theorem q12_m271 : mq12.2.2.2.2.2.1 271 = some (.inl 2460) := by decide +kernel
theorem q12_m274 : mq12.2.2.2.2.2.1 274 = some (.inl 2462) := by decide +kernel
theorem q12_m277 : mq12.2.2.2.2.2.1 277 = some (.inr 1) := by decide +kernel
theorem q12_m279 : mq12.2.2.2.2.2.1 279 = some (.inl 2465) := by decide +kernel
theorem q12_m282 : mq12.2.2.2.2.2.1 282 = some (.inl 2461) := by decide +kernel
theorem q12_m286 : mq12.2.2.2.2.2.1 286 = some (.inl 2466) := by decide +kernel
theorem q12_m289 : mq12.2.2.2.2.2.1 289 = some (.inl 2469) := by decide +kernel
theorem q12_m292 : mq12.2.2.2.2.2.1 292 = some (.inl 2464) := by decide +kernel
theorem q12_m295 : mq12.2.2.2.2.2.1 295 = some (.inl 2463) := by decide +kernel
theorem q12_m298 : mq12.2.2.2.2.2.1 298 = some (.inl 2468) := by decide +kernel
theorem q12_m301 : mq12.2.2.2.2.2.1 301 = some (.inl 2471) := by decide +kernel
theorem q12_m304 : mq12.2.2.2.2.2.1 304 = some (.inr 2) := by decide +kernel
theorem q12_m307 : mq12.2.2.2.2.2.1 307 = some (.inl 2472) := by decide +kernel
theorem q12_m310 : mq12.2.2.2.2.2.1 310 = some (.inl 2473) := by decide +kernel
theorem q12_m313 : mq12.2.2.2.2.2.1 313 = some (.inl 2406) := by decide +kernel
theorem q12_m316 : mq12.2.2.2.2.2.1 316 = some (.inl 2474) := by decide +kernel
theorem q12_m319 : mq12.2.2.2.2.2.1 319 = some (.inl 2476) := by decide +kernel
theorem q12_m322 : mq12.2.2.2.2.2.1 322 = some (.inl 2478) := by decide +kernel
theorem q12_m326 : mq12.2.2.2.2.2.1 326 = some (.inl 2477) := by decide +kernel
theorem q12_m329 : mq12.2.2.2.2.2.1 329 = some (.inl 2479) := by decide +kernel
theorem q12_m332 : mq12.2.2.2.2.2.1 332 = some (.inl 2482) := by decide +kernel
theorem q12_m335 : mq12.2.2.2.2.2.1 335 = some (.inl 2481) := by decide +kernel
theorem q12_m338 : mq12.2.2.2.2.2.1 338 = some (.inl 2429) := by decide +kernel
theorem q12_m341 : mq12.2.2.2.2.2.1 341 = some (.inl 2486) := by decide +kernel
theorem q12_m344 : mq12.2.2.2.2.2.1 344 = some (.inl 2488) := by decide +kernel
theorem q12_m347 : mq12.2.2.2.2.2.1 347 = some (.inl 2431) := by decide +kernel
theorem q12_m350 : mq12.2.2.2.2.2.1 350 = some (.inl 2490) := by decide +kernel
theorem q12_m353 : mq12.2.2.2.2.2.1 353 = some (.inl 2487) := by decide +kernel
theorem q12_m356 : mq12.2.2.2.2.2.1 356 = some (.inl 2489) := by decide +kernel
theorem q12_m360 : mq12.2.2.2.2.2.1 360 = some (.inl 2491) := by decide +kernel
theorem q12_m363 : mq12.2.2.2.2.2.1 363 = some (.inl 2508) := by decide +kernel
theorem q12_m366 : mq12.2.2.2.2.2.1 366 = some (.inl 2492) := by decide +kernel
theorem q12_m371 : mq12.2.2.2.2.2.1 371 = some (.inl 2497) := by decide +kernel
theorem q12_m374 : mq12.2.2.2.2.2.1 374 = some (.inl 2498) := by decide +kernel
theorem q12_m377 : mq12.2.2.2.2.2.1 377 = some (.inl 2496) := by decide +kernel
theorem q12_m380 : mq12.2.2.2.2.2.1 380 = some (.inl 2495) := by decide +kernel
theorem q12_m384 : mq12.2.2.2.2.2.1 384 = some (.inl 2499) := by decide +kernel
theorem q12_m389 : mq12.2.2.2.2.2.1 389 = some (.inl 2506) := by decide +kernel
theorem q12_m395 : mq12.2.2.2.2.2.1 395 = some (.inl 2513) := by decide +kernel
theorem q12_m398 : mq12.2.2.2.2.2.1 398 = some (.inl 2520) := by decide +kernel
theorem q12_m401 : mq12.2.2.2.2.2.1 401 = some (.inl 2521) := by decide +kernel
theorem q12_m404 : mq12.2.2.2.2.2.1 404 = some (.inl 2522) := by decide +kernel
theorem q12_m407 : mq12.2.2.2.2.2.1 407 = some (.inl 2800) := by decide +kernel
theorem q12_m412 : mq12.2.2.2.2.2.1 412 = some (.inl 2525) := by decide +kernel
theorem q13_m7 : mq13.2.2.2.2.2.1 7 = some (.inl 2205) := by decide +kernel
theorem q13_m17 : mq13.2.2.2.2.2.1 17 = some (.inl 2206) := by decide +kernel
theorem q13_m21 : mq13.2.2.2.2.2.1 21 = some (.inl 2207) := by decide +kernel
theorem q13_m25 : mq13.2.2.2.2.2.1 25 = some (.inl 2208) := by decide +kernel
theorem q13_m28 : mq13.2.2.2.2.2.1 28 = some (.inl 2209) := by decide +kernel
theorem q13_m35 : mq13.2.2.2.2.2.1 35 = some (.inl 2210) := by decide +kernel
theorem q13_m40 : mq13.2.2.2.2.2.1 40 = some (.inl 2203) := by decide +kernel
theorem q13_m44 : mq13.2.2.2.2.2.1 44 = some (.inl 2211) := by decide +kernel
theorem q13_m48 : mq13.2.2.2.2.2.1 48 = some (.inl 2212) := by decide +kernel
theorem q13_m51 : mq13.2.2.2.2.2.1 51 = some (.inl 2214) := by decide +kernel
theorem q13_m54 : mq13.2.2.2.2.2.1 54 = some (.inl 2215) := by decide +kernel
theorem q13_m58 : mq13.2.2.2.2.2.1 58 = some (.inl 2218) := by decide +kernel
theorem q13_m61 : mq13.2.2.2.2.2.1 61 = some (.inl 2219) := by decide +kernel
theorem q13_m65 : mq13.2.2.2.2.2.1 65 = some (.inl 2220) := by decide +kernel
theorem q13_m68 : mq13.2.2.2.2.2.1 68 = some (.inl 2221) := by decide +kernel
theorem q13_m72 : mq13.2.2.2.2.2.1 72 = some (.inl 2222) := by decide +kernel
theorem q13_m75 : mq13.2.2.2.2.2.1 75 = some (.inl 2223) := by decide +kernel
theorem q13_m78 : mq13.2.2.2.2.2.1 78 = some (.inl 2224) := by decide +kernel
theorem q13_m82 : mq13.2.2.2.2.2.1 82 = some (.inl 2225) := by decide +kernel
theorem q13_m85 : mq13.2.2.2.2.2.1 85 = some (.inl 2216) := by decide +kernel
theorem q13_m89 : mq13.2.2.2.2.2.1 89 = some (.inl 2217) := by decide +kernel
theorem q13_m92 : mq13.2.2.2.2.2.1 92 = some (.inl 2226) := by decide +kernel
theorem q13_m96 : mq13.2.2.2.2.2.1 96 = some (.inl 2227) := by decide +kernel
theorem q13_m100 : mq13.2.2.2.2.2.1 100 = some (.inl 2229) := by decide +kernel
theorem q13_m103 : mq13.2.2.2.2.2.1 103 = some (.inl 2230) := by decide +kernel
theorem q13_m106 : mq13.2.2.2.2.2.1 106 = some (.inl 2231) := by decide +kernel
theorem q13_m109 : mq13.2.2.2.2.2.1 109 = some (.inl 2232) := by decide +kernel
theorem q13_m113 : mq13.2.2.2.2.2.1 113 = some (.inl 2235) := by decide +kernel
theorem q13_m116 : mq13.2.2.2.2.2.1 116 = some (.inl 2236) := by decide +kernel
theorem q13_m119 : mq13.2.2.2.2.2.1 119 = some (.inl 2237) := by decide +kernel
theorem q13_m122 : mq13.2.2.2.2.2.1 122 = some (.inl 2240) := by decide +kernel
theorem q13_m125 : mq13.2.2.2.2.2.1 125 = some (.inl 2242) := by decide +kernel
theorem q13_m128 : mq13.2.2.2.2.2.1 128 = some (.inl 2243) := by decide +kernel
theorem q13_m131 : mq13.2.2.2.2.2.1 131 = some (.inl 2245) := by decide +kernel
theorem q13_m135 : mq13.2.2.2.2.2.1 135 = some (.inl 2233) := by decide +kernel
theorem q13_m138 : mq13.2.2.2.2.2.1 138 = some (.inl 2200) := by decide +kernel
theorem q13_m141 : mq13.2.2.2.2.2.1 141 = some (.inl 2403) := by decide +kernel
theorem q13_m142 : mq13.2.2.2.2.2.1 142 = some (.inl 2201) := by decide +kernel
theorem q13_m145 : mq13.2.2.2.2.2.1 145 = some (.inl 2436) := by decide +kernel
theorem q13_m146 : mq13.2.2.2.2.2.1 146 = some (.inl 2202) := by decide +kernel
theorem q13_m150 : mq13.2.2.2.2.2.1 150 = some (.inl 2437) := by decide +kernel
theorem q13_m151 : mq13.2.2.2.2.2.1 151 = some (.inl 2600) := by decide +kernel
theorem q13_m156 : mq13.2.2.2.2.2.1 156 = some (.inl 2415) := by decide +kernel
theorem q13_m157 : mq13.2.2.2.2.2.1 157 = some (.inl 2400) := by decide +kernel
theorem q13_m161 : mq13.2.2.2.2.2.1 161 = some (.inl 2601) := by decide +kernel
theorem q13_m164 : mq13.2.2.2.2.2.1 164 = some (.inl 2418) := by decide +kernel
theorem q13_m165 : mq13.2.2.2.2.2.1 165 = some (.inl 2602) := by decide +kernel
theorem q13_m168 : mq13.2.2.2.2.2.1 168 = some (.inl 2420) := by decide +kernel
theorem q13_m169 : mq13.2.2.2.2.2.1 169 = some (.inl 2603) := by decide +kernel
theorem q13_m171 : mq13.2.2.2.2.2.1 171 = some (.inl 2421) := by decide +kernel
theorem q13_m172 : mq13.2.2.2.2.2.1 172 = some (.inl 2604) := by decide +kernel
theorem q13_m174 : mq13.2.2.2.2.2.1 174 = some (.inl 2432) := by decide +kernel
theorem q13_m175 : mq13.2.2.2.2.2.1 175 = some (.inl 2605) := by decide +kernel
theorem q13_m177 : mq13.2.2.2.2.2.1 177 = some (.inl 2433) := by decide +kernel
theorem q13_m178 : mq13.2.2.2.2.2.1 178 = some (.inl 2606) := by decide +kernel
theorem q13_m181 : mq13.2.2.2.2.2.1 181 = some (.inl 2458) := by decide +kernel
theorem q13_m182 : mq13.2.2.2.2.2.1 182 = some (.inl 2204) := by decide +kernel
theorem q13_m185 : mq13.2.2.2.2.2.1 185 = some (.inl 2446) := by decide +kernel
theorem q13_m186 : mq13.2.2.2.2.2.1 186 = some (.inl 2607) := by decide +kernel
theorem q13_m189 : mq13.2.2.2.2.2.1 189 = some (.inl 2467) := by decide +kernel
theorem q13_m190 : mq13.2.2.2.2.2.1 190 = some (.inl 2608) := by decide +kernel
theorem q13_m192 : mq13.2.2.2.2.2.1 192 = some (.inl 2470) := by decide +kernel
theorem q13_m193 : mq13.2.2.2.2.2.1 193 = some (.inl 2609) := by decide +kernel
theorem q13_m195 : mq13.2.2.2.2.2.1 195 = some (.inl 2475) := by decide +kernel
theorem q13_m196 : mq13.2.2.2.2.2.1 196 = some (.inl 2610) := by decide +kernel
theorem q13_m198 : mq13.2.2.2.2.2.1 198 = some (.inl 2435) := by decide +kernel
theorem q13_m199 : mq13.2.2.2.2.2.1 199 = some (.inl 2611) := by decide +kernel
theorem q13_m201 : mq13.2.2.2.2.2.1 201 = some (.inl 2480) := by decide +kernel
theorem q13_m202 : mq13.2.2.2.2.2.1 202 = some (.inl 2612) := by decide +kernel
theorem q13_m205 : mq13.2.2.2.2.2.1 205 = some (.inl 2422) := by decide +kernel
theorem q13_m206 : mq13.2.2.2.2.2.1 206 = some (.inl 2613) := by decide +kernel
theorem q13_m208 : mq13.2.2.2.2.2.1 208 = some (.inl 2423) := by decide +kernel
theorem q13_m209 : mq13.2.2.2.2.2.1 209 = some (.inl 2614) := by decide +kernel
theorem q13_m211 : mq13.2.2.2.2.2.1 211 = some (.inl 2483) := by decide +kernel
theorem q13_m212 : mq13.2.2.2.2.2.1 212 = some (.inl 2615) := by decide +kernel
theorem q13_m214 : mq13.2.2.2.2.2.1 214 = some (.inl 2484) := by decide +kernel
theorem q13_m215 : mq13.2.2.2.2.2.1 215 = some (.inl 2616) := by decide +kernel
theorem q13_m217 : mq13.2.2.2.2.2.1 217 = some (.inl 2485) := by decide +kernel
theorem q13_m218 : mq13.2.2.2.2.2.1 218 = some (.inl 2617) := by decide +kernel
theorem q13_m221 : mq13.2.2.2.2.2.1 221 = some (.inl 2424) := by decide +kernel
theorem q13_m222 : mq13.2.2.2.2.2.1 222 = some (.inl 2618) := by decide +kernel
theorem q13_m224 : mq13.2.2.2.2.2.1 224 = some (.inl 2493) := by decide +kernel
theorem q13_m225 : mq13.2.2.2.2.2.1 225 = some (.inl 2619) := by decide +kernel
theorem q13_m228 : mq13.2.2.2.2.2.1 228 = some (.inl 2494) := by decide +kernel
theorem q13_m229 : mq13.2.2.2.2.2.1 229 = some (.inl 2620) := by decide +kernel
theorem q13_m231 : mq13.2.2.2.2.2.1 231 = some (.inl 2434) := by decide +kernel
theorem q13_m232 : mq13.2.2.2.2.2.1 232 = some (.inl 2621) := by decide +kernel
theorem q13_m234 : mq13.2.2.2.2.2.1 234 = some (.inl 2501) := by decide +kernel
theorem q13_m235 : mq13.2.2.2.2.2.1 235 = some (.inl 2622) := by decide +kernel
theorem q13_m237 : mq13.2.2.2.2.2.1 237 = some (.inl 2502) := by decide +kernel
theorem q13_m238 : mq13.2.2.2.2.2.1 238 = some (.inl 2623) := by decide +kernel
theorem q13_m240 : mq13.2.2.2.2.2.1 240 = some (.inl 2503) := by decide +kernel
theorem q13_m241 : mq13.2.2.2.2.2.1 241 = some (.inl 2624) := by decide +kernel
theorem q13_m243 : mq13.2.2.2.2.2.1 243 = some (.inl 2504) := by decide +kernel
theorem q13_m244 : mq13.2.2.2.2.2.1 244 = some (.inl 2625) := by decide +kernel
theorem q13_m246 : mq13.2.2.2.2.2.1 246 = some (.inl 2505) := by decide +kernel
theorem q13_m247 : mq13.2.2.2.2.2.1 247 = some (.inl 2626) := by decide +kernel
theorem q13_m250 : mq13.2.2.2.2.2.1 250 = some (.inl 2507) := by decide +kernel
theorem q13_m251 : mq13.2.2.2.2.2.1 251 = some (.inl 2627) := by decide +kernel
theorem q13_m253 : mq13.2.2.2.2.2.1 253 = some (.inl 2509) := by decide +kernel
theorem q13_m254 : mq13.2.2.2.2.2.1 254 = some (.inl 2628) := by decide +kernel
theorem q13_m256 : mq13.2.2.2.2.2.1 256 = some (.inl 2510) := by decide +kernel
theorem q13_m257 : mq13.2.2.2.2.2.1 257 = some (.inl 2228) := by decide +kernel
theorem q13_m260 : mq13.2.2.2.2.2.1 260 = some (.inl 2511) := by decide +kernel
theorem q13_m261 : mq13.2.2.2.2.2.1 261 = some (.inl 2629) := by decide +kernel
theorem q13_m263 : mq13.2.2.2.2.2.1 263 = some (.inl 2512) := by decide +kernel
theorem q13_m264 : mq13.2.2.2.2.2.1 264 = some (.inl 2238) := by decide +kernel
theorem q13_m267 : mq13.2.2.2.2.2.1 267 = some (.inl 2514) := by decide +kernel
theorem q13_m268 : mq13.2.2.2.2.2.1 268 = some (.inl 2239) := by decide +kernel
theorem q13_m271 : mq13.2.2.2.2.2.1 271 = some (.inl 2515) := by decide +kernel
theorem q13_m272 : mq13.2.2.2.2.2.1 272 = some (.inl 2630) := by decide +kernel
theorem q13_m274 : mq13.2.2.2.2.2.1 274 = some (.inl 2516) := by decide +kernel
theorem q13_m275 : mq13.2.2.2.2.2.1 275 = some (.inl 2241) := by decide +kernel
theorem q13_m278 : mq13.2.2.2.2.2.1 278 = some (.inl 2517) := by decide +kernel
theorem q13_m279 : mq13.2.2.2.2.2.1 279 = some (.inl 2631) := by decide +kernel
theorem q13_m281 : mq13.2.2.2.2.2.1 281 = some (.inl 2518) := by decide +kernel
theorem q13_m282 : mq13.2.2.2.2.2.1 282 = some (.inl 2632) := by decide +kernel
theorem q13_m284 : mq13.2.2.2.2.2.1 284 = some (.inl 2519) := by decide +kernel
theorem q13_m285 : mq13.2.2.2.2.2.1 285 = some (.inl 2244) := by decide +kernel
theorem q13_m288 : mq13.2.2.2.2.2.1 288 = some (.inl 2523) := by decide +kernel
theorem q13_m289 : mq13.2.2.2.2.2.1 289 = some (.inl 2633) := by decide +kernel
theorem q13_m292 : mq13.2.2.2.2.2.1 292 = some (.inl 2524) := by decide +kernel
theorem q13_m293 : mq13.2.2.2.2.2.1 293 = some (.inl 2634) := by decide +kernel
theorem q13_m295 : mq13.2.2.2.2.2.1 295 = some (.inl 2526) := by decide +kernel
theorem q13_m296 : mq13.2.2.2.2.2.1 296 = some (.inl 2234) := by decide +kernel
theorem q13_m299 : mq13.2.2.2.2.2.1 299 = some (.inl 2527) := by decide +kernel
theorem q13_m300 : mq13.2.2.2.2.2.1 300 = some (.inl 2246) := by decide +kernel
theorem q13_m304 : mq13.2.2.2.2.2.1 304 = some (.inl 2407) := by decide +kernel
theorem q13_m305 : mq13.2.2.2.2.2.1 305 = some (.inl 2247) := by decide +kernel
theorem q13_m308 : mq13.2.2.2.2.2.1 308 = some (.inl 2408) := by decide +kernel
theorem q13_m309 : mq13.2.2.2.2.2.1 309 = some (.inl 2248) := by decide +kernel
theorem q13_m312 : mq13.2.2.2.2.2.1 312 = some (.inl 2409) := by decide +kernel
theorem q13_m313 : mq13.2.2.2.2.2.1 313 = some (.inl 2249) := by decide +kernel
theorem q13_m316 : mq13.2.2.2.2.2.1 316 = some (.inl 2528) := by decide +kernel
theorem jv0 : m_Jv 0 2 3 0 := ⟨rfl, rfl, rfl⟩
theorem jv1 : m_Jv 1 1 2 0 := ⟨rfl, rfl, rfl⟩
theorem jv2 : m_Jv 2 1 2 0 := ⟨rfl, rfl, rfl⟩
theorem jv3 : m_Jv 3 1 2 0 := ⟨rfl, rfl, rfl⟩
theorem jv200 : m_Jv 200 0 1 1 := ⟨rfl, rfl, rfl⟩
theorem jv201 : m_Jv 201 1 6 1 := ⟨rfl, rfl, rfl⟩
theorem jv202 : m_Jv 202 3 4 1 := ⟨rfl, rfl, rfl⟩
theorem jv203 : m_Jv 203 1 3 1 := ⟨rfl, rfl, rfl⟩
theorem jv204 : m_Jv 204 3 5 1 := ⟨rfl, rfl, rfl⟩
theorem jv205 : m_Jv 205 2 4 1 := ⟨rfl, rfl, rfl⟩
theorem jv400 : m_Jv 400 0 1 2 := ⟨rfl, rfl, rfl⟩
theorem jv401 : m_Jv 401 2 4 2 := ⟨rfl, rfl, rfl⟩
theorem jv402 : m_Jv 402 1 4 2 := ⟨rfl, rfl, rfl⟩
theorem jv403 : m_Jv 403 3 4 2 := ⟨rfl, rfl, rfl⟩
theorem jv404 : m_Jv 404 3 4 2 := ⟨rfl, rfl, rfl⟩
theorem jv405 : m_Jv 405 5 6 2 := ⟨rfl, rfl, rfl⟩
theorem jv406 : m_Jv 406 2 3 2 := ⟨rfl, rfl, rfl⟩
theorem jv407 : m_Jv 407 1 4 2 := ⟨rfl, rfl, rfl⟩
theorem jv408 : m_Jv 408 0 4 2 := ⟨rfl, rfl, rfl⟩
theorem jv409 : m_Jv 409 0 4 2 := ⟨rfl, rfl, rfl⟩
theorem jv410 : m_Jv 410 2 6 2 := ⟨rfl, rfl, rfl⟩
theorem jv411 : m_Jv 411 1 6 2 := ⟨rfl, rfl, rfl⟩
theorem jv412 : m_Jv 412 3 5 2 := ⟨rfl, rfl, rfl⟩
theorem jv413 : m_Jv 413 1 3 2 := ⟨rfl, rfl, rfl⟩
theorem jv414 : m_Jv 414 0 1 2 := ⟨rfl, rfl, rfl⟩
theorem jv600 : m_Jv 600 0 1 3 := ⟨rfl, rfl, rfl⟩
theorem jv601 : m_Jv 601 0 3 3 := ⟨rfl, rfl, rfl⟩
theorem jv602 : m_Jv 602 1 3 3 := ⟨rfl, rfl, rfl⟩
theorem jv603 : m_Jv 603 2 2 3 := ⟨rfl, rfl, rfl⟩
theorem jv604 : m_Jv 604 4 5 3 := ⟨rfl, rfl, rfl⟩
theorem jv605 : m_Jv 605 3 7 3 := ⟨rfl, rfl, rfl⟩
theorem jv606 : m_Jv 606 2 3 3 := ⟨rfl, rfl, rfl⟩
theorem jv607 : m_Jv 607 2 3 3 := ⟨rfl, rfl, rfl⟩
theorem jv608 : m_Jv 608 1 2 3 := ⟨rfl, rfl, rfl⟩
theorem jv609 : m_Jv 609 0 4 3 := ⟨rfl, rfl, rfl⟩
theorem jv610 : m_Jv 610 0 2 3 := ⟨rfl, rfl, rfl⟩
theorem jv611 : m_Jv 611 4 6 3 := ⟨rfl, rfl, rfl⟩
theorem jv612 : m_Jv 612 1 2 3 := ⟨rfl, rfl, rfl⟩
theorem jv613 : m_Jv 613 1 2 3 := ⟨rfl, rfl, rfl⟩
theorem jv614 : m_Jv 614 1 2 3 := ⟨rfl, rfl, rfl⟩
theorem jv615 : m_Jv 615 1 2 3 := ⟨rfl, rfl, rfl⟩
theorem jv616 : m_Jv 616 2 3 3 := ⟨rfl, rfl, rfl⟩
theorem jv617 : m_Jv 617 4 5 3 := ⟨rfl, rfl, rfl⟩
theorem jv618 : m_Jv 618 1 2 3 := ⟨rfl, rfl, rfl⟩
theorem jv619 : m_Jv 619 2 3 3 := ⟨rfl, rfl, rfl⟩
theorem jv620 : m_Jv 620 1 4 3 := ⟨rfl, rfl, rfl⟩
theorem jv621 : m_Jv 621 2 6 3 := ⟨rfl, rfl, rfl⟩
theorem jv622 : m_Jv 622 3 6 3 := ⟨rfl, rfl, rfl⟩
theorem jv623 : m_Jv 623 4 7 3 := ⟨rfl, rfl, rfl⟩
theorem jv624 : m_Jv 624 0 4 3 := ⟨rfl, rfl, rfl⟩
theorem jv625 : m_Jv 625 1 2 3 := ⟨rfl, rfl, rfl⟩
theorem jv626 : m_Jv 626 0 3 3 := ⟨rfl, rfl, rfl⟩
theorem jv627 : m_Jv 627 1 5 3 := ⟨rfl, rfl, rfl⟩
theorem jv628 : m_Jv 628 2 3 3 := ⟨rfl, rfl, rfl⟩
theorem jv629 : m_Jv 629 2 3 3 := ⟨rfl, rfl, rfl⟩
theorem jv630 : m_Jv 630 1 4 3 := ⟨rfl, rfl, rfl⟩
theorem jv631 : m_Jv 631 1 2 3 := ⟨rfl, rfl, rfl⟩
theorem jv632 : m_Jv 632 2 5 3 := ⟨rfl, rfl, rfl⟩
theorem jv633 : m_Jv 633 3 5 3 := ⟨rfl, rfl, rfl⟩
theorem jv634 : m_Jv 634 2 5 3 := ⟨rfl, rfl, rfl⟩
theorem jv635 : m_Jv 635 1 2 3 := ⟨rfl, rfl, rfl⟩
theorem jv636 : m_Jv 636 3 5 3 := ⟨rfl, rfl, rfl⟩
theorem jv637 : m_Jv 637 2 4 3 := ⟨rfl, rfl, rfl⟩
theorem jv638 : m_Jv 638 2 3 3 := ⟨rfl, rfl, rfl⟩
theorem jv800 : m_Jv 800 0 1 4 := ⟨rfl, rfl, rfl⟩
theorem jv801 : m_Jv 801 1 4 4 := ⟨rfl, rfl, rfl⟩
theorem jv802 : m_Jv 802 3 5 4 := ⟨rfl, rfl, rfl⟩
theorem jv803 : m_Jv 803 0 3 4 := ⟨rfl, rfl, rfl⟩
theorem jv804 : m_Jv 804 0 1 4 := ⟨rfl, rfl, rfl⟩
theorem jv805 : m_Jv 805 1 3 4 := ⟨rfl, rfl, rfl⟩
theorem jv1000 : m_Jv 1000 3 3 99 := ⟨rfl, rfl, rfl⟩
theorem jv1001 : m_Jv 1001 2 5 99 := ⟨rfl, rfl, rfl⟩
theorem jv1002 : m_Jv 1002 2 4 99 := ⟨rfl, rfl, rfl⟩
theorem jv1003 : m_Jv 1003 3 5 99 := ⟨rfl, rfl, rfl⟩
theorem jv1004 : m_Jv 1004 3 5 99 := ⟨rfl, rfl, rfl⟩
theorem jv1005 : m_Jv 1005 5 5 99 := ⟨rfl, rfl, rfl⟩
theorem jv1006 : m_Jv 1006 3 5 99 := ⟨rfl, rfl, rfl⟩
theorem jv1007 : m_Jv 1007 3 9 99 := ⟨rfl, rfl, rfl⟩
theorem jv1008 : m_Jv 1008 2 5 99 := ⟨rfl, rfl, rfl⟩
theorem jv1009 : m_Jv 1009 4 9 99 := ⟨rfl, rfl, rfl⟩
theorem jv1010 : m_Jv 1010 4 4 99 := ⟨rfl, rfl, rfl⟩
theorem jv1011 : m_Jv 1011 3 5 99 := ⟨rfl, rfl, rfl⟩
theorem jv1012 : m_Jv 1012 3 6 99 := ⟨rfl, rfl, rfl⟩
theorem jv1013 : m_Jv 1013 2 4 99 := ⟨rfl, rfl, rfl⟩
theorem jv1014 : m_Jv 1014 2 5 99 := ⟨rfl, rfl, rfl⟩
theorem jv1200 : m_Jv 1200 2 2 99 := ⟨rfl, rfl, rfl⟩
theorem jv1201 : m_Jv 1201 2 4 99 := ⟨rfl, rfl, rfl⟩
theorem jv1202 : m_Jv 1202 1 11 99 := ⟨rfl, rfl, rfl⟩
theorem jv1203 : m_Jv 1203 3 5 99 := ⟨rfl, rfl, rfl⟩
theorem jv1204 : m_Jv 1204 3 10 99 := ⟨rfl, rfl, rfl⟩
theorem jv1205 : m_Jv 1205 1 6 99 := ⟨rfl, rfl, rfl⟩
theorem jv1206 : m_Jv 1206 2 8 99 := ⟨rfl, rfl, rfl⟩
theorem jv1207 : m_Jv 1207 4 6 99 := ⟨rfl, rfl, rfl⟩
theorem jv1400 : m_Jv 1400 1 2 5 := ⟨rfl, rfl, rfl⟩
theorem jv1401 : m_Jv 1401 0 2 5 := ⟨rfl, rfl, rfl⟩
theorem jv1402 : m_Jv 1402 0 3 5 := ⟨rfl, rfl, rfl⟩
theorem jv1403 : m_Jv 1403 2 3 5 := ⟨rfl, rfl, rfl⟩
theorem jv1404 : m_Jv 1404 1 3 5 := ⟨rfl, rfl, rfl⟩
theorem jv1405 : m_Jv 1405 1 3 5 := ⟨rfl, rfl, rfl⟩
theorem jv1406 : m_Jv 1406 1 4 5 := ⟨rfl, rfl, rfl⟩
theorem jv1407 : m_Jv 1407 0 3 5 := ⟨rfl, rfl, rfl⟩
theorem jv1408 : m_Jv 1408 0 1 5 := ⟨rfl, rfl, rfl⟩
theorem jv1409 : m_Jv 1409 1 2 5 := ⟨rfl, rfl, rfl⟩
theorem jv1410 : m_Jv 1410 1 2 5 := ⟨rfl, rfl, rfl⟩
theorem jv1600 : m_Jv 1600 2 3 6 := ⟨rfl, rfl, rfl⟩
theorem jv1601 : m_Jv 1601 1 2 6 := ⟨rfl, rfl, rfl⟩
theorem jv1602 : m_Jv 1602 0 1 6 := ⟨rfl, rfl, rfl⟩
theorem jv1603 : m_Jv 1603 2 3 6 := ⟨rfl, rfl, rfl⟩
theorem jv1604 : m_Jv 1604 2 3 6 := ⟨rfl, rfl, rfl⟩
theorem jv1605 : m_Jv 1605 3 4 6 := ⟨rfl, rfl, rfl⟩
theorem jv1606 : m_Jv 1606 3 4 6 := ⟨rfl, rfl, rfl⟩
theorem jv1607 : m_Jv 1607 0 2 6 := ⟨rfl, rfl, rfl⟩
theorem jv1608 : m_Jv 1608 2 5 6 := ⟨rfl, rfl, rfl⟩
theorem jv1609 : m_Jv 1609 1 4 6 := ⟨rfl, rfl, rfl⟩
theorem jv1610 : m_Jv 1610 1 3 6 := ⟨rfl, rfl, rfl⟩
theorem jv1800 : m_Jv 1800 0 1 7 := ⟨rfl, rfl, rfl⟩
theorem jv1801 : m_Jv 1801 1 3 7 := ⟨rfl, rfl, rfl⟩
theorem jv1802 : m_Jv 1802 0 1 7 := ⟨rfl, rfl, rfl⟩
theorem jv1803 : m_Jv 1803 0 2 7 := ⟨rfl, rfl, rfl⟩
theorem jv1804 : m_Jv 1804 0 2 7 := ⟨rfl, rfl, rfl⟩
theorem jv1805 : m_Jv 1805 1 4 7 := ⟨rfl, rfl, rfl⟩
theorem jv1806 : m_Jv 1806 0 3 7 := ⟨rfl, rfl, rfl⟩
theorem jv1807 : m_Jv 1807 0 2 7 := ⟨rfl, rfl, rfl⟩
theorem jv1808 : m_Jv 1808 1 3 7 := ⟨rfl, rfl, rfl⟩
theorem jv1809 : m_Jv 1809 2 4 7 := ⟨rfl, rfl, rfl⟩
theorem jv1810 : m_Jv 1810 3 4 7 := ⟨rfl, rfl, rfl⟩
theorem jv1811 : m_Jv 1811 1 2 7 := ⟨rfl, rfl, rfl⟩
theorem jv1812 : m_Jv 1812 1 2 7 := ⟨rfl, rfl, rfl⟩
theorem jv1813 : m_Jv 1813 1 1 7 := ⟨rfl, rfl, rfl⟩
theorem jv1814 : m_Jv 1814 1 1 7 := ⟨rfl, rfl, rfl⟩
theorem jv1815 : m_Jv 1815 1 1 7 := ⟨rfl, rfl, rfl⟩
theorem jv1816 : m_Jv 1816 1 1 7 := ⟨rfl, rfl, rfl⟩
theorem jv2000 : m_Jv 2000 1 3 99 := ⟨rfl, rfl, rfl⟩
theorem jv2001 : m_Jv 2001 1 2 99 := ⟨rfl, rfl, rfl⟩
theorem jv2002 : m_Jv 2002 1 4 99 := ⟨rfl, rfl, rfl⟩
theorem jv2003 : m_Jv 2003 2 2 99 := ⟨rfl, rfl, rfl⟩
theorem jv2004 : m_Jv 2004 2 4 99 := ⟨rfl, rfl, rfl⟩
theorem jv2005 : m_Jv 2005 2 2 99 := ⟨rfl, rfl, rfl⟩
theorem jv2006 : m_Jv 2006 2 7 99 := ⟨rfl, rfl, rfl⟩
theorem jv2007 : m_Jv 2007 2 2 99 := ⟨rfl, rfl, rfl⟩
theorem jv2008 : m_Jv 2008 3 4 99 := ⟨rfl, rfl, rfl⟩
theorem jv2009 : m_Jv 2009 2 6 99 := ⟨rfl, rfl, rfl⟩
theorem jv2010 : m_Jv 2010 4 7 99 := ⟨rfl, rfl, rfl⟩
theorem jv2011 : m_Jv 2011 1 3 99 := ⟨rfl, rfl, rfl⟩
theorem jv2200 : m_Jv 2200 0 1 8 := ⟨rfl, rfl, rfl⟩
theorem jv2201 : m_Jv 2201 5 6 8 := ⟨rfl, rfl, rfl⟩
theorem jv2202 : m_Jv 2202 1 2 8 := ⟨rfl, rfl, rfl⟩
theorem jv2203 : m_Jv 2203 1 3 8 := ⟨rfl, rfl, rfl⟩
theorem jv2204 : m_Jv 2204 0 1 8 := ⟨rfl, rfl, rfl⟩
theorem jv2205 : m_Jv 2205 5 6 8 := ⟨rfl, rfl, rfl⟩
theorem jv2206 : m_Jv 2206 3 4 8 := ⟨rfl, rfl, rfl⟩
theorem jv2207 : m_Jv 2207 2 3 8 := ⟨rfl, rfl, rfl⟩
theorem jv2208 : m_Jv 2208 2 3 8 := ⟨rfl, rfl, rfl⟩
theorem jv2209 : m_Jv 2209 2 3 8 := ⟨rfl, rfl, rfl⟩
theorem jv2210 : m_Jv 2210 2 3 8 := ⟨rfl, rfl, rfl⟩
theorem jv2211 : m_Jv 2211 4 6 8 := ⟨rfl, rfl, rfl⟩
theorem jv2212 : m_Jv 2212 2 3 8 := ⟨rfl, rfl, rfl⟩
theorem jv2213 : m_Jv 2213 1 2 8 := ⟨rfl, rfl, rfl⟩
theorem jv2214 : m_Jv 2214 1 7 8 := ⟨rfl, rfl, rfl⟩
theorem jv2215 : m_Jv 2215 2 3 8 := ⟨rfl, rfl, rfl⟩
theorem jv2216 : m_Jv 2216 4 7 8 := ⟨rfl, rfl, rfl⟩
theorem jv2217 : m_Jv 2217 3 5 8 := ⟨rfl, rfl, rfl⟩
theorem jv2218 : m_Jv 2218 2 4 8 := ⟨rfl, rfl, rfl⟩
theorem jv2219 : m_Jv 2219 2 3 8 := ⟨rfl, rfl, rfl⟩
theorem jv2220 : m_Jv 2220 3 4 8 := ⟨rfl, rfl, rfl⟩
theorem jv2221 : m_Jv 2221 3 4 8 := ⟨rfl, rfl, rfl⟩
theorem jv2222 : m_Jv 2222 2 3 8 := ⟨rfl, rfl, rfl⟩
theorem jv2223 : m_Jv 2223 2 3 8 := ⟨rfl, rfl, rfl⟩
theorem jv2224 : m_Jv 2224 3 4 8 := ⟨rfl, rfl, rfl⟩
theorem jv2225 : m_Jv 2225 1 3 8 := ⟨rfl, rfl, rfl⟩
theorem jv2226 : m_Jv 2226 2 3 8 := ⟨rfl, rfl, rfl⟩
theorem jv2227 : m_Jv 2227 3 4 8 := ⟨rfl, rfl, rfl⟩
theorem jv2228 : m_Jv 2228 0 1 8 := ⟨rfl, rfl, rfl⟩
theorem jv2229 : m_Jv 2229 4 6 8 := ⟨rfl, rfl, rfl⟩
theorem jv2230 : m_Jv 2230 3 4 8 := ⟨rfl, rfl, rfl⟩
theorem jv2231 : m_Jv 2231 3 5 8 := ⟨rfl, rfl, rfl⟩
theorem jv2232 : m_Jv 2232 3 4 8 := ⟨rfl, rfl, rfl⟩
theorem jv2233 : m_Jv 2233 2 6 8 := ⟨rfl, rfl, rfl⟩
theorem jv2234 : m_Jv 2234 0 4 8 := ⟨rfl, rfl, rfl⟩
theorem jv2235 : m_Jv 2235 4 6 8 := ⟨rfl, rfl, rfl⟩
theorem jv2236 : m_Jv 2236 1 2 8 := ⟨rfl, rfl, rfl⟩
theorem jv2237 : m_Jv 2237 2 3 8 := ⟨rfl, rfl, rfl⟩
theorem jv2238 : m_Jv 2238 1 2 8 := ⟨rfl, rfl, rfl⟩
theorem jv2239 : m_Jv 2239 0 1 8 := ⟨rfl, rfl, rfl⟩
theorem jv2240 : m_Jv 2240 2 4 8 := ⟨rfl, rfl, rfl⟩
theorem jv2241 : m_Jv 2241 2 3 8 := ⟨rfl, rfl, rfl⟩
theorem jv2242 : m_Jv 2242 4 6 8 := ⟨rfl, rfl, rfl⟩
theorem jv2243 : m_Jv 2243 5 7 8 := ⟨rfl, rfl, rfl⟩
theorem jv2244 : m_Jv 2244 0 1 8 := ⟨rfl, rfl, rfl⟩
theorem jv2245 : m_Jv 2245 5 7 8 := ⟨rfl, rfl, rfl⟩
theorem jv2246 : m_Jv 2246 0 1 8 := ⟨rfl, rfl, rfl⟩
theorem jv2247 : m_Jv 2247 0 1 8 := ⟨rfl, rfl, rfl⟩
theorem jv2248 : m_Jv 2248 0 1 8 := ⟨rfl, rfl, rfl⟩
theorem jv2249 : m_Jv 2249 1 2 8 := ⟨rfl, rfl, rfl⟩
theorem jv2250 : m_Jv 2250 0 1 8 := ⟨rfl, rfl, rfl⟩
theorem jv2251 : m_Jv 2251 3 3 8 := ⟨rfl, rfl, rfl⟩
theorem jv2252 : m_Jv 2252 1 1 8 := ⟨rfl, rfl, rfl⟩
theorem jv2253 : m_Jv 2253 1 1 8 := ⟨rfl, rfl, rfl⟩
theorem jv2254 : m_Jv 2254 1 1 8 := ⟨rfl, rfl, rfl⟩
theorem jv2255 : m_Jv 2255 1 1 8 := ⟨rfl, rfl, rfl⟩
theorem jv2256 : m_Jv 2256 1 2 8 := ⟨rfl, rfl, rfl⟩
theorem jv2257 : m_Jv 2257 1 2 8 := ⟨rfl, rfl, rfl⟩
theorem jv2258 : m_Jv 2258 0 1 8 := ⟨rfl, rfl, rfl⟩
theorem jv2259 : m_Jv 2259 0 1 8 := ⟨rfl, rfl, rfl⟩
theorem jv2400 : m_Jv 2400 0 1 9 := ⟨rfl, rfl, rfl⟩
theorem jv2401 : m_Jv 2401 2 3 9 := ⟨rfl, rfl, rfl⟩
theorem jv2402 : m_Jv 2402 3 3 9 := ⟨rfl, rfl, rfl⟩
theorem jv2403 : m_Jv 2403 0 2 9 := ⟨rfl, rfl, rfl⟩
theorem jv2404 : m_Jv 2404 0 1 9 := ⟨rfl, rfl, rfl⟩
theorem jv2405 : m_Jv 2405 0 1 9 := ⟨rfl, rfl, rfl⟩
theorem jv2406 : m_Jv 2406 0 2 9 := ⟨rfl, rfl, rfl⟩
theorem jv2407 : m_Jv 2407 0 2 9 := ⟨rfl, rfl, rfl⟩
theorem jv2408 : m_Jv 2408 0 2 9 := ⟨rfl, rfl, rfl⟩
theorem jv2409 : m_Jv 2409 0 2 9 := ⟨rfl, rfl, rfl⟩
theorem jv2410 : m_Jv 2410 1 1 9 := ⟨rfl, rfl, rfl⟩
theorem jv2411 : m_Jv 2411 1 1 9 := ⟨rfl, rfl, rfl⟩
theorem jv2412 : m_Jv 2412 2 3 9 := ⟨rfl, rfl, rfl⟩
theorem jv2413 : m_Jv 2413 2 2 9 := ⟨rfl, rfl, rfl⟩
theorem jv2414 : m_Jv 2414 3 3 9 := ⟨rfl, rfl, rfl⟩
theorem jv2415 : m_Jv 2415 5 6 9 := ⟨rfl, rfl, rfl⟩
theorem jv2416 : m_Jv 2416 4 6 9 := ⟨rfl, rfl, rfl⟩
theorem jv2417 : m_Jv 2417 3 6 9 := ⟨rfl, rfl, rfl⟩
theorem jv2418 : m_Jv 2418 3 4 9 := ⟨rfl, rfl, rfl⟩
theorem jv2419 : m_Jv 2419 2 3 9 := ⟨rfl, rfl, rfl⟩
theorem jv2420 : m_Jv 2420 2 3 9 := ⟨rfl, rfl, rfl⟩
theorem jv2421 : m_Jv 2421 2 3 9 := ⟨rfl, rfl, rfl⟩
theorem jv2422 : m_Jv 2422 2 3 9 := ⟨rfl, rfl, rfl⟩
theorem jv2423 : m_Jv 2423 3 4 9 := ⟨rfl, rfl, rfl⟩
theorem jv2424 : m_Jv 2424 3 4 9 := ⟨rfl, rfl, rfl⟩
theorem jv2425 : m_Jv 2425 2 2 9 := ⟨rfl, rfl, rfl⟩
theorem jv2426 : m_Jv 2426 2 3 9 := ⟨rfl, rfl, rfl⟩
theorem jv2427 : m_Jv 2427 1 2 9 := ⟨rfl, rfl, rfl⟩
theorem jv2428 : m_Jv 2428 4 7 9 := ⟨rfl, rfl, rfl⟩
theorem jv2429 : m_Jv 2429 4 5 9 := ⟨rfl, rfl, rfl⟩
theorem jv2430 : m_Jv 2430 1 2 9 := ⟨rfl, rfl, rfl⟩
theorem jv2431 : m_Jv 2431 2 3 9 := ⟨rfl, rfl, rfl⟩
theorem jv2432 : m_Jv 2432 2 3 9 := ⟨rfl, rfl, rfl⟩
theorem jv2433 : m_Jv 2433 2 3 9 := ⟨rfl, rfl, rfl⟩
theorem jv2434 : m_Jv 2434 3 5 9 := ⟨rfl, rfl, rfl⟩
theorem jv2435 : m_Jv 2435 2 3 9 := ⟨rfl, rfl, rfl⟩
theorem jv2436 : m_Jv 2436 5 7 9 := ⟨rfl, rfl, rfl⟩
theorem jv2437 : m_Jv 2437 1 2 9 := ⟨rfl, rfl, rfl⟩
theorem jv2438 : m_Jv 2438 0 1 9 := ⟨rfl, rfl, rfl⟩
theorem jv2439 : m_Jv 2439 2 3 9 := ⟨rfl, rfl, rfl⟩
theorem jv2440 : m_Jv 2440 0 1 9 := ⟨rfl, rfl, rfl⟩
theorem jv2441 : m_Jv 2441 0 1 9 := ⟨rfl, rfl, rfl⟩
theorem jv2442 : m_Jv 2442 1 4 9 := ⟨rfl, rfl, rfl⟩
theorem jv2443 : m_Jv 2443 1 2 9 := ⟨rfl, rfl, rfl⟩
theorem jv2444 : m_Jv 2444 1 2 9 := ⟨rfl, rfl, rfl⟩
theorem jv2445 : m_Jv 2445 1 3 9 := ⟨rfl, rfl, rfl⟩
theorem jv2446 : m_Jv 2446 0 1 9 := ⟨rfl, rfl, rfl⟩
theorem jv2447 : m_Jv 2447 1 1 9 := ⟨rfl, rfl, rfl⟩
theorem jv2448 : m_Jv 2448 2 2 9 := ⟨rfl, rfl, rfl⟩
theorem jv2449 : m_Jv 2449 2 4 9 := ⟨rfl, rfl, rfl⟩
theorem jv2450 : m_Jv 2450 1 1 9 := ⟨rfl, rfl, rfl⟩
theorem jv2451 : m_Jv 2451 0 2 9 := ⟨rfl, rfl, rfl⟩
theorem jv2452 : m_Jv 2452 0 1 9 := ⟨rfl, rfl, rfl⟩
theorem jv2453 : m_Jv 2453 0 2 9 := ⟨rfl, rfl, rfl⟩
theorem jv2454 : m_Jv 2454 0 1 9 := ⟨rfl, rfl, rfl⟩
theorem jv2455 : m_Jv 2455 0 1 9 := ⟨rfl, rfl, rfl⟩
theorem jv2456 : m_Jv 2456 1 4 9 := ⟨rfl, rfl, rfl⟩
theorem jv2457 : m_Jv 2457 0 2 9 := ⟨rfl, rfl, rfl⟩
theorem jv2458 : m_Jv 2458 1 5 9 := ⟨rfl, rfl, rfl⟩
theorem jv2459 : m_Jv 2459 0 3 9 := ⟨rfl, rfl, rfl⟩
theorem jv2460 : m_Jv 2460 1 2 9 := ⟨rfl, rfl, rfl⟩
theorem jv2461 : m_Jv 2461 4 5 9 := ⟨rfl, rfl, rfl⟩
theorem jv2462 : m_Jv 2462 2 11 9 := ⟨rfl, rfl, rfl⟩
theorem jv2463 : m_Jv 2463 1 4 9 := ⟨rfl, rfl, rfl⟩
theorem jv2464 : m_Jv 2464 1 5 9 := ⟨rfl, rfl, rfl⟩
theorem jv2465 : m_Jv 2465 1 1 9 := ⟨rfl, rfl, rfl⟩
theorem jv2466 : m_Jv 2466 1 2 9 := ⟨rfl, rfl, rfl⟩
theorem jv2467 : m_Jv 2467 4 7 9 := ⟨rfl, rfl, rfl⟩
theorem jv2468 : m_Jv 2468 1 2 9 := ⟨rfl, rfl, rfl⟩
theorem jv2469 : m_Jv 2469 2 3 9 := ⟨rfl, rfl, rfl⟩
theorem jv2470 : m_Jv 2470 2 3 9 := ⟨rfl, rfl, rfl⟩
theorem jv2471 : m_Jv 2471 2 5 9 := ⟨rfl, rfl, rfl⟩
theorem jv2472 : m_Jv 2472 1 4 9 := ⟨rfl, rfl, rfl⟩
theorem jv2473 : m_Jv 2473 1 4 9 := ⟨rfl, rfl, rfl⟩
theorem jv2474 : m_Jv 2474 2 6 9 := ⟨rfl, rfl, rfl⟩
theorem jv2475 : m_Jv 2475 1 6 9 := ⟨rfl, rfl, rfl⟩
theorem jv2476 : m_Jv 2476 2 2 9 := ⟨rfl, rfl, rfl⟩
theorem jv2477 : m_Jv 2477 2 3 9 := ⟨rfl, rfl, rfl⟩
theorem jv2478 : m_Jv 2478 3 4 9 := ⟨rfl, rfl, rfl⟩
theorem jv2479 : m_Jv 2479 1 2 9 := ⟨rfl, rfl, rfl⟩
theorem jv2480 : m_Jv 2480 2 4 9 := ⟨rfl, rfl, rfl⟩
theorem jv2481 : m_Jv 2481 1 4 9 := ⟨rfl, rfl, rfl⟩
theorem jv2482 : m_Jv 2482 2 4 9 := ⟨rfl, rfl, rfl⟩
theorem jv2483 : m_Jv 2483 3 7 9 := ⟨rfl, rfl, rfl⟩
theorem jv2484 : m_Jv 2484 2 4 9 := ⟨rfl, rfl, rfl⟩
theorem jv2485 : m_Jv 2485 2 3 9 := ⟨rfl, rfl, rfl⟩
theorem jv2486 : m_Jv 2486 1 2 9 := ⟨rfl, rfl, rfl⟩
theorem jv2487 : m_Jv 2487 0 4 9 := ⟨rfl, rfl, rfl⟩
theorem jv2488 : m_Jv 2488 2 7 9 := ⟨rfl, rfl, rfl⟩
theorem jv2489 : m_Jv 2489 1 3 9 := ⟨rfl, rfl, rfl⟩
theorem jv2490 : m_Jv 2490 2 5 9 := ⟨rfl, rfl, rfl⟩
theorem jv2491 : m_Jv 2491 2 7 9 := ⟨rfl, rfl, rfl⟩
theorem jv2492 : m_Jv 2492 0 4 9 := ⟨rfl, rfl, rfl⟩
theorem jv2493 : m_Jv 2493 1 3 9 := ⟨rfl, rfl, rfl⟩
theorem jv2494 : m_Jv 2494 4 7 9 := ⟨rfl, rfl, rfl⟩
theorem jv2495 : m_Jv 2495 1 5 9 := ⟨rfl, rfl, rfl⟩
theorem jv2496 : m_Jv 2496 3 4 9 := ⟨rfl, rfl, rfl⟩
theorem jv2497 : m_Jv 2497 1 1 9 := ⟨rfl, rfl, rfl⟩
theorem jv2498 : m_Jv 2498 2 5 9 := ⟨rfl, rfl, rfl⟩
theorem jv2499 : m_Jv 2499 2 7 9 := ⟨rfl, rfl, rfl⟩
theorem jv2500 : m_Jv 2500 1 4 9 := ⟨rfl, rfl, rfl⟩
theorem jv2501 : m_Jv 2501 2 6 9 := ⟨rfl, rfl, rfl⟩
theorem jv2502 : m_Jv 2502 3 10 9 := ⟨rfl, rfl, rfl⟩
theorem jv2503 : m_Jv 2503 4 7 9 := ⟨rfl, rfl, rfl⟩
theorem jv2504 : m_Jv 2504 3 4 9 := ⟨rfl, rfl, rfl⟩
theorem jv2505 : m_Jv 2505 3 5 9 := ⟨rfl, rfl, rfl⟩
theorem jv2506 : m_Jv 2506 2 3 9 := ⟨rfl, rfl, rfl⟩
theorem jv2507 : m_Jv 2507 3 6 9 := ⟨rfl, rfl, rfl⟩
theorem jv2508 : m_Jv 2508 1 1 9 := ⟨rfl, rfl, rfl⟩
theorem jv2509 : m_Jv 2509 4 7 9 := ⟨rfl, rfl, rfl⟩
theorem jv2510 : m_Jv 2510 1 2 9 := ⟨rfl, rfl, rfl⟩
theorem jv2511 : m_Jv 2511 0 3 9 := ⟨rfl, rfl, rfl⟩
theorem jv2512 : m_Jv 2512 2 3 9 := ⟨rfl, rfl, rfl⟩
theorem jv2513 : m_Jv 2513 3 6 9 := ⟨rfl, rfl, rfl⟩
theorem jv2514 : m_Jv 2514 1 4 9 := ⟨rfl, rfl, rfl⟩
theorem jv2515 : m_Jv 2515 0 11 9 := ⟨rfl, rfl, rfl⟩
theorem jv2516 : m_Jv 2516 2 4 9 := ⟨rfl, rfl, rfl⟩
theorem jv2517 : m_Jv 2517 2 10 9 := ⟨rfl, rfl, rfl⟩
theorem jv2518 : m_Jv 2518 4 6 9 := ⟨rfl, rfl, rfl⟩
theorem jv2519 : m_Jv 2519 5 7 9 := ⟨rfl, rfl, rfl⟩
theorem jv2520 : m_Jv 2520 3 6 9 := ⟨rfl, rfl, rfl⟩
theorem jv2521 : m_Jv 2521 1 6 9 := ⟨rfl, rfl, rfl⟩
theorem jv2522 : m_Jv 2522 1 4 9 := ⟨rfl, rfl, rfl⟩
theorem jv2523 : m_Jv 2523 0 4 9 := ⟨rfl, rfl, rfl⟩
theorem jv2524 : m_Jv 2524 5 9 9 := ⟨rfl, rfl, rfl⟩
theorem jv2525 : m_Jv 2525 1 3 9 := ⟨rfl, rfl, rfl⟩
theorem jv2526 : m_Jv 2526 2 3 9 := ⟨rfl, rfl, rfl⟩
theorem jv2527 : m_Jv 2527 0 2 9 := ⟨rfl, rfl, rfl⟩
theorem jv2528 : m_Jv 2528 1 4 9 := ⟨rfl, rfl, rfl⟩
theorem jv2600 : m_Jv 2600 6 7 99 := ⟨rfl, rfl, rfl⟩
theorem jv2601 : m_Jv 2601 5 6 99 := ⟨rfl, rfl, rfl⟩
theorem jv2602 : m_Jv 2602 4 5 99 := ⟨rfl, rfl, rfl⟩
theorem jv2603 : m_Jv 2603 4 5 99 := ⟨rfl, rfl, rfl⟩
theorem jv2604 : m_Jv 2604 4 5 99 := ⟨rfl, rfl, rfl⟩
theorem jv2605 : m_Jv 2605 4 5 99 := ⟨rfl, rfl, rfl⟩
theorem jv2606 : m_Jv 2606 3 4 99 := ⟨rfl, rfl, rfl⟩
theorem jv2607 : m_Jv 2607 6 7 99 := ⟨rfl, rfl, rfl⟩
theorem jv2608 : m_Jv 2608 4 5 99 := ⟨rfl, rfl, rfl⟩
theorem jv2609 : m_Jv 2609 3 4 99 := ⟨rfl, rfl, rfl⟩
theorem jv2610 : m_Jv 2610 4 5 99 := ⟨rfl, rfl, rfl⟩
theorem jv2611 : m_Jv 2611 4 5 99 := ⟨rfl, rfl, rfl⟩
theorem jv2612 : m_Jv 2612 3 4 99 := ⟨rfl, rfl, rfl⟩
theorem jv2613 : m_Jv 2613 5 6 99 := ⟨rfl, rfl, rfl⟩
theorem jv2614 : m_Jv 2614 5 6 99 := ⟨rfl, rfl, rfl⟩
theorem jv2615 : m_Jv 2615 4 5 99 := ⟨rfl, rfl, rfl⟩
theorem jv2616 : m_Jv 2616 4 5 99 := ⟨rfl, rfl, rfl⟩
theorem jv2617 : m_Jv 2617 4 5 99 := ⟨rfl, rfl, rfl⟩
theorem jv2618 : m_Jv 2618 3 4 99 := ⟨rfl, rfl, rfl⟩
theorem jv2619 : m_Jv 2619 6 7 99 := ⟨rfl, rfl, rfl⟩
theorem jv2620 : m_Jv 2620 5 6 99 := ⟨rfl, rfl, rfl⟩
theorem jv2621 : m_Jv 2621 4 5 99 := ⟨rfl, rfl, rfl⟩
theorem jv2622 : m_Jv 2622 5 6 99 := ⟨rfl, rfl, rfl⟩
theorem jv2623 : m_Jv 2623 6 7 99 := ⟨rfl, rfl, rfl⟩
theorem jv2624 : m_Jv 2624 5 6 99 := ⟨rfl, rfl, rfl⟩
theorem jv2625 : m_Jv 2625 5 6 99 := ⟨rfl, rfl, rfl⟩
theorem jv2626 : m_Jv 2626 5 6 99 := ⟨rfl, rfl, rfl⟩
theorem jv2627 : m_Jv 2627 6 7 99 := ⟨rfl, rfl, rfl⟩
theorem jv2628 : m_Jv 2628 3 4 99 := ⟨rfl, rfl, rfl⟩
theorem jv2629 : m_Jv 2629 3 4 99 := ⟨rfl, rfl, rfl⟩
theorem jv2630 : m_Jv 2630 4 5 99 := ⟨rfl, rfl, rfl⟩
theorem jv2631 : m_Jv 2631 6 7 99 := ⟨rfl, rfl, rfl⟩
theorem jv2632 : m_Jv 2632 6 7 99 := ⟨rfl, rfl, rfl⟩
theorem jv2633 : m_Jv 2633 7 8 99 := ⟨rfl, rfl, rfl⟩
theorem jv2634 : m_Jv 2634 4 5 99 := ⟨rfl, rfl, rfl⟩
theorem jv2800 : m_Jv 2800 1 1 99 := ⟨rfl, rfl, rfl⟩
theorem mx0 : m_P 0 = mi0_0 := rfl
theorem nd0 : m_as 0 mi0_0.1 = true := by decide +kernel
theorem mx1 : m_P 1 = mi0_1 := rfl
theorem nd1 : m_as 0 mi0_1.1 = true := by decide +kernel
theorem mx2 : m_P 2 = mi0_2 := rfl
theorem nd2 : m_as 0 mi0_2.1 = true := by decide +kernel
theorem mx3 : m_P 3 = mi0_3 := rfl
theorem nd3 : m_as 0 mi0_3.1 = true := by decide +kernel
theorem mx200 : m_P 200 = mi1_0 := rfl
theorem nd200 : m_as 0 mi1_0.1 = true := by decide +kernel
theorem mx201 : m_P 201 = mi1_1 := rfl
theorem nd201 : m_as 0 mi1_1.1 = true := by decide +kernel
theorem mx202 : m_P 202 = mi1_2 := rfl
theorem nd202 : m_as 0 mi1_2.1 = true := by decide +kernel
theorem mx203 : m_P 203 = mi1_3 := rfl
theorem nd203 : m_as 0 mi1_3.1 = true := by decide +kernel
theorem mx204 : m_P 204 = mi1_4 := rfl
theorem nd204 : m_as 0 mi1_4.1 = true := by decide +kernel
theorem mx205 : m_P 205 = mi1_5 := rfl
theorem nd205 : m_as 0 mi1_5.1 = true := by decide +kernel
theorem mx400 : m_P 400 = mi2_0 := rfl
theorem nd400 : m_as 0 mi2_0.1 = true := by decide +kernel
theorem mx401 : m_P 401 = mi2_1 := rfl
theorem nd401 : m_as 0 mi2_1.1 = true := by decide +kernel
theorem mx402 : m_P 402 = mi2_2 := rfl
theorem nd402 : m_as 0 mi2_2.1 = true := by decide +kernel
theorem mx403 : m_P 403 = mi2_3 := rfl
theorem nd403 : m_as 0 mi2_3.1 = true := by decide +kernel
theorem mx404 : m_P 404 = mi2_4 := rfl
theorem nd404 : m_as 0 mi2_4.1 = true := by decide +kernel
theorem mx405 : m_P 405 = mi2_5 := rfl
theorem nd405 : m_as 0 mi2_5.1 = true := by decide +kernel
theorem mx406 : m_P 406 = mi2_6 := rfl
theorem nd406 : m_as 0 mi2_6.1 = true := by decide +kernel
theorem mx407 : m_P 407 = mi2_7 := rfl
theorem nd407 : m_as 0 mi2_7.1 = true := by decide +kernel
theorem mx408 : m_P 408 = mi2_8 := rfl
theorem nd408 : m_as 0 mi2_8.1 = true := by decide +kernel
theorem mx409 : m_P 409 = mi2_9 := rfl
theorem nd409 : m_as 0 mi2_9.1 = true := by decide +kernel
theorem mx410 : m_P 410 = mi2_10 := rfl
theorem nd410 : m_as 0 mi2_10.1 = true := by decide +kernel
theorem mx411 : m_P 411 = mi2_11 := rfl
theorem nd411 : m_as 0 mi2_11.1 = true := by decide +kernel
theorem mx412 : m_P 412 = mi2_12 := rfl
theorem nd412 : m_as 0 mi2_12.1 = true := by decide +kernel
theorem mx413 : m_P 413 = mi2_13 := rfl
theorem nd413 : m_as 0 mi2_13.1 = true := by decide +kernel
theorem mx414 : m_P 414 = mi2_14 := rfl
theorem nd414 : m_as 0 mi2_14.1 = true := by decide +kernel
theorem mx600 : m_P 600 = mi3_0 := rfl
theorem nd600 : m_as 0 mi3_0.1 = true := by decide +kernel
theorem mx601 : m_P 601 = mi3_1 := rfl
theorem nd601 : m_as 0 mi3_1.1 = true := by decide +kernel
theorem mx602 : m_P 602 = mi3_2 := rfl
theorem nd602 : m_as 0 mi3_2.1 = true := by decide +kernel
theorem mx603 : m_P 603 = mi3_3 := rfl
theorem nd603 : m_as 0 mi3_3.1 = true := by decide +kernel
theorem mx604 : m_P 604 = mi3_4 := rfl
theorem nd604 : m_as 0 mi3_4.1 = true := by decide +kernel
theorem mx605 : m_P 605 = mi3_5 := rfl
theorem nd605 : m_as 0 mi3_5.1 = true := by decide +kernel
theorem mx606 : m_P 606 = mi3_6 := rfl
theorem nd606 : m_as 0 mi3_6.1 = true := by decide +kernel
theorem mx607 : m_P 607 = mi3_7 := rfl
theorem nd607 : m_as 0 mi3_7.1 = true := by decide +kernel
theorem mx608 : m_P 608 = mi3_8 := rfl
theorem nd608 : m_as 0 mi3_8.1 = true := by decide +kernel
theorem mx609 : m_P 609 = mi3_9 := rfl
theorem nd609 : m_as 0 mi3_9.1 = true := by decide +kernel
theorem mx610 : m_P 610 = mi3_10 := rfl
theorem nd610 : m_as 0 mi3_10.1 = true := by decide +kernel
theorem mx611 : m_P 611 = mi3_11 := rfl
theorem nd611 : m_as 0 mi3_11.1 = true := by decide +kernel
theorem mx612 : m_P 612 = mi3_12 := rfl
theorem nd612 : m_as 0 mi3_12.1 = true := by decide +kernel
theorem mx613 : m_P 613 = mi3_13 := rfl
theorem nd613 : m_as 0 mi3_13.1 = true := by decide +kernel
theorem mx614 : m_P 614 = mi3_14 := rfl
theorem nd614 : m_as 0 mi3_14.1 = true := by decide +kernel
theorem mx615 : m_P 615 = mi3_15 := rfl
theorem nd615 : m_as 0 mi3_15.1 = true := by decide +kernel
theorem mx616 : m_P 616 = mi3_16 := rfl
theorem nd616 : m_as 0 mi3_16.1 = true := by decide +kernel
theorem mx617 : m_P 617 = mi3_17 := rfl
theorem nd617 : m_as 0 mi3_17.1 = true := by decide +kernel
theorem mx618 : m_P 618 = mi3_18 := rfl
theorem nd618 : m_as 0 mi3_18.1 = true := by decide +kernel
theorem mx619 : m_P 619 = mi3_19 := rfl
theorem nd619 : m_as 0 mi3_19.1 = true := by decide +kernel
theorem mx620 : m_P 620 = mi3_20 := rfl
theorem nd620 : m_as 0 mi3_20.1 = true := by decide +kernel
theorem mx621 : m_P 621 = mi3_21 := rfl
theorem nd621 : m_as 0 mi3_21.1 = true := by decide +kernel
theorem mx622 : m_P 622 = mi3_22 := rfl
theorem nd622 : m_as 0 mi3_22.1 = true := by decide +kernel
theorem mx623 : m_P 623 = mi3_23 := rfl
theorem nd623 : m_as 0 mi3_23.1 = true := by decide +kernel
theorem mx624 : m_P 624 = mi3_24 := rfl
theorem nd624 : m_as 0 mi3_24.1 = true := by decide +kernel
theorem mx625 : m_P 625 = mi3_25 := rfl
theorem nd625 : m_as 0 mi3_25.1 = true := by decide +kernel
theorem mx626 : m_P 626 = mi3_26 := rfl
theorem nd626 : m_as 0 mi3_26.1 = true := by decide +kernel
theorem mx627 : m_P 627 = mi3_27 := rfl
theorem nd627 : m_as 0 mi3_27.1 = true := by decide +kernel
theorem mx628 : m_P 628 = mi3_28 := rfl
theorem nd628 : m_as 0 mi3_28.1 = true := by decide +kernel
theorem mx629 : m_P 629 = mi3_29 := rfl
theorem nd629 : m_as 0 mi3_29.1 = true := by decide +kernel
theorem mx630 : m_P 630 = mi3_30 := rfl
theorem nd630 : m_as 0 mi3_30.1 = true := by decide +kernel
theorem mx631 : m_P 631 = mi3_31 := rfl
theorem nd631 : m_as 0 mi3_31.1 = true := by decide +kernel
theorem mx632 : m_P 632 = mi3_32 := rfl
theorem nd632 : m_as 0 mi3_32.1 = true := by decide +kernel
theorem mx633 : m_P 633 = mi3_33 := rfl
theorem nd633 : m_as 0 mi3_33.1 = true := by decide +kernel
theorem mx634 : m_P 634 = mi3_34 := rfl
theorem nd634 : m_as 0 mi3_34.1 = true := by decide +kernel
theorem mx635 : m_P 635 = mi3_35 := rfl
theorem nd635 : m_as 0 mi3_35.1 = true := by decide +kernel
theorem mx636 : m_P 636 = mi3_36 := rfl
theorem nd636 : m_as 0 mi3_36.1 = true := by decide +kernel
theorem mx637 : m_P 637 = mi3_37 := rfl
theorem nd637 : m_as 0 mi3_37.1 = true := by decide +kernel
theorem mx638 : m_P 638 = mi3_38 := rfl
theorem nd638 : m_as 0 mi3_38.1 = true := by decide +kernel
theorem mx800 : m_P 800 = mi4_0 := rfl
theorem nd800 : m_as 0 mi4_0.1 = true := by decide +kernel
theorem mx801 : m_P 801 = mi4_1 := rfl
theorem nd801 : m_as 0 mi4_1.1 = true := by decide +kernel
theorem mx802 : m_P 802 = mi4_2 := rfl
theorem nd802 : m_as 0 mi4_2.1 = true := by decide +kernel
theorem mx803 : m_P 803 = mi4_3 := rfl
theorem nd803 : m_as 0 mi4_3.1 = true := by decide +kernel
theorem mx804 : m_P 804 = mi4_4 := rfl
theorem nd804 : m_as 0 mi4_4.1 = true := by decide +kernel
theorem mx805 : m_P 805 = mi4_5 := rfl
theorem nd805 : m_as 0 mi4_5.1 = true := by decide +kernel
theorem mx1000 : m_P 1000 = mi5_0 := rfl
theorem nd1000 : m_as 0 mi5_0.1 = true := by decide +kernel
theorem mx1001 : m_P 1001 = mi5_1 := rfl
theorem nd1001 : m_as 0 mi5_1.1 = true := by decide +kernel
theorem mx1002 : m_P 1002 = mi5_2 := rfl
theorem nd1002 : m_as 0 mi5_2.1 = true := by decide +kernel
theorem mx1003 : m_P 1003 = mi5_3 := rfl
theorem nd1003 : m_as 0 mi5_3.1 = true := by decide +kernel
theorem mx1004 : m_P 1004 = mi5_4 := rfl
theorem nd1004 : m_as 0 mi5_4.1 = true := by decide +kernel
theorem mx1005 : m_P 1005 = mi5_5 := rfl
theorem nd1005 : m_as 0 mi5_5.1 = true := by decide +kernel
theorem mx1006 : m_P 1006 = mi5_6 := rfl
theorem nd1006 : m_as 0 mi5_6.1 = true := by decide +kernel
theorem mx1007 : m_P 1007 = mi5_7 := rfl
theorem nd1007 : m_as 0 mi5_7.1 = true := by decide +kernel
theorem mx1008 : m_P 1008 = mi5_8 := rfl
theorem nd1008 : m_as 0 mi5_8.1 = true := by decide +kernel
theorem mx1009 : m_P 1009 = mi5_9 := rfl
theorem nd1009 : m_as 0 mi5_9.1 = true := by decide +kernel
theorem mx1010 : m_P 1010 = mi5_10 := rfl
theorem nd1010 : m_as 0 mi5_10.1 = true := by decide +kernel
theorem mx1011 : m_P 1011 = mi5_11 := rfl
theorem nd1011 : m_as 0 mi5_11.1 = true := by decide +kernel
theorem mx1012 : m_P 1012 = mi5_12 := rfl
theorem nd1012 : m_as 0 mi5_12.1 = true := by decide +kernel
theorem mx1013 : m_P 1013 = mi5_13 := rfl
theorem nd1013 : m_as 0 mi5_13.1 = true := by decide +kernel
theorem mx1014 : m_P 1014 = mi5_14 := rfl
theorem nd1014 : m_as 0 mi5_14.1 = true := by decide +kernel
theorem mx1200 : m_P 1200 = mi6_0 := rfl
theorem nd1200 : m_as 0 mi6_0.1 = true := by decide +kernel
theorem mx1201 : m_P 1201 = mi6_1 := rfl
theorem nd1201 : m_as 0 mi6_1.1 = true := by decide +kernel
theorem mx1202 : m_P 1202 = mi6_2 := rfl
theorem nd1202 : m_as 0 mi6_2.1 = true := by decide +kernel
theorem mx1203 : m_P 1203 = mi6_3 := rfl
theorem nd1203 : m_as 0 mi6_3.1 = true := by decide +kernel
theorem mx1204 : m_P 1204 = mi6_4 := rfl
theorem nd1204 : m_as 0 mi6_4.1 = true := by decide +kernel
theorem mx1205 : m_P 1205 = mi6_5 := rfl
theorem nd1205 : m_as 0 mi6_5.1 = true := by decide +kernel
theorem mx1206 : m_P 1206 = mi6_6 := rfl
theorem nd1206 : m_as 0 mi6_6.1 = true := by decide +kernel
theorem mx1207 : m_P 1207 = mi6_7 := rfl
theorem nd1207 : m_as 0 mi6_7.1 = true := by decide +kernel
theorem mx1400 : m_P 1400 = mi7_0 := rfl
theorem nd1400 : m_as 0 mi7_0.1 = true := by decide +kernel
theorem mx1401 : m_P 1401 = mi7_1 := rfl
theorem nd1401 : m_as 0 mi7_1.1 = true := by decide +kernel
theorem mx1402 : m_P 1402 = mi7_2 := rfl
theorem nd1402 : m_as 0 mi7_2.1 = true := by decide +kernel
theorem mx1403 : m_P 1403 = mi7_3 := rfl
theorem nd1403 : m_as 0 mi7_3.1 = true := by decide +kernel
theorem mx1404 : m_P 1404 = mi7_4 := rfl
theorem nd1404 : m_as 0 mi7_4.1 = true := by decide +kernel
theorem mx1405 : m_P 1405 = mi7_5 := rfl
theorem nd1405 : m_as 0 mi7_5.1 = true := by decide +kernel
theorem mx1406 : m_P 1406 = mi7_6 := rfl
theorem nd1406 : m_as 0 mi7_6.1 = true := by decide +kernel
theorem mx1407 : m_P 1407 = mi7_7 := rfl
theorem nd1407 : m_as 0 mi7_7.1 = true := by decide +kernel
theorem mx1408 : m_P 1408 = mi7_8 := rfl
theorem nd1408 : m_as 0 mi7_8.1 = true := by decide +kernel
theorem mx1409 : m_P 1409 = mi7_9 := rfl
theorem nd1409 : m_as 0 mi7_9.1 = true := by decide +kernel
theorem mx1410 : m_P 1410 = mi7_10 := rfl
theorem nd1410 : m_as 0 mi7_10.1 = true := by decide +kernel
theorem mx1600 : m_P 1600 = mi8_0 := rfl
theorem nd1600 : m_as 0 mi8_0.1 = true := by decide +kernel
theorem mx1601 : m_P 1601 = mi8_1 := rfl
theorem nd1601 : m_as 0 mi8_1.1 = true := by decide +kernel
theorem mx1602 : m_P 1602 = mi8_2 := rfl
theorem nd1602 : m_as 0 mi8_2.1 = true := by decide +kernel
theorem mx1603 : m_P 1603 = mi8_3 := rfl
theorem nd1603 : m_as 0 mi8_3.1 = true := by decide +kernel
theorem mx1604 : m_P 1604 = mi8_4 := rfl
theorem nd1604 : m_as 0 mi8_4.1 = true := by decide +kernel
theorem mx1605 : m_P 1605 = mi8_5 := rfl
theorem nd1605 : m_as 0 mi8_5.1 = true := by decide +kernel
theorem mx1606 : m_P 1606 = mi8_6 := rfl
theorem nd1606 : m_as 0 mi8_6.1 = true := by decide +kernel
theorem mx1607 : m_P 1607 = mi8_7 := rfl
theorem nd1607 : m_as 0 mi8_7.1 = true := by decide +kernel
theorem mx1608 : m_P 1608 = mi8_8 := rfl
theorem nd1608 : m_as 0 mi8_8.1 = true := by decide +kernel
theorem mx1609 : m_P 1609 = mi8_9 := rfl
theorem nd1609 : m_as 0 mi8_9.1 = true := by decide +kernel
theorem mx1610 : m_P 1610 = mi8_10 := rfl
theorem nd1610 : m_as 0 mi8_10.1 = true := by decide +kernel
theorem mx1800 : m_P 1800 = mi9_0 := rfl
theorem nd1800 : m_as 0 mi9_0.1 = true := by decide +kernel
theorem mx1801 : m_P 1801 = mi9_1 := rfl
theorem nd1801 : m_as 0 mi9_1.1 = true := by decide +kernel
theorem mx1802 : m_P 1802 = mi9_2 := rfl
theorem nd1802 : m_as 0 mi9_2.1 = true := by decide +kernel
theorem mx1803 : m_P 1803 = mi9_3 := rfl
theorem nd1803 : m_as 0 mi9_3.1 = true := by decide +kernel
theorem mx1804 : m_P 1804 = mi9_4 := rfl
theorem nd1804 : m_as 0 mi9_4.1 = true := by decide +kernel
theorem mx1805 : m_P 1805 = mi9_5 := rfl
theorem nd1805 : m_as 0 mi9_5.1 = true := by decide +kernel
theorem mx1806 : m_P 1806 = mi9_6 := rfl
theorem nd1806 : m_as 0 mi9_6.1 = true := by decide +kernel
theorem mx1807 : m_P 1807 = mi9_7 := rfl
theorem nd1807 : m_as 0 mi9_7.1 = true := by decide +kernel
theorem mx1808 : m_P 1808 = mi9_8 := rfl
theorem nd1808 : m_as 0 mi9_8.1 = true := by decide +kernel
theorem mx1809 : m_P 1809 = mi9_9 := rfl
theorem nd1809 : m_as 0 mi9_9.1 = true := by decide +kernel
theorem mx1810 : m_P 1810 = mi9_10 := rfl
theorem nd1810 : m_as 0 mi9_10.1 = true := by decide +kernel
theorem mx1811 : m_P 1811 = mi9_11 := rfl
theorem nd1811 : m_as 0 mi9_11.1 = true := by decide +kernel
theorem mx1812 : m_P 1812 = mi9_12 := rfl
theorem nd1812 : m_as 0 mi9_12.1 = true := by decide +kernel
theorem mx1813 : m_P 1813 = mi9_13 := rfl
theorem nd1813 : m_as 0 mi9_13.1 = true := by decide +kernel
theorem mx1814 : m_P 1814 = mi9_14 := rfl
theorem nd1814 : m_as 0 mi9_14.1 = true := by decide +kernel
theorem mx1815 : m_P 1815 = mi9_15 := rfl
theorem nd1815 : m_as 0 mi9_15.1 = true := by decide +kernel
theorem mx1816 : m_P 1816 = mi9_16 := rfl
theorem nd1816 : m_as 0 mi9_16.1 = true := by decide +kernel
theorem mx2000 : m_P 2000 = mi10_0 := rfl
theorem nd2000 : m_as 0 mi10_0.1 = true := by decide +kernel
theorem mx2001 : m_P 2001 = mi10_1 := rfl
theorem nd2001 : m_as 0 mi10_1.1 = true := by decide +kernel
theorem mx2002 : m_P 2002 = mi10_2 := rfl
theorem nd2002 : m_as 0 mi10_2.1 = true := by decide +kernel
theorem mx2003 : m_P 2003 = mi10_3 := rfl
theorem nd2003 : m_as 0 mi10_3.1 = true := by decide +kernel
theorem mx2004 : m_P 2004 = mi10_4 := rfl
theorem nd2004 : m_as 0 mi10_4.1 = true := by decide +kernel
theorem mx2005 : m_P 2005 = mi10_5 := rfl
theorem nd2005 : m_as 0 mi10_5.1 = true := by decide +kernel
theorem mx2006 : m_P 2006 = mi10_6 := rfl
theorem nd2006 : m_as 0 mi10_6.1 = true := by decide +kernel
theorem mx2007 : m_P 2007 = mi10_7 := rfl
theorem nd2007 : m_as 0 mi10_7.1 = true := by decide +kernel
theorem mx2008 : m_P 2008 = mi10_8 := rfl
theorem nd2008 : m_as 0 mi10_8.1 = true := by decide +kernel
theorem mx2009 : m_P 2009 = mi10_9 := rfl
theorem nd2009 : m_as 0 mi10_9.1 = true := by decide +kernel
theorem mx2010 : m_P 2010 = mi10_10 := rfl
theorem nd2010 : m_as 0 mi10_10.1 = true := by decide +kernel
theorem mx2011 : m_P 2011 = mi10_11 := rfl
theorem nd2011 : m_as 0 mi10_11.1 = true := by decide +kernel
theorem mx2200 : m_P 2200 = mi11_0 := rfl
theorem nd2200 : m_as 0 mi11_0.1 = true := by decide +kernel
theorem mx2201 : m_P 2201 = mi11_1 := rfl
theorem nd2201 : m_as 0 mi11_1.1 = true := by decide +kernel
theorem mx2202 : m_P 2202 = mi11_2 := rfl
theorem nd2202 : m_as 0 mi11_2.1 = true := by decide +kernel
theorem mx2203 : m_P 2203 = mi11_3 := rfl
theorem nd2203 : m_as 0 mi11_3.1 = true := by decide +kernel
theorem mx2204 : m_P 2204 = mi11_4 := rfl
theorem nd2204 : m_as 0 mi11_4.1 = true := by decide +kernel
theorem mx2205 : m_P 2205 = mi11_5 := rfl
theorem nd2205 : m_as 0 mi11_5.1 = true := by decide +kernel
theorem mx2206 : m_P 2206 = mi11_6 := rfl
theorem nd2206 : m_as 0 mi11_6.1 = true := by decide +kernel
theorem mx2207 : m_P 2207 = mi11_7 := rfl
theorem nd2207 : m_as 0 mi11_7.1 = true := by decide +kernel
theorem mx2208 : m_P 2208 = mi11_8 := rfl
theorem nd2208 : m_as 0 mi11_8.1 = true := by decide +kernel
theorem mx2209 : m_P 2209 = mi11_9 := rfl
theorem nd2209 : m_as 0 mi11_9.1 = true := by decide +kernel
theorem mx2210 : m_P 2210 = mi11_10 := rfl
theorem nd2210 : m_as 0 mi11_10.1 = true := by decide +kernel
theorem mx2211 : m_P 2211 = mi11_11 := rfl
theorem nd2211 : m_as 0 mi11_11.1 = true := by decide +kernel
theorem mx2212 : m_P 2212 = mi11_12 := rfl
theorem nd2212 : m_as 0 mi11_12.1 = true := by decide +kernel
theorem mx2213 : m_P 2213 = mi11_13 := rfl
theorem nd2213 : m_as 0 mi11_13.1 = true := by decide +kernel
theorem mx2214 : m_P 2214 = mi11_14 := rfl
theorem nd2214 : m_as 0 mi11_14.1 = true := by decide +kernel
theorem mx2215 : m_P 2215 = mi11_15 := rfl
theorem nd2215 : m_as 0 mi11_15.1 = true := by decide +kernel
theorem mx2216 : m_P 2216 = mi11_16 := rfl
theorem nd2216 : m_as 0 mi11_16.1 = true := by decide +kernel
theorem mx2217 : m_P 2217 = mi11_17 := rfl
theorem nd2217 : m_as 0 mi11_17.1 = true := by decide +kernel
theorem mx2218 : m_P 2218 = mi11_18 := rfl
theorem nd2218 : m_as 0 mi11_18.1 = true := by decide +kernel
theorem mx2219 : m_P 2219 = mi11_19 := rfl
theorem nd2219 : m_as 0 mi11_19.1 = true := by decide +kernel
theorem mx2220 : m_P 2220 = mi11_20 := rfl
theorem nd2220 : m_as 0 mi11_20.1 = true := by decide +kernel
theorem mx2221 : m_P 2221 = mi11_21 := rfl
theorem nd2221 : m_as 0 mi11_21.1 = true := by decide +kernel
theorem mx2222 : m_P 2222 = mi11_22 := rfl
theorem nd2222 : m_as 0 mi11_22.1 = true := by decide +kernel
theorem mx2223 : m_P 2223 = mi11_23 := rfl
theorem nd2223 : m_as 0 mi11_23.1 = true := by decide +kernel
theorem mx2224 : m_P 2224 = mi11_24 := rfl
theorem nd2224 : m_as 0 mi11_24.1 = true := by decide +kernel
theorem mx2225 : m_P 2225 = mi11_25 := rfl
theorem nd2225 : m_as 0 mi11_25.1 = true := by decide +kernel
theorem mx2226 : m_P 2226 = mi11_26 := rfl
theorem nd2226 : m_as 0 mi11_26.1 = true := by decide +kernel
theorem mx2227 : m_P 2227 = mi11_27 := rfl
theorem nd2227 : m_as 0 mi11_27.1 = true := by decide +kernel
theorem mx2228 : m_P 2228 = mi11_28 := rfl
theorem nd2228 : m_as 0 mi11_28.1 = true := by decide +kernel
theorem mx2229 : m_P 2229 = mi11_29 := rfl
theorem nd2229 : m_as 0 mi11_29.1 = true := by decide +kernel
theorem mx2230 : m_P 2230 = mi11_30 := rfl
theorem nd2230 : m_as 0 mi11_30.1 = true := by decide +kernel
theorem mx2231 : m_P 2231 = mi11_31 := rfl
theorem nd2231 : m_as 0 mi11_31.1 = true := by decide +kernel
theorem mx2232 : m_P 2232 = mi11_32 := rfl
theorem nd2232 : m_as 0 mi11_32.1 = true := by decide +kernel
theorem mx2233 : m_P 2233 = mi11_33 := rfl
theorem nd2233 : m_as 0 mi11_33.1 = true := by decide +kernel
theorem mx2234 : m_P 2234 = mi11_34 := rfl
theorem nd2234 : m_as 0 mi11_34.1 = true := by decide +kernel
theorem mx2235 : m_P 2235 = mi11_35 := rfl
theorem nd2235 : m_as 0 mi11_35.1 = true := by decide +kernel
theorem mx2236 : m_P 2236 = mi11_36 := rfl
theorem nd2236 : m_as 0 mi11_36.1 = true := by decide +kernel
theorem mx2237 : m_P 2237 = mi11_37 := rfl
theorem nd2237 : m_as 0 mi11_37.1 = true := by decide +kernel
theorem mx2238 : m_P 2238 = mi11_38 := rfl
theorem nd2238 : m_as 0 mi11_38.1 = true := by decide +kernel
theorem mx2239 : m_P 2239 = mi11_39 := rfl
theorem nd2239 : m_as 0 mi11_39.1 = true := by decide +kernel
theorem mx2240 : m_P 2240 = mi11_40 := rfl
theorem nd2240 : m_as 0 mi11_40.1 = true := by decide +kernel
theorem mx2241 : m_P 2241 = mi11_41 := rfl
theorem nd2241 : m_as 0 mi11_41.1 = true := by decide +kernel
theorem mx2242 : m_P 2242 = mi11_42 := rfl
theorem nd2242 : m_as 0 mi11_42.1 = true := by decide +kernel
theorem mx2243 : m_P 2243 = mi11_43 := rfl
theorem nd2243 : m_as 0 mi11_43.1 = true := by decide +kernel
theorem mx2244 : m_P 2244 = mi11_44 := rfl
theorem nd2244 : m_as 0 mi11_44.1 = true := by decide +kernel
theorem mx2245 : m_P 2245 = mi11_45 := rfl
theorem nd2245 : m_as 0 mi11_45.1 = true := by decide +kernel
theorem mx2246 : m_P 2246 = mi11_46 := rfl
theorem nd2246 : m_as 0 mi11_46.1 = true := by decide +kernel
theorem mx2247 : m_P 2247 = mi11_47 := rfl
theorem nd2247 : m_as 0 mi11_47.1 = true := by decide +kernel
theorem mx2248 : m_P 2248 = mi11_48 := rfl
theorem nd2248 : m_as 0 mi11_48.1 = true := by decide +kernel
theorem mx2249 : m_P 2249 = mi11_49 := rfl
theorem nd2249 : m_as 0 mi11_49.1 = true := by decide +kernel
theorem mx2250 : m_P 2250 = mi11_50 := rfl
theorem nd2250 : m_as 0 mi11_50.1 = true := by decide +kernel
theorem mx2251 : m_P 2251 = mi11_51 := rfl
theorem nd2251 : m_as 0 mi11_51.1 = true := by decide +kernel
theorem mx2252 : m_P 2252 = mi11_52 := rfl
theorem nd2252 : m_as 0 mi11_52.1 = true := by decide +kernel
theorem mx2253 : m_P 2253 = mi11_53 := rfl
theorem nd2253 : m_as 0 mi11_53.1 = true := by decide +kernel
theorem mx2254 : m_P 2254 = mi11_54 := rfl
theorem nd2254 : m_as 0 mi11_54.1 = true := by decide +kernel
theorem mx2255 : m_P 2255 = mi11_55 := rfl
theorem nd2255 : m_as 0 mi11_55.1 = true := by decide +kernel
theorem mx2256 : m_P 2256 = mi11_56 := rfl
theorem nd2256 : m_as 0 mi11_56.1 = true := by decide +kernel
theorem mx2257 : m_P 2257 = mi11_57 := rfl
theorem nd2257 : m_as 0 mi11_57.1 = true := by decide +kernel
theorem mx2258 : m_P 2258 = mi11_58 := rfl
theorem nd2258 : m_as 0 mi11_58.1 = true := by decide +kernel
theorem mx2259 : m_P 2259 = mi11_59 := rfl
theorem nd2259 : m_as 0 mi11_59.1 = true := by decide +kernel
theorem mx2400 : m_P 2400 = mi12_0 := rfl
theorem nd2400 : m_as 0 mi12_0.1 = true := by decide +kernel
theorem mx2401 : m_P 2401 = mi12_1 := rfl
theorem nd2401 : m_as 0 mi12_1.1 = true := by decide +kernel
theorem mx2402 : m_P 2402 = mi12_2 := rfl
theorem nd2402 : m_as 0 mi12_2.1 = true := by decide +kernel
theorem mx2403 : m_P 2403 = mi12_3 := rfl
theorem nd2403 : m_as 0 mi12_3.1 = true := by decide +kernel
theorem mx2404 : m_P 2404 = mi12_4 := rfl
theorem nd2404 : m_as 0 mi12_4.1 = true := by decide +kernel
theorem mx2405 : m_P 2405 = mi12_5 := rfl
theorem nd2405 : m_as 0 mi12_5.1 = true := by decide +kernel
theorem mx2406 : m_P 2406 = mi12_6 := rfl
theorem nd2406 : m_as 0 mi12_6.1 = true := by decide +kernel
theorem mx2407 : m_P 2407 = mi12_7 := rfl
theorem nd2407 : m_as 0 mi12_7.1 = true := by decide +kernel
theorem mx2408 : m_P 2408 = mi12_8 := rfl
theorem nd2408 : m_as 0 mi12_8.1 = true := by decide +kernel
theorem mx2409 : m_P 2409 = mi12_9 := rfl
theorem nd2409 : m_as 0 mi12_9.1 = true := by decide +kernel
theorem mx2410 : m_P 2410 = mi12_10 := rfl
theorem nd2410 : m_as 0 mi12_10.1 = true := by decide +kernel
theorem mx2411 : m_P 2411 = mi12_11 := rfl
theorem nd2411 : m_as 0 mi12_11.1 = true := by decide +kernel
theorem mx2412 : m_P 2412 = mi12_12 := rfl
theorem nd2412 : m_as 0 mi12_12.1 = true := by decide +kernel
theorem mx2413 : m_P 2413 = mi12_13 := rfl
theorem nd2413 : m_as 0 mi12_13.1 = true := by decide +kernel
theorem mx2414 : m_P 2414 = mi12_14 := rfl
theorem nd2414 : m_as 0 mi12_14.1 = true := by decide +kernel
theorem mx2415 : m_P 2415 = mi12_15 := rfl
theorem nd2415 : m_as 0 mi12_15.1 = true := by decide +kernel
theorem mx2416 : m_P 2416 = mi12_16 := rfl
theorem nd2416 : m_as 0 mi12_16.1 = true := by decide +kernel
theorem mx2417 : m_P 2417 = mi12_17 := rfl
theorem nd2417 : m_as 0 mi12_17.1 = true := by decide +kernel
theorem mx2418 : m_P 2418 = mi12_18 := rfl
theorem nd2418 : m_as 0 mi12_18.1 = true := by decide +kernel
theorem mx2419 : m_P 2419 = mi12_19 := rfl
theorem nd2419 : m_as 0 mi12_19.1 = true := by decide +kernel
theorem mx2420 : m_P 2420 = mi12_20 := rfl
theorem nd2420 : m_as 0 mi12_20.1 = true := by decide +kernel
theorem mx2421 : m_P 2421 = mi12_21 := rfl
theorem nd2421 : m_as 0 mi12_21.1 = true := by decide +kernel
theorem mx2422 : m_P 2422 = mi12_22 := rfl
theorem nd2422 : m_as 0 mi12_22.1 = true := by decide +kernel
theorem mx2423 : m_P 2423 = mi12_23 := rfl
theorem nd2423 : m_as 0 mi12_23.1 = true := by decide +kernel
theorem mx2424 : m_P 2424 = mi12_24 := rfl
theorem nd2424 : m_as 0 mi12_24.1 = true := by decide +kernel
theorem mx2425 : m_P 2425 = mi12_25 := rfl
theorem nd2425 : m_as 0 mi12_25.1 = true := by decide +kernel
theorem mx2426 : m_P 2426 = mi12_26 := rfl
theorem nd2426 : m_as 0 mi12_26.1 = true := by decide +kernel
theorem mx2427 : m_P 2427 = mi12_27 := rfl
theorem nd2427 : m_as 0 mi12_27.1 = true := by decide +kernel
theorem mx2428 : m_P 2428 = mi12_28 := rfl
theorem nd2428 : m_as 0 mi12_28.1 = true := by decide +kernel
theorem mx2429 : m_P 2429 = mi12_29 := rfl
theorem nd2429 : m_as 0 mi12_29.1 = true := by decide +kernel
theorem mx2430 : m_P 2430 = mi12_30 := rfl
theorem nd2430 : m_as 0 mi12_30.1 = true := by decide +kernel
theorem mx2431 : m_P 2431 = mi12_31 := rfl
theorem nd2431 : m_as 0 mi12_31.1 = true := by decide +kernel
theorem mx2432 : m_P 2432 = mi12_32 := rfl
theorem nd2432 : m_as 0 mi12_32.1 = true := by decide +kernel
theorem mx2433 : m_P 2433 = mi12_33 := rfl
theorem nd2433 : m_as 0 mi12_33.1 = true := by decide +kernel
theorem mx2434 : m_P 2434 = mi12_34 := rfl
theorem nd2434 : m_as 0 mi12_34.1 = true := by decide +kernel
theorem mx2435 : m_P 2435 = mi12_35 := rfl
theorem nd2435 : m_as 0 mi12_35.1 = true := by decide +kernel
theorem mx2436 : m_P 2436 = mi12_36 := rfl
theorem nd2436 : m_as 0 mi12_36.1 = true := by decide +kernel
theorem mx2437 : m_P 2437 = mi12_37 := rfl
theorem nd2437 : m_as 0 mi12_37.1 = true := by decide +kernel
theorem mx2438 : m_P 2438 = mi12_38 := rfl
theorem nd2438 : m_as 0 mi12_38.1 = true := by decide +kernel
theorem mx2439 : m_P 2439 = mi12_39 := rfl
theorem nd2439 : m_as 0 mi12_39.1 = true := by decide +kernel
theorem mx2440 : m_P 2440 = mi12_40 := rfl
theorem nd2440 : m_as 0 mi12_40.1 = true := by decide +kernel
theorem mx2441 : m_P 2441 = mi12_41 := rfl
theorem nd2441 : m_as 0 mi12_41.1 = true := by decide +kernel
theorem mx2442 : m_P 2442 = mi12_42 := rfl
theorem nd2442 : m_as 0 mi12_42.1 = true := by decide +kernel
theorem mx2443 : m_P 2443 = mi12_43 := rfl
theorem nd2443 : m_as 0 mi12_43.1 = true := by decide +kernel
theorem mx2444 : m_P 2444 = mi12_44 := rfl
theorem nd2444 : m_as 0 mi12_44.1 = true := by decide +kernel
theorem mx2445 : m_P 2445 = mi12_45 := rfl
theorem nd2445 : m_as 0 mi12_45.1 = true := by decide +kernel
theorem mx2446 : m_P 2446 = mi12_46 := rfl
theorem nd2446 : m_as 0 mi12_46.1 = true := by decide +kernel
theorem mx2447 : m_P 2447 = mi12_47 := rfl
theorem nd2447 : m_as 0 mi12_47.1 = true := by decide +kernel
theorem mx2448 : m_P 2448 = mi12_48 := rfl
theorem nd2448 : m_as 0 mi12_48.1 = true := by decide +kernel
theorem mx2449 : m_P 2449 = mi12_49 := rfl
theorem nd2449 : m_as 0 mi12_49.1 = true := by decide +kernel
theorem mx2450 : m_P 2450 = mi12_50 := rfl
theorem nd2450 : m_as 0 mi12_50.1 = true := by decide +kernel
theorem mx2451 : m_P 2451 = mi12_51 := rfl
theorem nd2451 : m_as 0 mi12_51.1 = true := by decide +kernel
theorem mx2452 : m_P 2452 = mi12_52 := rfl
theorem nd2452 : m_as 0 mi12_52.1 = true := by decide +kernel
theorem mx2453 : m_P 2453 = mi12_53 := rfl
theorem nd2453 : m_as 0 mi12_53.1 = true := by decide +kernel
theorem mx2454 : m_P 2454 = mi12_54 := rfl
theorem nd2454 : m_as 0 mi12_54.1 = true := by decide +kernel
theorem mx2455 : m_P 2455 = mi12_55 := rfl
theorem nd2455 : m_as 0 mi12_55.1 = true := by decide +kernel
theorem mx2456 : m_P 2456 = mi12_56 := rfl
theorem nd2456 : m_as 0 mi12_56.1 = true := by decide +kernel
theorem mx2457 : m_P 2457 = mi12_57 := rfl
theorem nd2457 : m_as 0 mi12_57.1 = true := by decide +kernel
theorem mx2458 : m_P 2458 = mi12_58 := rfl
theorem nd2458 : m_as 0 mi12_58.1 = true := by decide +kernel
theorem mx2459 : m_P 2459 = mi12_59 := rfl
theorem nd2459 : m_as 0 mi12_59.1 = true := by decide +kernel
theorem mx2460 : m_P 2460 = mi12_60 := rfl
theorem nd2460 : m_as 0 mi12_60.1 = true := by decide +kernel
theorem mx2461 : m_P 2461 = mi12_61 := rfl
theorem nd2461 : m_as 0 mi12_61.1 = true := by decide +kernel
theorem mx2462 : m_P 2462 = mi12_62 := rfl
theorem nd2462 : m_as 0 mi12_62.1 = true := by decide +kernel
theorem mx2463 : m_P 2463 = mi12_63 := rfl
theorem nd2463 : m_as 0 mi12_63.1 = true := by decide +kernel
theorem mx2464 : m_P 2464 = mi12_64 := rfl
theorem nd2464 : m_as 0 mi12_64.1 = true := by decide +kernel
theorem mx2465 : m_P 2465 = mi12_65 := rfl
theorem nd2465 : m_as 0 mi12_65.1 = true := by decide +kernel
theorem mx2466 : m_P 2466 = mi12_66 := rfl
theorem nd2466 : m_as 0 mi12_66.1 = true := by decide +kernel
theorem mx2467 : m_P 2467 = mi12_67 := rfl
theorem nd2467 : m_as 0 mi12_67.1 = true := by decide +kernel
theorem mx2468 : m_P 2468 = mi12_68 := rfl
theorem nd2468 : m_as 0 mi12_68.1 = true := by decide +kernel
theorem mx2469 : m_P 2469 = mi12_69 := rfl
theorem nd2469 : m_as 0 mi12_69.1 = true := by decide +kernel
theorem mx2470 : m_P 2470 = mi12_70 := rfl
theorem nd2470 : m_as 0 mi12_70.1 = true := by decide +kernel
theorem mx2471 : m_P 2471 = mi12_71 := rfl
theorem nd2471 : m_as 0 mi12_71.1 = true := by decide +kernel
theorem mx2472 : m_P 2472 = mi12_72 := rfl
theorem nd2472 : m_as 0 mi12_72.1 = true := by decide +kernel
theorem mx2473 : m_P 2473 = mi12_73 := rfl
theorem nd2473 : m_as 0 mi12_73.1 = true := by decide +kernel
theorem mx2474 : m_P 2474 = mi12_74 := rfl
theorem nd2474 : m_as 0 mi12_74.1 = true := by decide +kernel
theorem mx2475 : m_P 2475 = mi12_75 := rfl
theorem nd2475 : m_as 0 mi12_75.1 = true := by decide +kernel
theorem mx2476 : m_P 2476 = mi12_76 := rfl
theorem nd2476 : m_as 0 mi12_76.1 = true := by decide +kernel
theorem mx2477 : m_P 2477 = mi12_77 := rfl
theorem nd2477 : m_as 0 mi12_77.1 = true := by decide +kernel
theorem mx2478 : m_P 2478 = mi12_78 := rfl
theorem nd2478 : m_as 0 mi12_78.1 = true := by decide +kernel
theorem mx2479 : m_P 2479 = mi12_79 := rfl
theorem nd2479 : m_as 0 mi12_79.1 = true := by decide +kernel
theorem mx2480 : m_P 2480 = mi12_80 := rfl
theorem nd2480 : m_as 0 mi12_80.1 = true := by decide +kernel
theorem mx2481 : m_P 2481 = mi12_81 := rfl
theorem nd2481 : m_as 0 mi12_81.1 = true := by decide +kernel
theorem mx2482 : m_P 2482 = mi12_82 := rfl
theorem nd2482 : m_as 0 mi12_82.1 = true := by decide +kernel
theorem mx2483 : m_P 2483 = mi12_83 := rfl
theorem nd2483 : m_as 0 mi12_83.1 = true := by decide +kernel
theorem mx2484 : m_P 2484 = mi12_84 := rfl
theorem nd2484 : m_as 0 mi12_84.1 = true := by decide +kernel
theorem mx2485 : m_P 2485 = mi12_85 := rfl
theorem nd2485 : m_as 0 mi12_85.1 = true := by decide +kernel
theorem mx2486 : m_P 2486 = mi12_86 := rfl
theorem nd2486 : m_as 0 mi12_86.1 = true := by decide +kernel
theorem mx2487 : m_P 2487 = mi12_87 := rfl
theorem nd2487 : m_as 0 mi12_87.1 = true := by decide +kernel
theorem mx2488 : m_P 2488 = mi12_88 := rfl
theorem nd2488 : m_as 0 mi12_88.1 = true := by decide +kernel
theorem mx2489 : m_P 2489 = mi12_89 := rfl
theorem nd2489 : m_as 0 mi12_89.1 = true := by decide +kernel
theorem mx2490 : m_P 2490 = mi12_90 := rfl
theorem nd2490 : m_as 0 mi12_90.1 = true := by decide +kernel
theorem mx2491 : m_P 2491 = mi12_91 := rfl
theorem nd2491 : m_as 0 mi12_91.1 = true := by decide +kernel
theorem mx2492 : m_P 2492 = mi12_92 := rfl
theorem nd2492 : m_as 0 mi12_92.1 = true := by decide +kernel
theorem mx2493 : m_P 2493 = mi12_93 := rfl
theorem nd2493 : m_as 0 mi12_93.1 = true := by decide +kernel
theorem mx2494 : m_P 2494 = mi12_94 := rfl
theorem nd2494 : m_as 0 mi12_94.1 = true := by decide +kernel
theorem mx2495 : m_P 2495 = mi12_95 := rfl
theorem nd2495 : m_as 0 mi12_95.1 = true := by decide +kernel
theorem mx2496 : m_P 2496 = mi12_96 := rfl
theorem nd2496 : m_as 0 mi12_96.1 = true := by decide +kernel
theorem mx2497 : m_P 2497 = mi12_97 := rfl
theorem nd2497 : m_as 0 mi12_97.1 = true := by decide +kernel
theorem mx2498 : m_P 2498 = mi12_98 := rfl
theorem nd2498 : m_as 0 mi12_98.1 = true := by decide +kernel
theorem mx2499 : m_P 2499 = mi12_99 := rfl
theorem nd2499 : m_as 0 mi12_99.1 = true := by decide +kernel
theorem mx2500 : m_P 2500 = mi12_100 := rfl
theorem nd2500 : m_as 0 mi12_100.1 = true := by decide +kernel
theorem mx2501 : m_P 2501 = mi12_101 := rfl
theorem nd2501 : m_as 0 mi12_101.1 = true := by decide +kernel
theorem mx2502 : m_P 2502 = mi12_102 := rfl
theorem nd2502 : m_as 0 mi12_102.1 = true := by decide +kernel
theorem mx2503 : m_P 2503 = mi12_103 := rfl
theorem nd2503 : m_as 0 mi12_103.1 = true := by decide +kernel
theorem mx2504 : m_P 2504 = mi12_104 := rfl
theorem nd2504 : m_as 0 mi12_104.1 = true := by decide +kernel
theorem mx2505 : m_P 2505 = mi12_105 := rfl
theorem nd2505 : m_as 0 mi12_105.1 = true := by decide +kernel
theorem mx2506 : m_P 2506 = mi12_106 := rfl
theorem nd2506 : m_as 0 mi12_106.1 = true := by decide +kernel
theorem mx2507 : m_P 2507 = mi12_107 := rfl
theorem nd2507 : m_as 0 mi12_107.1 = true := by decide +kernel
theorem mx2508 : m_P 2508 = mi12_108 := rfl
theorem nd2508 : m_as 0 mi12_108.1 = true := by decide +kernel
theorem mx2509 : m_P 2509 = mi12_109 := rfl
theorem nd2509 : m_as 0 mi12_109.1 = true := by decide +kernel
theorem mx2510 : m_P 2510 = mi12_110 := rfl
theorem nd2510 : m_as 0 mi12_110.1 = true := by decide +kernel
theorem mx2511 : m_P 2511 = mi12_111 := rfl
theorem nd2511 : m_as 0 mi12_111.1 = true := by decide +kernel
theorem mx2512 : m_P 2512 = mi12_112 := rfl
theorem nd2512 : m_as 0 mi12_112.1 = true := by decide +kernel
theorem mx2513 : m_P 2513 = mi12_113 := rfl
theorem nd2513 : m_as 0 mi12_113.1 = true := by decide +kernel
theorem mx2514 : m_P 2514 = mi12_114 := rfl
theorem nd2514 : m_as 0 mi12_114.1 = true := by decide +kernel
theorem mx2515 : m_P 2515 = mi12_115 := rfl
theorem nd2515 : m_as 0 mi12_115.1 = true := by decide +kernel
theorem mx2516 : m_P 2516 = mi12_116 := rfl
theorem nd2516 : m_as 0 mi12_116.1 = true := by decide +kernel
theorem mx2517 : m_P 2517 = mi12_117 := rfl
theorem nd2517 : m_as 0 mi12_117.1 = true := by decide +kernel
theorem mx2518 : m_P 2518 = mi12_118 := rfl
theorem nd2518 : m_as 0 mi12_118.1 = true := by decide +kernel
theorem mx2519 : m_P 2519 = mi12_119 := rfl
theorem nd2519 : m_as 0 mi12_119.1 = true := by decide +kernel
theorem mx2520 : m_P 2520 = mi12_120 := rfl
theorem nd2520 : m_as 0 mi12_120.1 = true := by decide +kernel
theorem mx2521 : m_P 2521 = mi12_121 := rfl
theorem nd2521 : m_as 0 mi12_121.1 = true := by decide +kernel
theorem mx2522 : m_P 2522 = mi12_122 := rfl
theorem nd2522 : m_as 0 mi12_122.1 = true := by decide +kernel
theorem mx2523 : m_P 2523 = mi12_123 := rfl
theorem nd2523 : m_as 0 mi12_123.1 = true := by decide +kernel
theorem mx2524 : m_P 2524 = mi12_124 := rfl
theorem nd2524 : m_as 0 mi12_124.1 = true := by decide +kernel
theorem mx2525 : m_P 2525 = mi12_125 := rfl
theorem nd2525 : m_as 0 mi12_125.1 = true := by decide +kernel
theorem mx2526 : m_P 2526 = mi12_126 := rfl
theorem nd2526 : m_as 0 mi12_126.1 = true := by decide +kernel
theorem mx2527 : m_P 2527 = mi12_127 := rfl
theorem nd2527 : m_as 0 mi12_127.1 = true := by decide +kernel
theorem mx2528 : m_P 2528 = mi12_128 := rfl
theorem nd2528 : m_as 0 mi12_128.1 = true := by decide +kernel
theorem mx2600 : m_P 2600 = mi13_0 := rfl
theorem nd2600 : m_as 0 mi13_0.1 = true := by decide +kernel
theorem mx2601 : m_P 2601 = mi13_1 := rfl
theorem nd2601 : m_as 0 mi13_1.1 = true := by decide +kernel
theorem mx2602 : m_P 2602 = mi13_2 := rfl
theorem nd2602 : m_as 0 mi13_2.1 = true := by decide +kernel
theorem mx2603 : m_P 2603 = mi13_3 := rfl
theorem nd2603 : m_as 0 mi13_3.1 = true := by decide +kernel
theorem mx2604 : m_P 2604 = mi13_4 := rfl
theorem nd2604 : m_as 0 mi13_4.1 = true := by decide +kernel
theorem mx2605 : m_P 2605 = mi13_5 := rfl
theorem nd2605 : m_as 0 mi13_5.1 = true := by decide +kernel
theorem mx2606 : m_P 2606 = mi13_6 := rfl
theorem nd2606 : m_as 0 mi13_6.1 = true := by decide +kernel
theorem mx2607 : m_P 2607 = mi13_7 := rfl
theorem nd2607 : m_as 0 mi13_7.1 = true := by decide +kernel
theorem mx2608 : m_P 2608 = mi13_8 := rfl
theorem nd2608 : m_as 0 mi13_8.1 = true := by decide +kernel
theorem mx2609 : m_P 2609 = mi13_9 := rfl
theorem nd2609 : m_as 0 mi13_9.1 = true := by decide +kernel
theorem mx2610 : m_P 2610 = mi13_10 := rfl
theorem nd2610 : m_as 0 mi13_10.1 = true := by decide +kernel
theorem mx2611 : m_P 2611 = mi13_11 := rfl
theorem nd2611 : m_as 0 mi13_11.1 = true := by decide +kernel
theorem mx2612 : m_P 2612 = mi13_12 := rfl
theorem nd2612 : m_as 0 mi13_12.1 = true := by decide +kernel
theorem mx2613 : m_P 2613 = mi13_13 := rfl
theorem nd2613 : m_as 0 mi13_13.1 = true := by decide +kernel
theorem mx2614 : m_P 2614 = mi13_14 := rfl
theorem nd2614 : m_as 0 mi13_14.1 = true := by decide +kernel
theorem mx2615 : m_P 2615 = mi13_15 := rfl
theorem nd2615 : m_as 0 mi13_15.1 = true := by decide +kernel
theorem mx2616 : m_P 2616 = mi13_16 := rfl
theorem nd2616 : m_as 0 mi13_16.1 = true := by decide +kernel
theorem mx2617 : m_P 2617 = mi13_17 := rfl
theorem nd2617 : m_as 0 mi13_17.1 = true := by decide +kernel
theorem mx2618 : m_P 2618 = mi13_18 := rfl
theorem nd2618 : m_as 0 mi13_18.1 = true := by decide +kernel
theorem mx2619 : m_P 2619 = mi13_19 := rfl
theorem nd2619 : m_as 0 mi13_19.1 = true := by decide +kernel
theorem mx2620 : m_P 2620 = mi13_20 := rfl
theorem nd2620 : m_as 0 mi13_20.1 = true := by decide +kernel
theorem mx2621 : m_P 2621 = mi13_21 := rfl
theorem nd2621 : m_as 0 mi13_21.1 = true := by decide +kernel
theorem mx2622 : m_P 2622 = mi13_22 := rfl
theorem nd2622 : m_as 0 mi13_22.1 = true := by decide +kernel
theorem mx2623 : m_P 2623 = mi13_23 := rfl
theorem nd2623 : m_as 0 mi13_23.1 = true := by decide +kernel
theorem mx2624 : m_P 2624 = mi13_24 := rfl
theorem nd2624 : m_as 0 mi13_24.1 = true := by decide +kernel
theorem mx2625 : m_P 2625 = mi13_25 := rfl
theorem nd2625 : m_as 0 mi13_25.1 = true := by decide +kernel
theorem mx2626 : m_P 2626 = mi13_26 := rfl
theorem nd2626 : m_as 0 mi13_26.1 = true := by decide +kernel
theorem mx2627 : m_P 2627 = mi13_27 := rfl
theorem nd2627 : m_as 0 mi13_27.1 = true := by decide +kernel
theorem mx2628 : m_P 2628 = mi13_28 := rfl
theorem nd2628 : m_as 0 mi13_28.1 = true := by decide +kernel
theorem mx2629 : m_P 2629 = mi13_29 := rfl
theorem nd2629 : m_as 0 mi13_29.1 = true := by decide +kernel
theorem mx2630 : m_P 2630 = mi13_30 := rfl
theorem nd2630 : m_as 0 mi13_30.1 = true := by decide +kernel
theorem mx2631 : m_P 2631 = mi13_31 := rfl
theorem nd2631 : m_as 0 mi13_31.1 = true := by decide +kernel
theorem mx2632 : m_P 2632 = mi13_32 := rfl
theorem nd2632 : m_as 0 mi13_32.1 = true := by decide +kernel
theorem mx2633 : m_P 2633 = mi13_33 := rfl
theorem nd2633 : m_as 0 mi13_33.1 = true := by decide +kernel
theorem mx2634 : m_P 2634 = mi13_34 := rfl
theorem nd2634 : m_as 0 mi13_34.1 = true := by decide +kernel
theorem mx2635 : m_P 2635 = mi13_35 := rfl
theorem nd2635 : m_as 0 mi13_35.1 = true := by decide +kernel
theorem mx2800 : m_P 2800 = mi14_0 := rfl
theorem nd2800 : m_as 0 mi14_0.1 = true := by decide +kernel
