def iJ6_bitCount_0f7a4 : pm_I := ([(0, .iload_n 0, 1), (1, .iload_n 0, 1), (2, .iconst 1, 1), (3, .iushr, 1), (4, .ldc_w 265, 3), (7, .iand, 1), (8, .isub, 1), (9, .istore_n 0, 1), (10, .iload_n 0, 1), (11, .ldc_w 266, 3), (14, .iand, 1), (15, .iload_n 0, 1), (16, .iconst 2, 1), (17, .iushr, 1), (18, .ldc_w 266, 3), (21, .iand, 1), (22, .iadd, 1), (23, .istore_n 0, 1), (24, .iload_n 0, 1), (25, .iload_n 0, 1), (26, .iconst 4, 1), (27, .iushr, 1), (28, .iadd, 1), (29, .ldc_w 267, 3), (32, .iand, 1), (33, .istore_n 0, 1), (34, .iload_n 0, 1), (35, .iload_n 0, 1), (36, .bipush 8, 2), (38, .iushr, 1), (39, .iadd, 1), (40, .istore_n 0, 1), (41, .iload_n 0, 1), (42, .iload_n 0, 1), (43, .bipush 16, 2), (45, .iushr, 1), (46, .iadd, 1), (47, .istore_n 0, 1), (48, .iload_n 0, 1), (49, .bipush 63, 2), (51, .iand, 1), (52, .ireturn, 1)], [], [(265, .int 1431655765), (266, .int 858993459), (267, .int 252645135)])
abbrev mJ6_bitCount_0f7a4 : pm_M := (yJ6_bitCount_0f7a4, cJ6_bitCount_0f7a4, 1, (some .int), RJ6)
theorem kJ6_bitCount_0f7a4 : pm_Ib mJ6_bitCount_0f7a4 iJ6_bitCount_0f7a4 = true := by decide +kernel
def iJ9_max_7cf53 : pm_I := ([(0, .iload_n 0, 1), (1, .iload_n 1, 1), (2, .if_icmp .lt 7, 3), (5, .iload_n 0, 1), (6, .goto 4, 3), (9, .iload_n 1, 1), (10, .ireturn, 1)], [], [])
abbrev mJ9_max_7cf53 : pm_M := (yJ9_max_7cf53, cJ9_max_7cf53, 2, (some .int), RJ9)
theorem kJ9_max_7cf53 : pm_Ib mJ9_max_7cf53 iJ9_max_7cf53 = true := by decide +kernel
def iJ9_min_7cf53 : pm_I := ([(0, .iload_n 0, 1), (1, .iload_n 1, 1), (2, .if_icmp .gt 7, 3), (5, .iload_n 0, 1), (6, .goto 4, 3), (9, .iload_n 1, 1), (10, .ireturn, 1)], [], [])
abbrev mJ9_min_7cf53 : pm_M := (yJ9_min_7cf53, cJ9_min_7cf53, 2, (some .int), RJ9)
theorem kJ9_min_7cf53 : pm_Ib mJ9_min_7cf53 iJ9_min_7cf53 = true := by decide +kernel
def iJ7_fill_d0a16 : pm_I := ([(0, .iconst 0, 1), (1, .istore_n 3, 1), (2, .aload_n 0, 1), (3, .arraylength, 1), (4, .istore 4, 2), (6, .iload_n 3, 1), (7, .iload 4, 2), (9, .if_icmp .ge 13, 3), (12, .aload_n 0, 1), (13, .iload_n 3, 1), (14, .lload_n 1, 1), (15, .lastore, 1), (16, .iinc 3 1, 3), (19, .goto (-13), 3), (22, .return_, 1)], [], [])
abbrev mJ7_fill_d0a16 : pm_M := (yJ7_fill_d0a16, cJ7_fill_d0a16, 5, none, RJ7)
theorem kJ7_fill_d0a16 : pm_Ib mJ7_fill_d0a16 iJ7_fill_d0a16 = true := by decide +kernel
def iJ7_fill_53178 : pm_I := ([(0, .iconst 0, 1), (1, .istore_n 2, 1), (2, .aload_n 0, 1), (3, .arraylength, 1), (4, .istore_n 3, 1), (5, .iload_n 2, 1), (6, .iload_n 3, 1), (7, .if_icmp .ge 13, 3), (10, .aload_n 0, 1), (11, .iload_n 2, 1), (12, .iload_n 1, 1), (13, .iastore, 1), (14, .iinc 2 1, 3), (17, .goto (-12), 3), (20, .return_, 1)], [], [])
abbrev mJ7_fill_53178 : pm_M := (yJ7_fill_53178, cJ7_fill_53178, 4, none, RJ7)
theorem kJ7_fill_53178 : pm_Ib mJ7_fill_53178 iJ7_fill_53178 = true := by decide +kernel
