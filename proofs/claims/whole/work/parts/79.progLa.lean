def pp_L_hd : List (Nat × pw_E) := [(0, (.new 7, (false, 3), (false, 0), (3, 8, 0), (75, 68, 74), [])),
  (3, (.dup, (false, 4), (false, 0), (0, 0, 0), (0, 0, 0), [])),
  (4, (.invokespecial 9, (false, 7), (false, 3), (41, 1, 0), (4, 138, 76), [])),
  (7, (.astore_n 1, (false, 8), (false, 0), (0, 0, 0), (0, 0, 0), [])),
  (8, (.new 10, (false, 11), (false, 0), (4, 30, 0), (512, 69, 511), [])),
  (11, (.dup, (false, 12), (false, 0), (0, 0, 0), (0, 0, 0), [])),
  (12, (.invokespecial 12, (false, 15), (false, 4), (53, 1, 0), (26, 9783, 513), [])),
  (15, (.astore_n 2, (false, 16), (false, 0), (0, 0, 0), (0, 0, 0), [])),
  (16, (.iconst 0, (false, 17), (false, 0), (0, 0, 0), (0, 0, 0), [(0, (false, 0))])),
  (17, (.istore_n 3, (true, 18), (false, 0), (0, 0, 0), (0, 0, 0), [])),
  (18, (.iload_n 3, (false, 19), (false, 0), (0, 0, 0), (0, 0, 0), [])),
  (19, (.aload_n 0, (false, 20), (false, 0), (0, 0, 0), (0, 0, 0), [])),
  (20, (.arraylength, (false, 21), (false, 0), (0, 0, 0), (0, 0, 0), [])),
  (21, (.bipush 6, (false, 23), (false, 0), (0, 0, 0), (0, 0, 0), [(6, (false, 0))])),
  (23, (.isub, (false, 24), (false, 0), (0, 0, 0), (0, 0, 0), [])),
  (24, (.if_icmp .gt 865, (false, 27), (false, 889), (0, 0, 0), (0, 0, 0), [])),
  (27, (.aload_n 0, (false, 28), (false, 0), (0, 0, 0), (0, 0, 0), [])),
  (28, (.iload_n 3, (false, 29), (false, 0), (0, 0, 0), (0, 0, 0), [])),
  (29, (.iaload, (false, 30), (false, 0), (0, 0, 0), (0, 0, 0), [])),
  (30, (.bipush 31, (false, 32), (false, 0), (0, 0, 0), (0, 0, 0), [(31, (false, 0))])),
  (32, (.iand, (false, 33), (false, 0), (0, 0, 0), (0, 0, 0), [])),
  (33, (.tableswitch 850 0 20 #[99, 162, 185, 228, 271, 304, 337, 370, 403, 426, 449, 498, 537, 560, 583, 616, 649, 692, 725, 768, 827], (true, 132), (true, 883), (0, 0, 0), (0, 0, 0), [(0, (true, 132)), (1, (true, 195)), (2, (true, 218)), (3, (true, 261)), (4, (true, 304)), (5, (true, 337)), (6, (true, 370)), (7, (true, 403)), (8, (true, 436)), (9, (true, 459)), (10, (true, 482)), (11, (true, 531)), (12, (true, 570)), (13, (true, 593)), (14, (true, 616)), (15, (true, 649)), (16, (true, 682)), (17, (true, 725)), (18, (true, 758)), (19, (true, 801)), (20, (true, 860))])),
  (883, (.iinc 3 6, (false, 886), (false, 0), (0, 0, 0), (0, 0, 0), [(6, (false, 0))])),
  (886, (.goto (-868), (false, 889), (true, 18), (0, 0, 0), (0, 0, 0), [])),
  (889, (.iconst 1, (false, 890), (false, 0), (0, 0, 0), (0, 0, 0), [(1, (false, 0))])),
  (890, (.ireturn, (false, 891), (false, 0), (0, 0, 2), (0, 0, 0), []))]
set_option maxRecDepth 100000 in
theorem pe_L_hd : pw_fnd pp_L_hd 0 = (.new 7, (false, 3), (false, 0), (3, 8, 0), (75, 68, 74), []) ∧
  pw_fnd pp_L_hd 3 = (.dup, (false, 4), (false, 0), (0, 0, 0), (0, 0, 0), []) ∧
  pw_fnd pp_L_hd 4 = (.invokespecial 9, (false, 7), (false, 3), (41, 1, 0), (4, 138, 76), []) ∧
  pw_fnd pp_L_hd 7 = (.astore_n 1, (false, 8), (false, 0), (0, 0, 0), (0, 0, 0), []) ∧
  pw_fnd pp_L_hd 8 = (.new 10, (false, 11), (false, 0), (4, 30, 0), (512, 69, 511), []) ∧
  pw_fnd pp_L_hd 11 = (.dup, (false, 12), (false, 0), (0, 0, 0), (0, 0, 0), []) ∧
  pw_fnd pp_L_hd 12 = (.invokespecial 12, (false, 15), (false, 4), (53, 1, 0), (26, 9783, 513), []) ∧
  pw_fnd pp_L_hd 15 = (.astore_n 2, (false, 16), (false, 0), (0, 0, 0), (0, 0, 0), []) ∧
  pw_fnd pp_L_hd 16 = (.iconst 0, (false, 17), (false, 0), (0, 0, 0), (0, 0, 0), [(0, (false, 0))]) ∧
  pw_fnd pp_L_hd 17 = (.istore_n 3, (true, 18), (false, 0), (0, 0, 0), (0, 0, 0), []) ∧
  pw_fnd pp_L_hd 18 = (.iload_n 3, (false, 19), (false, 0), (0, 0, 0), (0, 0, 0), []) ∧
  pw_fnd pp_L_hd 19 = (.aload_n 0, (false, 20), (false, 0), (0, 0, 0), (0, 0, 0), []) ∧
  pw_fnd pp_L_hd 20 = (.arraylength, (false, 21), (false, 0), (0, 0, 0), (0, 0, 0), []) ∧
  pw_fnd pp_L_hd 21 = (.bipush 6, (false, 23), (false, 0), (0, 0, 0), (0, 0, 0), [(6, (false, 0))]) ∧
  pw_fnd pp_L_hd 23 = (.isub, (false, 24), (false, 0), (0, 0, 0), (0, 0, 0), []) ∧
  pw_fnd pp_L_hd 24 = (.if_icmp .gt 865, (false, 27), (false, 889), (0, 0, 0), (0, 0, 0), []) ∧
  pw_fnd pp_L_hd 27 = (.aload_n 0, (false, 28), (false, 0), (0, 0, 0), (0, 0, 0), []) ∧
  pw_fnd pp_L_hd 28 = (.iload_n 3, (false, 29), (false, 0), (0, 0, 0), (0, 0, 0), []) ∧
  pw_fnd pp_L_hd 29 = (.iaload, (false, 30), (false, 0), (0, 0, 0), (0, 0, 0), []) ∧
  pw_fnd pp_L_hd 30 = (.bipush 31, (false, 32), (false, 0), (0, 0, 0), (0, 0, 0), [(31, (false, 0))]) ∧
  pw_fnd pp_L_hd 32 = (.iand, (false, 33), (false, 0), (0, 0, 0), (0, 0, 0), []) ∧
  pw_fnd pp_L_hd 33 = (.tableswitch 850 0 20 #[99, 162, 185, 228, 271, 304, 337, 370, 403, 426, 449, 498, 537, 560, 583, 616, 649, 692, 725, 768, 827], (true, 132), (true, 883), (0, 0, 0), (0, 0, 0), [(0, (true, 132)), (1, (true, 195)), (2, (true, 218)), (3, (true, 261)), (4, (true, 304)), (5, (true, 337)), (6, (true, 370)), (7, (true, 403)), (8, (true, 436)), (9, (true, 459)), (10, (true, 482)), (11, (true, 531)), (12, (true, 570)), (13, (true, 593)), (14, (true, 616)), (15, (true, 649)), (16, (true, 682)), (17, (true, 725)), (18, (true, 758)), (19, (true, 801)), (20, (true, 860))]) ∧
  pw_fnd pp_L_hd 883 = (.iinc 3 6, (false, 886), (false, 0), (0, 0, 0), (0, 0, 0), [(6, (false, 0))]) ∧
  pw_fnd pp_L_hd 886 = (.goto (-868), (false, 889), (true, 18), (0, 0, 0), (0, 0, 0), []) ∧
  pw_fnd pp_L_hd 889 = (.iconst 1, (false, 890), (false, 0), (0, 0, 0), (0, 0, 0), [(1, (false, 0))]) ∧
  pw_fnd pp_L_hd 890 = (.ireturn, (false, 891), (false, 0), (0, 0, 2), (0, 0, 0), []) :=
  ⟨rfl, rfl, rfl, rfl, rfl, rfl, rfl, rfl, rfl, rfl, rfl, rfl, rfl, rfl, rfl, rfl, rfl, rfl, rfl, rfl, rfl, rfl, rfl, rfl, rfl, rfl⟩
set_option maxRecDepth 100000 in
theorem pk_L_hd : pp_L_hd.all (fun q => pw_chk pw_jt pm_L_law q.1 q.2) = true := by decide +kernel
def pp_L_c0 : List (Nat × pw_E) := [(132, (.aload_n 1, (false, 133), (false, 0), (0, 0, 0), (0, 0, 0), [])),
  (133, (.aload_n 0, (false, 134), (false, 0), (0, 0, 0), (0, 0, 0), [])),
  (134, (.iload_n 3, (false, 135), (false, 0), (0, 0, 0), (0, 0, 0), [])),
  (135, (.iconst 1, (false, 136), (false, 0), (0, 0, 0), (0, 0, 0), [(1, (false, 0))])),
  (136, (.iadd, (false, 137), (false, 0), (0, 0, 0), (0, 0, 0), [])),
  (137, (.iaload, (false, 138), (false, 0), (0, 0, 0), (0, 0, 0), [])),
  (138, (.aload_n 0, (false, 139), (false, 0), (0, 0, 0), (0, 0, 0), [])),
  (139, (.iload_n 3, (false, 140), (false, 0), (0, 0, 0), (0, 0, 0), [])),
  (140, (.iconst 2, (false, 141), (false, 0), (0, 0, 0), (0, 0, 0), [(2, (false, 0))])),
  (141, (.iadd, (false, 142), (false, 0), (0, 0, 0), (0, 0, 0), [])),
  (142, (.iaload, (false, 143), (false, 0), (0, 0, 0), (0, 0, 0), [])),
  (143, (.aload_n 0, (false, 144), (false, 0), (0, 0, 0), (0, 0, 0), [])),
  (144, (.iload_n 3, (false, 145), (false, 0), (0, 0, 0), (0, 0, 0), [])),
  (145, (.iconst 3, (false, 146), (false, 0), (0, 0, 0), (0, 0, 0), [(3, (false, 0))])),
  (146, (.iadd, (false, 147), (false, 0), (0, 0, 0), (0, 0, 0), [])),
  (147, (.iaload, (false, 148), (false, 0), (0, 0, 0), (0, 0, 0), [])),
  (148, (.aload_n 0, (false, 149), (false, 0), (0, 0, 0), (0, 0, 0), [])),
  (149, (.iload_n 3, (false, 150), (false, 0), (0, 0, 0), (0, 0, 0), [])),
  (150, (.iconst 4, (false, 151), (false, 0), (0, 0, 0), (0, 0, 0), [(4, (false, 0))])),
  (151, (.iadd, (false, 152), (false, 0), (0, 0, 0), (0, 0, 0), [])),
  (152, (.iaload, (false, 153), (false, 0), (0, 0, 0), (0, 0, 0), [])),
  (153, (.aload_n 0, (false, 154), (false, 0), (0, 0, 0), (0, 0, 0), [])),
  (154, (.iload_n 3, (false, 155), (false, 0), (0, 0, 0), (0, 0, 0), [])),
  (155, (.iconst 5, (false, 156), (false, 0), (0, 0, 0), (0, 0, 0), [(5, (false, 0))])),
  (156, (.iadd, (false, 157), (false, 0), (0, 0, 0), (0, 0, 0), [])),
  (157, (.iaload, (false, 158), (false, 0), (0, 0, 0), (0, 0, 0), [])),
  (158, (.invokevirtual 13, (false, 161), (false, 3), (94, 6, 1), (6, 1181, 112), [])),
  (161, (.aload_n 2, (false, 162), (false, 0), (0, 0, 0), (0, 0, 0), [])),
  (162, (.aload_n 0, (false, 163), (false, 0), (0, 0, 0), (0, 0, 0), [])),
  (163, (.iload_n 3, (false, 164), (false, 0), (0, 0, 0), (0, 0, 0), [])),
  (164, (.iconst 1, (false, 165), (false, 0), (0, 0, 0), (0, 0, 0), [(1, (false, 0))])),
  (165, (.iadd, (false, 166), (false, 0), (0, 0, 0), (0, 0, 0), [])),
  (166, (.iaload, (false, 167), (false, 0), (0, 0, 0), (0, 0, 0), [])),
  (167, (.aload_n 0, (false, 168), (false, 0), (0, 0, 0), (0, 0, 0), [])),
  (168, (.iload_n 3, (false, 169), (false, 0), (0, 0, 0), (0, 0, 0), [])),
  (169, (.iconst 2, (false, 170), (false, 0), (0, 0, 0), (0, 0, 0), [(2, (false, 0))])),
  (170, (.iadd, (false, 171), (false, 0), (0, 0, 0), (0, 0, 0), [])),
  (171, (.iaload, (false, 172), (false, 0), (0, 0, 0), (0, 0, 0), [])),
  (172, (.aload_n 0, (false, 173), (false, 0), (0, 0, 0), (0, 0, 0), [])),
  (173, (.iload_n 3, (false, 174), (false, 0), (0, 0, 0), (0, 0, 0), [])),
  (174, (.iconst 3, (false, 175), (false, 0), (0, 0, 0), (0, 0, 0), [(3, (false, 0))])),
  (175, (.iadd, (false, 176), (false, 0), (0, 0, 0), (0, 0, 0), [])),
  (176, (.iaload, (false, 177), (false, 0), (0, 0, 0), (0, 0, 0), [])),
  (177, (.aload_n 0, (false, 178), (false, 0), (0, 0, 0), (0, 0, 0), [])),
  (178, (.iload_n 3, (false, 179), (false, 0), (0, 0, 0), (0, 0, 0), [])),
  (179, (.iconst 4, (false, 180), (false, 0), (0, 0, 0), (0, 0, 0), [(4, (false, 0))])),
  (180, (.iadd, (false, 181), (false, 0), (0, 0, 0), (0, 0, 0), [])),
  (181, (.iaload, (false, 182), (false, 0), (0, 0, 0), (0, 0, 0), [])),
  (182, (.aload_n 0, (false, 183), (false, 0), (0, 0, 0), (0, 0, 0), [])),
  (183, (.iload_n 3, (false, 184), (false, 0), (0, 0, 0), (0, 0, 0), [])),
  (184, (.iconst 5, (false, 185), (false, 0), (0, 0, 0), (0, 0, 0), [(5, (false, 0))])),
  (185, (.iadd, (false, 186), (false, 0), (0, 0, 0), (0, 0, 0), [])),
  (186, (.iaload, (false, 187), (false, 0), (0, 0, 0), (0, 0, 0), [])),
  (187, (.invokevirtual 17, (false, 190), (false, 4), (56, 6, 1), (0, 0, 609), [])),
  (190, (.if_icmp .eq 693, (false, 193), (true, 883), (0, 0, 0), (0, 0, 0), [])),
  (193, (.iconst 0, (false, 194), (false, 0), (0, 0, 0), (0, 0, 0), [(0, (false, 0))])),
  (194, (.ireturn, (true, 195), (false, 0), (0, 0, 2), (0, 0, 0), []))]
set_option maxRecDepth 100000 in
theorem pe_L_c0 : pw_fnd pp_L_c0 132 = (.aload_n 1, (false, 133), (false, 0), (0, 0, 0), (0, 0, 0), []) ∧
  pw_fnd pp_L_c0 133 = (.aload_n 0, (false, 134), (false, 0), (0, 0, 0), (0, 0, 0), []) ∧
  pw_fnd pp_L_c0 134 = (.iload_n 3, (false, 135), (false, 0), (0, 0, 0), (0, 0, 0), []) ∧
  pw_fnd pp_L_c0 135 = (.iconst 1, (false, 136), (false, 0), (0, 0, 0), (0, 0, 0), [(1, (false, 0))]) ∧
  pw_fnd pp_L_c0 136 = (.iadd, (false, 137), (false, 0), (0, 0, 0), (0, 0, 0), []) ∧
  pw_fnd pp_L_c0 137 = (.iaload, (false, 138), (false, 0), (0, 0, 0), (0, 0, 0), []) ∧
  pw_fnd pp_L_c0 138 = (.aload_n 0, (false, 139), (false, 0), (0, 0, 0), (0, 0, 0), []) ∧
  pw_fnd pp_L_c0 139 = (.iload_n 3, (false, 140), (false, 0), (0, 0, 0), (0, 0, 0), []) ∧
  pw_fnd pp_L_c0 140 = (.iconst 2, (false, 141), (false, 0), (0, 0, 0), (0, 0, 0), [(2, (false, 0))]) ∧
  pw_fnd pp_L_c0 141 = (.iadd, (false, 142), (false, 0), (0, 0, 0), (0, 0, 0), []) ∧
  pw_fnd pp_L_c0 142 = (.iaload, (false, 143), (false, 0), (0, 0, 0), (0, 0, 0), []) ∧
  pw_fnd pp_L_c0 143 = (.aload_n 0, (false, 144), (false, 0), (0, 0, 0), (0, 0, 0), []) ∧
  pw_fnd pp_L_c0 144 = (.iload_n 3, (false, 145), (false, 0), (0, 0, 0), (0, 0, 0), []) ∧
  pw_fnd pp_L_c0 145 = (.iconst 3, (false, 146), (false, 0), (0, 0, 0), (0, 0, 0), [(3, (false, 0))]) ∧
  pw_fnd pp_L_c0 146 = (.iadd, (false, 147), (false, 0), (0, 0, 0), (0, 0, 0), []) ∧
  pw_fnd pp_L_c0 147 = (.iaload, (false, 148), (false, 0), (0, 0, 0), (0, 0, 0), []) ∧
  pw_fnd pp_L_c0 148 = (.aload_n 0, (false, 149), (false, 0), (0, 0, 0), (0, 0, 0), []) ∧
  pw_fnd pp_L_c0 149 = (.iload_n 3, (false, 150), (false, 0), (0, 0, 0), (0, 0, 0), []) ∧
  pw_fnd pp_L_c0 150 = (.iconst 4, (false, 151), (false, 0), (0, 0, 0), (0, 0, 0), [(4, (false, 0))]) ∧
  pw_fnd pp_L_c0 151 = (.iadd, (false, 152), (false, 0), (0, 0, 0), (0, 0, 0), []) ∧
  pw_fnd pp_L_c0 152 = (.iaload, (false, 153), (false, 0), (0, 0, 0), (0, 0, 0), []) ∧
  pw_fnd pp_L_c0 153 = (.aload_n 0, (false, 154), (false, 0), (0, 0, 0), (0, 0, 0), []) ∧
  pw_fnd pp_L_c0 154 = (.iload_n 3, (false, 155), (false, 0), (0, 0, 0), (0, 0, 0), []) ∧
  pw_fnd pp_L_c0 155 = (.iconst 5, (false, 156), (false, 0), (0, 0, 0), (0, 0, 0), [(5, (false, 0))]) ∧
  pw_fnd pp_L_c0 156 = (.iadd, (false, 157), (false, 0), (0, 0, 0), (0, 0, 0), []) ∧
  pw_fnd pp_L_c0 157 = (.iaload, (false, 158), (false, 0), (0, 0, 0), (0, 0, 0), []) ∧
  pw_fnd pp_L_c0 158 = (.invokevirtual 13, (false, 161), (false, 3), (94, 6, 1), (6, 1181, 112), []) ∧
  pw_fnd pp_L_c0 161 = (.aload_n 2, (false, 162), (false, 0), (0, 0, 0), (0, 0, 0), []) ∧
  pw_fnd pp_L_c0 162 = (.aload_n 0, (false, 163), (false, 0), (0, 0, 0), (0, 0, 0), []) ∧
  pw_fnd pp_L_c0 163 = (.iload_n 3, (false, 164), (false, 0), (0, 0, 0), (0, 0, 0), []) ∧
  pw_fnd pp_L_c0 164 = (.iconst 1, (false, 165), (false, 0), (0, 0, 0), (0, 0, 0), [(1, (false, 0))]) ∧
  pw_fnd pp_L_c0 165 = (.iadd, (false, 166), (false, 0), (0, 0, 0), (0, 0, 0), []) ∧
  pw_fnd pp_L_c0 166 = (.iaload, (false, 167), (false, 0), (0, 0, 0), (0, 0, 0), []) ∧
  pw_fnd pp_L_c0 167 = (.aload_n 0, (false, 168), (false, 0), (0, 0, 0), (0, 0, 0), []) ∧
  pw_fnd pp_L_c0 168 = (.iload_n 3, (false, 169), (false, 0), (0, 0, 0), (0, 0, 0), []) ∧
  pw_fnd pp_L_c0 169 = (.iconst 2, (false, 170), (false, 0), (0, 0, 0), (0, 0, 0), [(2, (false, 0))]) ∧
  pw_fnd pp_L_c0 170 = (.iadd, (false, 171), (false, 0), (0, 0, 0), (0, 0, 0), []) ∧
  pw_fnd pp_L_c0 171 = (.iaload, (false, 172), (false, 0), (0, 0, 0), (0, 0, 0), []) ∧
  pw_fnd pp_L_c0 172 = (.aload_n 0, (false, 173), (false, 0), (0, 0, 0), (0, 0, 0), []) ∧
  pw_fnd pp_L_c0 173 = (.iload_n 3, (false, 174), (false, 0), (0, 0, 0), (0, 0, 0), []) ∧
  pw_fnd pp_L_c0 174 = (.iconst 3, (false, 175), (false, 0), (0, 0, 0), (0, 0, 0), [(3, (false, 0))]) ∧
  pw_fnd pp_L_c0 175 = (.iadd, (false, 176), (false, 0), (0, 0, 0), (0, 0, 0), []) ∧
  pw_fnd pp_L_c0 176 = (.iaload, (false, 177), (false, 0), (0, 0, 0), (0, 0, 0), []) ∧
  pw_fnd pp_L_c0 177 = (.aload_n 0, (false, 178), (false, 0), (0, 0, 0), (0, 0, 0), []) ∧
  pw_fnd pp_L_c0 178 = (.iload_n 3, (false, 179), (false, 0), (0, 0, 0), (0, 0, 0), []) ∧
  pw_fnd pp_L_c0 179 = (.iconst 4, (false, 180), (false, 0), (0, 0, 0), (0, 0, 0), [(4, (false, 0))]) ∧
  pw_fnd pp_L_c0 180 = (.iadd, (false, 181), (false, 0), (0, 0, 0), (0, 0, 0), []) ∧
  pw_fnd pp_L_c0 181 = (.iaload, (false, 182), (false, 0), (0, 0, 0), (0, 0, 0), []) ∧
  pw_fnd pp_L_c0 182 = (.aload_n 0, (false, 183), (false, 0), (0, 0, 0), (0, 0, 0), []) ∧
  pw_fnd pp_L_c0 183 = (.iload_n 3, (false, 184), (false, 0), (0, 0, 0), (0, 0, 0), []) ∧
  pw_fnd pp_L_c0 184 = (.iconst 5, (false, 185), (false, 0), (0, 0, 0), (0, 0, 0), [(5, (false, 0))]) ∧
  pw_fnd pp_L_c0 185 = (.iadd, (false, 186), (false, 0), (0, 0, 0), (0, 0, 0), []) ∧
  pw_fnd pp_L_c0 186 = (.iaload, (false, 187), (false, 0), (0, 0, 0), (0, 0, 0), []) ∧
  pw_fnd pp_L_c0 187 = (.invokevirtual 17, (false, 190), (false, 4), (56, 6, 1), (0, 0, 609), []) ∧
  pw_fnd pp_L_c0 190 = (.if_icmp .eq 693, (false, 193), (true, 883), (0, 0, 0), (0, 0, 0), []) ∧
  pw_fnd pp_L_c0 193 = (.iconst 0, (false, 194), (false, 0), (0, 0, 0), (0, 0, 0), [(0, (false, 0))]) ∧
  pw_fnd pp_L_c0 194 = (.ireturn, (true, 195), (false, 0), (0, 0, 2), (0, 0, 0), []) :=
  ⟨rfl, rfl, rfl, rfl, rfl, rfl, rfl, rfl, rfl, rfl, rfl, rfl, rfl, rfl, rfl, rfl, rfl, rfl, rfl, rfl, rfl, rfl, rfl, rfl, rfl, rfl, rfl, rfl, rfl, rfl, rfl, rfl, rfl, rfl, rfl, rfl, rfl, rfl, rfl, rfl, rfl, rfl, rfl, rfl, rfl, rfl, rfl, rfl, rfl, rfl, rfl, rfl, rfl, rfl, rfl, rfl, rfl⟩
set_option maxRecDepth 100000 in
theorem pk_L_c0 : pp_L_c0.all (fun q => pw_chk pw_jt pm_L_law q.1 q.2) = true := by decide +kernel
def pp_L_c1 : List (Nat × pw_E) := [(195, (.aload_n 1, (false, 196), (false, 0), (0, 0, 0), (0, 0, 0), [])),
  (196, (.aload_n 0, (false, 197), (false, 0), (0, 0, 0), (0, 0, 0), [])),
  (197, (.iload_n 3, (false, 198), (false, 0), (0, 0, 0), (0, 0, 0), [])),
  (198, (.iconst 1, (false, 199), (false, 0), (0, 0, 0), (0, 0, 0), [(1, (false, 0))])),
  (199, (.iadd, (false, 200), (false, 0), (0, 0, 0), (0, 0, 0), [])),
  (200, (.iaload, (false, 201), (false, 0), (0, 0, 0), (0, 0, 0), [])),
  (201, (.invokevirtual 18, (false, 204), (false, 3), (65, 2, 1), (3, 16, 200), [])),
  (204, (.aload_n 2, (false, 205), (false, 0), (0, 0, 0), (0, 0, 0), [])),
  (205, (.aload_n 0, (false, 206), (false, 0), (0, 0, 0), (0, 0, 0), [])),
  (206, (.iload_n 3, (false, 207), (false, 0), (0, 0, 0), (0, 0, 0), [])),
  (207, (.iconst 1, (false, 208), (false, 0), (0, 0, 0), (0, 0, 0), [(1, (false, 0))])),
  (208, (.iadd, (false, 209), (false, 0), (0, 0, 0), (0, 0, 0), [])),
  (209, (.iaload, (false, 210), (false, 0), (0, 0, 0), (0, 0, 0), [])),
  (210, (.invokevirtual 22, (false, 213), (false, 4), (57, 2, 1), (0, 0, 617), [])),
  (213, (.if_icmp .eq 670, (false, 216), (true, 883), (0, 0, 0), (0, 0, 0), [])),
  (216, (.iconst 0, (false, 217), (false, 0), (0, 0, 0), (0, 0, 0), [(0, (false, 0))])),
  (217, (.ireturn, (true, 218), (false, 0), (0, 0, 2), (0, 0, 0), []))]
set_option maxRecDepth 100000 in
theorem pe_L_c1 : pw_fnd pp_L_c1 195 = (.aload_n 1, (false, 196), (false, 0), (0, 0, 0), (0, 0, 0), []) ∧
  pw_fnd pp_L_c1 196 = (.aload_n 0, (false, 197), (false, 0), (0, 0, 0), (0, 0, 0), []) ∧
  pw_fnd pp_L_c1 197 = (.iload_n 3, (false, 198), (false, 0), (0, 0, 0), (0, 0, 0), []) ∧
  pw_fnd pp_L_c1 198 = (.iconst 1, (false, 199), (false, 0), (0, 0, 0), (0, 0, 0), [(1, (false, 0))]) ∧
  pw_fnd pp_L_c1 199 = (.iadd, (false, 200), (false, 0), (0, 0, 0), (0, 0, 0), []) ∧
  pw_fnd pp_L_c1 200 = (.iaload, (false, 201), (false, 0), (0, 0, 0), (0, 0, 0), []) ∧
  pw_fnd pp_L_c1 201 = (.invokevirtual 18, (false, 204), (false, 3), (65, 2, 1), (3, 16, 200), []) ∧
  pw_fnd pp_L_c1 204 = (.aload_n 2, (false, 205), (false, 0), (0, 0, 0), (0, 0, 0), []) ∧
  pw_fnd pp_L_c1 205 = (.aload_n 0, (false, 206), (false, 0), (0, 0, 0), (0, 0, 0), []) ∧
  pw_fnd pp_L_c1 206 = (.iload_n 3, (false, 207), (false, 0), (0, 0, 0), (0, 0, 0), []) ∧
  pw_fnd pp_L_c1 207 = (.iconst 1, (false, 208), (false, 0), (0, 0, 0), (0, 0, 0), [(1, (false, 0))]) ∧
  pw_fnd pp_L_c1 208 = (.iadd, (false, 209), (false, 0), (0, 0, 0), (0, 0, 0), []) ∧
  pw_fnd pp_L_c1 209 = (.iaload, (false, 210), (false, 0), (0, 0, 0), (0, 0, 0), []) ∧
  pw_fnd pp_L_c1 210 = (.invokevirtual 22, (false, 213), (false, 4), (57, 2, 1), (0, 0, 617), []) ∧
  pw_fnd pp_L_c1 213 = (.if_icmp .eq 670, (false, 216), (true, 883), (0, 0, 0), (0, 0, 0), []) ∧
  pw_fnd pp_L_c1 216 = (.iconst 0, (false, 217), (false, 0), (0, 0, 0), (0, 0, 0), [(0, (false, 0))]) ∧
  pw_fnd pp_L_c1 217 = (.ireturn, (true, 218), (false, 0), (0, 0, 2), (0, 0, 0), []) :=
  ⟨rfl, rfl, rfl, rfl, rfl, rfl, rfl, rfl, rfl, rfl, rfl, rfl, rfl, rfl, rfl, rfl, rfl⟩
set_option maxRecDepth 100000 in
theorem pk_L_c1 : pp_L_c1.all (fun q => pw_chk pw_jt pm_L_law q.1 q.2) = true := by decide +kernel
def pp_L_c2 : List (Nat × pw_E) := [(218, (.aload_n 1, (false, 219), (false, 0), (0, 0, 0), (0, 0, 0), [])),
  (219, (.aload_n 0, (false, 220), (false, 0), (0, 0, 0), (0, 0, 0), [])),
  (220, (.iload_n 3, (false, 221), (false, 0), (0, 0, 0), (0, 0, 0), [])),
  (221, (.iconst 1, (false, 222), (false, 0), (0, 0, 0), (0, 0, 0), [(1, (false, 0))])),
  (222, (.iadd, (false, 223), (false, 0), (0, 0, 0), (0, 0, 0), [])),
  (223, (.iaload, (false, 224), (false, 0), (0, 0, 0), (0, 0, 0), [])),
  (224, (.aload_n 0, (false, 225), (false, 0), (0, 0, 0), (0, 0, 0), [])),
  (225, (.iload_n 3, (false, 226), (false, 0), (0, 0, 0), (0, 0, 0), [])),
  (226, (.iconst 2, (false, 227), (false, 0), (0, 0, 0), (0, 0, 0), [(2, (false, 0))])),
  (227, (.iadd, (false, 228), (false, 0), (0, 0, 0), (0, 0, 0), [])),
  (228, (.iaload, (false, 229), (false, 0), (0, 0, 0), (0, 0, 0), [])),
  (229, (.aload_n 0, (false, 230), (false, 0), (0, 0, 0), (0, 0, 0), [])),
  (230, (.iload_n 3, (false, 231), (false, 0), (0, 0, 0), (0, 0, 0), [])),
  (231, (.iconst 3, (false, 232), (false, 0), (0, 0, 0), (0, 0, 0), [(3, (false, 0))])),
  (232, (.iadd, (false, 233), (false, 0), (0, 0, 0), (0, 0, 0), [])),
  (233, (.iaload, (false, 234), (false, 0), (0, 0, 0), (0, 0, 0), [])),
  (234, (.invokevirtual 23, (false, 237), (false, 3), (42, 4, 1), (0, 0, 251), [])),
  (237, (.aload_n 2, (false, 238), (false, 0), (0, 0, 0), (0, 0, 0), [])),
  (238, (.aload_n 0, (false, 239), (false, 0), (0, 0, 0), (0, 0, 0), [])),
  (239, (.iload_n 3, (false, 240), (false, 0), (0, 0, 0), (0, 0, 0), [])),
  (240, (.iconst 1, (false, 241), (false, 0), (0, 0, 0), (0, 0, 0), [(1, (false, 0))])),
  (241, (.iadd, (false, 242), (false, 0), (0, 0, 0), (0, 0, 0), [])),
  (242, (.iaload, (false, 243), (false, 0), (0, 0, 0), (0, 0, 0), [])),
  (243, (.aload_n 0, (false, 244), (false, 0), (0, 0, 0), (0, 0, 0), [])),
  (244, (.iload_n 3, (false, 245), (false, 0), (0, 0, 0), (0, 0, 0), [])),
  (245, (.iconst 2, (false, 246), (false, 0), (0, 0, 0), (0, 0, 0), [(2, (false, 0))])),
  (246, (.iadd, (false, 247), (false, 0), (0, 0, 0), (0, 0, 0), [])),
  (247, (.iaload, (false, 248), (false, 0), (0, 0, 0), (0, 0, 0), [])),
  (248, (.aload_n 0, (false, 249), (false, 0), (0, 0, 0), (0, 0, 0), [])),
  (249, (.iload_n 3, (false, 250), (false, 0), (0, 0, 0), (0, 0, 0), [])),
  (250, (.iconst 3, (false, 251), (false, 0), (0, 0, 0), (0, 0, 0), [(3, (false, 0))])),
  (251, (.iadd, (false, 252), (false, 0), (0, 0, 0), (0, 0, 0), [])),
  (252, (.iaload, (false, 253), (false, 0), (0, 0, 0), (0, 0, 0), [])),
  (253, (.invokevirtual 27, (false, 256), (false, 4), (76, 4, 1), (0, 0, 621), [])),
  (256, (.if_icmp .eq 627, (false, 259), (true, 883), (0, 0, 0), (0, 0, 0), [])),
  (259, (.iconst 0, (false, 260), (false, 0), (0, 0, 0), (0, 0, 0), [(0, (false, 0))])),
  (260, (.ireturn, (true, 261), (false, 0), (0, 0, 2), (0, 0, 0), []))]
set_option maxRecDepth 100000 in
theorem pe_L_c2 : pw_fnd pp_L_c2 218 = (.aload_n 1, (false, 219), (false, 0), (0, 0, 0), (0, 0, 0), []) ∧
  pw_fnd pp_L_c2 219 = (.aload_n 0, (false, 220), (false, 0), (0, 0, 0), (0, 0, 0), []) ∧
  pw_fnd pp_L_c2 220 = (.iload_n 3, (false, 221), (false, 0), (0, 0, 0), (0, 0, 0), []) ∧
  pw_fnd pp_L_c2 221 = (.iconst 1, (false, 222), (false, 0), (0, 0, 0), (0, 0, 0), [(1, (false, 0))]) ∧
  pw_fnd pp_L_c2 222 = (.iadd, (false, 223), (false, 0), (0, 0, 0), (0, 0, 0), []) ∧
  pw_fnd pp_L_c2 223 = (.iaload, (false, 224), (false, 0), (0, 0, 0), (0, 0, 0), []) ∧
  pw_fnd pp_L_c2 224 = (.aload_n 0, (false, 225), (false, 0), (0, 0, 0), (0, 0, 0), []) ∧
  pw_fnd pp_L_c2 225 = (.iload_n 3, (false, 226), (false, 0), (0, 0, 0), (0, 0, 0), []) ∧
  pw_fnd pp_L_c2 226 = (.iconst 2, (false, 227), (false, 0), (0, 0, 0), (0, 0, 0), [(2, (false, 0))]) ∧
  pw_fnd pp_L_c2 227 = (.iadd, (false, 228), (false, 0), (0, 0, 0), (0, 0, 0), []) ∧
  pw_fnd pp_L_c2 228 = (.iaload, (false, 229), (false, 0), (0, 0, 0), (0, 0, 0), []) ∧
  pw_fnd pp_L_c2 229 = (.aload_n 0, (false, 230), (false, 0), (0, 0, 0), (0, 0, 0), []) ∧
  pw_fnd pp_L_c2 230 = (.iload_n 3, (false, 231), (false, 0), (0, 0, 0), (0, 0, 0), []) ∧
  pw_fnd pp_L_c2 231 = (.iconst 3, (false, 232), (false, 0), (0, 0, 0), (0, 0, 0), [(3, (false, 0))]) ∧
  pw_fnd pp_L_c2 232 = (.iadd, (false, 233), (false, 0), (0, 0, 0), (0, 0, 0), []) ∧
  pw_fnd pp_L_c2 233 = (.iaload, (false, 234), (false, 0), (0, 0, 0), (0, 0, 0), []) ∧
  pw_fnd pp_L_c2 234 = (.invokevirtual 23, (false, 237), (false, 3), (42, 4, 1), (0, 0, 251), []) ∧
  pw_fnd pp_L_c2 237 = (.aload_n 2, (false, 238), (false, 0), (0, 0, 0), (0, 0, 0), []) ∧
  pw_fnd pp_L_c2 238 = (.aload_n 0, (false, 239), (false, 0), (0, 0, 0), (0, 0, 0), []) ∧
  pw_fnd pp_L_c2 239 = (.iload_n 3, (false, 240), (false, 0), (0, 0, 0), (0, 0, 0), []) ∧
  pw_fnd pp_L_c2 240 = (.iconst 1, (false, 241), (false, 0), (0, 0, 0), (0, 0, 0), [(1, (false, 0))]) ∧
  pw_fnd pp_L_c2 241 = (.iadd, (false, 242), (false, 0), (0, 0, 0), (0, 0, 0), []) ∧
  pw_fnd pp_L_c2 242 = (.iaload, (false, 243), (false, 0), (0, 0, 0), (0, 0, 0), []) ∧
  pw_fnd pp_L_c2 243 = (.aload_n 0, (false, 244), (false, 0), (0, 0, 0), (0, 0, 0), []) ∧
  pw_fnd pp_L_c2 244 = (.iload_n 3, (false, 245), (false, 0), (0, 0, 0), (0, 0, 0), []) ∧
  pw_fnd pp_L_c2 245 = (.iconst 2, (false, 246), (false, 0), (0, 0, 0), (0, 0, 0), [(2, (false, 0))]) ∧
  pw_fnd pp_L_c2 246 = (.iadd, (false, 247), (false, 0), (0, 0, 0), (0, 0, 0), []) ∧
  pw_fnd pp_L_c2 247 = (.iaload, (false, 248), (false, 0), (0, 0, 0), (0, 0, 0), []) ∧
  pw_fnd pp_L_c2 248 = (.aload_n 0, (false, 249), (false, 0), (0, 0, 0), (0, 0, 0), []) ∧
  pw_fnd pp_L_c2 249 = (.iload_n 3, (false, 250), (false, 0), (0, 0, 0), (0, 0, 0), []) ∧
  pw_fnd pp_L_c2 250 = (.iconst 3, (false, 251), (false, 0), (0, 0, 0), (0, 0, 0), [(3, (false, 0))]) ∧
  pw_fnd pp_L_c2 251 = (.iadd, (false, 252), (false, 0), (0, 0, 0), (0, 0, 0), []) ∧
  pw_fnd pp_L_c2 252 = (.iaload, (false, 253), (false, 0), (0, 0, 0), (0, 0, 0), []) ∧
  pw_fnd pp_L_c2 253 = (.invokevirtual 27, (false, 256), (false, 4), (76, 4, 1), (0, 0, 621), []) ∧
  pw_fnd pp_L_c2 256 = (.if_icmp .eq 627, (false, 259), (true, 883), (0, 0, 0), (0, 0, 0), []) ∧
  pw_fnd pp_L_c2 259 = (.iconst 0, (false, 260), (false, 0), (0, 0, 0), (0, 0, 0), [(0, (false, 0))]) ∧
  pw_fnd pp_L_c2 260 = (.ireturn, (true, 261), (false, 0), (0, 0, 2), (0, 0, 0), []) :=
  ⟨rfl, rfl, rfl, rfl, rfl, rfl, rfl, rfl, rfl, rfl, rfl, rfl, rfl, rfl, rfl, rfl, rfl, rfl, rfl, rfl, rfl, rfl, rfl, rfl, rfl, rfl, rfl, rfl, rfl, rfl, rfl, rfl, rfl, rfl, rfl, rfl, rfl⟩
set_option maxRecDepth 100000 in
theorem pk_L_c2 : pp_L_c2.all (fun q => pw_chk pw_jt pm_L_law q.1 q.2) = true := by decide +kernel
def pp_L_c3 : List (Nat × pw_E) := [(261, (.aload_n 1, (false, 262), (false, 0), (0, 0, 0), (0, 0, 0), [])),
  (262, (.aload_n 0, (false, 263), (false, 0), (0, 0, 0), (0, 0, 0), [])),
  (263, (.iload_n 3, (false, 264), (false, 0), (0, 0, 0), (0, 0, 0), [])),
  (264, (.iconst 1, (false, 265), (false, 0), (0, 0, 0), (0, 0, 0), [(1, (false, 0))])),
  (265, (.iadd, (false, 266), (false, 0), (0, 0, 0), (0, 0, 0), [])),
  (266, (.iaload, (false, 267), (false, 0), (0, 0, 0), (0, 0, 0), [])),
  (267, (.aload_n 0, (false, 268), (false, 0), (0, 0, 0), (0, 0, 0), [])),
  (268, (.iload_n 3, (false, 269), (false, 0), (0, 0, 0), (0, 0, 0), [])),
  (269, (.iconst 2, (false, 270), (false, 0), (0, 0, 0), (0, 0, 0), [(2, (false, 0))])),
  (270, (.iadd, (false, 271), (false, 0), (0, 0, 0), (0, 0, 0), [])),
  (271, (.iaload, (false, 272), (false, 0), (0, 0, 0), (0, 0, 0), [])),
  (272, (.aload_n 0, (false, 273), (false, 0), (0, 0, 0), (0, 0, 0), [])),
  (273, (.iload_n 3, (false, 274), (false, 0), (0, 0, 0), (0, 0, 0), [])),
  (274, (.iconst 3, (false, 275), (false, 0), (0, 0, 0), (0, 0, 0), [(3, (false, 0))])),
  (275, (.iadd, (false, 276), (false, 0), (0, 0, 0), (0, 0, 0), [])),
  (276, (.iaload, (false, 277), (false, 0), (0, 0, 0), (0, 0, 0), [])),
  (277, (.invokevirtual 28, (false, 280), (false, 3), (43, 4, 1), (0, 0, 267), [])),
  (280, (.aload_n 2, (false, 281), (false, 0), (0, 0, 0), (0, 0, 0), [])),
  (281, (.aload_n 0, (false, 282), (false, 0), (0, 0, 0), (0, 0, 0), [])),
  (282, (.iload_n 3, (false, 283), (false, 0), (0, 0, 0), (0, 0, 0), [])),
  (283, (.iconst 1, (false, 284), (false, 0), (0, 0, 0), (0, 0, 0), [(1, (false, 0))])),
  (284, (.iadd, (false, 285), (false, 0), (0, 0, 0), (0, 0, 0), [])),
  (285, (.iaload, (false, 286), (false, 0), (0, 0, 0), (0, 0, 0), [])),
  (286, (.aload_n 0, (false, 287), (false, 0), (0, 0, 0), (0, 0, 0), [])),
  (287, (.iload_n 3, (false, 288), (false, 0), (0, 0, 0), (0, 0, 0), [])),
  (288, (.iconst 2, (false, 289), (false, 0), (0, 0, 0), (0, 0, 0), [(2, (false, 0))])),
  (289, (.iadd, (false, 290), (false, 0), (0, 0, 0), (0, 0, 0), [])),
  (290, (.iaload, (false, 291), (false, 0), (0, 0, 0), (0, 0, 0), [])),
  (291, (.aload_n 0, (false, 292), (false, 0), (0, 0, 0), (0, 0, 0), [])),
  (292, (.iload_n 3, (false, 293), (false, 0), (0, 0, 0), (0, 0, 0), [])),
  (293, (.iconst 3, (false, 294), (false, 0), (0, 0, 0), (0, 0, 0), [(3, (false, 0))])),
  (294, (.iadd, (false, 295), (false, 0), (0, 0, 0), (0, 0, 0), [])),
  (295, (.iaload, (false, 296), (false, 0), (0, 0, 0), (0, 0, 0), [])),
  (296, (.invokevirtual 31, (false, 299), (false, 4), (77, 4, 1), (0, 0, 632), [])),
  (299, (.if_icmp .eq 584, (false, 302), (true, 883), (0, 0, 0), (0, 0, 0), [])),
  (302, (.iconst 0, (false, 303), (false, 0), (0, 0, 0), (0, 0, 0), [(0, (false, 0))])),
  (303, (.ireturn, (true, 304), (false, 0), (0, 0, 2), (0, 0, 0), []))]
set_option maxRecDepth 100000 in
theorem pe_L_c3 : pw_fnd pp_L_c3 261 = (.aload_n 1, (false, 262), (false, 0), (0, 0, 0), (0, 0, 0), []) ∧
  pw_fnd pp_L_c3 262 = (.aload_n 0, (false, 263), (false, 0), (0, 0, 0), (0, 0, 0), []) ∧
  pw_fnd pp_L_c3 263 = (.iload_n 3, (false, 264), (false, 0), (0, 0, 0), (0, 0, 0), []) ∧
  pw_fnd pp_L_c3 264 = (.iconst 1, (false, 265), (false, 0), (0, 0, 0), (0, 0, 0), [(1, (false, 0))]) ∧
  pw_fnd pp_L_c3 265 = (.iadd, (false, 266), (false, 0), (0, 0, 0), (0, 0, 0), []) ∧
  pw_fnd pp_L_c3 266 = (.iaload, (false, 267), (false, 0), (0, 0, 0), (0, 0, 0), []) ∧
  pw_fnd pp_L_c3 267 = (.aload_n 0, (false, 268), (false, 0), (0, 0, 0), (0, 0, 0), []) ∧
  pw_fnd pp_L_c3 268 = (.iload_n 3, (false, 269), (false, 0), (0, 0, 0), (0, 0, 0), []) ∧
  pw_fnd pp_L_c3 269 = (.iconst 2, (false, 270), (false, 0), (0, 0, 0), (0, 0, 0), [(2, (false, 0))]) ∧
  pw_fnd pp_L_c3 270 = (.iadd, (false, 271), (false, 0), (0, 0, 0), (0, 0, 0), []) ∧
  pw_fnd pp_L_c3 271 = (.iaload, (false, 272), (false, 0), (0, 0, 0), (0, 0, 0), []) ∧
  pw_fnd pp_L_c3 272 = (.aload_n 0, (false, 273), (false, 0), (0, 0, 0), (0, 0, 0), []) ∧
  pw_fnd pp_L_c3 273 = (.iload_n 3, (false, 274), (false, 0), (0, 0, 0), (0, 0, 0), []) ∧
  pw_fnd pp_L_c3 274 = (.iconst 3, (false, 275), (false, 0), (0, 0, 0), (0, 0, 0), [(3, (false, 0))]) ∧
  pw_fnd pp_L_c3 275 = (.iadd, (false, 276), (false, 0), (0, 0, 0), (0, 0, 0), []) ∧
  pw_fnd pp_L_c3 276 = (.iaload, (false, 277), (false, 0), (0, 0, 0), (0, 0, 0), []) ∧
  pw_fnd pp_L_c3 277 = (.invokevirtual 28, (false, 280), (false, 3), (43, 4, 1), (0, 0, 267), []) ∧
  pw_fnd pp_L_c3 280 = (.aload_n 2, (false, 281), (false, 0), (0, 0, 0), (0, 0, 0), []) ∧
  pw_fnd pp_L_c3 281 = (.aload_n 0, (false, 282), (false, 0), (0, 0, 0), (0, 0, 0), []) ∧
  pw_fnd pp_L_c3 282 = (.iload_n 3, (false, 283), (false, 0), (0, 0, 0), (0, 0, 0), []) ∧
  pw_fnd pp_L_c3 283 = (.iconst 1, (false, 284), (false, 0), (0, 0, 0), (0, 0, 0), [(1, (false, 0))]) ∧
  pw_fnd pp_L_c3 284 = (.iadd, (false, 285), (false, 0), (0, 0, 0), (0, 0, 0), []) ∧
  pw_fnd pp_L_c3 285 = (.iaload, (false, 286), (false, 0), (0, 0, 0), (0, 0, 0), []) ∧
  pw_fnd pp_L_c3 286 = (.aload_n 0, (false, 287), (false, 0), (0, 0, 0), (0, 0, 0), []) ∧
  pw_fnd pp_L_c3 287 = (.iload_n 3, (false, 288), (false, 0), (0, 0, 0), (0, 0, 0), []) ∧
  pw_fnd pp_L_c3 288 = (.iconst 2, (false, 289), (false, 0), (0, 0, 0), (0, 0, 0), [(2, (false, 0))]) ∧
  pw_fnd pp_L_c3 289 = (.iadd, (false, 290), (false, 0), (0, 0, 0), (0, 0, 0), []) ∧
  pw_fnd pp_L_c3 290 = (.iaload, (false, 291), (false, 0), (0, 0, 0), (0, 0, 0), []) ∧
  pw_fnd pp_L_c3 291 = (.aload_n 0, (false, 292), (false, 0), (0, 0, 0), (0, 0, 0), []) ∧
  pw_fnd pp_L_c3 292 = (.iload_n 3, (false, 293), (false, 0), (0, 0, 0), (0, 0, 0), []) ∧
  pw_fnd pp_L_c3 293 = (.iconst 3, (false, 294), (false, 0), (0, 0, 0), (0, 0, 0), [(3, (false, 0))]) ∧
  pw_fnd pp_L_c3 294 = (.iadd, (false, 295), (false, 0), (0, 0, 0), (0, 0, 0), []) ∧
  pw_fnd pp_L_c3 295 = (.iaload, (false, 296), (false, 0), (0, 0, 0), (0, 0, 0), []) ∧
  pw_fnd pp_L_c3 296 = (.invokevirtual 31, (false, 299), (false, 4), (77, 4, 1), (0, 0, 632), []) ∧
  pw_fnd pp_L_c3 299 = (.if_icmp .eq 584, (false, 302), (true, 883), (0, 0, 0), (0, 0, 0), []) ∧
  pw_fnd pp_L_c3 302 = (.iconst 0, (false, 303), (false, 0), (0, 0, 0), (0, 0, 0), [(0, (false, 0))]) ∧
  pw_fnd pp_L_c3 303 = (.ireturn, (true, 304), (false, 0), (0, 0, 2), (0, 0, 0), []) :=
  ⟨rfl, rfl, rfl, rfl, rfl, rfl, rfl, rfl, rfl, rfl, rfl, rfl, rfl, rfl, rfl, rfl, rfl, rfl, rfl, rfl, rfl, rfl, rfl, rfl, rfl, rfl, rfl, rfl, rfl, rfl, rfl, rfl, rfl, rfl, rfl, rfl, rfl⟩
set_option maxRecDepth 100000 in
theorem pk_L_c3 : pp_L_c3.all (fun q => pw_chk pw_jt pm_L_law q.1 q.2) = true := by decide +kernel
def pp_L_c4 : List (Nat × pw_E) := [(304, (.aload_n 1, (false, 305), (false, 0), (0, 0, 0), (0, 0, 0), [])),
  (305, (.aload_n 0, (false, 306), (false, 0), (0, 0, 0), (0, 0, 0), [])),
  (306, (.iload_n 3, (false, 307), (false, 0), (0, 0, 0), (0, 0, 0), [])),
  (307, (.iconst 1, (false, 308), (false, 0), (0, 0, 0), (0, 0, 0), [(1, (false, 0))])),
  (308, (.iadd, (false, 309), (false, 0), (0, 0, 0), (0, 0, 0), [])),
  (309, (.iaload, (false, 310), (false, 0), (0, 0, 0), (0, 0, 0), [])),
  (310, (.aload_n 0, (false, 311), (false, 0), (0, 0, 0), (0, 0, 0), [])),
  (311, (.iload_n 3, (false, 312), (false, 0), (0, 0, 0), (0, 0, 0), [])),
  (312, (.iconst 2, (false, 313), (false, 0), (0, 0, 0), (0, 0, 0), [(2, (false, 0))])),
  (313, (.iadd, (false, 314), (false, 0), (0, 0, 0), (0, 0, 0), [])),
  (314, (.iaload, (false, 315), (false, 0), (0, 0, 0), (0, 0, 0), [])),
  (315, (.invokevirtual 32, (false, 318), (false, 3), (109, 3, 1), (0, 0, 271), [])),
  (318, (.aload_n 2, (false, 319), (false, 0), (0, 0, 0), (0, 0, 0), [])),
  (319, (.aload_n 0, (false, 320), (false, 0), (0, 0, 0), (0, 0, 0), [])),
  (320, (.iload_n 3, (false, 321), (false, 0), (0, 0, 0), (0, 0, 0), [])),
  (321, (.iconst 1, (false, 322), (false, 0), (0, 0, 0), (0, 0, 0), [(1, (false, 0))])),
  (322, (.iadd, (false, 323), (false, 0), (0, 0, 0), (0, 0, 0), [])),
  (323, (.iaload, (false, 324), (false, 0), (0, 0, 0), (0, 0, 0), [])),
  (324, (.aload_n 0, (false, 325), (false, 0), (0, 0, 0), (0, 0, 0), [])),
  (325, (.iload_n 3, (false, 326), (false, 0), (0, 0, 0), (0, 0, 0), [])),
  (326, (.iconst 2, (false, 327), (false, 0), (0, 0, 0), (0, 0, 0), [(2, (false, 0))])),
  (327, (.iadd, (false, 328), (false, 0), (0, 0, 0), (0, 0, 0), [])),
  (328, (.iaload, (false, 329), (false, 0), (0, 0, 0), (0, 0, 0), [])),
  (329, (.invokevirtual 36, (false, 332), (false, 4), (107, 3, 1), (0, 0, 672), [])),
  (332, (.if_icmp .eq 551, (false, 335), (true, 883), (0, 0, 0), (0, 0, 0), [])),
  (335, (.iconst 0, (false, 336), (false, 0), (0, 0, 0), (0, 0, 0), [(0, (false, 0))])),
  (336, (.ireturn, (true, 337), (false, 0), (0, 0, 2), (0, 0, 0), []))]
set_option maxRecDepth 100000 in
theorem pe_L_c4 : pw_fnd pp_L_c4 304 = (.aload_n 1, (false, 305), (false, 0), (0, 0, 0), (0, 0, 0), []) ∧
  pw_fnd pp_L_c4 305 = (.aload_n 0, (false, 306), (false, 0), (0, 0, 0), (0, 0, 0), []) ∧
  pw_fnd pp_L_c4 306 = (.iload_n 3, (false, 307), (false, 0), (0, 0, 0), (0, 0, 0), []) ∧
  pw_fnd pp_L_c4 307 = (.iconst 1, (false, 308), (false, 0), (0, 0, 0), (0, 0, 0), [(1, (false, 0))]) ∧
  pw_fnd pp_L_c4 308 = (.iadd, (false, 309), (false, 0), (0, 0, 0), (0, 0, 0), []) ∧
  pw_fnd pp_L_c4 309 = (.iaload, (false, 310), (false, 0), (0, 0, 0), (0, 0, 0), []) ∧
  pw_fnd pp_L_c4 310 = (.aload_n 0, (false, 311), (false, 0), (0, 0, 0), (0, 0, 0), []) ∧
  pw_fnd pp_L_c4 311 = (.iload_n 3, (false, 312), (false, 0), (0, 0, 0), (0, 0, 0), []) ∧
  pw_fnd pp_L_c4 312 = (.iconst 2, (false, 313), (false, 0), (0, 0, 0), (0, 0, 0), [(2, (false, 0))]) ∧
  pw_fnd pp_L_c4 313 = (.iadd, (false, 314), (false, 0), (0, 0, 0), (0, 0, 0), []) ∧
  pw_fnd pp_L_c4 314 = (.iaload, (false, 315), (false, 0), (0, 0, 0), (0, 0, 0), []) ∧
  pw_fnd pp_L_c4 315 = (.invokevirtual 32, (false, 318), (false, 3), (109, 3, 1), (0, 0, 271), []) ∧
  pw_fnd pp_L_c4 318 = (.aload_n 2, (false, 319), (false, 0), (0, 0, 0), (0, 0, 0), []) ∧
  pw_fnd pp_L_c4 319 = (.aload_n 0, (false, 320), (false, 0), (0, 0, 0), (0, 0, 0), []) ∧
  pw_fnd pp_L_c4 320 = (.iload_n 3, (false, 321), (false, 0), (0, 0, 0), (0, 0, 0), []) ∧
  pw_fnd pp_L_c4 321 = (.iconst 1, (false, 322), (false, 0), (0, 0, 0), (0, 0, 0), [(1, (false, 0))]) ∧
  pw_fnd pp_L_c4 322 = (.iadd, (false, 323), (false, 0), (0, 0, 0), (0, 0, 0), []) ∧
  pw_fnd pp_L_c4 323 = (.iaload, (false, 324), (false, 0), (0, 0, 0), (0, 0, 0), []) ∧
  pw_fnd pp_L_c4 324 = (.aload_n 0, (false, 325), (false, 0), (0, 0, 0), (0, 0, 0), []) ∧
  pw_fnd pp_L_c4 325 = (.iload_n 3, (false, 326), (false, 0), (0, 0, 0), (0, 0, 0), []) ∧
  pw_fnd pp_L_c4 326 = (.iconst 2, (false, 327), (false, 0), (0, 0, 0), (0, 0, 0), [(2, (false, 0))]) ∧
  pw_fnd pp_L_c4 327 = (.iadd, (false, 328), (false, 0), (0, 0, 0), (0, 0, 0), []) ∧
  pw_fnd pp_L_c4 328 = (.iaload, (false, 329), (false, 0), (0, 0, 0), (0, 0, 0), []) ∧
  pw_fnd pp_L_c4 329 = (.invokevirtual 36, (false, 332), (false, 4), (107, 3, 1), (0, 0, 672), []) ∧
  pw_fnd pp_L_c4 332 = (.if_icmp .eq 551, (false, 335), (true, 883), (0, 0, 0), (0, 0, 0), []) ∧
  pw_fnd pp_L_c4 335 = (.iconst 0, (false, 336), (false, 0), (0, 0, 0), (0, 0, 0), [(0, (false, 0))]) ∧
  pw_fnd pp_L_c4 336 = (.ireturn, (true, 337), (false, 0), (0, 0, 2), (0, 0, 0), []) :=
  ⟨rfl, rfl, rfl, rfl, rfl, rfl, rfl, rfl, rfl, rfl, rfl, rfl, rfl, rfl, rfl, rfl, rfl, rfl, rfl, rfl, rfl, rfl, rfl, rfl, rfl, rfl, rfl⟩
set_option maxRecDepth 100000 in
theorem pk_L_c4 : pp_L_c4.all (fun q => pw_chk pw_jt pm_L_law q.1 q.2) = true := by decide +kernel
def pp_L_c5 : List (Nat × pw_E) := [(337, (.aload_n 1, (false, 338), (false, 0), (0, 0, 0), (0, 0, 0), [])),
  (338, (.aload_n 0, (false, 339), (false, 0), (0, 0, 0), (0, 0, 0), [])),
  (339, (.iload_n 3, (false, 340), (false, 0), (0, 0, 0), (0, 0, 0), [])),
  (340, (.iconst 1, (false, 341), (false, 0), (0, 0, 0), (0, 0, 0), [(1, (false, 0))])),
  (341, (.iadd, (false, 342), (false, 0), (0, 0, 0), (0, 0, 0), [])),
  (342, (.iaload, (false, 343), (false, 0), (0, 0, 0), (0, 0, 0), [])),
  (343, (.aload_n 0, (false, 344), (false, 0), (0, 0, 0), (0, 0, 0), [])),
  (344, (.iload_n 3, (false, 345), (false, 0), (0, 0, 0), (0, 0, 0), [])),
  (345, (.iconst 2, (false, 346), (false, 0), (0, 0, 0), (0, 0, 0), [(2, (false, 0))])),
  (346, (.iadd, (false, 347), (false, 0), (0, 0, 0), (0, 0, 0), [])),
  (347, (.iaload, (false, 348), (false, 0), (0, 0, 0), (0, 0, 0), [])),
  (348, (.invokevirtual 37, (false, 351), (false, 3), (95, 3, 1), (0, 0, 336), [])),
  (351, (.aload_n 2, (false, 352), (false, 0), (0, 0, 0), (0, 0, 0), [])),
  (352, (.aload_n 0, (false, 353), (false, 0), (0, 0, 0), (0, 0, 0), [])),
  (353, (.iload_n 3, (false, 354), (false, 0), (0, 0, 0), (0, 0, 0), [])),
  (354, (.iconst 1, (false, 355), (false, 0), (0, 0, 0), (0, 0, 0), [(1, (false, 0))])),
  (355, (.iadd, (false, 356), (false, 0), (0, 0, 0), (0, 0, 0), [])),
  (356, (.iaload, (false, 357), (false, 0), (0, 0, 0), (0, 0, 0), [])),
  (357, (.aload_n 0, (false, 358), (false, 0), (0, 0, 0), (0, 0, 0), [])),
  (358, (.iload_n 3, (false, 359), (false, 0), (0, 0, 0), (0, 0, 0), [])),
  (359, (.iconst 2, (false, 360), (false, 0), (0, 0, 0), (0, 0, 0), [(2, (false, 0))])),
  (360, (.iadd, (false, 361), (false, 0), (0, 0, 0), (0, 0, 0), [])),
  (361, (.iaload, (false, 362), (false, 0), (0, 0, 0), (0, 0, 0), [])),
  (362, (.invokevirtual 40, (false, 365), (false, 4), (80, 3, 1), (0, 0, 676), [])),
  (365, (.if_icmp .eq 518, (false, 368), (true, 883), (0, 0, 0), (0, 0, 0), [])),
  (368, (.iconst 0, (false, 369), (false, 0), (0, 0, 0), (0, 0, 0), [(0, (false, 0))])),
  (369, (.ireturn, (true, 370), (false, 0), (0, 0, 2), (0, 0, 0), []))]
set_option maxRecDepth 100000 in
theorem pe_L_c5 : pw_fnd pp_L_c5 337 = (.aload_n 1, (false, 338), (false, 0), (0, 0, 0), (0, 0, 0), []) ∧
  pw_fnd pp_L_c5 338 = (.aload_n 0, (false, 339), (false, 0), (0, 0, 0), (0, 0, 0), []) ∧
  pw_fnd pp_L_c5 339 = (.iload_n 3, (false, 340), (false, 0), (0, 0, 0), (0, 0, 0), []) ∧
  pw_fnd pp_L_c5 340 = (.iconst 1, (false, 341), (false, 0), (0, 0, 0), (0, 0, 0), [(1, (false, 0))]) ∧
  pw_fnd pp_L_c5 341 = (.iadd, (false, 342), (false, 0), (0, 0, 0), (0, 0, 0), []) ∧
  pw_fnd pp_L_c5 342 = (.iaload, (false, 343), (false, 0), (0, 0, 0), (0, 0, 0), []) ∧
  pw_fnd pp_L_c5 343 = (.aload_n 0, (false, 344), (false, 0), (0, 0, 0), (0, 0, 0), []) ∧
  pw_fnd pp_L_c5 344 = (.iload_n 3, (false, 345), (false, 0), (0, 0, 0), (0, 0, 0), []) ∧
  pw_fnd pp_L_c5 345 = (.iconst 2, (false, 346), (false, 0), (0, 0, 0), (0, 0, 0), [(2, (false, 0))]) ∧
  pw_fnd pp_L_c5 346 = (.iadd, (false, 347), (false, 0), (0, 0, 0), (0, 0, 0), []) ∧
  pw_fnd pp_L_c5 347 = (.iaload, (false, 348), (false, 0), (0, 0, 0), (0, 0, 0), []) ∧
  pw_fnd pp_L_c5 348 = (.invokevirtual 37, (false, 351), (false, 3), (95, 3, 1), (0, 0, 336), []) ∧
  pw_fnd pp_L_c5 351 = (.aload_n 2, (false, 352), (false, 0), (0, 0, 0), (0, 0, 0), []) ∧
  pw_fnd pp_L_c5 352 = (.aload_n 0, (false, 353), (false, 0), (0, 0, 0), (0, 0, 0), []) ∧
  pw_fnd pp_L_c5 353 = (.iload_n 3, (false, 354), (false, 0), (0, 0, 0), (0, 0, 0), []) ∧
  pw_fnd pp_L_c5 354 = (.iconst 1, (false, 355), (false, 0), (0, 0, 0), (0, 0, 0), [(1, (false, 0))]) ∧
  pw_fnd pp_L_c5 355 = (.iadd, (false, 356), (false, 0), (0, 0, 0), (0, 0, 0), []) ∧
  pw_fnd pp_L_c5 356 = (.iaload, (false, 357), (false, 0), (0, 0, 0), (0, 0, 0), []) ∧
  pw_fnd pp_L_c5 357 = (.aload_n 0, (false, 358), (false, 0), (0, 0, 0), (0, 0, 0), []) ∧
  pw_fnd pp_L_c5 358 = (.iload_n 3, (false, 359), (false, 0), (0, 0, 0), (0, 0, 0), []) ∧
  pw_fnd pp_L_c5 359 = (.iconst 2, (false, 360), (false, 0), (0, 0, 0), (0, 0, 0), [(2, (false, 0))]) ∧
  pw_fnd pp_L_c5 360 = (.iadd, (false, 361), (false, 0), (0, 0, 0), (0, 0, 0), []) ∧
  pw_fnd pp_L_c5 361 = (.iaload, (false, 362), (false, 0), (0, 0, 0), (0, 0, 0), []) ∧
  pw_fnd pp_L_c5 362 = (.invokevirtual 40, (false, 365), (false, 4), (80, 3, 1), (0, 0, 676), []) ∧
  pw_fnd pp_L_c5 365 = (.if_icmp .eq 518, (false, 368), (true, 883), (0, 0, 0), (0, 0, 0), []) ∧
  pw_fnd pp_L_c5 368 = (.iconst 0, (false, 369), (false, 0), (0, 0, 0), (0, 0, 0), [(0, (false, 0))]) ∧
  pw_fnd pp_L_c5 369 = (.ireturn, (true, 370), (false, 0), (0, 0, 2), (0, 0, 0), []) :=
  ⟨rfl, rfl, rfl, rfl, rfl, rfl, rfl, rfl, rfl, rfl, rfl, rfl, rfl, rfl, rfl, rfl, rfl, rfl, rfl, rfl, rfl, rfl, rfl, rfl, rfl, rfl, rfl⟩
set_option maxRecDepth 100000 in
theorem pk_L_c5 : pp_L_c5.all (fun q => pw_chk pw_jt pm_L_law q.1 q.2) = true := by decide +kernel
def pp_L_c6 : List (Nat × pw_E) := [(370, (.aload_n 1, (false, 371), (false, 0), (0, 0, 0), (0, 0, 0), [])),
  (371, (.aload_n 0, (false, 372), (false, 0), (0, 0, 0), (0, 0, 0), [])),
  (372, (.iload_n 3, (false, 373), (false, 0), (0, 0, 0), (0, 0, 0), [])),
  (373, (.iconst 1, (false, 374), (false, 0), (0, 0, 0), (0, 0, 0), [(1, (false, 0))])),
  (374, (.iadd, (false, 375), (false, 0), (0, 0, 0), (0, 0, 0), [])),
  (375, (.iaload, (false, 376), (false, 0), (0, 0, 0), (0, 0, 0), [])),
  (376, (.aload_n 0, (false, 377), (false, 0), (0, 0, 0), (0, 0, 0), [])),
  (377, (.iload_n 3, (false, 378), (false, 0), (0, 0, 0), (0, 0, 0), [])),
  (378, (.iconst 2, (false, 379), (false, 0), (0, 0, 0), (0, 0, 0), [(2, (false, 0))])),
  (379, (.iadd, (false, 380), (false, 0), (0, 0, 0), (0, 0, 0), [])),
  (380, (.iaload, (false, 381), (false, 0), (0, 0, 0), (0, 0, 0), [])),
  (381, (.invokevirtual 41, (false, 384), (false, 3), (96, 3, 1), (0, 0, 349), [])),
  (384, (.aload_n 2, (false, 385), (false, 0), (0, 0, 0), (0, 0, 0), [])),
  (385, (.aload_n 0, (false, 386), (false, 0), (0, 0, 0), (0, 0, 0), [])),
  (386, (.iload_n 3, (false, 387), (false, 0), (0, 0, 0), (0, 0, 0), [])),
  (387, (.iconst 1, (false, 388), (false, 0), (0, 0, 0), (0, 0, 0), [(1, (false, 0))])),
  (388, (.iadd, (false, 389), (false, 0), (0, 0, 0), (0, 0, 0), [])),
  (389, (.iaload, (false, 390), (false, 0), (0, 0, 0), (0, 0, 0), [])),
  (390, (.aload_n 0, (false, 391), (false, 0), (0, 0, 0), (0, 0, 0), [])),
  (391, (.iload_n 3, (false, 392), (false, 0), (0, 0, 0), (0, 0, 0), [])),
  (392, (.iconst 2, (false, 393), (false, 0), (0, 0, 0), (0, 0, 0), [(2, (false, 0))])),
  (393, (.iadd, (false, 394), (false, 0), (0, 0, 0), (0, 0, 0), [])),
  (394, (.iaload, (false, 395), (false, 0), (0, 0, 0), (0, 0, 0), [])),
  (395, (.invokevirtual 44, (false, 398), (false, 4), (81, 3, 1), (0, 0, 684), [])),
  (398, (.if_icmp .eq 485, (false, 401), (true, 883), (0, 0, 0), (0, 0, 0), [])),
  (401, (.iconst 0, (false, 402), (false, 0), (0, 0, 0), (0, 0, 0), [(0, (false, 0))])),
  (402, (.ireturn, (true, 403), (false, 0), (0, 0, 2), (0, 0, 0), []))]
set_option maxRecDepth 100000 in
theorem pe_L_c6 : pw_fnd pp_L_c6 370 = (.aload_n 1, (false, 371), (false, 0), (0, 0, 0), (0, 0, 0), []) ∧
  pw_fnd pp_L_c6 371 = (.aload_n 0, (false, 372), (false, 0), (0, 0, 0), (0, 0, 0), []) ∧
  pw_fnd pp_L_c6 372 = (.iload_n 3, (false, 373), (false, 0), (0, 0, 0), (0, 0, 0), []) ∧
  pw_fnd pp_L_c6 373 = (.iconst 1, (false, 374), (false, 0), (0, 0, 0), (0, 0, 0), [(1, (false, 0))]) ∧
  pw_fnd pp_L_c6 374 = (.iadd, (false, 375), (false, 0), (0, 0, 0), (0, 0, 0), []) ∧
  pw_fnd pp_L_c6 375 = (.iaload, (false, 376), (false, 0), (0, 0, 0), (0, 0, 0), []) ∧
  pw_fnd pp_L_c6 376 = (.aload_n 0, (false, 377), (false, 0), (0, 0, 0), (0, 0, 0), []) ∧
  pw_fnd pp_L_c6 377 = (.iload_n 3, (false, 378), (false, 0), (0, 0, 0), (0, 0, 0), []) ∧
  pw_fnd pp_L_c6 378 = (.iconst 2, (false, 379), (false, 0), (0, 0, 0), (0, 0, 0), [(2, (false, 0))]) ∧
  pw_fnd pp_L_c6 379 = (.iadd, (false, 380), (false, 0), (0, 0, 0), (0, 0, 0), []) ∧
  pw_fnd pp_L_c6 380 = (.iaload, (false, 381), (false, 0), (0, 0, 0), (0, 0, 0), []) ∧
  pw_fnd pp_L_c6 381 = (.invokevirtual 41, (false, 384), (false, 3), (96, 3, 1), (0, 0, 349), []) ∧
  pw_fnd pp_L_c6 384 = (.aload_n 2, (false, 385), (false, 0), (0, 0, 0), (0, 0, 0), []) ∧
  pw_fnd pp_L_c6 385 = (.aload_n 0, (false, 386), (false, 0), (0, 0, 0), (0, 0, 0), []) ∧
  pw_fnd pp_L_c6 386 = (.iload_n 3, (false, 387), (false, 0), (0, 0, 0), (0, 0, 0), []) ∧
  pw_fnd pp_L_c6 387 = (.iconst 1, (false, 388), (false, 0), (0, 0, 0), (0, 0, 0), [(1, (false, 0))]) ∧
  pw_fnd pp_L_c6 388 = (.iadd, (false, 389), (false, 0), (0, 0, 0), (0, 0, 0), []) ∧
  pw_fnd pp_L_c6 389 = (.iaload, (false, 390), (false, 0), (0, 0, 0), (0, 0, 0), []) ∧
  pw_fnd pp_L_c6 390 = (.aload_n 0, (false, 391), (false, 0), (0, 0, 0), (0, 0, 0), []) ∧
  pw_fnd pp_L_c6 391 = (.iload_n 3, (false, 392), (false, 0), (0, 0, 0), (0, 0, 0), []) ∧
  pw_fnd pp_L_c6 392 = (.iconst 2, (false, 393), (false, 0), (0, 0, 0), (0, 0, 0), [(2, (false, 0))]) ∧
  pw_fnd pp_L_c6 393 = (.iadd, (false, 394), (false, 0), (0, 0, 0), (0, 0, 0), []) ∧
  pw_fnd pp_L_c6 394 = (.iaload, (false, 395), (false, 0), (0, 0, 0), (0, 0, 0), []) ∧
  pw_fnd pp_L_c6 395 = (.invokevirtual 44, (false, 398), (false, 4), (81, 3, 1), (0, 0, 684), []) ∧
  pw_fnd pp_L_c6 398 = (.if_icmp .eq 485, (false, 401), (true, 883), (0, 0, 0), (0, 0, 0), []) ∧
  pw_fnd pp_L_c6 401 = (.iconst 0, (false, 402), (false, 0), (0, 0, 0), (0, 0, 0), [(0, (false, 0))]) ∧
  pw_fnd pp_L_c6 402 = (.ireturn, (true, 403), (false, 0), (0, 0, 2), (0, 0, 0), []) :=
  ⟨rfl, rfl, rfl, rfl, rfl, rfl, rfl, rfl, rfl, rfl, rfl, rfl, rfl, rfl, rfl, rfl, rfl, rfl, rfl, rfl, rfl, rfl, rfl, rfl, rfl, rfl, rfl⟩
set_option maxRecDepth 100000 in
theorem pk_L_c6 : pp_L_c6.all (fun q => pw_chk pw_jt pm_L_law q.1 q.2) = true := by decide +kernel
