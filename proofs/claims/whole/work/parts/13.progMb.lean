def pp_M_leave : List (Nat × pw_E) := [(0, (.aload_n 0, (false, 1), (false, 0), (0, 0, 0), (0, 0, 0), [])),
  (1, (.iload_n 1, (false, 2), (false, 0), (0, 0, 0), (0, 0, 0), [])),
  (2, (.invokevirtual 111, (false, 5), (false, 4), (55, 2, 1), (0, 0, 644), [])),
  (5, (.ifCond .ne 9, (false, 8), (false, 14), (0, 0, 0), (0, 0, 0), [])),
  (8, (.aload_n 0, (false, 9), (false, 0), (0, 0, 0), (0, 0, 0), [])),
  (9, (.iconst (-1), (false, 10), (false, 0), (0, 0, 0), (0, 0, 0), [((-1), (false, 0))])),
  (10, (.invokevirtual 94, (false, 13), (false, 4), (20, 2, 1), (0, 0, 613), [])),
  (13, (.ireturn, (false, 14), (false, 0), (0, 0, 0), (0, 0, 0), [])),
  (14, (.aload_n 0, (false, 15), (false, 0), (0, 0, 0), (0, 0, 0), [])),
  (15, (.getfield 47, (false, 18), (false, 0), (4, 16, 1), (0, 0, 533), [])),
  (18, (.iload_n 1, (false, 19), (false, 0), (0, 0, 0), (0, 0, 0), [])),
  (19, (.iaload, (false, 20), (false, 0), (0, 0, 0), (0, 0, 0), [])),
  (20, (.iconst 1, (false, 21), (false, 0), (0, 0, 0), (0, 0, 0), [(1, (false, 0))])),
  (21, (.if_icmp .eq 20, (false, 24), (false, 41), (0, 0, 0), (0, 0, 0), [])),
  (24, (.aload_n 0, (false, 25), (false, 0), (0, 0, 0), (0, 0, 0), [])),
  (25, (.getfield 47, (false, 28), (false, 0), (4, 16, 1), (0, 0, 533), [])),
  (28, (.iload_n 1, (false, 29), (false, 0), (0, 0, 0), (0, 0, 0), [])),
  (29, (.iaload, (false, 30), (false, 0), (0, 0, 0), (0, 0, 0), [])),
  (30, (.iconst 2, (false, 31), (false, 0), (0, 0, 0), (0, 0, 0), [(2, (false, 0))])),
  (31, (.if_icmp .eq 10, (false, 34), (false, 41), (0, 0, 0), (0, 0, 0), [])),
  (34, (.aload_n 0, (false, 35), (false, 0), (0, 0, 0), (0, 0, 0), [])),
  (35, (.bipush (-2), (false, 37), (false, 0), (0, 0, 0), (0, 0, 0), [((-2), (false, 0))])),
  (37, (.invokevirtual 94, (false, 40), (false, 4), (20, 2, 1), (0, 0, 613), [])),
  (40, (.ireturn, (false, 41), (false, 0), (0, 0, 0), (0, 0, 0), [])),
  (41, (.aload_n 0, (false, 42), (false, 0), (0, 0, 0), (0, 0, 0), [])),
  (42, (.getfield 50, (false, 45), (false, 0), (4, 17, 1), (0, 0, 534), [])),
  (45, (.iload_n 1, (false, 46), (false, 0), (0, 0, 0), (0, 0, 0), [])),
  (46, (.iaload, (false, 47), (false, 0), (0, 0, 0), (0, 0, 0), [])),
  (47, (.istore_n 2, (false, 48), (false, 0), (0, 0, 0), (0, 0, 0), [])),
  (48, (.aload_n 0, (false, 49), (false, 0), (0, 0, 0), (0, 0, 0), [])),
  (49, (.getfield 47, (false, 52), (false, 0), (4, 16, 1), (0, 0, 533), [])),
  (52, (.iload_n 1, (false, 53), (false, 0), (0, 0, 0), (0, 0, 0), [])),
  (53, (.iconst 0, (false, 54), (false, 0), (0, 0, 0), (0, 0, 0), [(0, (false, 0))])),
  (54, (.iastore, (false, 55), (false, 0), (0, 0, 0), (0, 0, 0), [])),
  (55, (.aload_n 0, (false, 56), (false, 0), (0, 0, 0), (0, 0, 0), [])),
  (56, (.getfield 50, (false, 59), (false, 0), (4, 17, 1), (0, 0, 534), [])),
  (59, (.iload_n 1, (false, 60), (false, 0), (0, 0, 0), (0, 0, 0), [])),
  (60, (.bipush (-9), (false, 62), (false, 0), (0, 0, 0), (0, 0, 0), [((-9), (false, 0))])),
  (62, (.iastore, (false, 63), (false, 0), (0, 0, 0), (0, 0, 0), [])),
  (63, (.iload_n 2, (false, 64), (false, 0), (0, 0, 0), (0, 0, 0), [])),
  (64, (.ireturn, (false, 65), (false, 0), (0, 0, 0), (0, 0, 0), []))]
set_option maxRecDepth 100000 in
theorem pe_M_leave : pw_fnd pp_M_leave 0 = (.aload_n 0, (false, 1), (false, 0), (0, 0, 0), (0, 0, 0), []) ∧
  pw_fnd pp_M_leave 1 = (.iload_n 1, (false, 2), (false, 0), (0, 0, 0), (0, 0, 0), []) ∧
  pw_fnd pp_M_leave 2 = (.invokevirtual 111, (false, 5), (false, 4), (55, 2, 1), (0, 0, 644), []) ∧
  pw_fnd pp_M_leave 5 = (.ifCond .ne 9, (false, 8), (false, 14), (0, 0, 0), (0, 0, 0), []) ∧
  pw_fnd pp_M_leave 8 = (.aload_n 0, (false, 9), (false, 0), (0, 0, 0), (0, 0, 0), []) ∧
  pw_fnd pp_M_leave 9 = (.iconst (-1), (false, 10), (false, 0), (0, 0, 0), (0, 0, 0), [((-1), (false, 0))]) ∧
  pw_fnd pp_M_leave 10 = (.invokevirtual 94, (false, 13), (false, 4), (20, 2, 1), (0, 0, 613), []) ∧
  pw_fnd pp_M_leave 13 = (.ireturn, (false, 14), (false, 0), (0, 0, 0), (0, 0, 0), []) ∧
  pw_fnd pp_M_leave 14 = (.aload_n 0, (false, 15), (false, 0), (0, 0, 0), (0, 0, 0), []) ∧
  pw_fnd pp_M_leave 15 = (.getfield 47, (false, 18), (false, 0), (4, 16, 1), (0, 0, 533), []) ∧
  pw_fnd pp_M_leave 18 = (.iload_n 1, (false, 19), (false, 0), (0, 0, 0), (0, 0, 0), []) ∧
  pw_fnd pp_M_leave 19 = (.iaload, (false, 20), (false, 0), (0, 0, 0), (0, 0, 0), []) ∧
  pw_fnd pp_M_leave 20 = (.iconst 1, (false, 21), (false, 0), (0, 0, 0), (0, 0, 0), [(1, (false, 0))]) ∧
  pw_fnd pp_M_leave 21 = (.if_icmp .eq 20, (false, 24), (false, 41), (0, 0, 0), (0, 0, 0), []) ∧
  pw_fnd pp_M_leave 24 = (.aload_n 0, (false, 25), (false, 0), (0, 0, 0), (0, 0, 0), []) ∧
  pw_fnd pp_M_leave 25 = (.getfield 47, (false, 28), (false, 0), (4, 16, 1), (0, 0, 533), []) ∧
  pw_fnd pp_M_leave 28 = (.iload_n 1, (false, 29), (false, 0), (0, 0, 0), (0, 0, 0), []) ∧
  pw_fnd pp_M_leave 29 = (.iaload, (false, 30), (false, 0), (0, 0, 0), (0, 0, 0), []) ∧
  pw_fnd pp_M_leave 30 = (.iconst 2, (false, 31), (false, 0), (0, 0, 0), (0, 0, 0), [(2, (false, 0))]) ∧
  pw_fnd pp_M_leave 31 = (.if_icmp .eq 10, (false, 34), (false, 41), (0, 0, 0), (0, 0, 0), []) ∧
  pw_fnd pp_M_leave 34 = (.aload_n 0, (false, 35), (false, 0), (0, 0, 0), (0, 0, 0), []) ∧
  pw_fnd pp_M_leave 35 = (.bipush (-2), (false, 37), (false, 0), (0, 0, 0), (0, 0, 0), [((-2), (false, 0))]) ∧
  pw_fnd pp_M_leave 37 = (.invokevirtual 94, (false, 40), (false, 4), (20, 2, 1), (0, 0, 613), []) ∧
  pw_fnd pp_M_leave 40 = (.ireturn, (false, 41), (false, 0), (0, 0, 0), (0, 0, 0), []) ∧
  pw_fnd pp_M_leave 41 = (.aload_n 0, (false, 42), (false, 0), (0, 0, 0), (0, 0, 0), []) ∧
  pw_fnd pp_M_leave 42 = (.getfield 50, (false, 45), (false, 0), (4, 17, 1), (0, 0, 534), []) ∧
  pw_fnd pp_M_leave 45 = (.iload_n 1, (false, 46), (false, 0), (0, 0, 0), (0, 0, 0), []) ∧
  pw_fnd pp_M_leave 46 = (.iaload, (false, 47), (false, 0), (0, 0, 0), (0, 0, 0), []) ∧
  pw_fnd pp_M_leave 47 = (.istore_n 2, (false, 48), (false, 0), (0, 0, 0), (0, 0, 0), []) ∧
  pw_fnd pp_M_leave 48 = (.aload_n 0, (false, 49), (false, 0), (0, 0, 0), (0, 0, 0), []) ∧
  pw_fnd pp_M_leave 49 = (.getfield 47, (false, 52), (false, 0), (4, 16, 1), (0, 0, 533), []) ∧
  pw_fnd pp_M_leave 52 = (.iload_n 1, (false, 53), (false, 0), (0, 0, 0), (0, 0, 0), []) ∧
  pw_fnd pp_M_leave 53 = (.iconst 0, (false, 54), (false, 0), (0, 0, 0), (0, 0, 0), [(0, (false, 0))]) ∧
  pw_fnd pp_M_leave 54 = (.iastore, (false, 55), (false, 0), (0, 0, 0), (0, 0, 0), []) ∧
  pw_fnd pp_M_leave 55 = (.aload_n 0, (false, 56), (false, 0), (0, 0, 0), (0, 0, 0), []) ∧
  pw_fnd pp_M_leave 56 = (.getfield 50, (false, 59), (false, 0), (4, 17, 1), (0, 0, 534), []) ∧
  pw_fnd pp_M_leave 59 = (.iload_n 1, (false, 60), (false, 0), (0, 0, 0), (0, 0, 0), []) ∧
  pw_fnd pp_M_leave 60 = (.bipush (-9), (false, 62), (false, 0), (0, 0, 0), (0, 0, 0), [((-9), (false, 0))]) ∧
  pw_fnd pp_M_leave 62 = (.iastore, (false, 63), (false, 0), (0, 0, 0), (0, 0, 0), []) ∧
  pw_fnd pp_M_leave 63 = (.iload_n 2, (false, 64), (false, 0), (0, 0, 0), (0, 0, 0), []) ∧
  pw_fnd pp_M_leave 64 = (.ireturn, (false, 65), (false, 0), (0, 0, 0), (0, 0, 0), []) :=
  ⟨rfl, rfl, rfl, rfl, rfl, rfl, rfl, rfl, rfl, rfl, rfl, rfl, rfl, rfl, rfl, rfl, rfl, rfl, rfl, rfl, rfl, rfl, rfl, rfl, rfl, rfl, rfl, rfl, rfl, rfl, rfl, rfl, rfl, rfl, rfl, rfl, rfl, rfl, rfl, rfl, rfl⟩
set_option maxRecDepth 100000 in
theorem pk_M_leave : pp_M_leave.all (fun q => pw_chk pw_jt pm_M_leave q.1 q.2) = true := by decide +kernel
def pp_M_go : List (Nat × pw_E) := [(0, (.aload_n 0, (false, 1), (false, 0), (0, 0, 0), (0, 0, 0), [])),
  (1, (.iload_n 1, (false, 2), (false, 0), (0, 0, 0), (0, 0, 0), [])),
  (2, (.invokevirtual 111, (false, 5), (false, 4), (55, 2, 1), (0, 0, 644), [])),
  (5, (.ifCond .ne 9, (false, 8), (false, 14), (0, 0, 0), (0, 0, 0), [])),
  (8, (.aload_n 0, (false, 9), (false, 0), (0, 0, 0), (0, 0, 0), [])),
  (9, (.iconst (-1), (false, 10), (false, 0), (0, 0, 0), (0, 0, 0), [((-1), (false, 0))])),
  (10, (.invokevirtual 94, (false, 13), (false, 4), (20, 2, 1), (0, 0, 613), [])),
  (13, (.ireturn, (false, 14), (false, 0), (0, 0, 0), (0, 0, 0), [])),
  (14, (.aload_n 0, (false, 15), (false, 0), (0, 0, 0), (0, 0, 0), [])),
  (15, (.getfield 47, (false, 18), (false, 0), (4, 16, 1), (0, 0, 533), [])),
  (18, (.iload_n 1, (false, 19), (false, 0), (0, 0, 0), (0, 0, 0), [])),
  (19, (.iaload, (false, 20), (false, 0), (0, 0, 0), (0, 0, 0), [])),
  (20, (.ifCond .eq 10, (false, 23), (false, 30), (0, 0, 0), (0, 0, 0), [])),
  (23, (.aload_n 0, (false, 24), (false, 0), (0, 0, 0), (0, 0, 0), [])),
  (24, (.bipush (-2), (false, 26), (false, 0), (0, 0, 0), (0, 0, 0), [((-2), (false, 0))])),
  (26, (.invokevirtual 94, (false, 29), (false, 4), (20, 2, 1), (0, 0, 613), [])),
  (29, (.ireturn, (false, 30), (false, 0), (0, 0, 0), (0, 0, 0), [])),
  (30, (.aload_n 0, (false, 31), (false, 0), (0, 0, 0), (0, 0, 0), [])),
  (31, (.getfield 59, (false, 34), (false, 0), (4, 21, 1), (0, 0, 538), [])),
  (34, (.iload_n 1, (false, 35), (false, 0), (0, 0, 0), (0, 0, 0), [])),
  (35, (.iaload, (false, 36), (false, 0), (0, 0, 0), (0, 0, 0), [])),
  (36, (.istore_n 2, (false, 37), (false, 0), (0, 0, 0), (0, 0, 0), [])),
  (37, (.iconst 2, (false, 38), (false, 0), (0, 0, 0), (0, 0, 0), [(2, (false, 0))])),
  (38, (.iload_n 1, (false, 39), (false, 0), (0, 0, 0), (0, 0, 0), [])),
  (39, (.imul, (false, 40), (false, 0), (0, 0, 0), (0, 0, 0), [])),
  (40, (.istore_n 3, (true, 41), (false, 0), (0, 0, 0), (0, 0, 0), [])),
  (41, (.iload_n 3, (false, 42), (false, 0), (0, 0, 0), (0, 0, 0), [])),
  (42, (.iconst 2, (false, 43), (false, 0), (0, 0, 0), (0, 0, 0), [(2, (false, 0))])),
  (43, (.iload_n 1, (false, 44), (false, 0), (0, 0, 0), (0, 0, 0), [])),
  (44, (.imul, (false, 45), (false, 0), (0, 0, 0), (0, 0, 0), [])),
  (45, (.iload_n 2, (false, 46), (false, 0), (0, 0, 0), (0, 0, 0), [])),
  (46, (.iadd, (false, 47), (false, 0), (0, 0, 0), (0, 0, 0), [])),
  (47, (.if_icmp .ge 40, (false, 50), (false, 87), (0, 0, 0), (0, 0, 0), [])),
  (50, (.aload_n 0, (false, 51), (false, 0), (0, 0, 0), (0, 0, 0), [])),
  (51, (.getfield 41, (false, 54), (false, 0), (4, 13, 1), (0, 0, 530), [])),
  (54, (.sipush 1100, (false, 57), (false, 0), (0, 0, 0), (0, 0, 0), [(1100, (false, 0))])),
  (57, (.aload_n 0, (false, 58), (false, 0), (0, 0, 0), (0, 0, 0), [])),
  (58, (.getfield 62, (false, 61), (false, 0), (4, 22, 1), (0, 0, 539), [])),
  (61, (.iload_n 3, (false, 62), (false, 0), (0, 0, 0), (0, 0, 0), [])),
  (62, (.iaload, (false, 63), (false, 0), (0, 0, 0), (0, 0, 0), [])),
  (63, (.imul, (false, 64), (false, 0), (0, 0, 0), (0, 0, 0), [])),
  (64, (.aload_n 0, (false, 65), (false, 0), (0, 0, 0), (0, 0, 0), [])),
  (65, (.getfield 65, (false, 68), (false, 0), (4, 23, 1), (0, 0, 540), [])),
  (68, (.iload_n 3, (false, 69), (false, 0), (0, 0, 0), (0, 0, 0), [])),
  (69, (.iaload, (false, 70), (false, 0), (0, 0, 0), (0, 0, 0), [])),
  (70, (.iadd, (false, 71), (false, 0), (0, 0, 0), (0, 0, 0), [])),
  (71, (.dup2, (false, 72), (false, 0), (0, 0, 0), (0, 0, 0), [])),
  (72, (.iaload, (false, 73), (false, 0), (0, 0, 0), (0, 0, 0), [])),
  (73, (.aload_n 0, (false, 74), (false, 0), (0, 0, 0), (0, 0, 0), [])),
  (74, (.getfield 44, (false, 77), (false, 0), (4, 15, 1), (0, 0, 532), [])),
  (77, (.iload_n 1, (false, 78), (false, 0), (0, 0, 0), (0, 0, 0), [])),
  (78, (.iaload, (false, 79), (false, 0), (0, 0, 0), (0, 0, 0), [])),
  (79, (.isub, (false, 80), (false, 0), (0, 0, 0), (0, 0, 0), [])),
  (80, (.iastore, (false, 81), (false, 0), (0, 0, 0), (0, 0, 0), [])),
  (81, (.iinc 3 1, (false, 84), (false, 0), (0, 0, 0), (0, 0, 0), [(1, (false, 0))])),
  (84, (.goto (-43), (false, 87), (true, 41), (0, 0, 0), (0, 0, 0), [])),
  (87, (.aload_n 0, (false, 88), (false, 0), (0, 0, 0), (0, 0, 0), [])),
  (88, (.getfield 59, (false, 91), (false, 0), (4, 21, 1), (0, 0, 538), [])),
  (91, (.iload_n 1, (false, 92), (false, 0), (0, 0, 0), (0, 0, 0), [])),
  (92, (.iconst 0, (false, 93), (false, 0), (0, 0, 0), (0, 0, 0), [(0, (false, 0))])),
  (93, (.iastore, (false, 94), (false, 0), (0, 0, 0), (0, 0, 0), [])),
  (94, (.aload_n 0, (false, 95), (false, 0), (0, 0, 0), (0, 0, 0), [])),
  (95, (.getfield 47, (false, 98), (false, 0), (4, 16, 1), (0, 0, 533), [])),
  (98, (.iload_n 1, (false, 99), (false, 0), (0, 0, 0), (0, 0, 0), [])),
  (99, (.iconst 4, (false, 100), (false, 0), (0, 0, 0), (0, 0, 0), [(4, (false, 0))])),
  (100, (.iastore, (false, 101), (false, 0), (0, 0, 0), (0, 0, 0), [])),
  (101, (.iload_n 2, (false, 102), (false, 0), (0, 0, 0), (0, 0, 0), [])),
  (102, (.ireturn, (false, 103), (false, 0), (0, 0, 0), (0, 0, 0), []))]
set_option maxRecDepth 100000 in
theorem pe_M_go : pw_fnd pp_M_go 0 = (.aload_n 0, (false, 1), (false, 0), (0, 0, 0), (0, 0, 0), []) ∧
  pw_fnd pp_M_go 1 = (.iload_n 1, (false, 2), (false, 0), (0, 0, 0), (0, 0, 0), []) ∧
  pw_fnd pp_M_go 2 = (.invokevirtual 111, (false, 5), (false, 4), (55, 2, 1), (0, 0, 644), []) ∧
  pw_fnd pp_M_go 5 = (.ifCond .ne 9, (false, 8), (false, 14), (0, 0, 0), (0, 0, 0), []) ∧
  pw_fnd pp_M_go 8 = (.aload_n 0, (false, 9), (false, 0), (0, 0, 0), (0, 0, 0), []) ∧
  pw_fnd pp_M_go 9 = (.iconst (-1), (false, 10), (false, 0), (0, 0, 0), (0, 0, 0), [((-1), (false, 0))]) ∧
  pw_fnd pp_M_go 10 = (.invokevirtual 94, (false, 13), (false, 4), (20, 2, 1), (0, 0, 613), []) ∧
  pw_fnd pp_M_go 13 = (.ireturn, (false, 14), (false, 0), (0, 0, 0), (0, 0, 0), []) ∧
  pw_fnd pp_M_go 14 = (.aload_n 0, (false, 15), (false, 0), (0, 0, 0), (0, 0, 0), []) ∧
  pw_fnd pp_M_go 15 = (.getfield 47, (false, 18), (false, 0), (4, 16, 1), (0, 0, 533), []) ∧
  pw_fnd pp_M_go 18 = (.iload_n 1, (false, 19), (false, 0), (0, 0, 0), (0, 0, 0), []) ∧
  pw_fnd pp_M_go 19 = (.iaload, (false, 20), (false, 0), (0, 0, 0), (0, 0, 0), []) ∧
  pw_fnd pp_M_go 20 = (.ifCond .eq 10, (false, 23), (false, 30), (0, 0, 0), (0, 0, 0), []) ∧
  pw_fnd pp_M_go 23 = (.aload_n 0, (false, 24), (false, 0), (0, 0, 0), (0, 0, 0), []) ∧
  pw_fnd pp_M_go 24 = (.bipush (-2), (false, 26), (false, 0), (0, 0, 0), (0, 0, 0), [((-2), (false, 0))]) ∧
  pw_fnd pp_M_go 26 = (.invokevirtual 94, (false, 29), (false, 4), (20, 2, 1), (0, 0, 613), []) ∧
  pw_fnd pp_M_go 29 = (.ireturn, (false, 30), (false, 0), (0, 0, 0), (0, 0, 0), []) ∧
  pw_fnd pp_M_go 30 = (.aload_n 0, (false, 31), (false, 0), (0, 0, 0), (0, 0, 0), []) ∧
  pw_fnd pp_M_go 31 = (.getfield 59, (false, 34), (false, 0), (4, 21, 1), (0, 0, 538), []) ∧
  pw_fnd pp_M_go 34 = (.iload_n 1, (false, 35), (false, 0), (0, 0, 0), (0, 0, 0), []) ∧
  pw_fnd pp_M_go 35 = (.iaload, (false, 36), (false, 0), (0, 0, 0), (0, 0, 0), []) ∧
  pw_fnd pp_M_go 36 = (.istore_n 2, (false, 37), (false, 0), (0, 0, 0), (0, 0, 0), []) ∧
  pw_fnd pp_M_go 37 = (.iconst 2, (false, 38), (false, 0), (0, 0, 0), (0, 0, 0), [(2, (false, 0))]) ∧
  pw_fnd pp_M_go 38 = (.iload_n 1, (false, 39), (false, 0), (0, 0, 0), (0, 0, 0), []) ∧
  pw_fnd pp_M_go 39 = (.imul, (false, 40), (false, 0), (0, 0, 0), (0, 0, 0), []) ∧
  pw_fnd pp_M_go 40 = (.istore_n 3, (true, 41), (false, 0), (0, 0, 0), (0, 0, 0), []) ∧
  pw_fnd pp_M_go 41 = (.iload_n 3, (false, 42), (false, 0), (0, 0, 0), (0, 0, 0), []) ∧
  pw_fnd pp_M_go 42 = (.iconst 2, (false, 43), (false, 0), (0, 0, 0), (0, 0, 0), [(2, (false, 0))]) ∧
  pw_fnd pp_M_go 43 = (.iload_n 1, (false, 44), (false, 0), (0, 0, 0), (0, 0, 0), []) ∧
  pw_fnd pp_M_go 44 = (.imul, (false, 45), (false, 0), (0, 0, 0), (0, 0, 0), []) ∧
  pw_fnd pp_M_go 45 = (.iload_n 2, (false, 46), (false, 0), (0, 0, 0), (0, 0, 0), []) ∧
  pw_fnd pp_M_go 46 = (.iadd, (false, 47), (false, 0), (0, 0, 0), (0, 0, 0), []) ∧
  pw_fnd pp_M_go 47 = (.if_icmp .ge 40, (false, 50), (false, 87), (0, 0, 0), (0, 0, 0), []) ∧
  pw_fnd pp_M_go 50 = (.aload_n 0, (false, 51), (false, 0), (0, 0, 0), (0, 0, 0), []) ∧
  pw_fnd pp_M_go 51 = (.getfield 41, (false, 54), (false, 0), (4, 13, 1), (0, 0, 530), []) ∧
  pw_fnd pp_M_go 54 = (.sipush 1100, (false, 57), (false, 0), (0, 0, 0), (0, 0, 0), [(1100, (false, 0))]) ∧
  pw_fnd pp_M_go 57 = (.aload_n 0, (false, 58), (false, 0), (0, 0, 0), (0, 0, 0), []) ∧
  pw_fnd pp_M_go 58 = (.getfield 62, (false, 61), (false, 0), (4, 22, 1), (0, 0, 539), []) ∧
  pw_fnd pp_M_go 61 = (.iload_n 3, (false, 62), (false, 0), (0, 0, 0), (0, 0, 0), []) ∧
  pw_fnd pp_M_go 62 = (.iaload, (false, 63), (false, 0), (0, 0, 0), (0, 0, 0), []) ∧
  pw_fnd pp_M_go 63 = (.imul, (false, 64), (false, 0), (0, 0, 0), (0, 0, 0), []) ∧
  pw_fnd pp_M_go 64 = (.aload_n 0, (false, 65), (false, 0), (0, 0, 0), (0, 0, 0), []) ∧
  pw_fnd pp_M_go 65 = (.getfield 65, (false, 68), (false, 0), (4, 23, 1), (0, 0, 540), []) ∧
  pw_fnd pp_M_go 68 = (.iload_n 3, (false, 69), (false, 0), (0, 0, 0), (0, 0, 0), []) ∧
  pw_fnd pp_M_go 69 = (.iaload, (false, 70), (false, 0), (0, 0, 0), (0, 0, 0), []) ∧
  pw_fnd pp_M_go 70 = (.iadd, (false, 71), (false, 0), (0, 0, 0), (0, 0, 0), []) ∧
  pw_fnd pp_M_go 71 = (.dup2, (false, 72), (false, 0), (0, 0, 0), (0, 0, 0), []) ∧
  pw_fnd pp_M_go 72 = (.iaload, (false, 73), (false, 0), (0, 0, 0), (0, 0, 0), []) ∧
  pw_fnd pp_M_go 73 = (.aload_n 0, (false, 74), (false, 0), (0, 0, 0), (0, 0, 0), []) ∧
  pw_fnd pp_M_go 74 = (.getfield 44, (false, 77), (false, 0), (4, 15, 1), (0, 0, 532), []) ∧
  pw_fnd pp_M_go 77 = (.iload_n 1, (false, 78), (false, 0), (0, 0, 0), (0, 0, 0), []) ∧
  pw_fnd pp_M_go 78 = (.iaload, (false, 79), (false, 0), (0, 0, 0), (0, 0, 0), []) ∧
  pw_fnd pp_M_go 79 = (.isub, (false, 80), (false, 0), (0, 0, 0), (0, 0, 0), []) ∧
  pw_fnd pp_M_go 80 = (.iastore, (false, 81), (false, 0), (0, 0, 0), (0, 0, 0), []) ∧
  pw_fnd pp_M_go 81 = (.iinc 3 1, (false, 84), (false, 0), (0, 0, 0), (0, 0, 0), [(1, (false, 0))]) ∧
  pw_fnd pp_M_go 84 = (.goto (-43), (false, 87), (true, 41), (0, 0, 0), (0, 0, 0), []) ∧
  pw_fnd pp_M_go 87 = (.aload_n 0, (false, 88), (false, 0), (0, 0, 0), (0, 0, 0), []) ∧
  pw_fnd pp_M_go 88 = (.getfield 59, (false, 91), (false, 0), (4, 21, 1), (0, 0, 538), []) ∧
  pw_fnd pp_M_go 91 = (.iload_n 1, (false, 92), (false, 0), (0, 0, 0), (0, 0, 0), []) ∧
  pw_fnd pp_M_go 92 = (.iconst 0, (false, 93), (false, 0), (0, 0, 0), (0, 0, 0), [(0, (false, 0))]) ∧
  pw_fnd pp_M_go 93 = (.iastore, (false, 94), (false, 0), (0, 0, 0), (0, 0, 0), []) ∧
  pw_fnd pp_M_go 94 = (.aload_n 0, (false, 95), (false, 0), (0, 0, 0), (0, 0, 0), []) ∧
  pw_fnd pp_M_go 95 = (.getfield 47, (false, 98), (false, 0), (4, 16, 1), (0, 0, 533), []) ∧
  pw_fnd pp_M_go 98 = (.iload_n 1, (false, 99), (false, 0), (0, 0, 0), (0, 0, 0), []) ∧
  pw_fnd pp_M_go 99 = (.iconst 4, (false, 100), (false, 0), (0, 0, 0), (0, 0, 0), [(4, (false, 0))]) ∧
  pw_fnd pp_M_go 100 = (.iastore, (false, 101), (false, 0), (0, 0, 0), (0, 0, 0), []) ∧
  pw_fnd pp_M_go 101 = (.iload_n 2, (false, 102), (false, 0), (0, 0, 0), (0, 0, 0), []) ∧
  pw_fnd pp_M_go 102 = (.ireturn, (false, 103), (false, 0), (0, 0, 0), (0, 0, 0), []) :=
  ⟨rfl, rfl, rfl, rfl, rfl, rfl, rfl, rfl, rfl, rfl, rfl, rfl, rfl, rfl, rfl, rfl, rfl, rfl, rfl, rfl, rfl, rfl, rfl, rfl, rfl, rfl, rfl, rfl, rfl, rfl, rfl, rfl, rfl, rfl, rfl, rfl, rfl, rfl, rfl, rfl, rfl, rfl, rfl, rfl, rfl, rfl, rfl, rfl, rfl, rfl, rfl, rfl, rfl, rfl, rfl, rfl, rfl, rfl, rfl, rfl, rfl, rfl, rfl, rfl, rfl, rfl, rfl, rfl⟩
set_option maxRecDepth 100000 in
theorem pk_M_go : pp_M_go.all (fun q => pw_chk pw_jt pm_M_go q.1 q.2) = true := by decide +kernel
def pp_M_stop : List (Nat × pw_E) := [(0, (.aload_n 0, (false, 1), (false, 0), (0, 0, 0), (0, 0, 0), [])),
  (1, (.iload_n 1, (false, 2), (false, 0), (0, 0, 0), (0, 0, 0), [])),
  (2, (.invokevirtual 98, (false, 5), (false, 4), (54, 2, 1), (0, 0, 625), [])),
  (5, (.ifCond .eq 13, (false, 8), (false, 18), (0, 0, 0), (0, 0, 0), [])),
  (8, (.aload_n 0, (false, 9), (false, 0), (0, 0, 0), (0, 0, 0), [])),
  (9, (.getfield 25, (false, 12), (false, 0), (4, 8, 1), (0, 0, 525), [])),
  (12, (.iload_n 1, (false, 13), (false, 0), (0, 0, 0), (0, 0, 0), [])),
  (13, (.baload, (false, 14), (false, 0), (0, 0, 0), (0, 0, 0), [])),
  (14, (.iload_n 2, (false, 15), (false, 0), (0, 0, 0), (0, 0, 0), [])),
  (15, (.if_icmp .ne 5, (false, 18), (false, 20), (0, 0, 0), (0, 0, 0), [])),
  (18, (.iconst 0, (false, 19), (false, 0), (0, 0, 0), (0, 0, 0), [(0, (false, 0))])),
  (19, (.ireturn, (false, 20), (false, 0), (0, 0, 2), (0, 0, 0), [])),
  (20, (.aload_n 0, (false, 21), (false, 0), (0, 0, 0), (0, 0, 0), [])),
  (21, (.getfield 25, (false, 24), (false, 0), (4, 8, 1), (0, 0, 525), [])),
  (24, (.iload_n 1, (false, 25), (false, 0), (0, 0, 0), (0, 0, 0), [])),
  (25, (.iload_n 2, (false, 26), (false, 0), (0, 0, 0), (0, 0, 0), [])),
  (26, (.bastore, (false, 27), (false, 0), (0, 0, 0), (0, 0, 0), [])),
  (27, (.iconst 1, (false, 28), (false, 0), (0, 0, 0), (0, 0, 0), [(1, (false, 0))])),
  (28, (.ireturn, (false, 29), (false, 0), (0, 0, 2), (0, 0, 0), []))]
set_option maxRecDepth 100000 in
theorem pe_M_stop : pw_fnd pp_M_stop 0 = (.aload_n 0, (false, 1), (false, 0), (0, 0, 0), (0, 0, 0), []) ∧
  pw_fnd pp_M_stop 1 = (.iload_n 1, (false, 2), (false, 0), (0, 0, 0), (0, 0, 0), []) ∧
  pw_fnd pp_M_stop 2 = (.invokevirtual 98, (false, 5), (false, 4), (54, 2, 1), (0, 0, 625), []) ∧
  pw_fnd pp_M_stop 5 = (.ifCond .eq 13, (false, 8), (false, 18), (0, 0, 0), (0, 0, 0), []) ∧
  pw_fnd pp_M_stop 8 = (.aload_n 0, (false, 9), (false, 0), (0, 0, 0), (0, 0, 0), []) ∧
  pw_fnd pp_M_stop 9 = (.getfield 25, (false, 12), (false, 0), (4, 8, 1), (0, 0, 525), []) ∧
  pw_fnd pp_M_stop 12 = (.iload_n 1, (false, 13), (false, 0), (0, 0, 0), (0, 0, 0), []) ∧
  pw_fnd pp_M_stop 13 = (.baload, (false, 14), (false, 0), (0, 0, 0), (0, 0, 0), []) ∧
  pw_fnd pp_M_stop 14 = (.iload_n 2, (false, 15), (false, 0), (0, 0, 0), (0, 0, 0), []) ∧
  pw_fnd pp_M_stop 15 = (.if_icmp .ne 5, (false, 18), (false, 20), (0, 0, 0), (0, 0, 0), []) ∧
  pw_fnd pp_M_stop 18 = (.iconst 0, (false, 19), (false, 0), (0, 0, 0), (0, 0, 0), [(0, (false, 0))]) ∧
  pw_fnd pp_M_stop 19 = (.ireturn, (false, 20), (false, 0), (0, 0, 2), (0, 0, 0), []) ∧
  pw_fnd pp_M_stop 20 = (.aload_n 0, (false, 21), (false, 0), (0, 0, 0), (0, 0, 0), []) ∧
  pw_fnd pp_M_stop 21 = (.getfield 25, (false, 24), (false, 0), (4, 8, 1), (0, 0, 525), []) ∧
  pw_fnd pp_M_stop 24 = (.iload_n 1, (false, 25), (false, 0), (0, 0, 0), (0, 0, 0), []) ∧
  pw_fnd pp_M_stop 25 = (.iload_n 2, (false, 26), (false, 0), (0, 0, 0), (0, 0, 0), []) ∧
  pw_fnd pp_M_stop 26 = (.bastore, (false, 27), (false, 0), (0, 0, 0), (0, 0, 0), []) ∧
  pw_fnd pp_M_stop 27 = (.iconst 1, (false, 28), (false, 0), (0, 0, 0), (0, 0, 0), [(1, (false, 0))]) ∧
  pw_fnd pp_M_stop 28 = (.ireturn, (false, 29), (false, 0), (0, 0, 2), (0, 0, 0), []) :=
  ⟨rfl, rfl, rfl, rfl, rfl, rfl, rfl, rfl, rfl, rfl, rfl, rfl, rfl, rfl, rfl, rfl, rfl, rfl, rfl⟩
set_option maxRecDepth 100000 in
theorem pk_M_stop : pp_M_stop.all (fun q => pw_chk pw_jt pm_M_stop q.1 q.2) = true := by decide +kernel
def pp_M_begin : List (Nat × pw_E) := [(0, (.aload_n 0, (false, 1), (false, 0), (0, 0, 0), (0, 0, 0), [])),
  (1, (.aload_n 0, (false, 2), (false, 0), (0, 0, 0), (0, 0, 0), [])),
  (2, (.getfield 7, (false, 5), (false, 0), (4, 3, 1), (0, 0, 520), [])),
  (5, (.iload_n 1, (false, 6), (false, 0), (0, 0, 0), (0, 0, 0), [])),
  (6, (.iaload, (false, 7), (false, 0), (0, 0, 0), (0, 0, 0), [])),
  (7, (.putfield 148, (false, 10), (false, 0), (4, 29, 0), (0, 0, 546), [])),
  (10, (.aload_n 0, (false, 11), (false, 0), (0, 0, 0), (0, 0, 0), [])),
  (11, (.iload_n 1, (false, 12), (false, 0), (0, 0, 0), (0, 0, 0), [])),
  (12, (.iconst 2, (false, 13), (false, 0), (0, 0, 0), (0, 0, 0), [(2, (false, 0))])),
  (13, (.aload_n 0, (false, 14), (false, 0), (0, 0, 0), (0, 0, 0), [])),
  (14, (.getfield 16, (false, 17), (false, 0), (4, 5, 1), (0, 0, 522), [])),
  (17, (.iload_n 1, (false, 18), (false, 0), (0, 0, 0), (0, 0, 0), [])),
  (18, (.iaload, (false, 19), (false, 0), (0, 0, 0), (0, 0, 0), [])),
  (19, (.invokevirtual 159, (false, 22), (false, 4), (60, 4, 1), (0, 0, 732), [])),
  (22, (.istore_n 2, (false, 23), (false, 0), (0, 0, 0), (0, 0, 0), [])),
  (23, (.aload_n 0, (false, 24), (false, 0), (0, 0, 0), (0, 0, 0), [])),
  (24, (.iload_n 1, (false, 25), (false, 0), (0, 0, 0), (0, 0, 0), [])),
  (25, (.iconst 1, (false, 26), (false, 0), (0, 0, 0), (0, 0, 0), [(1, (false, 0))])),
  (26, (.aload_n 0, (false, 27), (false, 0), (0, 0, 0), (0, 0, 0), [])),
  (27, (.getfield 148, (false, 30), (false, 0), (4, 29, 0), (0, 0, 546), [])),
  (30, (.invokevirtual 159, (false, 33), (false, 4), (60, 4, 1), (0, 0, 732), [])),
  (33, (.istore_n 2, (false, 34), (false, 0), (0, 0, 0), (0, 0, 0), [])),
  (34, (.aload_n 0, (false, 35), (false, 0), (0, 0, 0), (0, 0, 0), [])),
  (35, (.iload_n 1, (false, 36), (false, 0), (0, 0, 0), (0, 0, 0), [])),
  (36, (.iconst 2, (false, 37), (false, 0), (0, 0, 0), (0, 0, 0), [(2, (false, 0))])),
  (37, (.aload_n 0, (false, 38), (false, 0), (0, 0, 0), (0, 0, 0), [])),
  (38, (.getfield 148, (false, 41), (false, 0), (4, 29, 0), (0, 0, 546), [])),
  (41, (.invokevirtual 159, (false, 44), (false, 4), (60, 4, 1), (0, 0, 732), [])),
  (44, (.istore_n 2, (false, 45), (false, 0), (0, 0, 0), (0, 0, 0), [])),
  (45, (.aload_n 0, (false, 46), (false, 0), (0, 0, 0), (0, 0, 0), [])),
  (46, (.getfield 22, (false, 49), (false, 0), (4, 7, 1), (0, 0, 524), [])),
  (49, (.iload_n 1, (false, 50), (false, 0), (0, 0, 0), (0, 0, 0), [])),
  (50, (.iaload, (false, 51), (false, 0), (0, 0, 0), (0, 0, 0), [])),
  (51, (.iconst 1, (false, 52), (false, 0), (0, 0, 0), (0, 0, 0), [(1, (false, 0))])),
  (52, (.if_icmp .ne 13, (false, 55), (false, 65), (0, 0, 0), (0, 0, 0), [])),
  (55, (.aload_n 0, (false, 56), (false, 0), (0, 0, 0), (0, 0, 0), [])),
  (56, (.iload_n 1, (false, 57), (false, 0), (0, 0, 0), (0, 0, 0), [])),
  (57, (.iconst 1, (false, 58), (false, 0), (0, 0, 0), (0, 0, 0), [(1, (false, 0))])),
  (58, (.iconst 0, (false, 59), (false, 0), (0, 0, 0), (0, 0, 0), [(0, (false, 0))])),
  (59, (.invokevirtual 151, (false, 62), (false, 4), (26, 4, 1), (0, 0, 736), [])),
  (62, (.goto 4, (false, 65), (false, 66), (0, 0, 0), (0, 0, 0), [])),
  (65, (.iconst (-1), (false, 66), (false, 0), (0, 0, 0), (0, 0, 0), [((-1), (false, 0))])),
  (66, (.istore_n 3, (true, 67), (false, 0), (0, 0, 0), (0, 0, 0), [])),
  (67, (.iload_n 3, (false, 68), (false, 0), (0, 0, 0), (0, 0, 0), [])),
  (68, (.ifCond .lt 45, (false, 71), (false, 113), (0, 0, 0), (0, 0, 0), [])),
  (71, (.aload_n 0, (false, 72), (false, 0), (0, 0, 0), (0, 0, 0), [])),
  (72, (.getfield 148, (false, 75), (false, 0), (4, 29, 0), (0, 0, 546), [])),
  (75, (.ifCond .le 38, (false, 78), (false, 113), (0, 0, 0), (0, 0, 0), [])),
  (78, (.aload_n 0, (false, 79), (false, 0), (0, 0, 0), (0, 0, 0), [])),
  (79, (.iload_n 1, (false, 80), (false, 0), (0, 0, 0), (0, 0, 0), [])),
  (80, (.iconst 1, (false, 81), (false, 0), (0, 0, 0), (0, 0, 0), [(1, (false, 0))])),
  (81, (.aload_n 0, (false, 82), (false, 0), (0, 0, 0), (0, 0, 0), [])),
  (82, (.getfield 53, (false, 85), (false, 0), (4, 18, 1), (0, 0, 535), [])),
  (85, (.iload_n 3, (false, 86), (false, 0), (0, 0, 0), (0, 0, 0), [])),
  (86, (.iaload, (false, 87), (false, 0), (0, 0, 0), (0, 0, 0), [])),
  (87, (.invokevirtual 151, (false, 90), (false, 4), (26, 4, 1), (0, 0, 736), [])),
  (90, (.istore 4, (false, 92), (false, 0), (0, 0, 0), (0, 0, 0), [])),
  (92, (.aload_n 0, (false, 93), (false, 0), (0, 0, 0), (0, 0, 0), [])),
  (93, (.getfield 44, (false, 96), (false, 0), (4, 15, 1), (0, 0, 532), [])),
  (96, (.iload_n 3, (false, 97), (false, 0), (0, 0, 0), (0, 0, 0), [])),
  (97, (.iaload, (false, 98), (false, 0), (0, 0, 0), (0, 0, 0), [])),
  (98, (.iconst 1, (false, 99), (false, 0), (0, 0, 0), (0, 0, 0), [(1, (false, 0))])),
  (99, (.if_icmp .ne 8, (false, 102), (false, 107), (0, 0, 0), (0, 0, 0), [])),
  (102, (.aload_n 0, (false, 103), (false, 0), (0, 0, 0), (0, 0, 0), [])),
  (103, (.iload_n 3, (false, 104), (false, 0), (0, 0, 0), (0, 0, 0), [])),
  (104, (.invokevirtual 155, (false, 107), (false, 4), (29, 2, 0), (0, 0, 740), [])),
  (107, (.iload 4, (false, 109), (false, 0), (0, 0, 0), (0, 0, 0), [])),
  (109, (.istore_n 3, (false, 110), (false, 0), (0, 0, 0), (0, 0, 0), [])),
  (110, (.goto (-43), (false, 113), (true, 67), (0, 0, 0), (0, 0, 0), [])),
  (113, (.aload_n 0, (false, 114), (false, 0), (0, 0, 0), (0, 0, 0), [])),
  (114, (.getfield 29, (false, 117), (false, 0), (4, 9, 1), (0, 0, 526), [])),
  (117, (.iload_n 1, (false, 118), (false, 0), (0, 0, 0), (0, 0, 0), [])),
  (118, (.dup2, (false, 119), (false, 0), (0, 0, 0), (0, 0, 0), [])),
  (119, (.iaload, (false, 120), (false, 0), (0, 0, 0), (0, 0, 0), [])),
  (120, (.aload_n 0, (false, 121), (false, 0), (0, 0, 0), (0, 0, 0), [])),
  (121, (.getfield 7, (false, 124), (false, 0), (4, 3, 1), (0, 0, 520), [])),
  (124, (.iload_n 1, (false, 125), (false, 0), (0, 0, 0), (0, 0, 0), [])),
  (125, (.iaload, (false, 126), (false, 0), (0, 0, 0), (0, 0, 0), [])),
  (126, (.aload_n 0, (false, 127), (false, 0), (0, 0, 0), (0, 0, 0), [])),
  (127, (.getfield 148, (false, 130), (false, 0), (4, 29, 0), (0, 0, 546), [])),
  (130, (.isub, (false, 131), (false, 0), (0, 0, 0), (0, 0, 0), [])),
  (131, (.iadd, (false, 132), (false, 0), (0, 0, 0), (0, 0, 0), [])),
  (132, (.iastore, (false, 133), (false, 0), (0, 0, 0), (0, 0, 0), [])),
  (133, (.aload_n 0, (false, 134), (false, 0), (0, 0, 0), (0, 0, 0), [])),
  (134, (.getfield 32, (false, 137), (false, 0), (4, 10, 1), (0, 0, 527), [])),
  (137, (.iload_n 1, (false, 138), (false, 0), (0, 0, 0), (0, 0, 0), [])),
  (138, (.dup2, (false, 139), (false, 0), (0, 0, 0), (0, 0, 0), [])),
  (139, (.iaload, (false, 140), (false, 0), (0, 0, 0), (0, 0, 0), [])),
  (140, (.aload_n 0, (false, 141), (false, 0), (0, 0, 0), (0, 0, 0), [])),
  (141, (.getfield 148, (false, 144), (false, 0), (4, 29, 0), (0, 0, 546), [])),
  (144, (.iadd, (false, 145), (false, 0), (0, 0, 0), (0, 0, 0), [])),
  (145, (.iastore, (false, 146), (false, 0), (0, 0, 0), (0, 0, 0), [])),
  (146, (.aload_n 0, (false, 147), (false, 0), (0, 0, 0), (0, 0, 0), [])),
  (147, (.getfield 35, (false, 150), (false, 0), (4, 11, 1), (0, 0, 528), [])),
  (150, (.iload_n 1, (false, 151), (false, 0), (0, 0, 0), (0, 0, 0), [])),
  (151, (.dup2, (false, 152), (false, 0), (0, 0, 0), (0, 0, 0), [])),
  (152, (.iaload, (false, 153), (false, 0), (0, 0, 0), (0, 0, 0), [])),
  (153, (.iconst 1, (false, 154), (false, 0), (0, 0, 0), (0, 0, 0), [(1, (false, 0))])),
  (154, (.iadd, (false, 155), (false, 0), (0, 0, 0), (0, 0, 0), [])),
  (155, (.iastore, (false, 156), (false, 0), (0, 0, 0), (0, 0, 0), [])),
  (156, (.return_, (false, 157), (false, 0), (0, 0, 0), (0, 0, 0), []))]
set_option maxRecDepth 100000 in
theorem pe_M_begin_0 : pw_fnd pp_M_begin 0 = (.aload_n 0, (false, 1), (false, 0), (0, 0, 0), (0, 0, 0), []) ∧
  pw_fnd pp_M_begin 1 = (.aload_n 0, (false, 2), (false, 0), (0, 0, 0), (0, 0, 0), []) ∧
  pw_fnd pp_M_begin 2 = (.getfield 7, (false, 5), (false, 0), (4, 3, 1), (0, 0, 520), []) ∧
  pw_fnd pp_M_begin 5 = (.iload_n 1, (false, 6), (false, 0), (0, 0, 0), (0, 0, 0), []) ∧
  pw_fnd pp_M_begin 6 = (.iaload, (false, 7), (false, 0), (0, 0, 0), (0, 0, 0), []) ∧
  pw_fnd pp_M_begin 7 = (.putfield 148, (false, 10), (false, 0), (4, 29, 0), (0, 0, 546), []) ∧
  pw_fnd pp_M_begin 10 = (.aload_n 0, (false, 11), (false, 0), (0, 0, 0), (0, 0, 0), []) ∧
  pw_fnd pp_M_begin 11 = (.iload_n 1, (false, 12), (false, 0), (0, 0, 0), (0, 0, 0), []) ∧
  pw_fnd pp_M_begin 12 = (.iconst 2, (false, 13), (false, 0), (0, 0, 0), (0, 0, 0), [(2, (false, 0))]) ∧
  pw_fnd pp_M_begin 13 = (.aload_n 0, (false, 14), (false, 0), (0, 0, 0), (0, 0, 0), []) ∧
  pw_fnd pp_M_begin 14 = (.getfield 16, (false, 17), (false, 0), (4, 5, 1), (0, 0, 522), []) ∧
  pw_fnd pp_M_begin 17 = (.iload_n 1, (false, 18), (false, 0), (0, 0, 0), (0, 0, 0), []) ∧
  pw_fnd pp_M_begin 18 = (.iaload, (false, 19), (false, 0), (0, 0, 0), (0, 0, 0), []) ∧
  pw_fnd pp_M_begin 19 = (.invokevirtual 159, (false, 22), (false, 4), (60, 4, 1), (0, 0, 732), []) ∧
  pw_fnd pp_M_begin 22 = (.istore_n 2, (false, 23), (false, 0), (0, 0, 0), (0, 0, 0), []) ∧
  pw_fnd pp_M_begin 23 = (.aload_n 0, (false, 24), (false, 0), (0, 0, 0), (0, 0, 0), []) ∧
  pw_fnd pp_M_begin 24 = (.iload_n 1, (false, 25), (false, 0), (0, 0, 0), (0, 0, 0), []) ∧
  pw_fnd pp_M_begin 25 = (.iconst 1, (false, 26), (false, 0), (0, 0, 0), (0, 0, 0), [(1, (false, 0))]) ∧
  pw_fnd pp_M_begin 26 = (.aload_n 0, (false, 27), (false, 0), (0, 0, 0), (0, 0, 0), []) ∧
  pw_fnd pp_M_begin 27 = (.getfield 148, (false, 30), (false, 0), (4, 29, 0), (0, 0, 546), []) ∧
  pw_fnd pp_M_begin 30 = (.invokevirtual 159, (false, 33), (false, 4), (60, 4, 1), (0, 0, 732), []) ∧
  pw_fnd pp_M_begin 33 = (.istore_n 2, (false, 34), (false, 0), (0, 0, 0), (0, 0, 0), []) ∧
  pw_fnd pp_M_begin 34 = (.aload_n 0, (false, 35), (false, 0), (0, 0, 0), (0, 0, 0), []) ∧
  pw_fnd pp_M_begin 35 = (.iload_n 1, (false, 36), (false, 0), (0, 0, 0), (0, 0, 0), []) ∧
  pw_fnd pp_M_begin 36 = (.iconst 2, (false, 37), (false, 0), (0, 0, 0), (0, 0, 0), [(2, (false, 0))]) ∧
  pw_fnd pp_M_begin 37 = (.aload_n 0, (false, 38), (false, 0), (0, 0, 0), (0, 0, 0), []) ∧
  pw_fnd pp_M_begin 38 = (.getfield 148, (false, 41), (false, 0), (4, 29, 0), (0, 0, 546), []) ∧
  pw_fnd pp_M_begin 41 = (.invokevirtual 159, (false, 44), (false, 4), (60, 4, 1), (0, 0, 732), []) ∧
  pw_fnd pp_M_begin 44 = (.istore_n 2, (false, 45), (false, 0), (0, 0, 0), (0, 0, 0), []) ∧
  pw_fnd pp_M_begin 45 = (.aload_n 0, (false, 46), (false, 0), (0, 0, 0), (0, 0, 0), []) ∧
  pw_fnd pp_M_begin 46 = (.getfield 22, (false, 49), (false, 0), (4, 7, 1), (0, 0, 524), []) ∧
  pw_fnd pp_M_begin 49 = (.iload_n 1, (false, 50), (false, 0), (0, 0, 0), (0, 0, 0), []) ∧
  pw_fnd pp_M_begin 50 = (.iaload, (false, 51), (false, 0), (0, 0, 0), (0, 0, 0), []) ∧
  pw_fnd pp_M_begin 51 = (.iconst 1, (false, 52), (false, 0), (0, 0, 0), (0, 0, 0), [(1, (false, 0))]) ∧
  pw_fnd pp_M_begin 52 = (.if_icmp .ne 13, (false, 55), (false, 65), (0, 0, 0), (0, 0, 0), []) ∧
  pw_fnd pp_M_begin 55 = (.aload_n 0, (false, 56), (false, 0), (0, 0, 0), (0, 0, 0), []) ∧
  pw_fnd pp_M_begin 56 = (.iload_n 1, (false, 57), (false, 0), (0, 0, 0), (0, 0, 0), []) ∧
  pw_fnd pp_M_begin 57 = (.iconst 1, (false, 58), (false, 0), (0, 0, 0), (0, 0, 0), [(1, (false, 0))]) ∧
  pw_fnd pp_M_begin 58 = (.iconst 0, (false, 59), (false, 0), (0, 0, 0), (0, 0, 0), [(0, (false, 0))]) ∧
  pw_fnd pp_M_begin 59 = (.invokevirtual 151, (false, 62), (false, 4), (26, 4, 1), (0, 0, 736), []) ∧
  pw_fnd pp_M_begin 62 = (.goto 4, (false, 65), (false, 66), (0, 0, 0), (0, 0, 0), []) ∧
  pw_fnd pp_M_begin 65 = (.iconst (-1), (false, 66), (false, 0), (0, 0, 0), (0, 0, 0), [((-1), (false, 0))]) ∧
  pw_fnd pp_M_begin 66 = (.istore_n 3, (true, 67), (false, 0), (0, 0, 0), (0, 0, 0), []) ∧
  pw_fnd pp_M_begin 67 = (.iload_n 3, (false, 68), (false, 0), (0, 0, 0), (0, 0, 0), []) ∧
  pw_fnd pp_M_begin 68 = (.ifCond .lt 45, (false, 71), (false, 113), (0, 0, 0), (0, 0, 0), []) ∧
  pw_fnd pp_M_begin 71 = (.aload_n 0, (false, 72), (false, 0), (0, 0, 0), (0, 0, 0), []) ∧
  pw_fnd pp_M_begin 72 = (.getfield 148, (false, 75), (false, 0), (4, 29, 0), (0, 0, 546), []) ∧
  pw_fnd pp_M_begin 75 = (.ifCond .le 38, (false, 78), (false, 113), (0, 0, 0), (0, 0, 0), []) ∧
  pw_fnd pp_M_begin 78 = (.aload_n 0, (false, 79), (false, 0), (0, 0, 0), (0, 0, 0), []) ∧
  pw_fnd pp_M_begin 79 = (.iload_n 1, (false, 80), (false, 0), (0, 0, 0), (0, 0, 0), []) ∧
  pw_fnd pp_M_begin 80 = (.iconst 1, (false, 81), (false, 0), (0, 0, 0), (0, 0, 0), [(1, (false, 0))]) ∧
  pw_fnd pp_M_begin 81 = (.aload_n 0, (false, 82), (false, 0), (0, 0, 0), (0, 0, 0), []) ∧
  pw_fnd pp_M_begin 82 = (.getfield 53, (false, 85), (false, 0), (4, 18, 1), (0, 0, 535), []) ∧
  pw_fnd pp_M_begin 85 = (.iload_n 3, (false, 86), (false, 0), (0, 0, 0), (0, 0, 0), []) ∧
  pw_fnd pp_M_begin 86 = (.iaload, (false, 87), (false, 0), (0, 0, 0), (0, 0, 0), []) ∧
  pw_fnd pp_M_begin 87 = (.invokevirtual 151, (false, 90), (false, 4), (26, 4, 1), (0, 0, 736), []) ∧
  pw_fnd pp_M_begin 90 = (.istore 4, (false, 92), (false, 0), (0, 0, 0), (0, 0, 0), []) ∧
  pw_fnd pp_M_begin 92 = (.aload_n 0, (false, 93), (false, 0), (0, 0, 0), (0, 0, 0), []) ∧
  pw_fnd pp_M_begin 93 = (.getfield 44, (false, 96), (false, 0), (4, 15, 1), (0, 0, 532), []) ∧
  pw_fnd pp_M_begin 96 = (.iload_n 3, (false, 97), (false, 0), (0, 0, 0), (0, 0, 0), []) ∧
  pw_fnd pp_M_begin 97 = (.iaload, (false, 98), (false, 0), (0, 0, 0), (0, 0, 0), []) ∧
  pw_fnd pp_M_begin 98 = (.iconst 1, (false, 99), (false, 0), (0, 0, 0), (0, 0, 0), [(1, (false, 0))]) ∧
  pw_fnd pp_M_begin 99 = (.if_icmp .ne 8, (false, 102), (false, 107), (0, 0, 0), (0, 0, 0), []) ∧
  pw_fnd pp_M_begin 102 = (.aload_n 0, (false, 103), (false, 0), (0, 0, 0), (0, 0, 0), []) ∧
  pw_fnd pp_M_begin 103 = (.iload_n 3, (false, 104), (false, 0), (0, 0, 0), (0, 0, 0), []) ∧
  pw_fnd pp_M_begin 104 = (.invokevirtual 155, (false, 107), (false, 4), (29, 2, 0), (0, 0, 740), []) ∧
  pw_fnd pp_M_begin 107 = (.iload 4, (false, 109), (false, 0), (0, 0, 0), (0, 0, 0), []) ∧
  pw_fnd pp_M_begin 109 = (.istore_n 3, (false, 110), (false, 0), (0, 0, 0), (0, 0, 0), []) ∧
  pw_fnd pp_M_begin 110 = (.goto (-43), (false, 113), (true, 67), (0, 0, 0), (0, 0, 0), []) ∧
  pw_fnd pp_M_begin 113 = (.aload_n 0, (false, 114), (false, 0), (0, 0, 0), (0, 0, 0), []) ∧
  pw_fnd pp_M_begin 114 = (.getfield 29, (false, 117), (false, 0), (4, 9, 1), (0, 0, 526), []) ∧
  pw_fnd pp_M_begin 117 = (.iload_n 1, (false, 118), (false, 0), (0, 0, 0), (0, 0, 0), []) ∧
  pw_fnd pp_M_begin 118 = (.dup2, (false, 119), (false, 0), (0, 0, 0), (0, 0, 0), []) ∧
  pw_fnd pp_M_begin 119 = (.iaload, (false, 120), (false, 0), (0, 0, 0), (0, 0, 0), []) ∧
  pw_fnd pp_M_begin 120 = (.aload_n 0, (false, 121), (false, 0), (0, 0, 0), (0, 0, 0), []) ∧
  pw_fnd pp_M_begin 121 = (.getfield 7, (false, 124), (false, 0), (4, 3, 1), (0, 0, 520), []) ∧
  pw_fnd pp_M_begin 124 = (.iload_n 1, (false, 125), (false, 0), (0, 0, 0), (0, 0, 0), []) ∧
  pw_fnd pp_M_begin 125 = (.iaload, (false, 126), (false, 0), (0, 0, 0), (0, 0, 0), []) ∧
  pw_fnd pp_M_begin 126 = (.aload_n 0, (false, 127), (false, 0), (0, 0, 0), (0, 0, 0), []) ∧
  pw_fnd pp_M_begin 127 = (.getfield 148, (false, 130), (false, 0), (4, 29, 0), (0, 0, 546), []) ∧
  pw_fnd pp_M_begin 130 = (.isub, (false, 131), (false, 0), (0, 0, 0), (0, 0, 0), []) ∧
  pw_fnd pp_M_begin 131 = (.iadd, (false, 132), (false, 0), (0, 0, 0), (0, 0, 0), []) ∧
  pw_fnd pp_M_begin 132 = (.iastore, (false, 133), (false, 0), (0, 0, 0), (0, 0, 0), []) ∧
  pw_fnd pp_M_begin 133 = (.aload_n 0, (false, 134), (false, 0), (0, 0, 0), (0, 0, 0), []) ∧
  pw_fnd pp_M_begin 134 = (.getfield 32, (false, 137), (false, 0), (4, 10, 1), (0, 0, 527), []) ∧
  pw_fnd pp_M_begin 137 = (.iload_n 1, (false, 138), (false, 0), (0, 0, 0), (0, 0, 0), []) ∧
  pw_fnd pp_M_begin 138 = (.dup2, (false, 139), (false, 0), (0, 0, 0), (0, 0, 0), []) ∧
  pw_fnd pp_M_begin 139 = (.iaload, (false, 140), (false, 0), (0, 0, 0), (0, 0, 0), []) ∧
  pw_fnd pp_M_begin 140 = (.aload_n 0, (false, 141), (false, 0), (0, 0, 0), (0, 0, 0), []) ∧
  pw_fnd pp_M_begin 141 = (.getfield 148, (false, 144), (false, 0), (4, 29, 0), (0, 0, 546), []) ∧
  pw_fnd pp_M_begin 144 = (.iadd, (false, 145), (false, 0), (0, 0, 0), (0, 0, 0), []) ∧
  pw_fnd pp_M_begin 145 = (.iastore, (false, 146), (false, 0), (0, 0, 0), (0, 0, 0), []) ∧
  pw_fnd pp_M_begin 146 = (.aload_n 0, (false, 147), (false, 0), (0, 0, 0), (0, 0, 0), []) ∧
  pw_fnd pp_M_begin 147 = (.getfield 35, (false, 150), (false, 0), (4, 11, 1), (0, 0, 528), []) ∧
  pw_fnd pp_M_begin 150 = (.iload_n 1, (false, 151), (false, 0), (0, 0, 0), (0, 0, 0), []) ∧
  pw_fnd pp_M_begin 151 = (.dup2, (false, 152), (false, 0), (0, 0, 0), (0, 0, 0), []) ∧
  pw_fnd pp_M_begin 152 = (.iaload, (false, 153), (false, 0), (0, 0, 0), (0, 0, 0), []) ∧
  pw_fnd pp_M_begin 153 = (.iconst 1, (false, 154), (false, 0), (0, 0, 0), (0, 0, 0), [(1, (false, 0))]) ∧
  pw_fnd pp_M_begin 154 = (.iadd, (false, 155), (false, 0), (0, 0, 0), (0, 0, 0), []) ∧
  pw_fnd pp_M_begin 155 = (.iastore, (false, 156), (false, 0), (0, 0, 0), (0, 0, 0), []) :=
  ⟨rfl, rfl, rfl, rfl, rfl, rfl, rfl, rfl, rfl, rfl, rfl, rfl, rfl, rfl, rfl, rfl, rfl, rfl, rfl, rfl, rfl, rfl, rfl, rfl, rfl, rfl, rfl, rfl, rfl, rfl, rfl, rfl, rfl, rfl, rfl, rfl, rfl, rfl, rfl, rfl, rfl, rfl, rfl, rfl, rfl, rfl, rfl, rfl, rfl, rfl, rfl, rfl, rfl, rfl, rfl, rfl, rfl, rfl, rfl, rfl, rfl, rfl, rfl, rfl, rfl, rfl, rfl, rfl, rfl, rfl, rfl, rfl, rfl, rfl, rfl, rfl, rfl, rfl, rfl, rfl, rfl, rfl, rfl, rfl, rfl, rfl, rfl, rfl, rfl, rfl, rfl, rfl, rfl, rfl, rfl, rfl, rfl, rfl, rfl, rfl⟩
set_option maxRecDepth 100000 in
theorem pe_M_begin_1 : pw_fnd pp_M_begin 156 = (.return_, (false, 157), (false, 0), (0, 0, 0), (0, 0, 0), []) :=
  rfl
set_option maxRecDepth 100000 in
theorem pk_M_begin : pp_M_begin.all (fun q => pw_chk pw_jt pm_M_begin q.1 q.2) = true := by decide +kernel
def pp_M_move : List (Nat × pw_E) := [(0, (.aload_n 0, (false, 1), (false, 0), (0, 0, 0), (0, 0, 0), [])),
  (1, (.getfield 62, (false, 4), (false, 0), (4, 22, 1), (0, 0, 539), [])),
  (4, (.iconst 2, (false, 5), (false, 0), (0, 0, 0), (0, 0, 0), [(2, (false, 0))])),
  (5, (.iload_n 1, (false, 6), (false, 0), (0, 0, 0), (0, 0, 0), [])),
  (6, (.imul, (false, 7), (false, 0), (0, 0, 0), (0, 0, 0), [])),
  (7, (.iload_n 2, (false, 8), (false, 0), (0, 0, 0), (0, 0, 0), [])),
  (8, (.iadd, (false, 9), (false, 0), (0, 0, 0), (0, 0, 0), [])),
  (9, (.iaload, (false, 10), (false, 0), (0, 0, 0), (0, 0, 0), [])),
  (10, (.istore 4, (false, 12), (false, 0), (0, 0, 0), (0, 0, 0), [])),
  (12, (.aload_n 0, (false, 13), (false, 0), (0, 0, 0), (0, 0, 0), [])),
  (13, (.getfield 41, (false, 16), (false, 0), (4, 13, 1), (0, 0, 530), [])),
  (16, (.sipush 1100, (false, 19), (false, 0), (0, 0, 0), (0, 0, 0), [(1100, (false, 0))])),
  (19, (.iload 4, (false, 21), (false, 0), (0, 0, 0), (0, 0, 0), [])),
  (21, (.imul, (false, 22), (false, 0), (0, 0, 0), (0, 0, 0), [])),
  (22, (.iload_n 3, (false, 23), (false, 0), (0, 0, 0), (0, 0, 0), [])),
  (23, (.iadd, (false, 24), (false, 0), (0, 0, 0), (0, 0, 0), [])),
  (24, (.dup2, (false, 25), (false, 0), (0, 0, 0), (0, 0, 0), [])),
  (25, (.iaload, (false, 26), (false, 0), (0, 0, 0), (0, 0, 0), [])),
  (26, (.aload_n 0, (false, 27), (false, 0), (0, 0, 0), (0, 0, 0), [])),
  (27, (.getfield 44, (false, 30), (false, 0), (4, 15, 1), (0, 0, 532), [])),
  (30, (.iload_n 1, (false, 31), (false, 0), (0, 0, 0), (0, 0, 0), [])),
  (31, (.iaload, (false, 32), (false, 0), (0, 0, 0), (0, 0, 0), [])),
  (32, (.isub, (false, 33), (false, 0), (0, 0, 0), (0, 0, 0), [])),
  (33, (.iastore, (false, 34), (false, 0), (0, 0, 0), (0, 0, 0), [])),
  (34, (.iload_n 3, (false, 35), (false, 0), (0, 0, 0), (0, 0, 0), [])),
  (35, (.iconst 1, (false, 36), (false, 0), (0, 0, 0), (0, 0, 0), [(1, (false, 0))])),
  (36, (.iadd, (false, 37), (false, 0), (0, 0, 0), (0, 0, 0), [])),
  (37, (.istore 5, (true, 39), (false, 0), (0, 0, 0), (0, 0, 0), [])),
  (39, (.iload 5, (false, 41), (false, 0), (0, 0, 0), (0, 0, 0), [])),
  (41, (.iload_n 3, (false, 42), (false, 0), (0, 0, 0), (0, 0, 0), [])),
  (42, (.bipush 40, (false, 44), (false, 0), (0, 0, 0), (0, 0, 0), [(40, (false, 0))])),
  (44, (.iadd, (false, 45), (false, 0), (0, 0, 0), (0, 0, 0), [])),
  (45, (.if_icmp .gt 68, (false, 48), (false, 113), (0, 0, 0), (0, 0, 0), [])),
  (48, (.aload_n 0, (false, 49), (false, 0), (0, 0, 0), (0, 0, 0), [])),
  (49, (.iload_n 1, (false, 50), (false, 0), (0, 0, 0), (0, 0, 0), [])),
  (50, (.iload 4, (false, 52), (false, 0), (0, 0, 0), (0, 0, 0), [])),
  (52, (.iload 5, (false, 54), (false, 0), (0, 0, 0), (0, 0, 0), [])),
  (54, (.invokevirtual 117, (false, 57), (false, 4), (59, 4, 1), (0, 0, 660), [])),
  (57, (.ifCond .eq 50, (false, 60), (false, 107), (0, 0, 0), (0, 0, 0), [])),
  (60, (.aload_n 0, (false, 61), (false, 0), (0, 0, 0), (0, 0, 0), [])),
  (61, (.getfield 41, (false, 64), (false, 0), (4, 13, 1), (0, 0, 530), [])),
  (64, (.sipush 1100, (false, 67), (false, 0), (0, 0, 0), (0, 0, 0), [(1100, (false, 0))])),
  (67, (.iload 4, (false, 69), (false, 0), (0, 0, 0), (0, 0, 0), [])),
  (69, (.imul, (false, 70), (false, 0), (0, 0, 0), (0, 0, 0), [])),
  (70, (.iload 5, (false, 72), (false, 0), (0, 0, 0), (0, 0, 0), [])),
  (72, (.iadd, (false, 73), (false, 0), (0, 0, 0), (0, 0, 0), [])),
  (73, (.dup2, (false, 74), (false, 0), (0, 0, 0), (0, 0, 0), [])),
  (74, (.iaload, (false, 75), (false, 0), (0, 0, 0), (0, 0, 0), [])),
  (75, (.aload_n 0, (false, 76), (false, 0), (0, 0, 0), (0, 0, 0), [])),
  (76, (.getfield 44, (false, 79), (false, 0), (4, 15, 1), (0, 0, 532), [])),
  (79, (.iload_n 1, (false, 80), (false, 0), (0, 0, 0), (0, 0, 0), [])),
  (80, (.iaload, (false, 81), (false, 0), (0, 0, 0), (0, 0, 0), [])),
  (81, (.iadd, (false, 82), (false, 0), (0, 0, 0), (0, 0, 0), [])),
  (82, (.iastore, (false, 83), (false, 0), (0, 0, 0), (0, 0, 0), [])),
  (83, (.aload_n 0, (false, 84), (false, 0), (0, 0, 0), (0, 0, 0), [])),
  (84, (.getfield 65, (false, 87), (false, 0), (4, 23, 1), (0, 0, 540), [])),
  (87, (.iconst 2, (false, 88), (false, 0), (0, 0, 0), (0, 0, 0), [(2, (false, 0))])),
  (88, (.iload_n 1, (false, 89), (false, 0), (0, 0, 0), (0, 0, 0), [])),
  (89, (.imul, (false, 90), (false, 0), (0, 0, 0), (0, 0, 0), [])),
  (90, (.iload_n 2, (false, 91), (false, 0), (0, 0, 0), (0, 0, 0), [])),
  (91, (.iadd, (false, 92), (false, 0), (0, 0, 0), (0, 0, 0), [])),
  (92, (.iload 5, (false, 94), (false, 0), (0, 0, 0), (0, 0, 0), [])),
  (94, (.iastore, (false, 95), (false, 0), (0, 0, 0), (0, 0, 0), [])),
  (95, (.aload_n 0, (false, 96), (false, 0), (0, 0, 0), (0, 0, 0), [])),
  (96, (.getfield 77, (false, 99), (false, 0), (4, 27, 1), (0, 0, 544), [])),
  (99, (.iload_n 1, (false, 100), (false, 0), (0, 0, 0), (0, 0, 0), [])),
  (100, (.dup2, (false, 101), (false, 0), (0, 0, 0), (0, 0, 0), [])),
  (101, (.iaload, (false, 102), (false, 0), (0, 0, 0), (0, 0, 0), [])),
  (102, (.iconst 1, (false, 103), (false, 0), (0, 0, 0), (0, 0, 0), [(1, (false, 0))])),
  (103, (.iadd, (false, 104), (false, 0), (0, 0, 0), (0, 0, 0), [])),
  (104, (.iastore, (false, 105), (false, 0), (0, 0, 0), (0, 0, 0), [])),
  (105, (.iconst 1, (false, 106), (false, 0), (0, 0, 0), (0, 0, 0), [(1, (false, 0))])),
  (106, (.ireturn, (false, 107), (false, 0), (0, 0, 2), (0, 0, 0), [])),
  (107, (.iinc 5 1, (false, 110), (false, 0), (0, 0, 0), (0, 0, 0), [(1, (false, 0))])),
  (110, (.goto (-71), (false, 113), (true, 39), (0, 0, 0), (0, 0, 0), [])),
  (113, (.iconst 0, (false, 114), (false, 0), (0, 0, 0), (0, 0, 0), [(0, (false, 0))])),
  (114, (.ireturn, (false, 115), (false, 0), (0, 0, 2), (0, 0, 0), []))]
set_option maxRecDepth 100000 in
theorem pe_M_move : pw_fnd pp_M_move 0 = (.aload_n 0, (false, 1), (false, 0), (0, 0, 0), (0, 0, 0), []) ∧
  pw_fnd pp_M_move 1 = (.getfield 62, (false, 4), (false, 0), (4, 22, 1), (0, 0, 539), []) ∧
  pw_fnd pp_M_move 4 = (.iconst 2, (false, 5), (false, 0), (0, 0, 0), (0, 0, 0), [(2, (false, 0))]) ∧
  pw_fnd pp_M_move 5 = (.iload_n 1, (false, 6), (false, 0), (0, 0, 0), (0, 0, 0), []) ∧
  pw_fnd pp_M_move 6 = (.imul, (false, 7), (false, 0), (0, 0, 0), (0, 0, 0), []) ∧
  pw_fnd pp_M_move 7 = (.iload_n 2, (false, 8), (false, 0), (0, 0, 0), (0, 0, 0), []) ∧
  pw_fnd pp_M_move 8 = (.iadd, (false, 9), (false, 0), (0, 0, 0), (0, 0, 0), []) ∧
  pw_fnd pp_M_move 9 = (.iaload, (false, 10), (false, 0), (0, 0, 0), (0, 0, 0), []) ∧
  pw_fnd pp_M_move 10 = (.istore 4, (false, 12), (false, 0), (0, 0, 0), (0, 0, 0), []) ∧
  pw_fnd pp_M_move 12 = (.aload_n 0, (false, 13), (false, 0), (0, 0, 0), (0, 0, 0), []) ∧
  pw_fnd pp_M_move 13 = (.getfield 41, (false, 16), (false, 0), (4, 13, 1), (0, 0, 530), []) ∧
  pw_fnd pp_M_move 16 = (.sipush 1100, (false, 19), (false, 0), (0, 0, 0), (0, 0, 0), [(1100, (false, 0))]) ∧
  pw_fnd pp_M_move 19 = (.iload 4, (false, 21), (false, 0), (0, 0, 0), (0, 0, 0), []) ∧
  pw_fnd pp_M_move 21 = (.imul, (false, 22), (false, 0), (0, 0, 0), (0, 0, 0), []) ∧
  pw_fnd pp_M_move 22 = (.iload_n 3, (false, 23), (false, 0), (0, 0, 0), (0, 0, 0), []) ∧
  pw_fnd pp_M_move 23 = (.iadd, (false, 24), (false, 0), (0, 0, 0), (0, 0, 0), []) ∧
  pw_fnd pp_M_move 24 = (.dup2, (false, 25), (false, 0), (0, 0, 0), (0, 0, 0), []) ∧
  pw_fnd pp_M_move 25 = (.iaload, (false, 26), (false, 0), (0, 0, 0), (0, 0, 0), []) ∧
  pw_fnd pp_M_move 26 = (.aload_n 0, (false, 27), (false, 0), (0, 0, 0), (0, 0, 0), []) ∧
  pw_fnd pp_M_move 27 = (.getfield 44, (false, 30), (false, 0), (4, 15, 1), (0, 0, 532), []) ∧
  pw_fnd pp_M_move 30 = (.iload_n 1, (false, 31), (false, 0), (0, 0, 0), (0, 0, 0), []) ∧
  pw_fnd pp_M_move 31 = (.iaload, (false, 32), (false, 0), (0, 0, 0), (0, 0, 0), []) ∧
  pw_fnd pp_M_move 32 = (.isub, (false, 33), (false, 0), (0, 0, 0), (0, 0, 0), []) ∧
  pw_fnd pp_M_move 33 = (.iastore, (false, 34), (false, 0), (0, 0, 0), (0, 0, 0), []) ∧
  pw_fnd pp_M_move 34 = (.iload_n 3, (false, 35), (false, 0), (0, 0, 0), (0, 0, 0), []) ∧
  pw_fnd pp_M_move 35 = (.iconst 1, (false, 36), (false, 0), (0, 0, 0), (0, 0, 0), [(1, (false, 0))]) ∧
  pw_fnd pp_M_move 36 = (.iadd, (false, 37), (false, 0), (0, 0, 0), (0, 0, 0), []) ∧
  pw_fnd pp_M_move 37 = (.istore 5, (true, 39), (false, 0), (0, 0, 0), (0, 0, 0), []) ∧
  pw_fnd pp_M_move 39 = (.iload 5, (false, 41), (false, 0), (0, 0, 0), (0, 0, 0), []) ∧
  pw_fnd pp_M_move 41 = (.iload_n 3, (false, 42), (false, 0), (0, 0, 0), (0, 0, 0), []) ∧
  pw_fnd pp_M_move 42 = (.bipush 40, (false, 44), (false, 0), (0, 0, 0), (0, 0, 0), [(40, (false, 0))]) ∧
  pw_fnd pp_M_move 44 = (.iadd, (false, 45), (false, 0), (0, 0, 0), (0, 0, 0), []) ∧
  pw_fnd pp_M_move 45 = (.if_icmp .gt 68, (false, 48), (false, 113), (0, 0, 0), (0, 0, 0), []) ∧
  pw_fnd pp_M_move 48 = (.aload_n 0, (false, 49), (false, 0), (0, 0, 0), (0, 0, 0), []) ∧
  pw_fnd pp_M_move 49 = (.iload_n 1, (false, 50), (false, 0), (0, 0, 0), (0, 0, 0), []) ∧
  pw_fnd pp_M_move 50 = (.iload 4, (false, 52), (false, 0), (0, 0, 0), (0, 0, 0), []) ∧
  pw_fnd pp_M_move 52 = (.iload 5, (false, 54), (false, 0), (0, 0, 0), (0, 0, 0), []) ∧
  pw_fnd pp_M_move 54 = (.invokevirtual 117, (false, 57), (false, 4), (59, 4, 1), (0, 0, 660), []) ∧
  pw_fnd pp_M_move 57 = (.ifCond .eq 50, (false, 60), (false, 107), (0, 0, 0), (0, 0, 0), []) ∧
  pw_fnd pp_M_move 60 = (.aload_n 0, (false, 61), (false, 0), (0, 0, 0), (0, 0, 0), []) ∧
  pw_fnd pp_M_move 61 = (.getfield 41, (false, 64), (false, 0), (4, 13, 1), (0, 0, 530), []) ∧
  pw_fnd pp_M_move 64 = (.sipush 1100, (false, 67), (false, 0), (0, 0, 0), (0, 0, 0), [(1100, (false, 0))]) ∧
  pw_fnd pp_M_move 67 = (.iload 4, (false, 69), (false, 0), (0, 0, 0), (0, 0, 0), []) ∧
  pw_fnd pp_M_move 69 = (.imul, (false, 70), (false, 0), (0, 0, 0), (0, 0, 0), []) ∧
  pw_fnd pp_M_move 70 = (.iload 5, (false, 72), (false, 0), (0, 0, 0), (0, 0, 0), []) ∧
  pw_fnd pp_M_move 72 = (.iadd, (false, 73), (false, 0), (0, 0, 0), (0, 0, 0), []) ∧
  pw_fnd pp_M_move 73 = (.dup2, (false, 74), (false, 0), (0, 0, 0), (0, 0, 0), []) ∧
  pw_fnd pp_M_move 74 = (.iaload, (false, 75), (false, 0), (0, 0, 0), (0, 0, 0), []) ∧
  pw_fnd pp_M_move 75 = (.aload_n 0, (false, 76), (false, 0), (0, 0, 0), (0, 0, 0), []) ∧
  pw_fnd pp_M_move 76 = (.getfield 44, (false, 79), (false, 0), (4, 15, 1), (0, 0, 532), []) ∧
  pw_fnd pp_M_move 79 = (.iload_n 1, (false, 80), (false, 0), (0, 0, 0), (0, 0, 0), []) ∧
  pw_fnd pp_M_move 80 = (.iaload, (false, 81), (false, 0), (0, 0, 0), (0, 0, 0), []) ∧
  pw_fnd pp_M_move 81 = (.iadd, (false, 82), (false, 0), (0, 0, 0), (0, 0, 0), []) ∧
  pw_fnd pp_M_move 82 = (.iastore, (false, 83), (false, 0), (0, 0, 0), (0, 0, 0), []) ∧
  pw_fnd pp_M_move 83 = (.aload_n 0, (false, 84), (false, 0), (0, 0, 0), (0, 0, 0), []) ∧
  pw_fnd pp_M_move 84 = (.getfield 65, (false, 87), (false, 0), (4, 23, 1), (0, 0, 540), []) ∧
  pw_fnd pp_M_move 87 = (.iconst 2, (false, 88), (false, 0), (0, 0, 0), (0, 0, 0), [(2, (false, 0))]) ∧
  pw_fnd pp_M_move 88 = (.iload_n 1, (false, 89), (false, 0), (0, 0, 0), (0, 0, 0), []) ∧
  pw_fnd pp_M_move 89 = (.imul, (false, 90), (false, 0), (0, 0, 0), (0, 0, 0), []) ∧
  pw_fnd pp_M_move 90 = (.iload_n 2, (false, 91), (false, 0), (0, 0, 0), (0, 0, 0), []) ∧
  pw_fnd pp_M_move 91 = (.iadd, (false, 92), (false, 0), (0, 0, 0), (0, 0, 0), []) ∧
  pw_fnd pp_M_move 92 = (.iload 5, (false, 94), (false, 0), (0, 0, 0), (0, 0, 0), []) ∧
  pw_fnd pp_M_move 94 = (.iastore, (false, 95), (false, 0), (0, 0, 0), (0, 0, 0), []) ∧
  pw_fnd pp_M_move 95 = (.aload_n 0, (false, 96), (false, 0), (0, 0, 0), (0, 0, 0), []) ∧
  pw_fnd pp_M_move 96 = (.getfield 77, (false, 99), (false, 0), (4, 27, 1), (0, 0, 544), []) ∧
  pw_fnd pp_M_move 99 = (.iload_n 1, (false, 100), (false, 0), (0, 0, 0), (0, 0, 0), []) ∧
  pw_fnd pp_M_move 100 = (.dup2, (false, 101), (false, 0), (0, 0, 0), (0, 0, 0), []) ∧
  pw_fnd pp_M_move 101 = (.iaload, (false, 102), (false, 0), (0, 0, 0), (0, 0, 0), []) ∧
  pw_fnd pp_M_move 102 = (.iconst 1, (false, 103), (false, 0), (0, 0, 0), (0, 0, 0), [(1, (false, 0))]) ∧
  pw_fnd pp_M_move 103 = (.iadd, (false, 104), (false, 0), (0, 0, 0), (0, 0, 0), []) ∧
  pw_fnd pp_M_move 104 = (.iastore, (false, 105), (false, 0), (0, 0, 0), (0, 0, 0), []) ∧
  pw_fnd pp_M_move 105 = (.iconst 1, (false, 106), (false, 0), (0, 0, 0), (0, 0, 0), [(1, (false, 0))]) ∧
  pw_fnd pp_M_move 106 = (.ireturn, (false, 107), (false, 0), (0, 0, 2), (0, 0, 0), []) ∧
  pw_fnd pp_M_move 107 = (.iinc 5 1, (false, 110), (false, 0), (0, 0, 0), (0, 0, 0), [(1, (false, 0))]) ∧
  pw_fnd pp_M_move 110 = (.goto (-71), (false, 113), (true, 39), (0, 0, 0), (0, 0, 0), []) ∧
  pw_fnd pp_M_move 113 = (.iconst 0, (false, 114), (false, 0), (0, 0, 0), (0, 0, 0), [(0, (false, 0))]) ∧
  pw_fnd pp_M_move 114 = (.ireturn, (false, 115), (false, 0), (0, 0, 2), (0, 0, 0), []) :=
  ⟨rfl, rfl, rfl, rfl, rfl, rfl, rfl, rfl, rfl, rfl, rfl, rfl, rfl, rfl, rfl, rfl, rfl, rfl, rfl, rfl, rfl, rfl, rfl, rfl, rfl, rfl, rfl, rfl, rfl, rfl, rfl, rfl, rfl, rfl, rfl, rfl, rfl, rfl, rfl, rfl, rfl, rfl, rfl, rfl, rfl, rfl, rfl, rfl, rfl, rfl, rfl, rfl, rfl, rfl, rfl, rfl, rfl, rfl, rfl, rfl, rfl, rfl, rfl, rfl, rfl, rfl, rfl, rfl, rfl, rfl, rfl, rfl, rfl, rfl, rfl, rfl, rfl⟩
set_option maxRecDepth 100000 in
theorem pk_M_move : pp_M_move.all (fun q => pw_chk pw_jt pm_M_move q.1 q.2) = true := by decide +kernel
def pp_M_wait : List (Nat × pw_E) := [(0, (.aload_n 0, (false, 1), (false, 0), (0, 0, 0), (0, 0, 0), [])),
  (1, (.iload_n 1, (false, 2), (false, 0), (0, 0, 0), (0, 0, 0), [])),
  (2, (.invokevirtual 111, (false, 5), (false, 4), (55, 2, 1), (0, 0, 644), [])),
  (5, (.ifCond .ne 9, (false, 8), (false, 14), (0, 0, 0), (0, 0, 0), [])),
  (8, (.aload_n 0, (false, 9), (false, 0), (0, 0, 0), (0, 0, 0), [])),
  (9, (.iconst (-1), (false, 10), (false, 0), (0, 0, 0), (0, 0, 0), [((-1), (false, 0))])),
  (10, (.invokevirtual 94, (false, 13), (false, 4), (20, 2, 1), (0, 0, 613), [])),
  (13, (.ireturn, (false, 14), (false, 0), (0, 0, 0), (0, 0, 0), [])),
  (14, (.aload_n 0, (false, 15), (false, 0), (0, 0, 0), (0, 0, 0), [])),
  (15, (.getfield 47, (false, 18), (false, 0), (4, 16, 1), (0, 0, 533), [])),
  (18, (.iload_n 1, (false, 19), (false, 0), (0, 0, 0), (0, 0, 0), [])),
  (19, (.iaload, (false, 20), (false, 0), (0, 0, 0), (0, 0, 0), [])),
  (20, (.iconst 1, (false, 21), (false, 0), (0, 0, 0), (0, 0, 0), [(1, (false, 0))])),
  (21, (.if_icmp .eq 10, (false, 24), (false, 31), (0, 0, 0), (0, 0, 0), [])),
  (24, (.aload_n 0, (false, 25), (false, 0), (0, 0, 0), (0, 0, 0), [])),
  (25, (.bipush (-2), (false, 27), (false, 0), (0, 0, 0), (0, 0, 0), [((-2), (false, 0))])),
  (27, (.invokevirtual 94, (false, 30), (false, 4), (20, 2, 1), (0, 0, 613), [])),
  (30, (.ireturn, (false, 31), (false, 0), (0, 0, 0), (0, 0, 0), [])),
  (31, (.aload_n 0, (false, 32), (false, 0), (0, 0, 0), (0, 0, 0), [])),
  (32, (.getfield 50, (false, 35), (false, 0), (4, 17, 1), (0, 0, 534), [])),
  (35, (.iload_n 1, (false, 36), (false, 0), (0, 0, 0), (0, 0, 0), [])),
  (36, (.iaload, (false, 37), (false, 0), (0, 0, 0), (0, 0, 0), [])),
  (37, (.istore_n 2, (false, 38), (false, 0), (0, 0, 0), (0, 0, 0), [])),
  (38, (.aload_n 0, (false, 39), (false, 0), (0, 0, 0), (0, 0, 0), [])),
  (39, (.getfield 7, (false, 42), (false, 0), (4, 3, 1), (0, 0, 520), [])),
  (42, (.iload_n 2, (false, 43), (false, 0), (0, 0, 0), (0, 0, 0), [])),
  (43, (.iaload, (false, 44), (false, 0), (0, 0, 0), (0, 0, 0), [])),
  (44, (.aload_n 0, (false, 45), (false, 0), (0, 0, 0), (0, 0, 0), [])),
  (45, (.getfield 16, (false, 48), (false, 0), (4, 5, 1), (0, 0, 522), [])),
  (48, (.iload_n 2, (false, 49), (false, 0), (0, 0, 0), (0, 0, 0), [])),
  (49, (.iaload, (false, 50), (false, 0), (0, 0, 0), (0, 0, 0), [])),
  (50, (.isub, (false, 51), (false, 0), (0, 0, 0), (0, 0, 0), [])),
  (51, (.istore_n 3, (false, 52), (false, 0), (0, 0, 0), (0, 0, 0), [])),
  (52, (.iconst 1, (false, 53), (false, 0), (0, 0, 0), (0, 0, 0), [(1, (false, 0))])),
  (53, (.istore 4, (false, 55), (false, 0), (0, 0, 0), (0, 0, 0), [])),
  (55, (.iload_n 3, (false, 56), (false, 0), (0, 0, 0), (0, 0, 0), [])),
  (56, (.istore 5, (false, 58), (false, 0), (0, 0, 0), (0, 0, 0), [])),
  (58, (.aload_n 0, (false, 59), (false, 0), (0, 0, 0), (0, 0, 0), [])),
  (59, (.iload_n 2, (false, 60), (false, 0), (0, 0, 0), (0, 0, 0), [])),
  (60, (.iconst 1, (false, 61), (false, 0), (0, 0, 0), (0, 0, 0), [(1, (false, 0))])),
  (61, (.iconst 0, (false, 62), (false, 0), (0, 0, 0), (0, 0, 0), [(0, (false, 0))])),
  (62, (.invokevirtual 151, (false, 65), (false, 4), (26, 4, 1), (0, 0, 736), [])),
  (65, (.istore 6, (true, 67), (false, 0), (0, 0, 0), (0, 0, 0), [])),
  (67, (.aload_n 0, (false, 68), (false, 0), (0, 0, 0), (0, 0, 0), [])),
  (68, (.getfield 44, (false, 71), (false, 0), (4, 15, 1), (0, 0, 532), [])),
  (71, (.iload 6, (false, 73), (false, 0), (0, 0, 0), (0, 0, 0), [])),
  (73, (.iaload, (false, 74), (false, 0), (0, 0, 0), (0, 0, 0), [])),
  (74, (.iload_n 3, (false, 75), (false, 0), (0, 0, 0), (0, 0, 0), [])),
  (75, (.if_icmp .le 10, (false, 78), (false, 85), (0, 0, 0), (0, 0, 0), [])),
  (78, (.aload_n 0, (false, 79), (false, 0), (0, 0, 0), (0, 0, 0), [])),
  (79, (.bipush (-3), (false, 81), (false, 0), (0, 0, 0), (0, 0, 0), [((-3), (false, 0))])),
  (81, (.invokevirtual 94, (false, 84), (false, 4), (20, 2, 1), (0, 0, 613), [])),
  (84, (.ireturn, (false, 85), (false, 0), (0, 0, 0), (0, 0, 0), [])),
  (85, (.aload_n 0, (false, 86), (false, 0), (0, 0, 0), (0, 0, 0), [])),
  (86, (.getfield 44, (false, 89), (false, 0), (4, 15, 1), (0, 0, 532), [])),
  (89, (.iload 6, (false, 91), (false, 0), (0, 0, 0), (0, 0, 0), [])),
  (91, (.iaload, (false, 92), (false, 0), (0, 0, 0), (0, 0, 0), [])),
  (92, (.iload 5, (false, 94), (false, 0), (0, 0, 0), (0, 0, 0), [])),
  (94, (.if_icmp .le 9, (false, 97), (false, 103), (0, 0, 0), (0, 0, 0), [])),
  (97, (.iinc 4 1, (false, 100), (false, 0), (0, 0, 0), (0, 0, 0), [(1, (false, 0))])),
  (100, (.iload_n 3, (false, 101), (false, 0), (0, 0, 0), (0, 0, 0), [])),
  (101, (.istore 5, (false, 103), (false, 0), (0, 0, 0), (0, 0, 0), [])),
  (103, (.iload 6, (false, 105), (false, 0), (0, 0, 0), (0, 0, 0), [])),
  (105, (.iload_n 1, (false, 106), (false, 0), (0, 0, 0), (0, 0, 0), [])),
  (106, (.if_icmp .ne 6, (false, 109), (false, 112), (0, 0, 0), (0, 0, 0), [])),
  (109, (.iload 4, (false, 111), (false, 0), (0, 0, 0), (0, 0, 0), [])),
  (111, (.ireturn, (false, 112), (false, 0), (0, 0, 0), (0, 0, 0), [])),
  (112, (.iload 5, (false, 114), (false, 0), (0, 0, 0), (0, 0, 0), [])),
  (114, (.aload_n 0, (false, 115), (false, 0), (0, 0, 0), (0, 0, 0), [])),
  (115, (.getfield 44, (false, 118), (false, 0), (4, 15, 1), (0, 0, 532), [])),
  (118, (.iload 6, (false, 120), (false, 0), (0, 0, 0), (0, 0, 0), [])),
  (120, (.iaload, (false, 121), (false, 0), (0, 0, 0), (0, 0, 0), [])),
  (121, (.isub, (false, 122), (false, 0), (0, 0, 0), (0, 0, 0), [])),
  (122, (.istore 5, (false, 124), (false, 0), (0, 0, 0), (0, 0, 0), [])),
  (124, (.aload_n 0, (false, 125), (false, 0), (0, 0, 0), (0, 0, 0), [])),
  (125, (.iload_n 2, (false, 126), (false, 0), (0, 0, 0), (0, 0, 0), [])),
  (126, (.iconst 1, (false, 127), (false, 0), (0, 0, 0), (0, 0, 0), [(1, (false, 0))])),
  (127, (.aload_n 0, (false, 128), (false, 0), (0, 0, 0), (0, 0, 0), [])),
  (128, (.getfield 53, (false, 131), (false, 0), (4, 18, 1), (0, 0, 535), [])),
  (131, (.iload 6, (false, 133), (false, 0), (0, 0, 0), (0, 0, 0), [])),
  (133, (.iaload, (false, 134), (false, 0), (0, 0, 0), (0, 0, 0), [])),
  (134, (.invokevirtual 151, (false, 137), (false, 4), (26, 4, 1), (0, 0, 736), [])),
  (137, (.istore 6, (false, 139), (false, 0), (0, 0, 0), (0, 0, 0), [])),
  (139, (.goto (-72), (false, 142), (true, 67), (0, 0, 0), (0, 0, 0), []))]
set_option maxRecDepth 100000 in
theorem pe_M_wait : pw_fnd pp_M_wait 0 = (.aload_n 0, (false, 1), (false, 0), (0, 0, 0), (0, 0, 0), []) ∧
  pw_fnd pp_M_wait 1 = (.iload_n 1, (false, 2), (false, 0), (0, 0, 0), (0, 0, 0), []) ∧
  pw_fnd pp_M_wait 2 = (.invokevirtual 111, (false, 5), (false, 4), (55, 2, 1), (0, 0, 644), []) ∧
  pw_fnd pp_M_wait 5 = (.ifCond .ne 9, (false, 8), (false, 14), (0, 0, 0), (0, 0, 0), []) ∧
  pw_fnd pp_M_wait 8 = (.aload_n 0, (false, 9), (false, 0), (0, 0, 0), (0, 0, 0), []) ∧
  pw_fnd pp_M_wait 9 = (.iconst (-1), (false, 10), (false, 0), (0, 0, 0), (0, 0, 0), [((-1), (false, 0))]) ∧
  pw_fnd pp_M_wait 10 = (.invokevirtual 94, (false, 13), (false, 4), (20, 2, 1), (0, 0, 613), []) ∧
  pw_fnd pp_M_wait 13 = (.ireturn, (false, 14), (false, 0), (0, 0, 0), (0, 0, 0), []) ∧
  pw_fnd pp_M_wait 14 = (.aload_n 0, (false, 15), (false, 0), (0, 0, 0), (0, 0, 0), []) ∧
  pw_fnd pp_M_wait 15 = (.getfield 47, (false, 18), (false, 0), (4, 16, 1), (0, 0, 533), []) ∧
  pw_fnd pp_M_wait 18 = (.iload_n 1, (false, 19), (false, 0), (0, 0, 0), (0, 0, 0), []) ∧
  pw_fnd pp_M_wait 19 = (.iaload, (false, 20), (false, 0), (0, 0, 0), (0, 0, 0), []) ∧
  pw_fnd pp_M_wait 20 = (.iconst 1, (false, 21), (false, 0), (0, 0, 0), (0, 0, 0), [(1, (false, 0))]) ∧
  pw_fnd pp_M_wait 21 = (.if_icmp .eq 10, (false, 24), (false, 31), (0, 0, 0), (0, 0, 0), []) ∧
  pw_fnd pp_M_wait 24 = (.aload_n 0, (false, 25), (false, 0), (0, 0, 0), (0, 0, 0), []) ∧
  pw_fnd pp_M_wait 25 = (.bipush (-2), (false, 27), (false, 0), (0, 0, 0), (0, 0, 0), [((-2), (false, 0))]) ∧
  pw_fnd pp_M_wait 27 = (.invokevirtual 94, (false, 30), (false, 4), (20, 2, 1), (0, 0, 613), []) ∧
  pw_fnd pp_M_wait 30 = (.ireturn, (false, 31), (false, 0), (0, 0, 0), (0, 0, 0), []) ∧
  pw_fnd pp_M_wait 31 = (.aload_n 0, (false, 32), (false, 0), (0, 0, 0), (0, 0, 0), []) ∧
  pw_fnd pp_M_wait 32 = (.getfield 50, (false, 35), (false, 0), (4, 17, 1), (0, 0, 534), []) ∧
  pw_fnd pp_M_wait 35 = (.iload_n 1, (false, 36), (false, 0), (0, 0, 0), (0, 0, 0), []) ∧
  pw_fnd pp_M_wait 36 = (.iaload, (false, 37), (false, 0), (0, 0, 0), (0, 0, 0), []) ∧
  pw_fnd pp_M_wait 37 = (.istore_n 2, (false, 38), (false, 0), (0, 0, 0), (0, 0, 0), []) ∧
  pw_fnd pp_M_wait 38 = (.aload_n 0, (false, 39), (false, 0), (0, 0, 0), (0, 0, 0), []) ∧
  pw_fnd pp_M_wait 39 = (.getfield 7, (false, 42), (false, 0), (4, 3, 1), (0, 0, 520), []) ∧
  pw_fnd pp_M_wait 42 = (.iload_n 2, (false, 43), (false, 0), (0, 0, 0), (0, 0, 0), []) ∧
  pw_fnd pp_M_wait 43 = (.iaload, (false, 44), (false, 0), (0, 0, 0), (0, 0, 0), []) ∧
  pw_fnd pp_M_wait 44 = (.aload_n 0, (false, 45), (false, 0), (0, 0, 0), (0, 0, 0), []) ∧
  pw_fnd pp_M_wait 45 = (.getfield 16, (false, 48), (false, 0), (4, 5, 1), (0, 0, 522), []) ∧
  pw_fnd pp_M_wait 48 = (.iload_n 2, (false, 49), (false, 0), (0, 0, 0), (0, 0, 0), []) ∧
  pw_fnd pp_M_wait 49 = (.iaload, (false, 50), (false, 0), (0, 0, 0), (0, 0, 0), []) ∧
  pw_fnd pp_M_wait 50 = (.isub, (false, 51), (false, 0), (0, 0, 0), (0, 0, 0), []) ∧
  pw_fnd pp_M_wait 51 = (.istore_n 3, (false, 52), (false, 0), (0, 0, 0), (0, 0, 0), []) ∧
  pw_fnd pp_M_wait 52 = (.iconst 1, (false, 53), (false, 0), (0, 0, 0), (0, 0, 0), [(1, (false, 0))]) ∧
  pw_fnd pp_M_wait 53 = (.istore 4, (false, 55), (false, 0), (0, 0, 0), (0, 0, 0), []) ∧
  pw_fnd pp_M_wait 55 = (.iload_n 3, (false, 56), (false, 0), (0, 0, 0), (0, 0, 0), []) ∧
  pw_fnd pp_M_wait 56 = (.istore 5, (false, 58), (false, 0), (0, 0, 0), (0, 0, 0), []) ∧
  pw_fnd pp_M_wait 58 = (.aload_n 0, (false, 59), (false, 0), (0, 0, 0), (0, 0, 0), []) ∧
  pw_fnd pp_M_wait 59 = (.iload_n 2, (false, 60), (false, 0), (0, 0, 0), (0, 0, 0), []) ∧
  pw_fnd pp_M_wait 60 = (.iconst 1, (false, 61), (false, 0), (0, 0, 0), (0, 0, 0), [(1, (false, 0))]) ∧
  pw_fnd pp_M_wait 61 = (.iconst 0, (false, 62), (false, 0), (0, 0, 0), (0, 0, 0), [(0, (false, 0))]) ∧
  pw_fnd pp_M_wait 62 = (.invokevirtual 151, (false, 65), (false, 4), (26, 4, 1), (0, 0, 736), []) ∧
  pw_fnd pp_M_wait 65 = (.istore 6, (true, 67), (false, 0), (0, 0, 0), (0, 0, 0), []) ∧
  pw_fnd pp_M_wait 67 = (.aload_n 0, (false, 68), (false, 0), (0, 0, 0), (0, 0, 0), []) ∧
  pw_fnd pp_M_wait 68 = (.getfield 44, (false, 71), (false, 0), (4, 15, 1), (0, 0, 532), []) ∧
  pw_fnd pp_M_wait 71 = (.iload 6, (false, 73), (false, 0), (0, 0, 0), (0, 0, 0), []) ∧
  pw_fnd pp_M_wait 73 = (.iaload, (false, 74), (false, 0), (0, 0, 0), (0, 0, 0), []) ∧
  pw_fnd pp_M_wait 74 = (.iload_n 3, (false, 75), (false, 0), (0, 0, 0), (0, 0, 0), []) ∧
  pw_fnd pp_M_wait 75 = (.if_icmp .le 10, (false, 78), (false, 85), (0, 0, 0), (0, 0, 0), []) ∧
  pw_fnd pp_M_wait 78 = (.aload_n 0, (false, 79), (false, 0), (0, 0, 0), (0, 0, 0), []) ∧
  pw_fnd pp_M_wait 79 = (.bipush (-3), (false, 81), (false, 0), (0, 0, 0), (0, 0, 0), [((-3), (false, 0))]) ∧
  pw_fnd pp_M_wait 81 = (.invokevirtual 94, (false, 84), (false, 4), (20, 2, 1), (0, 0, 613), []) ∧
  pw_fnd pp_M_wait 84 = (.ireturn, (false, 85), (false, 0), (0, 0, 0), (0, 0, 0), []) ∧
  pw_fnd pp_M_wait 85 = (.aload_n 0, (false, 86), (false, 0), (0, 0, 0), (0, 0, 0), []) ∧
  pw_fnd pp_M_wait 86 = (.getfield 44, (false, 89), (false, 0), (4, 15, 1), (0, 0, 532), []) ∧
  pw_fnd pp_M_wait 89 = (.iload 6, (false, 91), (false, 0), (0, 0, 0), (0, 0, 0), []) ∧
  pw_fnd pp_M_wait 91 = (.iaload, (false, 92), (false, 0), (0, 0, 0), (0, 0, 0), []) ∧
  pw_fnd pp_M_wait 92 = (.iload 5, (false, 94), (false, 0), (0, 0, 0), (0, 0, 0), []) ∧
  pw_fnd pp_M_wait 94 = (.if_icmp .le 9, (false, 97), (false, 103), (0, 0, 0), (0, 0, 0), []) ∧
  pw_fnd pp_M_wait 97 = (.iinc 4 1, (false, 100), (false, 0), (0, 0, 0), (0, 0, 0), [(1, (false, 0))]) ∧
  pw_fnd pp_M_wait 100 = (.iload_n 3, (false, 101), (false, 0), (0, 0, 0), (0, 0, 0), []) ∧
  pw_fnd pp_M_wait 101 = (.istore 5, (false, 103), (false, 0), (0, 0, 0), (0, 0, 0), []) ∧
  pw_fnd pp_M_wait 103 = (.iload 6, (false, 105), (false, 0), (0, 0, 0), (0, 0, 0), []) ∧
  pw_fnd pp_M_wait 105 = (.iload_n 1, (false, 106), (false, 0), (0, 0, 0), (0, 0, 0), []) ∧
  pw_fnd pp_M_wait 106 = (.if_icmp .ne 6, (false, 109), (false, 112), (0, 0, 0), (0, 0, 0), []) ∧
  pw_fnd pp_M_wait 109 = (.iload 4, (false, 111), (false, 0), (0, 0, 0), (0, 0, 0), []) ∧
  pw_fnd pp_M_wait 111 = (.ireturn, (false, 112), (false, 0), (0, 0, 0), (0, 0, 0), []) ∧
  pw_fnd pp_M_wait 112 = (.iload 5, (false, 114), (false, 0), (0, 0, 0), (0, 0, 0), []) ∧
  pw_fnd pp_M_wait 114 = (.aload_n 0, (false, 115), (false, 0), (0, 0, 0), (0, 0, 0), []) ∧
  pw_fnd pp_M_wait 115 = (.getfield 44, (false, 118), (false, 0), (4, 15, 1), (0, 0, 532), []) ∧
  pw_fnd pp_M_wait 118 = (.iload 6, (false, 120), (false, 0), (0, 0, 0), (0, 0, 0), []) ∧
  pw_fnd pp_M_wait 120 = (.iaload, (false, 121), (false, 0), (0, 0, 0), (0, 0, 0), []) ∧
  pw_fnd pp_M_wait 121 = (.isub, (false, 122), (false, 0), (0, 0, 0), (0, 0, 0), []) ∧
  pw_fnd pp_M_wait 122 = (.istore 5, (false, 124), (false, 0), (0, 0, 0), (0, 0, 0), []) ∧
  pw_fnd pp_M_wait 124 = (.aload_n 0, (false, 125), (false, 0), (0, 0, 0), (0, 0, 0), []) ∧
  pw_fnd pp_M_wait 125 = (.iload_n 2, (false, 126), (false, 0), (0, 0, 0), (0, 0, 0), []) ∧
  pw_fnd pp_M_wait 126 = (.iconst 1, (false, 127), (false, 0), (0, 0, 0), (0, 0, 0), [(1, (false, 0))]) ∧
  pw_fnd pp_M_wait 127 = (.aload_n 0, (false, 128), (false, 0), (0, 0, 0), (0, 0, 0), []) ∧
  pw_fnd pp_M_wait 128 = (.getfield 53, (false, 131), (false, 0), (4, 18, 1), (0, 0, 535), []) ∧
  pw_fnd pp_M_wait 131 = (.iload 6, (false, 133), (false, 0), (0, 0, 0), (0, 0, 0), []) ∧
  pw_fnd pp_M_wait 133 = (.iaload, (false, 134), (false, 0), (0, 0, 0), (0, 0, 0), []) ∧
  pw_fnd pp_M_wait 134 = (.invokevirtual 151, (false, 137), (false, 4), (26, 4, 1), (0, 0, 736), []) ∧
  pw_fnd pp_M_wait 137 = (.istore 6, (false, 139), (false, 0), (0, 0, 0), (0, 0, 0), []) ∧
  pw_fnd pp_M_wait 139 = (.goto (-72), (false, 142), (true, 67), (0, 0, 0), (0, 0, 0), []) :=
  ⟨rfl, rfl, rfl, rfl, rfl, rfl, rfl, rfl, rfl, rfl, rfl, rfl, rfl, rfl, rfl, rfl, rfl, rfl, rfl, rfl, rfl, rfl, rfl, rfl, rfl, rfl, rfl, rfl, rfl, rfl, rfl, rfl, rfl, rfl, rfl, rfl, rfl, rfl, rfl, rfl, rfl, rfl, rfl, rfl, rfl, rfl, rfl, rfl, rfl, rfl, rfl, rfl, rfl, rfl, rfl, rfl, rfl, rfl, rfl, rfl, rfl, rfl, rfl, rfl, rfl, rfl, rfl, rfl, rfl, rfl, rfl, rfl, rfl, rfl, rfl, rfl, rfl, rfl, rfl, rfl, rfl, rfl, rfl, rfl⟩
set_option maxRecDepth 100000 in
theorem pk_M_wait : pp_M_wait.all (fun q => pw_chk pw_jt pm_M_wait q.1 q.2) = true := by decide +kernel
def pp_M_groupOf : List (Nat × pw_E) := [(0, (.aload_n 0, (false, 1), (false, 0), (0, 0, 0), (0, 0, 0), [])),
  (1, (.iload_n 1, (false, 2), (false, 0), (0, 0, 0), (0, 0, 0), [])),
  (2, (.invokevirtual 111, (false, 5), (false, 4), (55, 2, 1), (0, 0, 644), [])),
  (5, (.ifCond .ne 9, (false, 8), (false, 14), (0, 0, 0), (0, 0, 0), [])),
  (8, (.aload_n 0, (false, 9), (false, 0), (0, 0, 0), (0, 0, 0), [])),
  (9, (.iconst (-1), (false, 10), (false, 0), (0, 0, 0), (0, 0, 0), [((-1), (false, 0))])),
  (10, (.invokevirtual 94, (false, 13), (false, 4), (20, 2, 1), (0, 0, 613), [])),
  (13, (.ireturn, (false, 14), (false, 0), (0, 0, 0), (0, 0, 0), [])),
  (14, (.iload_n 2, (false, 15), (false, 0), (0, 0, 0), (0, 0, 0), [])),
  (15, (.tableswitch 125 0 7 #[45, 52, 59, 66, 97, 104, 111, 118], (false, 60), (false, 140), (0, 0, 0), (0, 0, 0), [(0, (false, 60)), (1, (false, 67)), (2, (false, 74)), (3, (false, 81)), (4, (false, 112)), (5, (false, 119)), (6, (false, 126)), (7, (false, 133))])),
  (60, (.aload_n 0, (false, 61), (false, 0), (0, 0, 0), (0, 0, 0), [])),
  (61, (.getfield 44, (false, 64), (false, 0), (4, 15, 1), (0, 0, 532), [])),
  (64, (.iload_n 1, (false, 65), (false, 0), (0, 0, 0), (0, 0, 0), [])),
  (65, (.iaload, (false, 66), (false, 0), (0, 0, 0), (0, 0, 0), [])),
  (66, (.ireturn, (false, 67), (false, 0), (0, 0, 0), (0, 0, 0), [])),
  (67, (.aload_n 0, (false, 68), (false, 0), (0, 0, 0), (0, 0, 0), [])),
  (68, (.getfield 47, (false, 71), (false, 0), (4, 16, 1), (0, 0, 533), [])),
  (71, (.iload_n 1, (false, 72), (false, 0), (0, 0, 0), (0, 0, 0), [])),
  (72, (.iaload, (false, 73), (false, 0), (0, 0, 0), (0, 0, 0), [])),
  (73, (.ireturn, (false, 74), (false, 0), (0, 0, 0), (0, 0, 0), [])),
  (74, (.aload_n 0, (false, 75), (false, 0), (0, 0, 0), (0, 0, 0), [])),
  (75, (.getfield 50, (false, 78), (false, 0), (4, 17, 1), (0, 0, 534), [])),
  (78, (.iload_n 1, (false, 79), (false, 0), (0, 0, 0), (0, 0, 0), [])),
  (79, (.iaload, (false, 80), (false, 0), (0, 0, 0), (0, 0, 0), [])),
  (80, (.ireturn, (false, 81), (false, 0), (0, 0, 0), (0, 0, 0), [])),
  (81, (.aload_n 0, (false, 82), (false, 0), (0, 0, 0), (0, 0, 0), [])),
  (82, (.getfield 47, (false, 85), (false, 0), (4, 16, 1), (0, 0, 533), [])),
  (85, (.iload_n 1, (false, 86), (false, 0), (0, 0, 0), (0, 0, 0), [])),
  (86, (.iaload, (false, 87), (false, 0), (0, 0, 0), (0, 0, 0), [])),
  (87, (.iconst 1, (false, 88), (false, 0), (0, 0, 0), (0, 0, 0), [(1, (false, 0))])),
  (88, (.if_icmp .eq 13, (false, 91), (false, 101), (0, 0, 0), (0, 0, 0), [])),
  (91, (.aload_n 0, (false, 92), (false, 0), (0, 0, 0), (0, 0, 0), [])),
  (92, (.getfield 47, (false, 95), (false, 0), (4, 16, 1), (0, 0, 533), [])),
  (95, (.iload_n 1, (false, 96), (false, 0), (0, 0, 0), (0, 0, 0), [])),
  (96, (.iaload, (false, 97), (false, 0), (0, 0, 0), (0, 0, 0), [])),
  (97, (.iconst 2, (false, 98), (false, 0), (0, 0, 0), (0, 0, 0), [(2, (false, 0))])),
  (98, (.if_icmp .ne 11, (false, 101), (false, 109), (0, 0, 0), (0, 0, 0), [])),
  (101, (.aload_n 0, (false, 102), (false, 0), (0, 0, 0), (0, 0, 0), [])),
  (102, (.iload_n 1, (false, 103), (false, 0), (0, 0, 0), (0, 0, 0), [])),
  (103, (.invokevirtual 141, (false, 106), (false, 4), (25, 2, 1), (0, 0, 692), [])),
  (106, (.goto 5, (false, 109), (false, 111), (0, 0, 0), (0, 0, 0), [])),
  (109, (.bipush (-9), (false, 111), (false, 0), (0, 0, 0), (0, 0, 0), [((-9), (false, 0))])),
  (111, (.ireturn, (false, 112), (false, 0), (0, 0, 0), (0, 0, 0), [])),
  (112, (.aload_n 0, (false, 113), (false, 0), (0, 0, 0), (0, 0, 0), [])),
  (113, (.getfield 59, (false, 116), (false, 0), (4, 21, 1), (0, 0, 538), [])),
  (116, (.iload_n 1, (false, 117), (false, 0), (0, 0, 0), (0, 0, 0), [])),
  (117, (.iaload, (false, 118), (false, 0), (0, 0, 0), (0, 0, 0), [])),
  (118, (.ireturn, (false, 119), (false, 0), (0, 0, 0), (0, 0, 0), [])),
  (119, (.aload_n 0, (false, 120), (false, 0), (0, 0, 0), (0, 0, 0), [])),
  (120, (.getfield 68, (false, 123), (false, 0), (4, 24, 1), (0, 0, 541), [])),
  (123, (.iload_n 1, (false, 124), (false, 0), (0, 0, 0), (0, 0, 0), [])),
  (124, (.iaload, (false, 125), (false, 0), (0, 0, 0), (0, 0, 0), [])),
  (125, (.ireturn, (false, 126), (false, 0), (0, 0, 0), (0, 0, 0), [])),
  (126, (.aload_n 0, (false, 127), (false, 0), (0, 0, 0), (0, 0, 0), [])),
  (127, (.getfield 71, (false, 130), (false, 0), (4, 25, 1), (0, 0, 542), [])),
  (130, (.iload_n 1, (false, 131), (false, 0), (0, 0, 0), (0, 0, 0), [])),
  (131, (.iaload, (false, 132), (false, 0), (0, 0, 0), (0, 0, 0), [])),
  (132, (.ireturn, (false, 133), (false, 0), (0, 0, 0), (0, 0, 0), [])),
  (133, (.aload_n 0, (false, 134), (false, 0), (0, 0, 0), (0, 0, 0), [])),
  (134, (.getfield 74, (false, 137), (false, 0), (4, 26, 1), (0, 0, 543), [])),
  (137, (.iload_n 1, (false, 138), (false, 0), (0, 0, 0), (0, 0, 0), [])),
  (138, (.iaload, (false, 139), (false, 0), (0, 0, 0), (0, 0, 0), [])),
  (139, (.ireturn, (false, 140), (false, 0), (0, 0, 0), (0, 0, 0), [])),
  (140, (.iload_n 2, (false, 141), (false, 0), (0, 0, 0), (0, 0, 0), [])),
  (141, (.bipush 8, (false, 143), (false, 0), (0, 0, 0), (0, 0, 0), [(8, (false, 0))])),
  (143, (.if_icmp .ne 12, (false, 146), (false, 155), (0, 0, 0), (0, 0, 0), [])),
  (146, (.aload_n 0, (false, 147), (false, 0), (0, 0, 0), (0, 0, 0), [])),
  (147, (.getfield 77, (false, 150), (false, 0), (4, 27, 1), (0, 0, 544), [])),
  (150, (.iload_n 1, (false, 151), (false, 0), (0, 0, 0), (0, 0, 0), [])),
  (151, (.iaload, (false, 152), (false, 0), (0, 0, 0), (0, 0, 0), [])),
  (152, (.goto 5, (false, 155), (false, 157), (0, 0, 0), (0, 0, 0), [])),
  (155, (.bipush (-9), (false, 157), (false, 0), (0, 0, 0), (0, 0, 0), [((-9), (false, 0))])),
  (157, (.ireturn, (false, 158), (false, 0), (0, 0, 0), (0, 0, 0), []))]
set_option maxRecDepth 100000 in
theorem pe_M_groupOf : pw_fnd pp_M_groupOf 0 = (.aload_n 0, (false, 1), (false, 0), (0, 0, 0), (0, 0, 0), []) ∧
  pw_fnd pp_M_groupOf 1 = (.iload_n 1, (false, 2), (false, 0), (0, 0, 0), (0, 0, 0), []) ∧
  pw_fnd pp_M_groupOf 2 = (.invokevirtual 111, (false, 5), (false, 4), (55, 2, 1), (0, 0, 644), []) ∧
  pw_fnd pp_M_groupOf 5 = (.ifCond .ne 9, (false, 8), (false, 14), (0, 0, 0), (0, 0, 0), []) ∧
  pw_fnd pp_M_groupOf 8 = (.aload_n 0, (false, 9), (false, 0), (0, 0, 0), (0, 0, 0), []) ∧
  pw_fnd pp_M_groupOf 9 = (.iconst (-1), (false, 10), (false, 0), (0, 0, 0), (0, 0, 0), [((-1), (false, 0))]) ∧
  pw_fnd pp_M_groupOf 10 = (.invokevirtual 94, (false, 13), (false, 4), (20, 2, 1), (0, 0, 613), []) ∧
  pw_fnd pp_M_groupOf 13 = (.ireturn, (false, 14), (false, 0), (0, 0, 0), (0, 0, 0), []) ∧
  pw_fnd pp_M_groupOf 14 = (.iload_n 2, (false, 15), (false, 0), (0, 0, 0), (0, 0, 0), []) ∧
  pw_fnd pp_M_groupOf 15 = (.tableswitch 125 0 7 #[45, 52, 59, 66, 97, 104, 111, 118], (false, 60), (false, 140), (0, 0, 0), (0, 0, 0), [(0, (false, 60)), (1, (false, 67)), (2, (false, 74)), (3, (false, 81)), (4, (false, 112)), (5, (false, 119)), (6, (false, 126)), (7, (false, 133))]) ∧
  pw_fnd pp_M_groupOf 60 = (.aload_n 0, (false, 61), (false, 0), (0, 0, 0), (0, 0, 0), []) ∧
  pw_fnd pp_M_groupOf 61 = (.getfield 44, (false, 64), (false, 0), (4, 15, 1), (0, 0, 532), []) ∧
  pw_fnd pp_M_groupOf 64 = (.iload_n 1, (false, 65), (false, 0), (0, 0, 0), (0, 0, 0), []) ∧
  pw_fnd pp_M_groupOf 65 = (.iaload, (false, 66), (false, 0), (0, 0, 0), (0, 0, 0), []) ∧
  pw_fnd pp_M_groupOf 66 = (.ireturn, (false, 67), (false, 0), (0, 0, 0), (0, 0, 0), []) ∧
  pw_fnd pp_M_groupOf 67 = (.aload_n 0, (false, 68), (false, 0), (0, 0, 0), (0, 0, 0), []) ∧
  pw_fnd pp_M_groupOf 68 = (.getfield 47, (false, 71), (false, 0), (4, 16, 1), (0, 0, 533), []) ∧
  pw_fnd pp_M_groupOf 71 = (.iload_n 1, (false, 72), (false, 0), (0, 0, 0), (0, 0, 0), []) ∧
  pw_fnd pp_M_groupOf 72 = (.iaload, (false, 73), (false, 0), (0, 0, 0), (0, 0, 0), []) ∧
  pw_fnd pp_M_groupOf 73 = (.ireturn, (false, 74), (false, 0), (0, 0, 0), (0, 0, 0), []) ∧
  pw_fnd pp_M_groupOf 74 = (.aload_n 0, (false, 75), (false, 0), (0, 0, 0), (0, 0, 0), []) ∧
  pw_fnd pp_M_groupOf 75 = (.getfield 50, (false, 78), (false, 0), (4, 17, 1), (0, 0, 534), []) ∧
  pw_fnd pp_M_groupOf 78 = (.iload_n 1, (false, 79), (false, 0), (0, 0, 0), (0, 0, 0), []) ∧
  pw_fnd pp_M_groupOf 79 = (.iaload, (false, 80), (false, 0), (0, 0, 0), (0, 0, 0), []) ∧
  pw_fnd pp_M_groupOf 80 = (.ireturn, (false, 81), (false, 0), (0, 0, 0), (0, 0, 0), []) ∧
  pw_fnd pp_M_groupOf 81 = (.aload_n 0, (false, 82), (false, 0), (0, 0, 0), (0, 0, 0), []) ∧
  pw_fnd pp_M_groupOf 82 = (.getfield 47, (false, 85), (false, 0), (4, 16, 1), (0, 0, 533), []) ∧
  pw_fnd pp_M_groupOf 85 = (.iload_n 1, (false, 86), (false, 0), (0, 0, 0), (0, 0, 0), []) ∧
  pw_fnd pp_M_groupOf 86 = (.iaload, (false, 87), (false, 0), (0, 0, 0), (0, 0, 0), []) ∧
  pw_fnd pp_M_groupOf 87 = (.iconst 1, (false, 88), (false, 0), (0, 0, 0), (0, 0, 0), [(1, (false, 0))]) ∧
  pw_fnd pp_M_groupOf 88 = (.if_icmp .eq 13, (false, 91), (false, 101), (0, 0, 0), (0, 0, 0), []) ∧
  pw_fnd pp_M_groupOf 91 = (.aload_n 0, (false, 92), (false, 0), (0, 0, 0), (0, 0, 0), []) ∧
  pw_fnd pp_M_groupOf 92 = (.getfield 47, (false, 95), (false, 0), (4, 16, 1), (0, 0, 533), []) ∧
  pw_fnd pp_M_groupOf 95 = (.iload_n 1, (false, 96), (false, 0), (0, 0, 0), (0, 0, 0), []) ∧
  pw_fnd pp_M_groupOf 96 = (.iaload, (false, 97), (false, 0), (0, 0, 0), (0, 0, 0), []) ∧
  pw_fnd pp_M_groupOf 97 = (.iconst 2, (false, 98), (false, 0), (0, 0, 0), (0, 0, 0), [(2, (false, 0))]) ∧
  pw_fnd pp_M_groupOf 98 = (.if_icmp .ne 11, (false, 101), (false, 109), (0, 0, 0), (0, 0, 0), []) ∧
  pw_fnd pp_M_groupOf 101 = (.aload_n 0, (false, 102), (false, 0), (0, 0, 0), (0, 0, 0), []) ∧
  pw_fnd pp_M_groupOf 102 = (.iload_n 1, (false, 103), (false, 0), (0, 0, 0), (0, 0, 0), []) ∧
  pw_fnd pp_M_groupOf 103 = (.invokevirtual 141, (false, 106), (false, 4), (25, 2, 1), (0, 0, 692), []) ∧
  pw_fnd pp_M_groupOf 106 = (.goto 5, (false, 109), (false, 111), (0, 0, 0), (0, 0, 0), []) ∧
  pw_fnd pp_M_groupOf 109 = (.bipush (-9), (false, 111), (false, 0), (0, 0, 0), (0, 0, 0), [((-9), (false, 0))]) ∧
  pw_fnd pp_M_groupOf 111 = (.ireturn, (false, 112), (false, 0), (0, 0, 0), (0, 0, 0), []) ∧
  pw_fnd pp_M_groupOf 112 = (.aload_n 0, (false, 113), (false, 0), (0, 0, 0), (0, 0, 0), []) ∧
  pw_fnd pp_M_groupOf 113 = (.getfield 59, (false, 116), (false, 0), (4, 21, 1), (0, 0, 538), []) ∧
  pw_fnd pp_M_groupOf 116 = (.iload_n 1, (false, 117), (false, 0), (0, 0, 0), (0, 0, 0), []) ∧
  pw_fnd pp_M_groupOf 117 = (.iaload, (false, 118), (false, 0), (0, 0, 0), (0, 0, 0), []) ∧
  pw_fnd pp_M_groupOf 118 = (.ireturn, (false, 119), (false, 0), (0, 0, 0), (0, 0, 0), []) ∧
  pw_fnd pp_M_groupOf 119 = (.aload_n 0, (false, 120), (false, 0), (0, 0, 0), (0, 0, 0), []) ∧
  pw_fnd pp_M_groupOf 120 = (.getfield 68, (false, 123), (false, 0), (4, 24, 1), (0, 0, 541), []) ∧
  pw_fnd pp_M_groupOf 123 = (.iload_n 1, (false, 124), (false, 0), (0, 0, 0), (0, 0, 0), []) ∧
  pw_fnd pp_M_groupOf 124 = (.iaload, (false, 125), (false, 0), (0, 0, 0), (0, 0, 0), []) ∧
  pw_fnd pp_M_groupOf 125 = (.ireturn, (false, 126), (false, 0), (0, 0, 0), (0, 0, 0), []) ∧
  pw_fnd pp_M_groupOf 126 = (.aload_n 0, (false, 127), (false, 0), (0, 0, 0), (0, 0, 0), []) ∧
  pw_fnd pp_M_groupOf 127 = (.getfield 71, (false, 130), (false, 0), (4, 25, 1), (0, 0, 542), []) ∧
  pw_fnd pp_M_groupOf 130 = (.iload_n 1, (false, 131), (false, 0), (0, 0, 0), (0, 0, 0), []) ∧
  pw_fnd pp_M_groupOf 131 = (.iaload, (false, 132), (false, 0), (0, 0, 0), (0, 0, 0), []) ∧
  pw_fnd pp_M_groupOf 132 = (.ireturn, (false, 133), (false, 0), (0, 0, 0), (0, 0, 0), []) ∧
  pw_fnd pp_M_groupOf 133 = (.aload_n 0, (false, 134), (false, 0), (0, 0, 0), (0, 0, 0), []) ∧
  pw_fnd pp_M_groupOf 134 = (.getfield 74, (false, 137), (false, 0), (4, 26, 1), (0, 0, 543), []) ∧
  pw_fnd pp_M_groupOf 137 = (.iload_n 1, (false, 138), (false, 0), (0, 0, 0), (0, 0, 0), []) ∧
  pw_fnd pp_M_groupOf 138 = (.iaload, (false, 139), (false, 0), (0, 0, 0), (0, 0, 0), []) ∧
  pw_fnd pp_M_groupOf 139 = (.ireturn, (false, 140), (false, 0), (0, 0, 0), (0, 0, 0), []) ∧
  pw_fnd pp_M_groupOf 140 = (.iload_n 2, (false, 141), (false, 0), (0, 0, 0), (0, 0, 0), []) ∧
  pw_fnd pp_M_groupOf 141 = (.bipush 8, (false, 143), (false, 0), (0, 0, 0), (0, 0, 0), [(8, (false, 0))]) ∧
  pw_fnd pp_M_groupOf 143 = (.if_icmp .ne 12, (false, 146), (false, 155), (0, 0, 0), (0, 0, 0), []) ∧
  pw_fnd pp_M_groupOf 146 = (.aload_n 0, (false, 147), (false, 0), (0, 0, 0), (0, 0, 0), []) ∧
  pw_fnd pp_M_groupOf 147 = (.getfield 77, (false, 150), (false, 0), (4, 27, 1), (0, 0, 544), []) ∧
  pw_fnd pp_M_groupOf 150 = (.iload_n 1, (false, 151), (false, 0), (0, 0, 0), (0, 0, 0), []) ∧
  pw_fnd pp_M_groupOf 151 = (.iaload, (false, 152), (false, 0), (0, 0, 0), (0, 0, 0), []) ∧
  pw_fnd pp_M_groupOf 152 = (.goto 5, (false, 155), (false, 157), (0, 0, 0), (0, 0, 0), []) ∧
  pw_fnd pp_M_groupOf 155 = (.bipush (-9), (false, 157), (false, 0), (0, 0, 0), (0, 0, 0), [((-9), (false, 0))]) ∧
  pw_fnd pp_M_groupOf 157 = (.ireturn, (false, 158), (false, 0), (0, 0, 0), (0, 0, 0), []) :=
  ⟨rfl, rfl, rfl, rfl, rfl, rfl, rfl, rfl, rfl, rfl, rfl, rfl, rfl, rfl, rfl, rfl, rfl, rfl, rfl, rfl, rfl, rfl, rfl, rfl, rfl, rfl, rfl, rfl, rfl, rfl, rfl, rfl, rfl, rfl, rfl, rfl, rfl, rfl, rfl, rfl, rfl, rfl, rfl, rfl, rfl, rfl, rfl, rfl, rfl, rfl, rfl, rfl, rfl, rfl, rfl, rfl, rfl, rfl, rfl, rfl, rfl, rfl, rfl, rfl, rfl, rfl, rfl, rfl, rfl, rfl, rfl, rfl, rfl⟩
set_option maxRecDepth 100000 in
theorem pk_M_groupOf : pp_M_groupOf.all (fun q => pw_chk pw_jt pm_M_groupOf q.1 q.2) = true := by decide +kernel
def pp_M_time : List (Nat × pw_E) := [(0, (.aload_n 0, (false, 1), (false, 0), (0, 0, 0), (0, 0, 0), [])),
  (1, (.iload_n 1, (false, 2), (false, 0), (0, 0, 0), (0, 0, 0), [])),
  (2, (.invokevirtual 111, (false, 5), (false, 4), (55, 2, 1), (0, 0, 644), [])),
  (5, (.ifCond .eq 19, (false, 8), (false, 24), (0, 0, 0), (0, 0, 0), [])),
  (8, (.iload_n 2, (false, 9), (false, 0), (0, 0, 0), (0, 0, 0), [])),
  (9, (.iconst 0, (false, 10), (false, 0), (0, 0, 0), (0, 0, 0), [(0, (false, 0))])),
  (10, (.aload_n 0, (false, 11), (false, 0), (0, 0, 0), (0, 0, 0), [])),
  (11, (.getfield 59, (false, 14), (false, 0), (4, 21, 1), (0, 0, 538), [])),
  (14, (.iload_n 1, (false, 15), (false, 0), (0, 0, 0), (0, 0, 0), [])),
  (15, (.iaload, (false, 16), (false, 0), (0, 0, 0), (0, 0, 0), [])),
  (16, (.iconst 1, (false, 17), (false, 0), (0, 0, 0), (0, 0, 0), [(1, (false, 0))])),
  (17, (.isub, (false, 18), (false, 0), (0, 0, 0), (0, 0, 0), [])),
  (18, (.invokestatic 87, (false, 21), (false, 0), (19, 3, 1), (0, 0, 629), [])),
  (21, (.ifCond .ne 9, (false, 24), (false, 30), (0, 0, 0), (0, 0, 0), [])),
  (24, (.aload_n 0, (false, 25), (false, 0), (0, 0, 0), (0, 0, 0), [])),
  (25, (.iconst (-1), (false, 26), (false, 0), (0, 0, 0), (0, 0, 0), [((-1), (false, 0))])),
  (26, (.invokevirtual 94, (false, 29), (false, 4), (20, 2, 1), (0, 0, 613), [])),
  (29, (.ireturn, (false, 30), (false, 0), (0, 0, 0), (0, 0, 0), [])),
  (30, (.iload_n 3, (false, 31), (false, 0), (0, 0, 0), (0, 0, 0), [])),
  (31, (.ifCond .ne 16, (false, 34), (false, 47), (0, 0, 0), (0, 0, 0), [])),
  (34, (.aload_n 0, (false, 35), (false, 0), (0, 0, 0), (0, 0, 0), [])),
  (35, (.getfield 62, (false, 38), (false, 0), (4, 22, 1), (0, 0, 539), [])),
  (38, (.iconst 2, (false, 39), (false, 0), (0, 0, 0), (0, 0, 0), [(2, (false, 0))])),
  (39, (.iload_n 1, (false, 40), (false, 0), (0, 0, 0), (0, 0, 0), [])),
  (40, (.imul, (false, 41), (false, 0), (0, 0, 0), (0, 0, 0), [])),
  (41, (.iload_n 2, (false, 42), (false, 0), (0, 0, 0), (0, 0, 0), [])),
  (42, (.iadd, (false, 43), (false, 0), (0, 0, 0), (0, 0, 0), [])),
  (43, (.iaload, (false, 44), (false, 0), (0, 0, 0), (0, 0, 0), [])),
  (44, (.goto 23, (false, 47), (false, 67), (0, 0, 0), (0, 0, 0), [])),
  (47, (.iload_n 3, (false, 48), (false, 0), (0, 0, 0), (0, 0, 0), [])),
  (48, (.iconst 1, (false, 49), (false, 0), (0, 0, 0), (0, 0, 0), [(1, (false, 0))])),
  (49, (.if_icmp .ne 16, (false, 52), (false, 65), (0, 0, 0), (0, 0, 0), [])),
  (52, (.aload_n 0, (false, 53), (false, 0), (0, 0, 0), (0, 0, 0), [])),
  (53, (.getfield 65, (false, 56), (false, 0), (4, 23, 1), (0, 0, 540), [])),
  (56, (.iconst 2, (false, 57), (false, 0), (0, 0, 0), (0, 0, 0), [(2, (false, 0))])),
  (57, (.iload_n 1, (false, 58), (false, 0), (0, 0, 0), (0, 0, 0), [])),
  (58, (.imul, (false, 59), (false, 0), (0, 0, 0), (0, 0, 0), [])),
  (59, (.iload_n 2, (false, 60), (false, 0), (0, 0, 0), (0, 0, 0), [])),
  (60, (.iadd, (false, 61), (false, 0), (0, 0, 0), (0, 0, 0), [])),
  (61, (.iaload, (false, 62), (false, 0), (0, 0, 0), (0, 0, 0), [])),
  (62, (.goto 5, (false, 65), (false, 67), (0, 0, 0), (0, 0, 0), [])),
  (65, (.bipush (-9), (false, 67), (false, 0), (0, 0, 0), (0, 0, 0), [((-9), (false, 0))])),
  (67, (.ireturn, (false, 68), (false, 0), (0, 0, 0), (0, 0, 0), []))]
set_option maxRecDepth 100000 in
theorem pe_M_time : pw_fnd pp_M_time 0 = (.aload_n 0, (false, 1), (false, 0), (0, 0, 0), (0, 0, 0), []) ∧
  pw_fnd pp_M_time 1 = (.iload_n 1, (false, 2), (false, 0), (0, 0, 0), (0, 0, 0), []) ∧
  pw_fnd pp_M_time 2 = (.invokevirtual 111, (false, 5), (false, 4), (55, 2, 1), (0, 0, 644), []) ∧
  pw_fnd pp_M_time 5 = (.ifCond .eq 19, (false, 8), (false, 24), (0, 0, 0), (0, 0, 0), []) ∧
  pw_fnd pp_M_time 8 = (.iload_n 2, (false, 9), (false, 0), (0, 0, 0), (0, 0, 0), []) ∧
  pw_fnd pp_M_time 9 = (.iconst 0, (false, 10), (false, 0), (0, 0, 0), (0, 0, 0), [(0, (false, 0))]) ∧
  pw_fnd pp_M_time 10 = (.aload_n 0, (false, 11), (false, 0), (0, 0, 0), (0, 0, 0), []) ∧
  pw_fnd pp_M_time 11 = (.getfield 59, (false, 14), (false, 0), (4, 21, 1), (0, 0, 538), []) ∧
  pw_fnd pp_M_time 14 = (.iload_n 1, (false, 15), (false, 0), (0, 0, 0), (0, 0, 0), []) ∧
  pw_fnd pp_M_time 15 = (.iaload, (false, 16), (false, 0), (0, 0, 0), (0, 0, 0), []) ∧
  pw_fnd pp_M_time 16 = (.iconst 1, (false, 17), (false, 0), (0, 0, 0), (0, 0, 0), [(1, (false, 0))]) ∧
  pw_fnd pp_M_time 17 = (.isub, (false, 18), (false, 0), (0, 0, 0), (0, 0, 0), []) ∧
  pw_fnd pp_M_time 18 = (.invokestatic 87, (false, 21), (false, 0), (19, 3, 1), (0, 0, 629), []) ∧
  pw_fnd pp_M_time 21 = (.ifCond .ne 9, (false, 24), (false, 30), (0, 0, 0), (0, 0, 0), []) ∧
  pw_fnd pp_M_time 24 = (.aload_n 0, (false, 25), (false, 0), (0, 0, 0), (0, 0, 0), []) ∧
  pw_fnd pp_M_time 25 = (.iconst (-1), (false, 26), (false, 0), (0, 0, 0), (0, 0, 0), [((-1), (false, 0))]) ∧
  pw_fnd pp_M_time 26 = (.invokevirtual 94, (false, 29), (false, 4), (20, 2, 1), (0, 0, 613), []) ∧
  pw_fnd pp_M_time 29 = (.ireturn, (false, 30), (false, 0), (0, 0, 0), (0, 0, 0), []) ∧
  pw_fnd pp_M_time 30 = (.iload_n 3, (false, 31), (false, 0), (0, 0, 0), (0, 0, 0), []) ∧
  pw_fnd pp_M_time 31 = (.ifCond .ne 16, (false, 34), (false, 47), (0, 0, 0), (0, 0, 0), []) ∧
  pw_fnd pp_M_time 34 = (.aload_n 0, (false, 35), (false, 0), (0, 0, 0), (0, 0, 0), []) ∧
  pw_fnd pp_M_time 35 = (.getfield 62, (false, 38), (false, 0), (4, 22, 1), (0, 0, 539), []) ∧
  pw_fnd pp_M_time 38 = (.iconst 2, (false, 39), (false, 0), (0, 0, 0), (0, 0, 0), [(2, (false, 0))]) ∧
  pw_fnd pp_M_time 39 = (.iload_n 1, (false, 40), (false, 0), (0, 0, 0), (0, 0, 0), []) ∧
  pw_fnd pp_M_time 40 = (.imul, (false, 41), (false, 0), (0, 0, 0), (0, 0, 0), []) ∧
  pw_fnd pp_M_time 41 = (.iload_n 2, (false, 42), (false, 0), (0, 0, 0), (0, 0, 0), []) ∧
  pw_fnd pp_M_time 42 = (.iadd, (false, 43), (false, 0), (0, 0, 0), (0, 0, 0), []) ∧
  pw_fnd pp_M_time 43 = (.iaload, (false, 44), (false, 0), (0, 0, 0), (0, 0, 0), []) ∧
  pw_fnd pp_M_time 44 = (.goto 23, (false, 47), (false, 67), (0, 0, 0), (0, 0, 0), []) ∧
  pw_fnd pp_M_time 47 = (.iload_n 3, (false, 48), (false, 0), (0, 0, 0), (0, 0, 0), []) ∧
  pw_fnd pp_M_time 48 = (.iconst 1, (false, 49), (false, 0), (0, 0, 0), (0, 0, 0), [(1, (false, 0))]) ∧
  pw_fnd pp_M_time 49 = (.if_icmp .ne 16, (false, 52), (false, 65), (0, 0, 0), (0, 0, 0), []) ∧
  pw_fnd pp_M_time 52 = (.aload_n 0, (false, 53), (false, 0), (0, 0, 0), (0, 0, 0), []) ∧
  pw_fnd pp_M_time 53 = (.getfield 65, (false, 56), (false, 0), (4, 23, 1), (0, 0, 540), []) ∧
  pw_fnd pp_M_time 56 = (.iconst 2, (false, 57), (false, 0), (0, 0, 0), (0, 0, 0), [(2, (false, 0))]) ∧
  pw_fnd pp_M_time 57 = (.iload_n 1, (false, 58), (false, 0), (0, 0, 0), (0, 0, 0), []) ∧
  pw_fnd pp_M_time 58 = (.imul, (false, 59), (false, 0), (0, 0, 0), (0, 0, 0), []) ∧
  pw_fnd pp_M_time 59 = (.iload_n 2, (false, 60), (false, 0), (0, 0, 0), (0, 0, 0), []) ∧
  pw_fnd pp_M_time 60 = (.iadd, (false, 61), (false, 0), (0, 0, 0), (0, 0, 0), []) ∧
  pw_fnd pp_M_time 61 = (.iaload, (false, 62), (false, 0), (0, 0, 0), (0, 0, 0), []) ∧
  pw_fnd pp_M_time 62 = (.goto 5, (false, 65), (false, 67), (0, 0, 0), (0, 0, 0), []) ∧
  pw_fnd pp_M_time 65 = (.bipush (-9), (false, 67), (false, 0), (0, 0, 0), (0, 0, 0), [((-9), (false, 0))]) ∧
  pw_fnd pp_M_time 67 = (.ireturn, (false, 68), (false, 0), (0, 0, 0), (0, 0, 0), []) :=
  ⟨rfl, rfl, rfl, rfl, rfl, rfl, rfl, rfl, rfl, rfl, rfl, rfl, rfl, rfl, rfl, rfl, rfl, rfl, rfl, rfl, rfl, rfl, rfl, rfl, rfl, rfl, rfl, rfl, rfl, rfl, rfl, rfl, rfl, rfl, rfl, rfl, rfl, rfl, rfl, rfl, rfl, rfl, rfl⟩
set_option maxRecDepth 100000 in
theorem pk_M_time : pp_M_time.all (fun q => pw_chk pw_jt pm_M_time q.1 q.2) = true := by decide +kernel
def pp_M_rideOf : List (Nat × pw_E) := [(0, (.aload_n 0, (false, 1), (false, 0), (0, 0, 0), (0, 0, 0), [])),
  (1, (.iload_n 1, (false, 2), (false, 0), (0, 0, 0), (0, 0, 0), [])),
  (2, (.invokevirtual 98, (false, 5), (false, 4), (54, 2, 1), (0, 0, 625), [])),
  (5, (.ifCond .ne 9, (false, 8), (false, 14), (0, 0, 0), (0, 0, 0), [])),
  (8, (.aload_n 0, (false, 9), (false, 0), (0, 0, 0), (0, 0, 0), [])),
  (9, (.iconst (-1), (false, 10), (false, 0), (0, 0, 0), (0, 0, 0), [((-1), (false, 0))])),
  (10, (.invokevirtual 94, (false, 13), (false, 4), (20, 2, 1), (0, 0, 613), [])),
  (13, (.ireturn, (false, 14), (false, 0), (0, 0, 0), (0, 0, 0), [])),
  (14, (.iload_n 2, (false, 15), (false, 0), (0, 0, 0), (0, 0, 0), [])),
  (15, (.tableswitch 159 0 11 #[61, 68, 75, 82, 89, 96, 110, 118, 126, 134, 141, 148], (false, 76), (false, 174), (0, 0, 0), (0, 0, 0), [(0, (false, 76)), (1, (false, 83)), (2, (false, 90)), (3, (false, 97)), (4, (false, 104)), (5, (false, 111)), (6, (false, 125)), (7, (false, 133)), (8, (false, 141)), (9, (false, 149)), (10, (false, 156)), (11, (false, 163))])),
  (76, (.aload_n 0, (false, 77), (false, 0), (0, 0, 0), (0, 0, 0), [])),
  (77, (.getfield 7, (false, 80), (false, 0), (4, 3, 1), (0, 0, 520), [])),
  (80, (.iload_n 1, (false, 81), (false, 0), (0, 0, 0), (0, 0, 0), [])),
  (81, (.iaload, (false, 82), (false, 0), (0, 0, 0), (0, 0, 0), [])),
  (82, (.ireturn, (false, 83), (false, 0), (0, 0, 0), (0, 0, 0), [])),
  (83, (.aload_n 0, (false, 84), (false, 0), (0, 0, 0), (0, 0, 0), [])),
  (84, (.getfield 13, (false, 87), (false, 0), (4, 4, 1), (0, 0, 521), [])),
  (87, (.iload_n 1, (false, 88), (false, 0), (0, 0, 0), (0, 0, 0), [])),
  (88, (.iaload, (false, 89), (false, 0), (0, 0, 0), (0, 0, 0), [])),
  (89, (.ireturn, (false, 90), (false, 0), (0, 0, 0), (0, 0, 0), [])),
  (90, (.aload_n 0, (false, 91), (false, 0), (0, 0, 0), (0, 0, 0), [])),
  (91, (.getfield 16, (false, 94), (false, 0), (4, 5, 1), (0, 0, 522), [])),
  (94, (.iload_n 1, (false, 95), (false, 0), (0, 0, 0), (0, 0, 0), [])),
  (95, (.iaload, (false, 96), (false, 0), (0, 0, 0), (0, 0, 0), [])),
  (96, (.ireturn, (false, 97), (false, 0), (0, 0, 0), (0, 0, 0), [])),
  (97, (.aload_n 0, (false, 98), (false, 0), (0, 0, 0), (0, 0, 0), [])),
  (98, (.getfield 19, (false, 101), (false, 0), (4, 6, 1), (0, 0, 523), [])),
  (101, (.iload_n 1, (false, 102), (false, 0), (0, 0, 0), (0, 0, 0), [])),
  (102, (.iaload, (false, 103), (false, 0), (0, 0, 0), (0, 0, 0), [])),
  (103, (.ireturn, (false, 104), (false, 0), (0, 0, 0), (0, 0, 0), [])),
  (104, (.aload_n 0, (false, 105), (false, 0), (0, 0, 0), (0, 0, 0), [])),
  (105, (.getfield 22, (false, 108), (false, 0), (4, 7, 1), (0, 0, 524), [])),
  (108, (.iload_n 1, (false, 109), (false, 0), (0, 0, 0), (0, 0, 0), [])),
  (109, (.iaload, (false, 110), (false, 0), (0, 0, 0), (0, 0, 0), [])),
  (110, (.ireturn, (false, 111), (false, 0), (0, 0, 0), (0, 0, 0), [])),
  (111, (.aload_n 0, (false, 112), (false, 0), (0, 0, 0), (0, 0, 0), [])),
  (112, (.iload_n 1, (false, 113), (false, 0), (0, 0, 0), (0, 0, 0), [])),
  (113, (.invokevirtual 162, (false, 116), (false, 4), (28, 2, 1), (0, 0, 724), [])),
  (116, (.ifCond .eq 7, (false, 119), (false, 123), (0, 0, 0), (0, 0, 0), [])),
  (119, (.iconst 1, (false, 120), (false, 0), (0, 0, 0), (0, 0, 0), [(1, (false, 0))])),
  (120, (.goto 4, (false, 123), (false, 124), (0, 0, 0), (0, 0, 0), [])),
  (123, (.iconst 0, (false, 124), (false, 0), (0, 0, 0), (0, 0, 0), [(0, (false, 0))])),
  (124, (.ireturn, (false, 125), (false, 0), (0, 0, 0), (0, 0, 0), [])),
  (125, (.aload_n 0, (false, 126), (false, 0), (0, 0, 0), (0, 0, 0), [])),
  (126, (.iload_n 1, (false, 127), (false, 0), (0, 0, 0), (0, 0, 0), [])),
  (127, (.iconst 1, (false, 128), (false, 0), (0, 0, 0), (0, 0, 0), [(1, (false, 0))])),
  (128, (.iconst 0, (false, 129), (false, 0), (0, 0, 0), (0, 0, 0), [(0, (false, 0))])),
  (129, (.invokevirtual 178, (false, 132), (false, 4), (30, 4, 1), (0, 0, 768), [])),
  (132, (.ireturn, (false, 133), (false, 0), (0, 0, 0), (0, 0, 0), [])),
  (133, (.aload_n 0, (false, 134), (false, 0), (0, 0, 0), (0, 0, 0), [])),
  (134, (.iload_n 1, (false, 135), (false, 0), (0, 0, 0), (0, 0, 0), [])),
  (135, (.iconst 2, (false, 136), (false, 0), (0, 0, 0), (0, 0, 0), [(2, (false, 0))])),
  (136, (.iconst 0, (false, 137), (false, 0), (0, 0, 0), (0, 0, 0), [(0, (false, 0))])),
  (137, (.invokevirtual 178, (false, 140), (false, 4), (30, 4, 1), (0, 0, 768), [])),
  (140, (.ireturn, (false, 141), (false, 0), (0, 0, 0), (0, 0, 0), [])),
  (141, (.aload_n 0, (false, 142), (false, 0), (0, 0, 0), (0, 0, 0), [])),
  (142, (.iload_n 1, (false, 143), (false, 0), (0, 0, 0), (0, 0, 0), [])),
  (143, (.iconst 3, (false, 144), (false, 0), (0, 0, 0), (0, 0, 0), [(3, (false, 0))])),
  (144, (.iconst 1, (false, 145), (false, 0), (0, 0, 0), (0, 0, 0), [(1, (false, 0))])),
  (145, (.invokevirtual 178, (false, 148), (false, 4), (30, 4, 1), (0, 0, 768), [])),
  (148, (.ireturn, (false, 149), (false, 0), (0, 0, 0), (0, 0, 0), [])),
  (149, (.aload_n 0, (false, 150), (false, 0), (0, 0, 0), (0, 0, 0), [])),
  (150, (.getfield 29, (false, 153), (false, 0), (4, 9, 1), (0, 0, 526), [])),
  (153, (.iload_n 1, (false, 154), (false, 0), (0, 0, 0), (0, 0, 0), [])),
  (154, (.iaload, (false, 155), (false, 0), (0, 0, 0), (0, 0, 0), [])),
  (155, (.ireturn, (false, 156), (false, 0), (0, 0, 0), (0, 0, 0), [])),
  (156, (.aload_n 0, (false, 157), (false, 0), (0, 0, 0), (0, 0, 0), [])),
  (157, (.getfield 32, (false, 160), (false, 0), (4, 10, 1), (0, 0, 527), [])),
  (160, (.iload_n 1, (false, 161), (false, 0), (0, 0, 0), (0, 0, 0), [])),
  (161, (.iaload, (false, 162), (false, 0), (0, 0, 0), (0, 0, 0), [])),
  (162, (.ireturn, (false, 163), (false, 0), (0, 0, 0), (0, 0, 0), [])),
  (163, (.aload_n 0, (false, 164), (false, 0), (0, 0, 0), (0, 0, 0), [])),
  (164, (.getfield 114, (false, 167), (false, 0), (4, 0, 0), (0, 0, 517), [])),
  (167, (.aload_n 0, (false, 168), (false, 0), (0, 0, 0), (0, 0, 0), [])),
  (168, (.iload_n 1, (false, 169), (false, 0), (0, 0, 0), (0, 0, 0), [])),
  (169, (.invokevirtual 105, (false, 172), (false, 4), (58, 2, 1), (0, 0, 652), [])),
  (172, (.idiv, (false, 173), (false, 0), (0, 0, 0), (0, 0, 0), [])),
  (173, (.ireturn, (false, 174), (false, 0), (0, 0, 0), (0, 0, 0), [])),
  (174, (.iload_n 2, (false, 175), (false, 0), (0, 0, 0), (0, 0, 0), [])),
  (175, (.bipush 12, (false, 177), (false, 0), (0, 0, 0), (0, 0, 0), [(12, (false, 0))])),
  (177, (.if_icmp .ne 12, (false, 180), (false, 189), (0, 0, 0), (0, 0, 0), [])),
  (180, (.aload_n 0, (false, 181), (false, 0), (0, 0, 0), (0, 0, 0), [])),
  (181, (.getfield 35, (false, 184), (false, 0), (4, 11, 1), (0, 0, 528), [])),
  (184, (.iload_n 1, (false, 185), (false, 0), (0, 0, 0), (0, 0, 0), [])),
  (185, (.iaload, (false, 186), (false, 0), (0, 0, 0), (0, 0, 0), [])),
  (186, (.goto 5, (false, 189), (false, 191), (0, 0, 0), (0, 0, 0), [])),
  (189, (.bipush (-9), (false, 191), (false, 0), (0, 0, 0), (0, 0, 0), [((-9), (false, 0))])),
  (191, (.ireturn, (false, 192), (false, 0), (0, 0, 0), (0, 0, 0), []))]
set_option maxRecDepth 100000 in
theorem pe_M_rideOf : pw_fnd pp_M_rideOf 0 = (.aload_n 0, (false, 1), (false, 0), (0, 0, 0), (0, 0, 0), []) ∧
  pw_fnd pp_M_rideOf 1 = (.iload_n 1, (false, 2), (false, 0), (0, 0, 0), (0, 0, 0), []) ∧
  pw_fnd pp_M_rideOf 2 = (.invokevirtual 98, (false, 5), (false, 4), (54, 2, 1), (0, 0, 625), []) ∧
  pw_fnd pp_M_rideOf 5 = (.ifCond .ne 9, (false, 8), (false, 14), (0, 0, 0), (0, 0, 0), []) ∧
  pw_fnd pp_M_rideOf 8 = (.aload_n 0, (false, 9), (false, 0), (0, 0, 0), (0, 0, 0), []) ∧
  pw_fnd pp_M_rideOf 9 = (.iconst (-1), (false, 10), (false, 0), (0, 0, 0), (0, 0, 0), [((-1), (false, 0))]) ∧
  pw_fnd pp_M_rideOf 10 = (.invokevirtual 94, (false, 13), (false, 4), (20, 2, 1), (0, 0, 613), []) ∧
  pw_fnd pp_M_rideOf 13 = (.ireturn, (false, 14), (false, 0), (0, 0, 0), (0, 0, 0), []) ∧
  pw_fnd pp_M_rideOf 14 = (.iload_n 2, (false, 15), (false, 0), (0, 0, 0), (0, 0, 0), []) ∧
  pw_fnd pp_M_rideOf 15 = (.tableswitch 159 0 11 #[61, 68, 75, 82, 89, 96, 110, 118, 126, 134, 141, 148], (false, 76), (false, 174), (0, 0, 0), (0, 0, 0), [(0, (false, 76)), (1, (false, 83)), (2, (false, 90)), (3, (false, 97)), (4, (false, 104)), (5, (false, 111)), (6, (false, 125)), (7, (false, 133)), (8, (false, 141)), (9, (false, 149)), (10, (false, 156)), (11, (false, 163))]) ∧
  pw_fnd pp_M_rideOf 76 = (.aload_n 0, (false, 77), (false, 0), (0, 0, 0), (0, 0, 0), []) ∧
  pw_fnd pp_M_rideOf 77 = (.getfield 7, (false, 80), (false, 0), (4, 3, 1), (0, 0, 520), []) ∧
  pw_fnd pp_M_rideOf 80 = (.iload_n 1, (false, 81), (false, 0), (0, 0, 0), (0, 0, 0), []) ∧
  pw_fnd pp_M_rideOf 81 = (.iaload, (false, 82), (false, 0), (0, 0, 0), (0, 0, 0), []) ∧
  pw_fnd pp_M_rideOf 82 = (.ireturn, (false, 83), (false, 0), (0, 0, 0), (0, 0, 0), []) ∧
  pw_fnd pp_M_rideOf 83 = (.aload_n 0, (false, 84), (false, 0), (0, 0, 0), (0, 0, 0), []) ∧
  pw_fnd pp_M_rideOf 84 = (.getfield 13, (false, 87), (false, 0), (4, 4, 1), (0, 0, 521), []) ∧
  pw_fnd pp_M_rideOf 87 = (.iload_n 1, (false, 88), (false, 0), (0, 0, 0), (0, 0, 0), []) ∧
  pw_fnd pp_M_rideOf 88 = (.iaload, (false, 89), (false, 0), (0, 0, 0), (0, 0, 0), []) ∧
  pw_fnd pp_M_rideOf 89 = (.ireturn, (false, 90), (false, 0), (0, 0, 0), (0, 0, 0), []) ∧
  pw_fnd pp_M_rideOf 90 = (.aload_n 0, (false, 91), (false, 0), (0, 0, 0), (0, 0, 0), []) ∧
  pw_fnd pp_M_rideOf 91 = (.getfield 16, (false, 94), (false, 0), (4, 5, 1), (0, 0, 522), []) ∧
  pw_fnd pp_M_rideOf 94 = (.iload_n 1, (false, 95), (false, 0), (0, 0, 0), (0, 0, 0), []) ∧
  pw_fnd pp_M_rideOf 95 = (.iaload, (false, 96), (false, 0), (0, 0, 0), (0, 0, 0), []) ∧
  pw_fnd pp_M_rideOf 96 = (.ireturn, (false, 97), (false, 0), (0, 0, 0), (0, 0, 0), []) ∧
  pw_fnd pp_M_rideOf 97 = (.aload_n 0, (false, 98), (false, 0), (0, 0, 0), (0, 0, 0), []) ∧
  pw_fnd pp_M_rideOf 98 = (.getfield 19, (false, 101), (false, 0), (4, 6, 1), (0, 0, 523), []) ∧
  pw_fnd pp_M_rideOf 101 = (.iload_n 1, (false, 102), (false, 0), (0, 0, 0), (0, 0, 0), []) ∧
  pw_fnd pp_M_rideOf 102 = (.iaload, (false, 103), (false, 0), (0, 0, 0), (0, 0, 0), []) ∧
  pw_fnd pp_M_rideOf 103 = (.ireturn, (false, 104), (false, 0), (0, 0, 0), (0, 0, 0), []) ∧
  pw_fnd pp_M_rideOf 104 = (.aload_n 0, (false, 105), (false, 0), (0, 0, 0), (0, 0, 0), []) ∧
  pw_fnd pp_M_rideOf 105 = (.getfield 22, (false, 108), (false, 0), (4, 7, 1), (0, 0, 524), []) ∧
  pw_fnd pp_M_rideOf 108 = (.iload_n 1, (false, 109), (false, 0), (0, 0, 0), (0, 0, 0), []) ∧
  pw_fnd pp_M_rideOf 109 = (.iaload, (false, 110), (false, 0), (0, 0, 0), (0, 0, 0), []) ∧
  pw_fnd pp_M_rideOf 110 = (.ireturn, (false, 111), (false, 0), (0, 0, 0), (0, 0, 0), []) ∧
  pw_fnd pp_M_rideOf 111 = (.aload_n 0, (false, 112), (false, 0), (0, 0, 0), (0, 0, 0), []) ∧
  pw_fnd pp_M_rideOf 112 = (.iload_n 1, (false, 113), (false, 0), (0, 0, 0), (0, 0, 0), []) ∧
  pw_fnd pp_M_rideOf 113 = (.invokevirtual 162, (false, 116), (false, 4), (28, 2, 1), (0, 0, 724), []) ∧
  pw_fnd pp_M_rideOf 116 = (.ifCond .eq 7, (false, 119), (false, 123), (0, 0, 0), (0, 0, 0), []) ∧
  pw_fnd pp_M_rideOf 119 = (.iconst 1, (false, 120), (false, 0), (0, 0, 0), (0, 0, 0), [(1, (false, 0))]) ∧
  pw_fnd pp_M_rideOf 120 = (.goto 4, (false, 123), (false, 124), (0, 0, 0), (0, 0, 0), []) ∧
  pw_fnd pp_M_rideOf 123 = (.iconst 0, (false, 124), (false, 0), (0, 0, 0), (0, 0, 0), [(0, (false, 0))]) ∧
  pw_fnd pp_M_rideOf 124 = (.ireturn, (false, 125), (false, 0), (0, 0, 0), (0, 0, 0), []) ∧
  pw_fnd pp_M_rideOf 125 = (.aload_n 0, (false, 126), (false, 0), (0, 0, 0), (0, 0, 0), []) ∧
  pw_fnd pp_M_rideOf 126 = (.iload_n 1, (false, 127), (false, 0), (0, 0, 0), (0, 0, 0), []) ∧
  pw_fnd pp_M_rideOf 127 = (.iconst 1, (false, 128), (false, 0), (0, 0, 0), (0, 0, 0), [(1, (false, 0))]) ∧
  pw_fnd pp_M_rideOf 128 = (.iconst 0, (false, 129), (false, 0), (0, 0, 0), (0, 0, 0), [(0, (false, 0))]) ∧
  pw_fnd pp_M_rideOf 129 = (.invokevirtual 178, (false, 132), (false, 4), (30, 4, 1), (0, 0, 768), []) ∧
  pw_fnd pp_M_rideOf 132 = (.ireturn, (false, 133), (false, 0), (0, 0, 0), (0, 0, 0), []) ∧
  pw_fnd pp_M_rideOf 133 = (.aload_n 0, (false, 134), (false, 0), (0, 0, 0), (0, 0, 0), []) ∧
  pw_fnd pp_M_rideOf 134 = (.iload_n 1, (false, 135), (false, 0), (0, 0, 0), (0, 0, 0), []) ∧
  pw_fnd pp_M_rideOf 135 = (.iconst 2, (false, 136), (false, 0), (0, 0, 0), (0, 0, 0), [(2, (false, 0))]) ∧
  pw_fnd pp_M_rideOf 136 = (.iconst 0, (false, 137), (false, 0), (0, 0, 0), (0, 0, 0), [(0, (false, 0))]) ∧
  pw_fnd pp_M_rideOf 137 = (.invokevirtual 178, (false, 140), (false, 4), (30, 4, 1), (0, 0, 768), []) ∧
  pw_fnd pp_M_rideOf 140 = (.ireturn, (false, 141), (false, 0), (0, 0, 0), (0, 0, 0), []) ∧
  pw_fnd pp_M_rideOf 141 = (.aload_n 0, (false, 142), (false, 0), (0, 0, 0), (0, 0, 0), []) ∧
  pw_fnd pp_M_rideOf 142 = (.iload_n 1, (false, 143), (false, 0), (0, 0, 0), (0, 0, 0), []) ∧
  pw_fnd pp_M_rideOf 143 = (.iconst 3, (false, 144), (false, 0), (0, 0, 0), (0, 0, 0), [(3, (false, 0))]) ∧
  pw_fnd pp_M_rideOf 144 = (.iconst 1, (false, 145), (false, 0), (0, 0, 0), (0, 0, 0), [(1, (false, 0))]) ∧
  pw_fnd pp_M_rideOf 145 = (.invokevirtual 178, (false, 148), (false, 4), (30, 4, 1), (0, 0, 768), []) ∧
  pw_fnd pp_M_rideOf 148 = (.ireturn, (false, 149), (false, 0), (0, 0, 0), (0, 0, 0), []) ∧
  pw_fnd pp_M_rideOf 149 = (.aload_n 0, (false, 150), (false, 0), (0, 0, 0), (0, 0, 0), []) ∧
  pw_fnd pp_M_rideOf 150 = (.getfield 29, (false, 153), (false, 0), (4, 9, 1), (0, 0, 526), []) ∧
  pw_fnd pp_M_rideOf 153 = (.iload_n 1, (false, 154), (false, 0), (0, 0, 0), (0, 0, 0), []) ∧
  pw_fnd pp_M_rideOf 154 = (.iaload, (false, 155), (false, 0), (0, 0, 0), (0, 0, 0), []) ∧
  pw_fnd pp_M_rideOf 155 = (.ireturn, (false, 156), (false, 0), (0, 0, 0), (0, 0, 0), []) ∧
  pw_fnd pp_M_rideOf 156 = (.aload_n 0, (false, 157), (false, 0), (0, 0, 0), (0, 0, 0), []) ∧
  pw_fnd pp_M_rideOf 157 = (.getfield 32, (false, 160), (false, 0), (4, 10, 1), (0, 0, 527), []) ∧
  pw_fnd pp_M_rideOf 160 = (.iload_n 1, (false, 161), (false, 0), (0, 0, 0), (0, 0, 0), []) ∧
  pw_fnd pp_M_rideOf 161 = (.iaload, (false, 162), (false, 0), (0, 0, 0), (0, 0, 0), []) ∧
  pw_fnd pp_M_rideOf 162 = (.ireturn, (false, 163), (false, 0), (0, 0, 0), (0, 0, 0), []) ∧
  pw_fnd pp_M_rideOf 163 = (.aload_n 0, (false, 164), (false, 0), (0, 0, 0), (0, 0, 0), []) ∧
  pw_fnd pp_M_rideOf 164 = (.getfield 114, (false, 167), (false, 0), (4, 0, 0), (0, 0, 517), []) ∧
  pw_fnd pp_M_rideOf 167 = (.aload_n 0, (false, 168), (false, 0), (0, 0, 0), (0, 0, 0), []) ∧
  pw_fnd pp_M_rideOf 168 = (.iload_n 1, (false, 169), (false, 0), (0, 0, 0), (0, 0, 0), []) ∧
  pw_fnd pp_M_rideOf 169 = (.invokevirtual 105, (false, 172), (false, 4), (58, 2, 1), (0, 0, 652), []) ∧
  pw_fnd pp_M_rideOf 172 = (.idiv, (false, 173), (false, 0), (0, 0, 0), (0, 0, 0), []) ∧
  pw_fnd pp_M_rideOf 173 = (.ireturn, (false, 174), (false, 0), (0, 0, 0), (0, 0, 0), []) ∧
  pw_fnd pp_M_rideOf 174 = (.iload_n 2, (false, 175), (false, 0), (0, 0, 0), (0, 0, 0), []) ∧
  pw_fnd pp_M_rideOf 175 = (.bipush 12, (false, 177), (false, 0), (0, 0, 0), (0, 0, 0), [(12, (false, 0))]) ∧
  pw_fnd pp_M_rideOf 177 = (.if_icmp .ne 12, (false, 180), (false, 189), (0, 0, 0), (0, 0, 0), []) ∧
  pw_fnd pp_M_rideOf 180 = (.aload_n 0, (false, 181), (false, 0), (0, 0, 0), (0, 0, 0), []) ∧
  pw_fnd pp_M_rideOf 181 = (.getfield 35, (false, 184), (false, 0), (4, 11, 1), (0, 0, 528), []) ∧
  pw_fnd pp_M_rideOf 184 = (.iload_n 1, (false, 185), (false, 0), (0, 0, 0), (0, 0, 0), []) ∧
  pw_fnd pp_M_rideOf 185 = (.iaload, (false, 186), (false, 0), (0, 0, 0), (0, 0, 0), []) ∧
  pw_fnd pp_M_rideOf 186 = (.goto 5, (false, 189), (false, 191), (0, 0, 0), (0, 0, 0), []) ∧
  pw_fnd pp_M_rideOf 189 = (.bipush (-9), (false, 191), (false, 0), (0, 0, 0), (0, 0, 0), [((-9), (false, 0))]) ∧
  pw_fnd pp_M_rideOf 191 = (.ireturn, (false, 192), (false, 0), (0, 0, 0), (0, 0, 0), []) :=
  ⟨rfl, rfl, rfl, rfl, rfl, rfl, rfl, rfl, rfl, rfl, rfl, rfl, rfl, rfl, rfl, rfl, rfl, rfl, rfl, rfl, rfl, rfl, rfl, rfl, rfl, rfl, rfl, rfl, rfl, rfl, rfl, rfl, rfl, rfl, rfl, rfl, rfl, rfl, rfl, rfl, rfl, rfl, rfl, rfl, rfl, rfl, rfl, rfl, rfl, rfl, rfl, rfl, rfl, rfl, rfl, rfl, rfl, rfl, rfl, rfl, rfl, rfl, rfl, rfl, rfl, rfl, rfl, rfl, rfl, rfl, rfl, rfl, rfl, rfl, rfl, rfl, rfl, rfl, rfl, rfl, rfl, rfl, rfl, rfl, rfl, rfl, rfl, rfl⟩
set_option maxRecDepth 100000 in
theorem pk_M_rideOf : pp_M_rideOf.all (fun q => pw_chk pw_jt pm_M_rideOf q.1 q.2) = true := by decide +kernel
def pp_M_window : List (Nat × pw_E) := [(0, (.aload_n 0, (false, 1), (false, 0), (0, 0, 0), (0, 0, 0), [])),
  (1, (.iload_n 1, (false, 2), (false, 0), (0, 0, 0), (0, 0, 0), [])),
  (2, (.invokevirtual 98, (false, 5), (false, 4), (54, 2, 1), (0, 0, 625), [])),
  (5, (.ifCond .eq 7, (false, 8), (false, 12), (0, 0, 0), (0, 0, 0), [])),
  (8, (.iload_n 2, (false, 9), (false, 0), (0, 0, 0), (0, 0, 0), [])),
  (9, (.ifCond .ge 9, (false, 12), (false, 18), (0, 0, 0), (0, 0, 0), [])),
  (12, (.aload_n 0, (false, 13), (false, 0), (0, 0, 0), (0, 0, 0), [])),
  (13, (.iconst (-1), (false, 14), (false, 0), (0, 0, 0), (0, 0, 0), [((-1), (false, 0))])),
  (14, (.invokevirtual 94, (false, 17), (false, 4), (20, 2, 1), (0, 0, 613), [])),
  (17, (.ireturn, (false, 18), (false, 0), (0, 0, 0), (0, 0, 0), [])),
  (18, (.iload_n 3, (false, 19), (false, 0), (0, 0, 0), (0, 0, 0), [])),
  (19, (.ifCond .ne 29, (false, 22), (false, 48), (0, 0, 0), (0, 0, 0), [])),
  (22, (.iload_n 2, (false, 23), (false, 0), (0, 0, 0), (0, 0, 0), [])),
  (23, (.sipush 1100, (false, 26), (false, 0), (0, 0, 0), (0, 0, 0), [(1100, (false, 0))])),
  (26, (.if_icmp .ge 18, (false, 29), (false, 44), (0, 0, 0), (0, 0, 0), [])),
  (29, (.aload_n 0, (false, 30), (false, 0), (0, 0, 0), (0, 0, 0), [])),
  (30, (.getfield 41, (false, 33), (false, 0), (4, 13, 1), (0, 0, 530), [])),
  (33, (.sipush 1100, (false, 36), (false, 0), (0, 0, 0), (0, 0, 0), [(1100, (false, 0))])),
  (36, (.iload_n 1, (false, 37), (false, 0), (0, 0, 0), (0, 0, 0), [])),
  (37, (.imul, (false, 38), (false, 0), (0, 0, 0), (0, 0, 0), [])),
  (38, (.iload_n 2, (false, 39), (false, 0), (0, 0, 0), (0, 0, 0), [])),
  (39, (.iadd, (false, 40), (false, 0), (0, 0, 0), (0, 0, 0), [])),
  (40, (.iaload, (false, 41), (false, 0), (0, 0, 0), (0, 0, 0), [])),
  (41, (.goto 22, (false, 44), (false, 63), (0, 0, 0), (0, 0, 0), [])),
  (44, (.iconst 0, (false, 45), (false, 0), (0, 0, 0), (0, 0, 0), [(0, (false, 0))])),
  (45, (.goto 18, (false, 48), (false, 63), (0, 0, 0), (0, 0, 0), [])),
  (48, (.iload_n 3, (false, 49), (false, 0), (0, 0, 0), (0, 0, 0), [])),
  (49, (.iconst 1, (false, 50), (false, 0), (0, 0, 0), (0, 0, 0), [(1, (false, 0))])),
  (50, (.if_icmp .ne 11, (false, 53), (false, 61), (0, 0, 0), (0, 0, 0), [])),
  (53, (.aload_n 0, (false, 54), (false, 0), (0, 0, 0), (0, 0, 0), [])),
  (54, (.iload_n 1, (false, 55), (false, 0), (0, 0, 0), (0, 0, 0), [])),
  (55, (.invokevirtual 108, (false, 58), (false, 4), (22, 2, 1), (0, 0, 664), [])),
  (58, (.goto 5, (false, 61), (false, 63), (0, 0, 0), (0, 0, 0), [])),
  (61, (.bipush (-9), (false, 63), (false, 0), (0, 0, 0), (0, 0, 0), [((-9), (false, 0))])),
  (63, (.ireturn, (false, 64), (false, 0), (0, 0, 0), (0, 0, 0), []))]
set_option maxRecDepth 100000 in
theorem pe_M_window : pw_fnd pp_M_window 0 = (.aload_n 0, (false, 1), (false, 0), (0, 0, 0), (0, 0, 0), []) ∧
  pw_fnd pp_M_window 1 = (.iload_n 1, (false, 2), (false, 0), (0, 0, 0), (0, 0, 0), []) ∧
  pw_fnd pp_M_window 2 = (.invokevirtual 98, (false, 5), (false, 4), (54, 2, 1), (0, 0, 625), []) ∧
  pw_fnd pp_M_window 5 = (.ifCond .eq 7, (false, 8), (false, 12), (0, 0, 0), (0, 0, 0), []) ∧
  pw_fnd pp_M_window 8 = (.iload_n 2, (false, 9), (false, 0), (0, 0, 0), (0, 0, 0), []) ∧
  pw_fnd pp_M_window 9 = (.ifCond .ge 9, (false, 12), (false, 18), (0, 0, 0), (0, 0, 0), []) ∧
  pw_fnd pp_M_window 12 = (.aload_n 0, (false, 13), (false, 0), (0, 0, 0), (0, 0, 0), []) ∧
  pw_fnd pp_M_window 13 = (.iconst (-1), (false, 14), (false, 0), (0, 0, 0), (0, 0, 0), [((-1), (false, 0))]) ∧
  pw_fnd pp_M_window 14 = (.invokevirtual 94, (false, 17), (false, 4), (20, 2, 1), (0, 0, 613), []) ∧
  pw_fnd pp_M_window 17 = (.ireturn, (false, 18), (false, 0), (0, 0, 0), (0, 0, 0), []) ∧
  pw_fnd pp_M_window 18 = (.iload_n 3, (false, 19), (false, 0), (0, 0, 0), (0, 0, 0), []) ∧
  pw_fnd pp_M_window 19 = (.ifCond .ne 29, (false, 22), (false, 48), (0, 0, 0), (0, 0, 0), []) ∧
  pw_fnd pp_M_window 22 = (.iload_n 2, (false, 23), (false, 0), (0, 0, 0), (0, 0, 0), []) ∧
  pw_fnd pp_M_window 23 = (.sipush 1100, (false, 26), (false, 0), (0, 0, 0), (0, 0, 0), [(1100, (false, 0))]) ∧
  pw_fnd pp_M_window 26 = (.if_icmp .ge 18, (false, 29), (false, 44), (0, 0, 0), (0, 0, 0), []) ∧
  pw_fnd pp_M_window 29 = (.aload_n 0, (false, 30), (false, 0), (0, 0, 0), (0, 0, 0), []) ∧
  pw_fnd pp_M_window 30 = (.getfield 41, (false, 33), (false, 0), (4, 13, 1), (0, 0, 530), []) ∧
  pw_fnd pp_M_window 33 = (.sipush 1100, (false, 36), (false, 0), (0, 0, 0), (0, 0, 0), [(1100, (false, 0))]) ∧
  pw_fnd pp_M_window 36 = (.iload_n 1, (false, 37), (false, 0), (0, 0, 0), (0, 0, 0), []) ∧
  pw_fnd pp_M_window 37 = (.imul, (false, 38), (false, 0), (0, 0, 0), (0, 0, 0), []) ∧
  pw_fnd pp_M_window 38 = (.iload_n 2, (false, 39), (false, 0), (0, 0, 0), (0, 0, 0), []) ∧
  pw_fnd pp_M_window 39 = (.iadd, (false, 40), (false, 0), (0, 0, 0), (0, 0, 0), []) ∧
  pw_fnd pp_M_window 40 = (.iaload, (false, 41), (false, 0), (0, 0, 0), (0, 0, 0), []) ∧
  pw_fnd pp_M_window 41 = (.goto 22, (false, 44), (false, 63), (0, 0, 0), (0, 0, 0), []) ∧
  pw_fnd pp_M_window 44 = (.iconst 0, (false, 45), (false, 0), (0, 0, 0), (0, 0, 0), [(0, (false, 0))]) ∧
  pw_fnd pp_M_window 45 = (.goto 18, (false, 48), (false, 63), (0, 0, 0), (0, 0, 0), []) ∧
  pw_fnd pp_M_window 48 = (.iload_n 3, (false, 49), (false, 0), (0, 0, 0), (0, 0, 0), []) ∧
  pw_fnd pp_M_window 49 = (.iconst 1, (false, 50), (false, 0), (0, 0, 0), (0, 0, 0), [(1, (false, 0))]) ∧
  pw_fnd pp_M_window 50 = (.if_icmp .ne 11, (false, 53), (false, 61), (0, 0, 0), (0, 0, 0), []) ∧
  pw_fnd pp_M_window 53 = (.aload_n 0, (false, 54), (false, 0), (0, 0, 0), (0, 0, 0), []) ∧
  pw_fnd pp_M_window 54 = (.iload_n 1, (false, 55), (false, 0), (0, 0, 0), (0, 0, 0), []) ∧
  pw_fnd pp_M_window 55 = (.invokevirtual 108, (false, 58), (false, 4), (22, 2, 1), (0, 0, 664), []) ∧
  pw_fnd pp_M_window 58 = (.goto 5, (false, 61), (false, 63), (0, 0, 0), (0, 0, 0), []) ∧
  pw_fnd pp_M_window 61 = (.bipush (-9), (false, 63), (false, 0), (0, 0, 0), (0, 0, 0), [((-9), (false, 0))]) ∧
  pw_fnd pp_M_window 63 = (.ireturn, (false, 64), (false, 0), (0, 0, 0), (0, 0, 0), []) :=
  ⟨rfl, rfl, rfl, rfl, rfl, rfl, rfl, rfl, rfl, rfl, rfl, rfl, rfl, rfl, rfl, rfl, rfl, rfl, rfl, rfl, rfl, rfl, rfl, rfl, rfl, rfl, rfl, rfl, rfl, rfl, rfl, rfl, rfl, rfl, rfl⟩
set_option maxRecDepth 100000 in
theorem pk_M_window : pp_M_window.all (fun q => pw_chk pw_jt pm_M_window q.1 q.2) = true := by decide +kernel
def pp_M_row : List (Nat × pw_E) := [(0, (.aload_n 0, (false, 1), (false, 0), (0, 0, 0), (0, 0, 0), [])),
  (1, (.iload_n 1, (false, 2), (false, 0), (0, 0, 0), (0, 0, 0), [])),
  (2, (.invokevirtual 98, (false, 5), (false, 4), (54, 2, 1), (0, 0, 625), [])),
  (5, (.ifCond .ne 9, (false, 8), (false, 14), (0, 0, 0), (0, 0, 0), [])),
  (8, (.aload_n 0, (false, 9), (false, 0), (0, 0, 0), (0, 0, 0), [])),
  (9, (.iconst (-1), (false, 10), (false, 0), (0, 0, 0), (0, 0, 0), [((-1), (false, 0))])),
  (10, (.invokevirtual 94, (false, 13), (false, 4), (20, 2, 1), (0, 0, 613), [])),
  (13, (.ireturn, (false, 14), (false, 0), (0, 0, 0), (0, 0, 0), [])),
  (14, (.aload_n 0, (false, 15), (false, 0), (0, 0, 0), (0, 0, 0), [])),
  (15, (.iload_n 1, (false, 16), (false, 0), (0, 0, 0), (0, 0, 0), [])),
  (16, (.iload_n 2, (false, 17), (false, 0), (0, 0, 0), (0, 0, 0), [])),
  (17, (.ifCond .eq 7, (false, 20), (false, 24), (0, 0, 0), (0, 0, 0), [])),
  (20, (.iconst 2, (false, 21), (false, 0), (0, 0, 0), (0, 0, 0), [(2, (false, 0))])),
  (21, (.goto 4, (false, 24), (false, 25), (0, 0, 0), (0, 0, 0), [])),
  (24, (.iconst 1, (false, 25), (false, 0), (0, 0, 0), (0, 0, 0), [(1, (false, 0))])),
  (25, (.iconst 0, (false, 26), (false, 0), (0, 0, 0), (0, 0, 0), [(0, (false, 0))])),
  (26, (.invokevirtual 151, (false, 29), (false, 4), (26, 4, 1), (0, 0, 736), [])),
  (29, (.istore 4, (false, 31), (false, 0), (0, 0, 0), (0, 0, 0), [])),
  (31, (.iconst 0, (false, 32), (false, 0), (0, 0, 0), (0, 0, 0), [(0, (false, 0))])),
  (32, (.istore 5, (true, 34), (false, 0), (0, 0, 0), (0, 0, 0), [])),
  (34, (.iload 5, (false, 36), (false, 0), (0, 0, 0), (0, 0, 0), [])),
  (36, (.iload_n 3, (false, 37), (false, 0), (0, 0, 0), (0, 0, 0), [])),
  (37, (.if_icmp .ge 37, (false, 40), (false, 74), (0, 0, 0), (0, 0, 0), [])),
  (40, (.iload 4, (false, 42), (false, 0), (0, 0, 0), (0, 0, 0), [])),
  (42, (.ifCond .lt 32, (false, 45), (false, 74), (0, 0, 0), (0, 0, 0), [])),
  (45, (.aload_n 0, (false, 46), (false, 0), (0, 0, 0), (0, 0, 0), [])),
  (46, (.iload_n 1, (false, 47), (false, 0), (0, 0, 0), (0, 0, 0), [])),
  (47, (.iload_n 2, (false, 48), (false, 0), (0, 0, 0), (0, 0, 0), [])),
  (48, (.ifCond .eq 7, (false, 51), (false, 55), (0, 0, 0), (0, 0, 0), [])),
  (51, (.iconst 2, (false, 52), (false, 0), (0, 0, 0), (0, 0, 0), [(2, (false, 0))])),
  (52, (.goto 4, (false, 55), (false, 56), (0, 0, 0), (0, 0, 0), [])),
  (55, (.iconst 1, (false, 56), (false, 0), (0, 0, 0), (0, 0, 0), [(1, (false, 0))])),
  (56, (.aload_n 0, (false, 57), (false, 0), (0, 0, 0), (0, 0, 0), [])),
  (57, (.getfield 53, (false, 60), (false, 0), (4, 18, 1), (0, 0, 535), [])),
  (60, (.iload 4, (false, 62), (false, 0), (0, 0, 0), (0, 0, 0), [])),
  (62, (.iaload, (false, 63), (false, 0), (0, 0, 0), (0, 0, 0), [])),
  (63, (.invokevirtual 151, (false, 66), (false, 4), (26, 4, 1), (0, 0, 736), [])),
  (66, (.istore 4, (false, 68), (false, 0), (0, 0, 0), (0, 0, 0), [])),
  (68, (.iinc 5 1, (false, 71), (false, 0), (0, 0, 0), (0, 0, 0), [(1, (false, 0))])),
  (71, (.goto (-37), (false, 74), (true, 34), (0, 0, 0), (0, 0, 0), [])),
  (74, (.iload 4, (false, 76), (false, 0), (0, 0, 0), (0, 0, 0), [])),
  (76, (.ifCond .lt 7, (false, 79), (false, 83), (0, 0, 0), (0, 0, 0), [])),
  (79, (.iload_n 3, (false, 80), (false, 0), (0, 0, 0), (0, 0, 0), [])),
  (80, (.ifCond .ge 8, (false, 83), (false, 88), (0, 0, 0), (0, 0, 0), [])),
  (83, (.bipush (-9), (false, 85), (false, 0), (0, 0, 0), (0, 0, 0), [((-9), (false, 0))])),
  (85, (.goto 5, (false, 88), (false, 90), (0, 0, 0), (0, 0, 0), [])),
  (88, (.iload 4, (false, 90), (false, 0), (0, 0, 0), (0, 0, 0), [])),
  (90, (.ireturn, (false, 91), (false, 0), (0, 0, 0), (0, 0, 0), []))]
set_option maxRecDepth 100000 in
theorem pe_M_row : pw_fnd pp_M_row 0 = (.aload_n 0, (false, 1), (false, 0), (0, 0, 0), (0, 0, 0), []) ∧
  pw_fnd pp_M_row 1 = (.iload_n 1, (false, 2), (false, 0), (0, 0, 0), (0, 0, 0), []) ∧
  pw_fnd pp_M_row 2 = (.invokevirtual 98, (false, 5), (false, 4), (54, 2, 1), (0, 0, 625), []) ∧
  pw_fnd pp_M_row 5 = (.ifCond .ne 9, (false, 8), (false, 14), (0, 0, 0), (0, 0, 0), []) ∧
  pw_fnd pp_M_row 8 = (.aload_n 0, (false, 9), (false, 0), (0, 0, 0), (0, 0, 0), []) ∧
  pw_fnd pp_M_row 9 = (.iconst (-1), (false, 10), (false, 0), (0, 0, 0), (0, 0, 0), [((-1), (false, 0))]) ∧
  pw_fnd pp_M_row 10 = (.invokevirtual 94, (false, 13), (false, 4), (20, 2, 1), (0, 0, 613), []) ∧
  pw_fnd pp_M_row 13 = (.ireturn, (false, 14), (false, 0), (0, 0, 0), (0, 0, 0), []) ∧
  pw_fnd pp_M_row 14 = (.aload_n 0, (false, 15), (false, 0), (0, 0, 0), (0, 0, 0), []) ∧
  pw_fnd pp_M_row 15 = (.iload_n 1, (false, 16), (false, 0), (0, 0, 0), (0, 0, 0), []) ∧
  pw_fnd pp_M_row 16 = (.iload_n 2, (false, 17), (false, 0), (0, 0, 0), (0, 0, 0), []) ∧
  pw_fnd pp_M_row 17 = (.ifCond .eq 7, (false, 20), (false, 24), (0, 0, 0), (0, 0, 0), []) ∧
  pw_fnd pp_M_row 20 = (.iconst 2, (false, 21), (false, 0), (0, 0, 0), (0, 0, 0), [(2, (false, 0))]) ∧
  pw_fnd pp_M_row 21 = (.goto 4, (false, 24), (false, 25), (0, 0, 0), (0, 0, 0), []) ∧
  pw_fnd pp_M_row 24 = (.iconst 1, (false, 25), (false, 0), (0, 0, 0), (0, 0, 0), [(1, (false, 0))]) ∧
  pw_fnd pp_M_row 25 = (.iconst 0, (false, 26), (false, 0), (0, 0, 0), (0, 0, 0), [(0, (false, 0))]) ∧
  pw_fnd pp_M_row 26 = (.invokevirtual 151, (false, 29), (false, 4), (26, 4, 1), (0, 0, 736), []) ∧
  pw_fnd pp_M_row 29 = (.istore 4, (false, 31), (false, 0), (0, 0, 0), (0, 0, 0), []) ∧
  pw_fnd pp_M_row 31 = (.iconst 0, (false, 32), (false, 0), (0, 0, 0), (0, 0, 0), [(0, (false, 0))]) ∧
  pw_fnd pp_M_row 32 = (.istore 5, (true, 34), (false, 0), (0, 0, 0), (0, 0, 0), []) ∧
  pw_fnd pp_M_row 34 = (.iload 5, (false, 36), (false, 0), (0, 0, 0), (0, 0, 0), []) ∧
  pw_fnd pp_M_row 36 = (.iload_n 3, (false, 37), (false, 0), (0, 0, 0), (0, 0, 0), []) ∧
  pw_fnd pp_M_row 37 = (.if_icmp .ge 37, (false, 40), (false, 74), (0, 0, 0), (0, 0, 0), []) ∧
  pw_fnd pp_M_row 40 = (.iload 4, (false, 42), (false, 0), (0, 0, 0), (0, 0, 0), []) ∧
  pw_fnd pp_M_row 42 = (.ifCond .lt 32, (false, 45), (false, 74), (0, 0, 0), (0, 0, 0), []) ∧
  pw_fnd pp_M_row 45 = (.aload_n 0, (false, 46), (false, 0), (0, 0, 0), (0, 0, 0), []) ∧
  pw_fnd pp_M_row 46 = (.iload_n 1, (false, 47), (false, 0), (0, 0, 0), (0, 0, 0), []) ∧
  pw_fnd pp_M_row 47 = (.iload_n 2, (false, 48), (false, 0), (0, 0, 0), (0, 0, 0), []) ∧
  pw_fnd pp_M_row 48 = (.ifCond .eq 7, (false, 51), (false, 55), (0, 0, 0), (0, 0, 0), []) ∧
  pw_fnd pp_M_row 51 = (.iconst 2, (false, 52), (false, 0), (0, 0, 0), (0, 0, 0), [(2, (false, 0))]) ∧
  pw_fnd pp_M_row 52 = (.goto 4, (false, 55), (false, 56), (0, 0, 0), (0, 0, 0), []) ∧
  pw_fnd pp_M_row 55 = (.iconst 1, (false, 56), (false, 0), (0, 0, 0), (0, 0, 0), [(1, (false, 0))]) ∧
  pw_fnd pp_M_row 56 = (.aload_n 0, (false, 57), (false, 0), (0, 0, 0), (0, 0, 0), []) ∧
  pw_fnd pp_M_row 57 = (.getfield 53, (false, 60), (false, 0), (4, 18, 1), (0, 0, 535), []) ∧
  pw_fnd pp_M_row 60 = (.iload 4, (false, 62), (false, 0), (0, 0, 0), (0, 0, 0), []) ∧
  pw_fnd pp_M_row 62 = (.iaload, (false, 63), (false, 0), (0, 0, 0), (0, 0, 0), []) ∧
  pw_fnd pp_M_row 63 = (.invokevirtual 151, (false, 66), (false, 4), (26, 4, 1), (0, 0, 736), []) ∧
  pw_fnd pp_M_row 66 = (.istore 4, (false, 68), (false, 0), (0, 0, 0), (0, 0, 0), []) ∧
  pw_fnd pp_M_row 68 = (.iinc 5 1, (false, 71), (false, 0), (0, 0, 0), (0, 0, 0), [(1, (false, 0))]) ∧
  pw_fnd pp_M_row 71 = (.goto (-37), (false, 74), (true, 34), (0, 0, 0), (0, 0, 0), []) ∧
  pw_fnd pp_M_row 74 = (.iload 4, (false, 76), (false, 0), (0, 0, 0), (0, 0, 0), []) ∧
  pw_fnd pp_M_row 76 = (.ifCond .lt 7, (false, 79), (false, 83), (0, 0, 0), (0, 0, 0), []) ∧
  pw_fnd pp_M_row 79 = (.iload_n 3, (false, 80), (false, 0), (0, 0, 0), (0, 0, 0), []) ∧
  pw_fnd pp_M_row 80 = (.ifCond .ge 8, (false, 83), (false, 88), (0, 0, 0), (0, 0, 0), []) ∧
  pw_fnd pp_M_row 83 = (.bipush (-9), (false, 85), (false, 0), (0, 0, 0), (0, 0, 0), [((-9), (false, 0))]) ∧
  pw_fnd pp_M_row 85 = (.goto 5, (false, 88), (false, 90), (0, 0, 0), (0, 0, 0), []) ∧
  pw_fnd pp_M_row 88 = (.iload 4, (false, 90), (false, 0), (0, 0, 0), (0, 0, 0), []) ∧
  pw_fnd pp_M_row 90 = (.ireturn, (false, 91), (false, 0), (0, 0, 0), (0, 0, 0), []) :=
  ⟨rfl, rfl, rfl, rfl, rfl, rfl, rfl, rfl, rfl, rfl, rfl, rfl, rfl, rfl, rfl, rfl, rfl, rfl, rfl, rfl, rfl, rfl, rfl, rfl, rfl, rfl, rfl, rfl, rfl, rfl, rfl, rfl, rfl, rfl, rfl, rfl, rfl, rfl, rfl, rfl, rfl, rfl, rfl, rfl, rfl, rfl, rfl, rfl⟩
set_option maxRecDepth 100000 in
theorem pk_M_row : pp_M_row.all (fun q => pw_chk pw_jt pm_M_row q.1 q.2) = true := by decide +kernel
def pp_M_firstFree : List (Nat × pw_E) := [(0, (.aload_n 0, (false, 1), (false, 0), (0, 0, 0), (0, 0, 0), [])),
  (1, (.getfield 114, (false, 4), (false, 0), (4, 0, 0), (0, 0, 517), [])),
  (4, (.aload_n 0, (false, 5), (false, 0), (0, 0, 0), (0, 0, 0), [])),
  (5, (.iload_n 2, (false, 6), (false, 0), (0, 0, 0), (0, 0, 0), [])),
  (6, (.invokevirtual 105, (false, 9), (false, 4), (58, 2, 1), (0, 0, 652), [])),
  (9, (.idiv, (false, 10), (false, 0), (0, 0, 0), (0, 0, 0), [])),
  (10, (.istore_n 3, (false, 11), (false, 0), (0, 0, 0), (0, 0, 0), [])),
  (11, (.iload_n 3, (false, 12), (false, 0), (0, 0, 0), (0, 0, 0), [])),
  (12, (.iconst 1, (false, 13), (false, 0), (0, 0, 0), (0, 0, 0), [(1, (false, 0))])),
  (13, (.iadd, (false, 14), (false, 0), (0, 0, 0), (0, 0, 0), [])),
  (14, (.istore 4, (true, 16), (false, 0), (0, 0, 0), (0, 0, 0), [])),
  (16, (.iload 4, (false, 18), (false, 0), (0, 0, 0), (0, 0, 0), [])),
  (18, (.iload_n 3, (false, 19), (false, 0), (0, 0, 0), (0, 0, 0), [])),
  (19, (.bipush 40, (false, 21), (false, 0), (0, 0, 0), (0, 0, 0), [(40, (false, 0))])),
  (21, (.iadd, (false, 22), (false, 0), (0, 0, 0), (0, 0, 0), [])),
  (22, (.if_icmp .gt 34, (false, 25), (false, 56), (0, 0, 0), (0, 0, 0), [])),
  (25, (.aload_n 0, (false, 26), (false, 0), (0, 0, 0), (0, 0, 0), [])),
  (26, (.iload_n 1, (false, 27), (false, 0), (0, 0, 0), (0, 0, 0), [])),
  (27, (.iload_n 2, (false, 28), (false, 0), (0, 0, 0), (0, 0, 0), [])),
  (28, (.iload 4, (false, 30), (false, 0), (0, 0, 0), (0, 0, 0), [])),
  (30, (.invokevirtual 117, (false, 33), (false, 4), (59, 4, 1), (0, 0, 660), [])),
  (33, (.ifCond .eq 17, (false, 36), (false, 50), (0, 0, 0), (0, 0, 0), [])),
  (36, (.aload_n 0, (false, 37), (false, 0), (0, 0, 0), (0, 0, 0), [])),
  (37, (.iload_n 1, (false, 38), (false, 0), (0, 0, 0), (0, 0, 0), [])),
  (38, (.iload_n 2, (false, 39), (false, 0), (0, 0, 0), (0, 0, 0), [])),
  (39, (.iload 4, (false, 41), (false, 0), (0, 0, 0), (0, 0, 0), [])),
  (41, (.invokevirtual 120, (false, 44), (false, 4), (78, 4, 1), (0, 0, 668), [])),
  (44, (.ifCond .ne 6, (false, 47), (false, 50), (0, 0, 0), (0, 0, 0), [])),
  (47, (.iload 4, (false, 49), (false, 0), (0, 0, 0), (0, 0, 0), [])),
  (49, (.ireturn, (false, 50), (false, 0), (0, 0, 0), (0, 0, 0), [])),
  (50, (.iinc 4 1, (false, 53), (false, 0), (0, 0, 0), (0, 0, 0), [(1, (false, 0))])),
  (53, (.goto (-37), (false, 56), (true, 16), (0, 0, 0), (0, 0, 0), [])),
  (56, (.bipush (-3), (false, 58), (false, 0), (0, 0, 0), (0, 0, 0), [((-3), (false, 0))])),
  (58, (.ireturn, (false, 59), (false, 0), (0, 0, 0), (0, 0, 0), []))]
set_option maxRecDepth 100000 in
theorem pe_M_firstFree : pw_fnd pp_M_firstFree 0 = (.aload_n 0, (false, 1), (false, 0), (0, 0, 0), (0, 0, 0), []) ∧
  pw_fnd pp_M_firstFree 1 = (.getfield 114, (false, 4), (false, 0), (4, 0, 0), (0, 0, 517), []) ∧
  pw_fnd pp_M_firstFree 4 = (.aload_n 0, (false, 5), (false, 0), (0, 0, 0), (0, 0, 0), []) ∧
  pw_fnd pp_M_firstFree 5 = (.iload_n 2, (false, 6), (false, 0), (0, 0, 0), (0, 0, 0), []) ∧
  pw_fnd pp_M_firstFree 6 = (.invokevirtual 105, (false, 9), (false, 4), (58, 2, 1), (0, 0, 652), []) ∧
  pw_fnd pp_M_firstFree 9 = (.idiv, (false, 10), (false, 0), (0, 0, 0), (0, 0, 0), []) ∧
  pw_fnd pp_M_firstFree 10 = (.istore_n 3, (false, 11), (false, 0), (0, 0, 0), (0, 0, 0), []) ∧
  pw_fnd pp_M_firstFree 11 = (.iload_n 3, (false, 12), (false, 0), (0, 0, 0), (0, 0, 0), []) ∧
  pw_fnd pp_M_firstFree 12 = (.iconst 1, (false, 13), (false, 0), (0, 0, 0), (0, 0, 0), [(1, (false, 0))]) ∧
  pw_fnd pp_M_firstFree 13 = (.iadd, (false, 14), (false, 0), (0, 0, 0), (0, 0, 0), []) ∧
  pw_fnd pp_M_firstFree 14 = (.istore 4, (true, 16), (false, 0), (0, 0, 0), (0, 0, 0), []) ∧
  pw_fnd pp_M_firstFree 16 = (.iload 4, (false, 18), (false, 0), (0, 0, 0), (0, 0, 0), []) ∧
  pw_fnd pp_M_firstFree 18 = (.iload_n 3, (false, 19), (false, 0), (0, 0, 0), (0, 0, 0), []) ∧
  pw_fnd pp_M_firstFree 19 = (.bipush 40, (false, 21), (false, 0), (0, 0, 0), (0, 0, 0), [(40, (false, 0))]) ∧
  pw_fnd pp_M_firstFree 21 = (.iadd, (false, 22), (false, 0), (0, 0, 0), (0, 0, 0), []) ∧
  pw_fnd pp_M_firstFree 22 = (.if_icmp .gt 34, (false, 25), (false, 56), (0, 0, 0), (0, 0, 0), []) ∧
  pw_fnd pp_M_firstFree 25 = (.aload_n 0, (false, 26), (false, 0), (0, 0, 0), (0, 0, 0), []) ∧
  pw_fnd pp_M_firstFree 26 = (.iload_n 1, (false, 27), (false, 0), (0, 0, 0), (0, 0, 0), []) ∧
  pw_fnd pp_M_firstFree 27 = (.iload_n 2, (false, 28), (false, 0), (0, 0, 0), (0, 0, 0), []) ∧
  pw_fnd pp_M_firstFree 28 = (.iload 4, (false, 30), (false, 0), (0, 0, 0), (0, 0, 0), []) ∧
  pw_fnd pp_M_firstFree 30 = (.invokevirtual 117, (false, 33), (false, 4), (59, 4, 1), (0, 0, 660), []) ∧
  pw_fnd pp_M_firstFree 33 = (.ifCond .eq 17, (false, 36), (false, 50), (0, 0, 0), (0, 0, 0), []) ∧
  pw_fnd pp_M_firstFree 36 = (.aload_n 0, (false, 37), (false, 0), (0, 0, 0), (0, 0, 0), []) ∧
  pw_fnd pp_M_firstFree 37 = (.iload_n 1, (false, 38), (false, 0), (0, 0, 0), (0, 0, 0), []) ∧
  pw_fnd pp_M_firstFree 38 = (.iload_n 2, (false, 39), (false, 0), (0, 0, 0), (0, 0, 0), []) ∧
  pw_fnd pp_M_firstFree 39 = (.iload 4, (false, 41), (false, 0), (0, 0, 0), (0, 0, 0), []) ∧
  pw_fnd pp_M_firstFree 41 = (.invokevirtual 120, (false, 44), (false, 4), (78, 4, 1), (0, 0, 668), []) ∧
  pw_fnd pp_M_firstFree 44 = (.ifCond .ne 6, (false, 47), (false, 50), (0, 0, 0), (0, 0, 0), []) ∧
  pw_fnd pp_M_firstFree 47 = (.iload 4, (false, 49), (false, 0), (0, 0, 0), (0, 0, 0), []) ∧
  pw_fnd pp_M_firstFree 49 = (.ireturn, (false, 50), (false, 0), (0, 0, 0), (0, 0, 0), []) ∧
  pw_fnd pp_M_firstFree 50 = (.iinc 4 1, (false, 53), (false, 0), (0, 0, 0), (0, 0, 0), [(1, (false, 0))]) ∧
  pw_fnd pp_M_firstFree 53 = (.goto (-37), (false, 56), (true, 16), (0, 0, 0), (0, 0, 0), []) ∧
  pw_fnd pp_M_firstFree 56 = (.bipush (-3), (false, 58), (false, 0), (0, 0, 0), (0, 0, 0), [((-3), (false, 0))]) ∧
  pw_fnd pp_M_firstFree 58 = (.ireturn, (false, 59), (false, 0), (0, 0, 0), (0, 0, 0), []) :=
  ⟨rfl, rfl, rfl, rfl, rfl, rfl, rfl, rfl, rfl, rfl, rfl, rfl, rfl, rfl, rfl, rfl, rfl, rfl, rfl, rfl, rfl, rfl, rfl, rfl, rfl, rfl, rfl, rfl, rfl, rfl, rfl, rfl, rfl, rfl⟩
set_option maxRecDepth 100000 in
theorem pk_M_firstFree : pp_M_firstFree.all (fun q => pw_chk pw_jt pm_M_firstFree q.1 q.2) = true := by decide +kernel
def pp_M_windowEnded : List (Nat × pw_E) := [(0, (.iconst 0, (false, 1), (false, 0), (0, 0, 0), (0, 0, 0), [(0, (false, 0))])),
  (1, (.istore_n 3, (true, 2), (false, 0), (0, 0, 0), (0, 0, 0), [])),
  (2, (.iload_n 3, (false, 3), (false, 0), (0, 0, 0), (0, 0, 0), [])),
  (3, (.aload_n 0, (false, 4), (false, 0), (0, 0, 0), (0, 0, 0), [])),
  (4, (.getfield 91, (false, 7), (false, 0), (4, 14, 0), (0, 0, 531), [])),
  (7, (.if_icmp .ge 124, (false, 10), (false, 131), (0, 0, 0), (0, 0, 0), [])),
  (10, (.iconst 0, (false, 11), (false, 0), (0, 0, 0), (0, 0, 0), [(0, (false, 0))])),
  (11, (.istore 4, (true, 13), (false, 0), (0, 0, 0), (0, 0, 0), [])),
  (13, (.iload 4, (false, 15), (false, 0), (0, 0, 0), (0, 0, 0), [])),
  (15, (.aload_n 0, (false, 16), (false, 0), (0, 0, 0), (0, 0, 0), [])),
  (16, (.getfield 59, (false, 19), (false, 0), (4, 21, 1), (0, 0, 538), [])),
  (19, (.iload_n 3, (false, 20), (false, 0), (0, 0, 0), (0, 0, 0), [])),
  (20, (.iaload, (false, 21), (false, 0), (0, 0, 0), (0, 0, 0), [])),
  (21, (.if_icmp .ge 104, (false, 24), (false, 125), (0, 0, 0), (0, 0, 0), [])),
  (24, (.aload_n 0, (false, 25), (false, 0), (0, 0, 0), (0, 0, 0), [])),
  (25, (.getfield 62, (false, 28), (false, 0), (4, 22, 1), (0, 0, 539), [])),
  (28, (.iconst 2, (false, 29), (false, 0), (0, 0, 0), (0, 0, 0), [(2, (false, 0))])),
  (29, (.iload_n 3, (false, 30), (false, 0), (0, 0, 0), (0, 0, 0), [])),
  (30, (.imul, (false, 31), (false, 0), (0, 0, 0), (0, 0, 0), [])),
  (31, (.iload 4, (false, 33), (false, 0), (0, 0, 0), (0, 0, 0), [])),
  (33, (.iadd, (false, 34), (false, 0), (0, 0, 0), (0, 0, 0), [])),
  (34, (.iaload, (false, 35), (false, 0), (0, 0, 0), (0, 0, 0), [])),
  (35, (.iload_n 1, (false, 36), (false, 0), (0, 0, 0), (0, 0, 0), [])),
  (36, (.if_icmp .ne 83, (false, 39), (false, 119), (0, 0, 0), (0, 0, 0), [])),
  (39, (.aload_n 0, (false, 40), (false, 0), (0, 0, 0), (0, 0, 0), [])),
  (40, (.getfield 65, (false, 43), (false, 0), (4, 23, 1), (0, 0, 540), [])),
  (43, (.iconst 2, (false, 44), (false, 0), (0, 0, 0), (0, 0, 0), [(2, (false, 0))])),
  (44, (.iload_n 3, (false, 45), (false, 0), (0, 0, 0), (0, 0, 0), [])),
  (45, (.imul, (false, 46), (false, 0), (0, 0, 0), (0, 0, 0), [])),
  (46, (.iload 4, (false, 48), (false, 0), (0, 0, 0), (0, 0, 0), [])),
  (48, (.iadd, (false, 49), (false, 0), (0, 0, 0), (0, 0, 0), [])),
  (49, (.iaload, (false, 50), (false, 0), (0, 0, 0), (0, 0, 0), [])),
  (50, (.iload_n 2, (false, 51), (false, 0), (0, 0, 0), (0, 0, 0), [])),
  (51, (.if_icmp .eq 6, (false, 54), (false, 57), (0, 0, 0), (0, 0, 0), [])),
  (54, (.goto 65, (false, 57), (false, 119), (0, 0, 0), (0, 0, 0), [])),
  (57, (.aload_n 0, (false, 58), (false, 0), (0, 0, 0), (0, 0, 0), [])),
  (58, (.iload_n 1, (false, 59), (false, 0), (0, 0, 0), (0, 0, 0), [])),
  (59, (.invokevirtual 162, (false, 62), (false, 4), (28, 2, 1), (0, 0, 724), [])),
  (62, (.ifCond .eq 26, (false, 65), (false, 88), (0, 0, 0), (0, 0, 0), [])),
  (65, (.aload_n 0, (false, 66), (false, 0), (0, 0, 0), (0, 0, 0), [])),
  (66, (.getfield 74, (false, 69), (false, 0), (4, 26, 1), (0, 0, 543), [])),
  (69, (.iload_n 3, (false, 70), (false, 0), (0, 0, 0), (0, 0, 0), [])),
  (70, (.dup2, (false, 71), (false, 0), (0, 0, 0), (0, 0, 0), [])),
  (71, (.iaload, (false, 72), (false, 0), (0, 0, 0), (0, 0, 0), [])),
  (72, (.iconst 1, (false, 73), (false, 0), (0, 0, 0), (0, 0, 0), [(1, (false, 0))])),
  (73, (.iadd, (false, 74), (false, 0), (0, 0, 0), (0, 0, 0), [])),
  (74, (.iastore, (false, 75), (false, 0), (0, 0, 0), (0, 0, 0), [])),
  (75, (.aload_n 0, (false, 76), (false, 0), (0, 0, 0), (0, 0, 0), [])),
  (76, (.iload_n 3, (false, 77), (false, 0), (0, 0, 0), (0, 0, 0), [])),
  (77, (.iload 4, (false, 79), (false, 0), (0, 0, 0), (0, 0, 0), [])),
  (79, (.invokevirtual 130, (false, 82), (false, 4), (23, 3, 0), (0, 0, 680), [])),
  (82, (.iinc 4 (-1), (false, 85), (false, 0), (0, 0, 0), (0, 0, 0), [((-1), (false, 0))])),
  (85, (.goto 34, (false, 88), (false, 119), (0, 0, 0), (0, 0, 0), [])),
  (88, (.aload_n 0, (false, 89), (false, 0), (0, 0, 0), (0, 0, 0), [])),
  (89, (.iload_n 3, (false, 90), (false, 0), (0, 0, 0), (0, 0, 0), [])),
  (90, (.iload 4, (false, 92), (false, 0), (0, 0, 0), (0, 0, 0), [])),
  (92, (.iload_n 2, (false, 93), (false, 0), (0, 0, 0), (0, 0, 0), [])),
  (93, (.invokevirtual 165, (false, 96), (false, 4), (87, 4, 1), (0, 0, 748), [])),
  (96, (.ifCond .ne 23, (false, 99), (false, 119), (0, 0, 0), (0, 0, 0), [])),
  (99, (.aload_n 0, (false, 100), (false, 0), (0, 0, 0), (0, 0, 0), [])),
  (100, (.getfield 68, (false, 103), (false, 0), (4, 24, 1), (0, 0, 541), [])),
  (103, (.iload_n 3, (false, 104), (false, 0), (0, 0, 0), (0, 0, 0), [])),
  (104, (.dup2, (false, 105), (false, 0), (0, 0, 0), (0, 0, 0), [])),
  (105, (.iaload, (false, 106), (false, 0), (0, 0, 0), (0, 0, 0), [])),
  (106, (.iconst 1, (false, 107), (false, 0), (0, 0, 0), (0, 0, 0), [(1, (false, 0))])),
  (107, (.iadd, (false, 108), (false, 0), (0, 0, 0), (0, 0, 0), [])),
  (108, (.iastore, (false, 109), (false, 0), (0, 0, 0), (0, 0, 0), [])),
  (109, (.aload_n 0, (false, 110), (false, 0), (0, 0, 0), (0, 0, 0), [])),
  (110, (.iload_n 3, (false, 111), (false, 0), (0, 0, 0), (0, 0, 0), [])),
  (111, (.iload 4, (false, 113), (false, 0), (0, 0, 0), (0, 0, 0), [])),
  (113, (.invokevirtual 130, (false, 116), (false, 4), (23, 3, 0), (0, 0, 680), [])),
  (116, (.iinc 4 (-1), (false, 119), (false, 0), (0, 0, 0), (0, 0, 0), [((-1), (false, 0))])),
  (119, (.iinc 4 1, (false, 122), (false, 0), (0, 0, 0), (0, 0, 0), [(1, (false, 0))])),
  (122, (.goto (-109), (false, 125), (true, 13), (0, 0, 0), (0, 0, 0), [])),
  (125, (.iinc 3 1, (false, 128), (false, 0), (0, 0, 0), (0, 0, 0), [(1, (false, 0))])),
  (128, (.goto (-126), (false, 131), (true, 2), (0, 0, 0), (0, 0, 0), [])),
  (131, (.return_, (false, 132), (false, 0), (0, 0, 0), (0, 0, 0), []))]
set_option maxRecDepth 100000 in
theorem pe_M_windowEnded : pw_fnd pp_M_windowEnded 0 = (.iconst 0, (false, 1), (false, 0), (0, 0, 0), (0, 0, 0), [(0, (false, 0))]) ∧
  pw_fnd pp_M_windowEnded 1 = (.istore_n 3, (true, 2), (false, 0), (0, 0, 0), (0, 0, 0), []) ∧
  pw_fnd pp_M_windowEnded 2 = (.iload_n 3, (false, 3), (false, 0), (0, 0, 0), (0, 0, 0), []) ∧
  pw_fnd pp_M_windowEnded 3 = (.aload_n 0, (false, 4), (false, 0), (0, 0, 0), (0, 0, 0), []) ∧
  pw_fnd pp_M_windowEnded 4 = (.getfield 91, (false, 7), (false, 0), (4, 14, 0), (0, 0, 531), []) ∧
  pw_fnd pp_M_windowEnded 7 = (.if_icmp .ge 124, (false, 10), (false, 131), (0, 0, 0), (0, 0, 0), []) ∧
  pw_fnd pp_M_windowEnded 10 = (.iconst 0, (false, 11), (false, 0), (0, 0, 0), (0, 0, 0), [(0, (false, 0))]) ∧
  pw_fnd pp_M_windowEnded 11 = (.istore 4, (true, 13), (false, 0), (0, 0, 0), (0, 0, 0), []) ∧
  pw_fnd pp_M_windowEnded 13 = (.iload 4, (false, 15), (false, 0), (0, 0, 0), (0, 0, 0), []) ∧
  pw_fnd pp_M_windowEnded 15 = (.aload_n 0, (false, 16), (false, 0), (0, 0, 0), (0, 0, 0), []) ∧
  pw_fnd pp_M_windowEnded 16 = (.getfield 59, (false, 19), (false, 0), (4, 21, 1), (0, 0, 538), []) ∧
  pw_fnd pp_M_windowEnded 19 = (.iload_n 3, (false, 20), (false, 0), (0, 0, 0), (0, 0, 0), []) ∧
  pw_fnd pp_M_windowEnded 20 = (.iaload, (false, 21), (false, 0), (0, 0, 0), (0, 0, 0), []) ∧
  pw_fnd pp_M_windowEnded 21 = (.if_icmp .ge 104, (false, 24), (false, 125), (0, 0, 0), (0, 0, 0), []) ∧
  pw_fnd pp_M_windowEnded 24 = (.aload_n 0, (false, 25), (false, 0), (0, 0, 0), (0, 0, 0), []) ∧
  pw_fnd pp_M_windowEnded 25 = (.getfield 62, (false, 28), (false, 0), (4, 22, 1), (0, 0, 539), []) ∧
  pw_fnd pp_M_windowEnded 28 = (.iconst 2, (false, 29), (false, 0), (0, 0, 0), (0, 0, 0), [(2, (false, 0))]) ∧
  pw_fnd pp_M_windowEnded 29 = (.iload_n 3, (false, 30), (false, 0), (0, 0, 0), (0, 0, 0), []) ∧
  pw_fnd pp_M_windowEnded 30 = (.imul, (false, 31), (false, 0), (0, 0, 0), (0, 0, 0), []) ∧
  pw_fnd pp_M_windowEnded 31 = (.iload 4, (false, 33), (false, 0), (0, 0, 0), (0, 0, 0), []) ∧
  pw_fnd pp_M_windowEnded 33 = (.iadd, (false, 34), (false, 0), (0, 0, 0), (0, 0, 0), []) ∧
  pw_fnd pp_M_windowEnded 34 = (.iaload, (false, 35), (false, 0), (0, 0, 0), (0, 0, 0), []) ∧
  pw_fnd pp_M_windowEnded 35 = (.iload_n 1, (false, 36), (false, 0), (0, 0, 0), (0, 0, 0), []) ∧
  pw_fnd pp_M_windowEnded 36 = (.if_icmp .ne 83, (false, 39), (false, 119), (0, 0, 0), (0, 0, 0), []) ∧
  pw_fnd pp_M_windowEnded 39 = (.aload_n 0, (false, 40), (false, 0), (0, 0, 0), (0, 0, 0), []) ∧
  pw_fnd pp_M_windowEnded 40 = (.getfield 65, (false, 43), (false, 0), (4, 23, 1), (0, 0, 540), []) ∧
  pw_fnd pp_M_windowEnded 43 = (.iconst 2, (false, 44), (false, 0), (0, 0, 0), (0, 0, 0), [(2, (false, 0))]) ∧
  pw_fnd pp_M_windowEnded 44 = (.iload_n 3, (false, 45), (false, 0), (0, 0, 0), (0, 0, 0), []) ∧
  pw_fnd pp_M_windowEnded 45 = (.imul, (false, 46), (false, 0), (0, 0, 0), (0, 0, 0), []) ∧
  pw_fnd pp_M_windowEnded 46 = (.iload 4, (false, 48), (false, 0), (0, 0, 0), (0, 0, 0), []) ∧
  pw_fnd pp_M_windowEnded 48 = (.iadd, (false, 49), (false, 0), (0, 0, 0), (0, 0, 0), []) ∧
  pw_fnd pp_M_windowEnded 49 = (.iaload, (false, 50), (false, 0), (0, 0, 0), (0, 0, 0), []) ∧
  pw_fnd pp_M_windowEnded 50 = (.iload_n 2, (false, 51), (false, 0), (0, 0, 0), (0, 0, 0), []) ∧
  pw_fnd pp_M_windowEnded 51 = (.if_icmp .eq 6, (false, 54), (false, 57), (0, 0, 0), (0, 0, 0), []) ∧
  pw_fnd pp_M_windowEnded 54 = (.goto 65, (false, 57), (false, 119), (0, 0, 0), (0, 0, 0), []) ∧
  pw_fnd pp_M_windowEnded 57 = (.aload_n 0, (false, 58), (false, 0), (0, 0, 0), (0, 0, 0), []) ∧
  pw_fnd pp_M_windowEnded 58 = (.iload_n 1, (false, 59), (false, 0), (0, 0, 0), (0, 0, 0), []) ∧
  pw_fnd pp_M_windowEnded 59 = (.invokevirtual 162, (false, 62), (false, 4), (28, 2, 1), (0, 0, 724), []) ∧
  pw_fnd pp_M_windowEnded 62 = (.ifCond .eq 26, (false, 65), (false, 88), (0, 0, 0), (0, 0, 0), []) ∧
  pw_fnd pp_M_windowEnded 65 = (.aload_n 0, (false, 66), (false, 0), (0, 0, 0), (0, 0, 0), []) ∧
  pw_fnd pp_M_windowEnded 66 = (.getfield 74, (false, 69), (false, 0), (4, 26, 1), (0, 0, 543), []) ∧
  pw_fnd pp_M_windowEnded 69 = (.iload_n 3, (false, 70), (false, 0), (0, 0, 0), (0, 0, 0), []) ∧
  pw_fnd pp_M_windowEnded 70 = (.dup2, (false, 71), (false, 0), (0, 0, 0), (0, 0, 0), []) ∧
  pw_fnd pp_M_windowEnded 71 = (.iaload, (false, 72), (false, 0), (0, 0, 0), (0, 0, 0), []) ∧
  pw_fnd pp_M_windowEnded 72 = (.iconst 1, (false, 73), (false, 0), (0, 0, 0), (0, 0, 0), [(1, (false, 0))]) ∧
  pw_fnd pp_M_windowEnded 73 = (.iadd, (false, 74), (false, 0), (0, 0, 0), (0, 0, 0), []) ∧
  pw_fnd pp_M_windowEnded 74 = (.iastore, (false, 75), (false, 0), (0, 0, 0), (0, 0, 0), []) ∧
  pw_fnd pp_M_windowEnded 75 = (.aload_n 0, (false, 76), (false, 0), (0, 0, 0), (0, 0, 0), []) ∧
  pw_fnd pp_M_windowEnded 76 = (.iload_n 3, (false, 77), (false, 0), (0, 0, 0), (0, 0, 0), []) ∧
  pw_fnd pp_M_windowEnded 77 = (.iload 4, (false, 79), (false, 0), (0, 0, 0), (0, 0, 0), []) ∧
  pw_fnd pp_M_windowEnded 79 = (.invokevirtual 130, (false, 82), (false, 4), (23, 3, 0), (0, 0, 680), []) ∧
  pw_fnd pp_M_windowEnded 82 = (.iinc 4 (-1), (false, 85), (false, 0), (0, 0, 0), (0, 0, 0), [((-1), (false, 0))]) ∧
  pw_fnd pp_M_windowEnded 85 = (.goto 34, (false, 88), (false, 119), (0, 0, 0), (0, 0, 0), []) ∧
  pw_fnd pp_M_windowEnded 88 = (.aload_n 0, (false, 89), (false, 0), (0, 0, 0), (0, 0, 0), []) ∧
  pw_fnd pp_M_windowEnded 89 = (.iload_n 3, (false, 90), (false, 0), (0, 0, 0), (0, 0, 0), []) ∧
  pw_fnd pp_M_windowEnded 90 = (.iload 4, (false, 92), (false, 0), (0, 0, 0), (0, 0, 0), []) ∧
  pw_fnd pp_M_windowEnded 92 = (.iload_n 2, (false, 93), (false, 0), (0, 0, 0), (0, 0, 0), []) ∧
  pw_fnd pp_M_windowEnded 93 = (.invokevirtual 165, (false, 96), (false, 4), (87, 4, 1), (0, 0, 748), []) ∧
  pw_fnd pp_M_windowEnded 96 = (.ifCond .ne 23, (false, 99), (false, 119), (0, 0, 0), (0, 0, 0), []) ∧
  pw_fnd pp_M_windowEnded 99 = (.aload_n 0, (false, 100), (false, 0), (0, 0, 0), (0, 0, 0), []) ∧
  pw_fnd pp_M_windowEnded 100 = (.getfield 68, (false, 103), (false, 0), (4, 24, 1), (0, 0, 541), []) ∧
  pw_fnd pp_M_windowEnded 103 = (.iload_n 3, (false, 104), (false, 0), (0, 0, 0), (0, 0, 0), []) ∧
  pw_fnd pp_M_windowEnded 104 = (.dup2, (false, 105), (false, 0), (0, 0, 0), (0, 0, 0), []) ∧
  pw_fnd pp_M_windowEnded 105 = (.iaload, (false, 106), (false, 0), (0, 0, 0), (0, 0, 0), []) ∧
  pw_fnd pp_M_windowEnded 106 = (.iconst 1, (false, 107), (false, 0), (0, 0, 0), (0, 0, 0), [(1, (false, 0))]) ∧
  pw_fnd pp_M_windowEnded 107 = (.iadd, (false, 108), (false, 0), (0, 0, 0), (0, 0, 0), []) ∧
  pw_fnd pp_M_windowEnded 108 = (.iastore, (false, 109), (false, 0), (0, 0, 0), (0, 0, 0), []) ∧
  pw_fnd pp_M_windowEnded 109 = (.aload_n 0, (false, 110), (false, 0), (0, 0, 0), (0, 0, 0), []) ∧
  pw_fnd pp_M_windowEnded 110 = (.iload_n 3, (false, 111), (false, 0), (0, 0, 0), (0, 0, 0), []) ∧
  pw_fnd pp_M_windowEnded 111 = (.iload 4, (false, 113), (false, 0), (0, 0, 0), (0, 0, 0), []) ∧
  pw_fnd pp_M_windowEnded 113 = (.invokevirtual 130, (false, 116), (false, 4), (23, 3, 0), (0, 0, 680), []) ∧
  pw_fnd pp_M_windowEnded 116 = (.iinc 4 (-1), (false, 119), (false, 0), (0, 0, 0), (0, 0, 0), [((-1), (false, 0))]) ∧
  pw_fnd pp_M_windowEnded 119 = (.iinc 4 1, (false, 122), (false, 0), (0, 0, 0), (0, 0, 0), [(1, (false, 0))]) ∧
  pw_fnd pp_M_windowEnded 122 = (.goto (-109), (false, 125), (true, 13), (0, 0, 0), (0, 0, 0), []) ∧
  pw_fnd pp_M_windowEnded 125 = (.iinc 3 1, (false, 128), (false, 0), (0, 0, 0), (0, 0, 0), [(1, (false, 0))]) ∧
  pw_fnd pp_M_windowEnded 128 = (.goto (-126), (false, 131), (true, 2), (0, 0, 0), (0, 0, 0), []) ∧
  pw_fnd pp_M_windowEnded 131 = (.return_, (false, 132), (false, 0), (0, 0, 0), (0, 0, 0), []) :=
  ⟨rfl, rfl, rfl, rfl, rfl, rfl, rfl, rfl, rfl, rfl, rfl, rfl, rfl, rfl, rfl, rfl, rfl, rfl, rfl, rfl, rfl, rfl, rfl, rfl, rfl, rfl, rfl, rfl, rfl, rfl, rfl, rfl, rfl, rfl, rfl, rfl, rfl, rfl, rfl, rfl, rfl, rfl, rfl, rfl, rfl, rfl, rfl, rfl, rfl, rfl, rfl, rfl, rfl, rfl, rfl, rfl, rfl, rfl, rfl, rfl, rfl, rfl, rfl, rfl, rfl, rfl, rfl, rfl, rfl, rfl, rfl, rfl, rfl, rfl, rfl, rfl, rfl⟩
set_option maxRecDepth 100000 in
theorem pk_M_windowEnded : pp_M_windowEnded.all (fun q => pw_chk pw_jt pm_M_windowEnded q.1 q.2) = true := by decide +kernel
def pp_M_free : List (Nat × pw_E) := [(0, (.aload_n 0, (false, 1), (false, 0), (0, 0, 0), (0, 0, 0), [])),
  (1, (.iload_n 1, (false, 2), (false, 0), (0, 0, 0), (0, 0, 0), [])),
  (2, (.iload_n 2, (false, 3), (false, 0), (0, 0, 0), (0, 0, 0), [])),
  (3, (.invokevirtual 123, (false, 6), (false, 4), (79, 3, 1), (0, 0, 640), [])),
  (6, (.istore_n 3, (false, 7), (false, 0), (0, 0, 0), (0, 0, 0), [])),
  (7, (.iload_n 3, (false, 8), (false, 0), (0, 0, 0), (0, 0, 0), [])),
  (8, (.ifCond .ge 7, (false, 11), (false, 15), (0, 0, 0), (0, 0, 0), [])),
  (11, (.iload_n 3, (false, 12), (false, 0), (0, 0, 0), (0, 0, 0), [])),
  (12, (.goto 9, (false, 15), (false, 21), (0, 0, 0), (0, 0, 0), [])),
  (15, (.aload_n 0, (false, 16), (false, 0), (0, 0, 0), (0, 0, 0), [])),
  (16, (.iload_n 1, (false, 17), (false, 0), (0, 0, 0), (0, 0, 0), [])),
  (17, (.iload_n 2, (false, 18), (false, 0), (0, 0, 0), (0, 0, 0), [])),
  (18, (.invokevirtual 127, (false, 21), (false, 4), (102, 3, 1), (0, 0, 648), [])),
  (21, (.istore_n 3, (false, 22), (false, 0), (0, 0, 0), (0, 0, 0), [])),
  (22, (.iload_n 3, (false, 23), (false, 0), (0, 0, 0), (0, 0, 0), [])),
  (23, (.ifCond .ge 11, (false, 26), (false, 34), (0, 0, 0), (0, 0, 0), [])),
  (26, (.aload_n 0, (false, 27), (false, 0), (0, 0, 0), (0, 0, 0), [])),
  (27, (.iload_n 3, (false, 28), (false, 0), (0, 0, 0), (0, 0, 0), [])),
  (28, (.invokevirtual 94, (false, 31), (false, 4), (20, 2, 1), (0, 0, 613), [])),
  (31, (.goto 4, (false, 34), (false, 35), (0, 0, 0), (0, 0, 0), [])),
  (34, (.iload_n 3, (false, 35), (false, 0), (0, 0, 0), (0, 0, 0), [])),
  (35, (.ireturn, (false, 36), (false, 0), (0, 0, 0), (0, 0, 0), []))]
set_option maxRecDepth 100000 in
theorem pe_M_free : pw_fnd pp_M_free 0 = (.aload_n 0, (false, 1), (false, 0), (0, 0, 0), (0, 0, 0), []) ∧
  pw_fnd pp_M_free 1 = (.iload_n 1, (false, 2), (false, 0), (0, 0, 0), (0, 0, 0), []) ∧
  pw_fnd pp_M_free 2 = (.iload_n 2, (false, 3), (false, 0), (0, 0, 0), (0, 0, 0), []) ∧
  pw_fnd pp_M_free 3 = (.invokevirtual 123, (false, 6), (false, 4), (79, 3, 1), (0, 0, 640), []) ∧
  pw_fnd pp_M_free 6 = (.istore_n 3, (false, 7), (false, 0), (0, 0, 0), (0, 0, 0), []) ∧
  pw_fnd pp_M_free 7 = (.iload_n 3, (false, 8), (false, 0), (0, 0, 0), (0, 0, 0), []) ∧
  pw_fnd pp_M_free 8 = (.ifCond .ge 7, (false, 11), (false, 15), (0, 0, 0), (0, 0, 0), []) ∧
  pw_fnd pp_M_free 11 = (.iload_n 3, (false, 12), (false, 0), (0, 0, 0), (0, 0, 0), []) ∧
  pw_fnd pp_M_free 12 = (.goto 9, (false, 15), (false, 21), (0, 0, 0), (0, 0, 0), []) ∧
  pw_fnd pp_M_free 15 = (.aload_n 0, (false, 16), (false, 0), (0, 0, 0), (0, 0, 0), []) ∧
  pw_fnd pp_M_free 16 = (.iload_n 1, (false, 17), (false, 0), (0, 0, 0), (0, 0, 0), []) ∧
  pw_fnd pp_M_free 17 = (.iload_n 2, (false, 18), (false, 0), (0, 0, 0), (0, 0, 0), []) ∧
  pw_fnd pp_M_free 18 = (.invokevirtual 127, (false, 21), (false, 4), (102, 3, 1), (0, 0, 648), []) ∧
  pw_fnd pp_M_free 21 = (.istore_n 3, (false, 22), (false, 0), (0, 0, 0), (0, 0, 0), []) ∧
  pw_fnd pp_M_free 22 = (.iload_n 3, (false, 23), (false, 0), (0, 0, 0), (0, 0, 0), []) ∧
  pw_fnd pp_M_free 23 = (.ifCond .ge 11, (false, 26), (false, 34), (0, 0, 0), (0, 0, 0), []) ∧
  pw_fnd pp_M_free 26 = (.aload_n 0, (false, 27), (false, 0), (0, 0, 0), (0, 0, 0), []) ∧
  pw_fnd pp_M_free 27 = (.iload_n 3, (false, 28), (false, 0), (0, 0, 0), (0, 0, 0), []) ∧
  pw_fnd pp_M_free 28 = (.invokevirtual 94, (false, 31), (false, 4), (20, 2, 1), (0, 0, 613), []) ∧
  pw_fnd pp_M_free 31 = (.goto 4, (false, 34), (false, 35), (0, 0, 0), (0, 0, 0), []) ∧
  pw_fnd pp_M_free 34 = (.iload_n 3, (false, 35), (false, 0), (0, 0, 0), (0, 0, 0), []) ∧
  pw_fnd pp_M_free 35 = (.ireturn, (false, 36), (false, 0), (0, 0, 0), (0, 0, 0), []) :=
  ⟨rfl, rfl, rfl, rfl, rfl, rfl, rfl, rfl, rfl, rfl, rfl, rfl, rfl, rfl, rfl, rfl, rfl, rfl, rfl, rfl, rfl, rfl⟩
set_option maxRecDepth 100000 in
theorem pk_M_free : pp_M_free.all (fun q => pw_chk pw_jt pm_M_free q.1 q.2) = true := by decide +kernel
def pp_M_take : List (Nat × pw_E) := [(0, (.aload_n 0, (false, 1), (false, 0), (0, 0, 0), (0, 0, 0), [])),
  (1, (.iload_n 1, (false, 2), (false, 0), (0, 0, 0), (0, 0, 0), [])),
  (2, (.iload_n 2, (false, 3), (false, 0), (0, 0, 0), (0, 0, 0), [])),
  (3, (.invokevirtual 123, (false, 6), (false, 4), (79, 3, 1), (0, 0, 640), [])),
  (6, (.istore_n 3, (false, 7), (false, 0), (0, 0, 0), (0, 0, 0), [])),
  (7, (.iload_n 3, (false, 8), (false, 0), (0, 0, 0), (0, 0, 0), [])),
  (8, (.ifCond .ge 7, (false, 11), (false, 15), (0, 0, 0), (0, 0, 0), [])),
  (11, (.iload_n 3, (false, 12), (false, 0), (0, 0, 0), (0, 0, 0), [])),
  (12, (.goto 9, (false, 15), (false, 21), (0, 0, 0), (0, 0, 0), [])),
  (15, (.aload_n 0, (false, 16), (false, 0), (0, 0, 0), (0, 0, 0), [])),
  (16, (.iload_n 1, (false, 17), (false, 0), (0, 0, 0), (0, 0, 0), [])),
  (17, (.iload_n 2, (false, 18), (false, 0), (0, 0, 0), (0, 0, 0), [])),
  (18, (.invokevirtual 127, (false, 21), (false, 4), (102, 3, 1), (0, 0, 648), [])),
  (21, (.istore_n 3, (false, 22), (false, 0), (0, 0, 0), (0, 0, 0), [])),
  (22, (.iload_n 3, (false, 23), (false, 0), (0, 0, 0), (0, 0, 0), [])),
  (23, (.ifCond .ge 9, (false, 26), (false, 32), (0, 0, 0), (0, 0, 0), [])),
  (26, (.aload_n 0, (false, 27), (false, 0), (0, 0, 0), (0, 0, 0), [])),
  (27, (.iload_n 3, (false, 28), (false, 0), (0, 0, 0), (0, 0, 0), [])),
  (28, (.invokevirtual 94, (false, 31), (false, 4), (20, 2, 1), (0, 0, 613), [])),
  (31, (.ireturn, (false, 32), (false, 0), (0, 0, 0), (0, 0, 0), [])),
  (32, (.iconst 2, (false, 33), (false, 0), (0, 0, 0), (0, 0, 0), [(2, (false, 0))])),
  (33, (.iload_n 1, (false, 34), (false, 0), (0, 0, 0), (0, 0, 0), [])),
  (34, (.imul, (false, 35), (false, 0), (0, 0, 0), (0, 0, 0), [])),
  (35, (.aload_n 0, (false, 36), (false, 0), (0, 0, 0), (0, 0, 0), [])),
  (36, (.getfield 59, (false, 39), (false, 0), (4, 21, 1), (0, 0, 538), [])),
  (39, (.iload_n 1, (false, 40), (false, 0), (0, 0, 0), (0, 0, 0), [])),
  (40, (.iaload, (false, 41), (false, 0), (0, 0, 0), (0, 0, 0), [])),
  (41, (.iadd, (false, 42), (false, 0), (0, 0, 0), (0, 0, 0), [])),
  (42, (.istore 4, (false, 44), (false, 0), (0, 0, 0), (0, 0, 0), [])),
  (44, (.aload_n 0, (false, 45), (false, 0), (0, 0, 0), (0, 0, 0), [])),
  (45, (.getfield 62, (false, 48), (false, 0), (4, 22, 1), (0, 0, 539), [])),
  (48, (.iload 4, (false, 50), (false, 0), (0, 0, 0), (0, 0, 0), [])),
  (50, (.iload_n 2, (false, 51), (false, 0), (0, 0, 0), (0, 0, 0), [])),
  (51, (.iastore, (false, 52), (false, 0), (0, 0, 0), (0, 0, 0), [])),
  (52, (.aload_n 0, (false, 53), (false, 0), (0, 0, 0), (0, 0, 0), [])),
  (53, (.getfield 65, (false, 56), (false, 0), (4, 23, 1), (0, 0, 540), [])),
  (56, (.iload 4, (false, 58), (false, 0), (0, 0, 0), (0, 0, 0), [])),
  (58, (.iload_n 3, (false, 59), (false, 0), (0, 0, 0), (0, 0, 0), [])),
  (59, (.iastore, (false, 60), (false, 0), (0, 0, 0), (0, 0, 0), [])),
  (60, (.aload_n 0, (false, 61), (false, 0), (0, 0, 0), (0, 0, 0), [])),
  (61, (.getfield 59, (false, 64), (false, 0), (4, 21, 1), (0, 0, 538), [])),
  (64, (.iload_n 1, (false, 65), (false, 0), (0, 0, 0), (0, 0, 0), [])),
  (65, (.dup2, (false, 66), (false, 0), (0, 0, 0), (0, 0, 0), [])),
  (66, (.iaload, (false, 67), (false, 0), (0, 0, 0), (0, 0, 0), [])),
  (67, (.iconst 1, (false, 68), (false, 0), (0, 0, 0), (0, 0, 0), [(1, (false, 0))])),
  (68, (.iadd, (false, 69), (false, 0), (0, 0, 0), (0, 0, 0), [])),
  (69, (.iastore, (false, 70), (false, 0), (0, 0, 0), (0, 0, 0), [])),
  (70, (.aload_n 0, (false, 71), (false, 0), (0, 0, 0), (0, 0, 0), [])),
  (71, (.getfield 41, (false, 74), (false, 0), (4, 13, 1), (0, 0, 530), [])),
  (74, (.sipush 1100, (false, 77), (false, 0), (0, 0, 0), (0, 0, 0), [(1100, (false, 0))])),
  (77, (.iload_n 2, (false, 78), (false, 0), (0, 0, 0), (0, 0, 0), [])),
  (78, (.imul, (false, 79), (false, 0), (0, 0, 0), (0, 0, 0), [])),
  (79, (.iload_n 3, (false, 80), (false, 0), (0, 0, 0), (0, 0, 0), [])),
  (80, (.iadd, (false, 81), (false, 0), (0, 0, 0), (0, 0, 0), [])),
  (81, (.dup2, (false, 82), (false, 0), (0, 0, 0), (0, 0, 0), [])),
  (82, (.iaload, (false, 83), (false, 0), (0, 0, 0), (0, 0, 0), [])),
  (83, (.aload_n 0, (false, 84), (false, 0), (0, 0, 0), (0, 0, 0), [])),
  (84, (.getfield 44, (false, 87), (false, 0), (4, 15, 1), (0, 0, 532), [])),
  (87, (.iload_n 1, (false, 88), (false, 0), (0, 0, 0), (0, 0, 0), [])),
  (88, (.iaload, (false, 89), (false, 0), (0, 0, 0), (0, 0, 0), [])),
  (89, (.iadd, (false, 90), (false, 0), (0, 0, 0), (0, 0, 0), [])),
  (90, (.iastore, (false, 91), (false, 0), (0, 0, 0), (0, 0, 0), [])),
  (91, (.iload_n 3, (false, 92), (false, 0), (0, 0, 0), (0, 0, 0), [])),
  (92, (.ireturn, (false, 93), (false, 0), (0, 0, 0), (0, 0, 0), []))]
set_option maxRecDepth 100000 in
theorem pe_M_take : pw_fnd pp_M_take 0 = (.aload_n 0, (false, 1), (false, 0), (0, 0, 0), (0, 0, 0), []) ∧
  pw_fnd pp_M_take 1 = (.iload_n 1, (false, 2), (false, 0), (0, 0, 0), (0, 0, 0), []) ∧
  pw_fnd pp_M_take 2 = (.iload_n 2, (false, 3), (false, 0), (0, 0, 0), (0, 0, 0), []) ∧
  pw_fnd pp_M_take 3 = (.invokevirtual 123, (false, 6), (false, 4), (79, 3, 1), (0, 0, 640), []) ∧
  pw_fnd pp_M_take 6 = (.istore_n 3, (false, 7), (false, 0), (0, 0, 0), (0, 0, 0), []) ∧
  pw_fnd pp_M_take 7 = (.iload_n 3, (false, 8), (false, 0), (0, 0, 0), (0, 0, 0), []) ∧
  pw_fnd pp_M_take 8 = (.ifCond .ge 7, (false, 11), (false, 15), (0, 0, 0), (0, 0, 0), []) ∧
  pw_fnd pp_M_take 11 = (.iload_n 3, (false, 12), (false, 0), (0, 0, 0), (0, 0, 0), []) ∧
  pw_fnd pp_M_take 12 = (.goto 9, (false, 15), (false, 21), (0, 0, 0), (0, 0, 0), []) ∧
  pw_fnd pp_M_take 15 = (.aload_n 0, (false, 16), (false, 0), (0, 0, 0), (0, 0, 0), []) ∧
  pw_fnd pp_M_take 16 = (.iload_n 1, (false, 17), (false, 0), (0, 0, 0), (0, 0, 0), []) ∧
  pw_fnd pp_M_take 17 = (.iload_n 2, (false, 18), (false, 0), (0, 0, 0), (0, 0, 0), []) ∧
  pw_fnd pp_M_take 18 = (.invokevirtual 127, (false, 21), (false, 4), (102, 3, 1), (0, 0, 648), []) ∧
  pw_fnd pp_M_take 21 = (.istore_n 3, (false, 22), (false, 0), (0, 0, 0), (0, 0, 0), []) ∧
  pw_fnd pp_M_take 22 = (.iload_n 3, (false, 23), (false, 0), (0, 0, 0), (0, 0, 0), []) ∧
  pw_fnd pp_M_take 23 = (.ifCond .ge 9, (false, 26), (false, 32), (0, 0, 0), (0, 0, 0), []) ∧
  pw_fnd pp_M_take 26 = (.aload_n 0, (false, 27), (false, 0), (0, 0, 0), (0, 0, 0), []) ∧
  pw_fnd pp_M_take 27 = (.iload_n 3, (false, 28), (false, 0), (0, 0, 0), (0, 0, 0), []) ∧
  pw_fnd pp_M_take 28 = (.invokevirtual 94, (false, 31), (false, 4), (20, 2, 1), (0, 0, 613), []) ∧
  pw_fnd pp_M_take 31 = (.ireturn, (false, 32), (false, 0), (0, 0, 0), (0, 0, 0), []) ∧
  pw_fnd pp_M_take 32 = (.iconst 2, (false, 33), (false, 0), (0, 0, 0), (0, 0, 0), [(2, (false, 0))]) ∧
  pw_fnd pp_M_take 33 = (.iload_n 1, (false, 34), (false, 0), (0, 0, 0), (0, 0, 0), []) ∧
  pw_fnd pp_M_take 34 = (.imul, (false, 35), (false, 0), (0, 0, 0), (0, 0, 0), []) ∧
  pw_fnd pp_M_take 35 = (.aload_n 0, (false, 36), (false, 0), (0, 0, 0), (0, 0, 0), []) ∧
  pw_fnd pp_M_take 36 = (.getfield 59, (false, 39), (false, 0), (4, 21, 1), (0, 0, 538), []) ∧
  pw_fnd pp_M_take 39 = (.iload_n 1, (false, 40), (false, 0), (0, 0, 0), (0, 0, 0), []) ∧
  pw_fnd pp_M_take 40 = (.iaload, (false, 41), (false, 0), (0, 0, 0), (0, 0, 0), []) ∧
  pw_fnd pp_M_take 41 = (.iadd, (false, 42), (false, 0), (0, 0, 0), (0, 0, 0), []) ∧
  pw_fnd pp_M_take 42 = (.istore 4, (false, 44), (false, 0), (0, 0, 0), (0, 0, 0), []) ∧
  pw_fnd pp_M_take 44 = (.aload_n 0, (false, 45), (false, 0), (0, 0, 0), (0, 0, 0), []) ∧
  pw_fnd pp_M_take 45 = (.getfield 62, (false, 48), (false, 0), (4, 22, 1), (0, 0, 539), []) ∧
  pw_fnd pp_M_take 48 = (.iload 4, (false, 50), (false, 0), (0, 0, 0), (0, 0, 0), []) ∧
  pw_fnd pp_M_take 50 = (.iload_n 2, (false, 51), (false, 0), (0, 0, 0), (0, 0, 0), []) ∧
  pw_fnd pp_M_take 51 = (.iastore, (false, 52), (false, 0), (0, 0, 0), (0, 0, 0), []) ∧
  pw_fnd pp_M_take 52 = (.aload_n 0, (false, 53), (false, 0), (0, 0, 0), (0, 0, 0), []) ∧
  pw_fnd pp_M_take 53 = (.getfield 65, (false, 56), (false, 0), (4, 23, 1), (0, 0, 540), []) ∧
  pw_fnd pp_M_take 56 = (.iload 4, (false, 58), (false, 0), (0, 0, 0), (0, 0, 0), []) ∧
  pw_fnd pp_M_take 58 = (.iload_n 3, (false, 59), (false, 0), (0, 0, 0), (0, 0, 0), []) ∧
  pw_fnd pp_M_take 59 = (.iastore, (false, 60), (false, 0), (0, 0, 0), (0, 0, 0), []) ∧
  pw_fnd pp_M_take 60 = (.aload_n 0, (false, 61), (false, 0), (0, 0, 0), (0, 0, 0), []) ∧
  pw_fnd pp_M_take 61 = (.getfield 59, (false, 64), (false, 0), (4, 21, 1), (0, 0, 538), []) ∧
  pw_fnd pp_M_take 64 = (.iload_n 1, (false, 65), (false, 0), (0, 0, 0), (0, 0, 0), []) ∧
  pw_fnd pp_M_take 65 = (.dup2, (false, 66), (false, 0), (0, 0, 0), (0, 0, 0), []) ∧
  pw_fnd pp_M_take 66 = (.iaload, (false, 67), (false, 0), (0, 0, 0), (0, 0, 0), []) ∧
  pw_fnd pp_M_take 67 = (.iconst 1, (false, 68), (false, 0), (0, 0, 0), (0, 0, 0), [(1, (false, 0))]) ∧
  pw_fnd pp_M_take 68 = (.iadd, (false, 69), (false, 0), (0, 0, 0), (0, 0, 0), []) ∧
  pw_fnd pp_M_take 69 = (.iastore, (false, 70), (false, 0), (0, 0, 0), (0, 0, 0), []) ∧
  pw_fnd pp_M_take 70 = (.aload_n 0, (false, 71), (false, 0), (0, 0, 0), (0, 0, 0), []) ∧
  pw_fnd pp_M_take 71 = (.getfield 41, (false, 74), (false, 0), (4, 13, 1), (0, 0, 530), []) ∧
  pw_fnd pp_M_take 74 = (.sipush 1100, (false, 77), (false, 0), (0, 0, 0), (0, 0, 0), [(1100, (false, 0))]) ∧
  pw_fnd pp_M_take 77 = (.iload_n 2, (false, 78), (false, 0), (0, 0, 0), (0, 0, 0), []) ∧
  pw_fnd pp_M_take 78 = (.imul, (false, 79), (false, 0), (0, 0, 0), (0, 0, 0), []) ∧
  pw_fnd pp_M_take 79 = (.iload_n 3, (false, 80), (false, 0), (0, 0, 0), (0, 0, 0), []) ∧
  pw_fnd pp_M_take 80 = (.iadd, (false, 81), (false, 0), (0, 0, 0), (0, 0, 0), []) ∧
  pw_fnd pp_M_take 81 = (.dup2, (false, 82), (false, 0), (0, 0, 0), (0, 0, 0), []) ∧
  pw_fnd pp_M_take 82 = (.iaload, (false, 83), (false, 0), (0, 0, 0), (0, 0, 0), []) ∧
  pw_fnd pp_M_take 83 = (.aload_n 0, (false, 84), (false, 0), (0, 0, 0), (0, 0, 0), []) ∧
  pw_fnd pp_M_take 84 = (.getfield 44, (false, 87), (false, 0), (4, 15, 1), (0, 0, 532), []) ∧
  pw_fnd pp_M_take 87 = (.iload_n 1, (false, 88), (false, 0), (0, 0, 0), (0, 0, 0), []) ∧
  pw_fnd pp_M_take 88 = (.iaload, (false, 89), (false, 0), (0, 0, 0), (0, 0, 0), []) ∧
  pw_fnd pp_M_take 89 = (.iadd, (false, 90), (false, 0), (0, 0, 0), (0, 0, 0), []) ∧
  pw_fnd pp_M_take 90 = (.iastore, (false, 91), (false, 0), (0, 0, 0), (0, 0, 0), []) ∧
  pw_fnd pp_M_take 91 = (.iload_n 3, (false, 92), (false, 0), (0, 0, 0), (0, 0, 0), []) ∧
  pw_fnd pp_M_take 92 = (.ireturn, (false, 93), (false, 0), (0, 0, 0), (0, 0, 0), []) :=
  ⟨rfl, rfl, rfl, rfl, rfl, rfl, rfl, rfl, rfl, rfl, rfl, rfl, rfl, rfl, rfl, rfl, rfl, rfl, rfl, rfl, rfl, rfl, rfl, rfl, rfl, rfl, rfl, rfl, rfl, rfl, rfl, rfl, rfl, rfl, rfl, rfl, rfl, rfl, rfl, rfl, rfl, rfl, rfl, rfl, rfl, rfl, rfl, rfl, rfl, rfl, rfl, rfl, rfl, rfl, rfl, rfl, rfl, rfl, rfl, rfl, rfl, rfl, rfl, rfl⟩
set_option maxRecDepth 100000 in
theorem pk_M_take : pp_M_take.all (fun q => pw_chk pw_jt pm_M_take q.1 q.2) = true := by decide +kernel
def pp_M_tickOne : List (Nat × pw_E) := [(0, (.aload_n 0, (false, 1), (false, 0), (0, 0, 0), (0, 0, 0), [])),
  (1, (.dup, (false, 2), (false, 0), (0, 0, 0), (0, 0, 0), [])),
  (2, (.getfield 114, (false, 5), (false, 0), (4, 0, 0), (0, 0, 517), [])),
  (5, (.iconst 1, (false, 6), (false, 0), (0, 0, 0), (0, 0, 0), [(1, (false, 0))])),
  (6, (.iadd, (false, 7), (false, 0), (0, 0, 0), (0, 0, 0), [])),
  (7, (.putfield 114, (false, 10), (false, 0), (4, 0, 0), (0, 0, 517), [])),
  (10, (.iconst 0, (false, 11), (false, 0), (0, 0, 0), (0, 0, 0), [(0, (false, 0))])),
  (11, (.istore_n 1, (false, 12), (false, 0), (0, 0, 0), (0, 0, 0), [])),
  (12, (.iconst 0, (false, 13), (false, 0), (0, 0, 0), (0, 0, 0), [(0, (false, 0))])),
  (13, (.istore_n 2, (true, 14), (false, 0), (0, 0, 0), (0, 0, 0), [])),
  (14, (.iload_n 2, (false, 15), (false, 0), (0, 0, 0), (0, 0, 0), [])),
  (15, (.aload_n 0, (false, 16), (false, 0), (0, 0, 0), (0, 0, 0), [])),
  (16, (.getfield 83, (false, 19), (false, 0), (4, 2, 0), (0, 0, 519), [])),
  (19, (.if_icmp .ge 120, (false, 22), (false, 139), (0, 0, 0), (0, 0, 0), [])),
  (22, (.iconst 0, (false, 23), (false, 0), (0, 0, 0), (0, 0, 0), [(0, (false, 0))])),
  (23, (.istore_n 3, (true, 24), (false, 0), (0, 0, 0), (0, 0, 0), [])),
  (24, (.iload_n 3, (false, 25), (false, 0), (0, 0, 0), (0, 0, 0), [])),
  (25, (.aload_n 0, (false, 26), (false, 0), (0, 0, 0), (0, 0, 0), [])),
  (26, (.getfield 91, (false, 29), (false, 0), (4, 14, 0), (0, 0, 531), [])),
  (29, (.if_icmp .ge 64, (false, 32), (false, 93), (0, 0, 0), (0, 0, 0), [])),
  (32, (.aload_n 0, (false, 33), (false, 0), (0, 0, 0), (0, 0, 0), [])),
  (33, (.getfield 47, (false, 36), (false, 0), (4, 16, 1), (0, 0, 533), [])),
  (36, (.iload_n 3, (false, 37), (false, 0), (0, 0, 0), (0, 0, 0), [])),
  (37, (.iaload, (false, 38), (false, 0), (0, 0, 0), (0, 0, 0), [])),
  (38, (.iconst 3, (false, 39), (false, 0), (0, 0, 0), (0, 0, 0), [(3, (false, 0))])),
  (39, (.if_icmp .ne 48, (false, 42), (false, 87), (0, 0, 0), (0, 0, 0), [])),
  (42, (.aload_n 0, (false, 43), (false, 0), (0, 0, 0), (0, 0, 0), [])),
  (43, (.getfield 50, (false, 46), (false, 0), (4, 17, 1), (0, 0, 534), [])),
  (46, (.iload_n 3, (false, 47), (false, 0), (0, 0, 0), (0, 0, 0), [])),
  (47, (.iaload, (false, 48), (false, 0), (0, 0, 0), (0, 0, 0), [])),
  (48, (.iload_n 2, (false, 49), (false, 0), (0, 0, 0), (0, 0, 0), [])),
  (49, (.if_icmp .ne 38, (false, 52), (false, 87), (0, 0, 0), (0, 0, 0), [])),
  (52, (.aload_n 0, (false, 53), (false, 0), (0, 0, 0), (0, 0, 0), [])),
  (53, (.getfield 114, (false, 56), (false, 0), (4, 0, 0), (0, 0, 517), [])),
  (56, (.aload_n 0, (false, 57), (false, 0), (0, 0, 0), (0, 0, 0), [])),
  (57, (.getfield 56, (false, 60), (false, 0), (4, 20, 1), (0, 0, 537), [])),
  (60, (.iload_n 3, (false, 61), (false, 0), (0, 0, 0), (0, 0, 0), [])),
  (61, (.iaload, (false, 62), (false, 0), (0, 0, 0), (0, 0, 0), [])),
  (62, (.isub, (false, 63), (false, 0), (0, 0, 0), (0, 0, 0), [])),
  (63, (.aload_n 0, (false, 64), (false, 0), (0, 0, 0), (0, 0, 0), [])),
  (64, (.getfield 13, (false, 67), (false, 0), (4, 4, 1), (0, 0, 521), [])),
  (67, (.iload_n 2, (false, 68), (false, 0), (0, 0, 0), (0, 0, 0), [])),
  (68, (.iaload, (false, 69), (false, 0), (0, 0, 0), (0, 0, 0), [])),
  (69, (.if_icmp .lt 18, (false, 72), (false, 87), (0, 0, 0), (0, 0, 0), [])),
  (72, (.aload_n 0, (false, 73), (false, 0), (0, 0, 0), (0, 0, 0), [])),
  (73, (.getfield 47, (false, 76), (false, 0), (4, 16, 1), (0, 0, 533), [])),
  (76, (.iload_n 3, (false, 77), (false, 0), (0, 0, 0), (0, 0, 0), [])),
  (77, (.iconst 0, (false, 78), (false, 0), (0, 0, 0), (0, 0, 0), [(0, (false, 0))])),
  (78, (.iastore, (false, 79), (false, 0), (0, 0, 0), (0, 0, 0), [])),
  (79, (.aload_n 0, (false, 80), (false, 0), (0, 0, 0), (0, 0, 0), [])),
  (80, (.getfield 50, (false, 83), (false, 0), (4, 17, 1), (0, 0, 534), [])),
  (83, (.iload_n 3, (false, 84), (false, 0), (0, 0, 0), (0, 0, 0), [])),
  (84, (.bipush (-9), (false, 86), (false, 0), (0, 0, 0), (0, 0, 0), [((-9), (false, 0))])),
  (86, (.iastore, (false, 87), (false, 0), (0, 0, 0), (0, 0, 0), [])),
  (87, (.iinc 3 1, (false, 90), (false, 0), (0, 0, 0), (0, 0, 0), [(1, (false, 0))])),
  (90, (.goto (-66), (false, 93), (true, 24), (0, 0, 0), (0, 0, 0), [])),
  (93, (.aload_n 0, (false, 94), (false, 0), (0, 0, 0), (0, 0, 0), [])),
  (94, (.getfield 114, (false, 97), (false, 0), (4, 0, 0), (0, 0, 517), [])),
  (97, (.aload_n 0, (false, 98), (false, 0), (0, 0, 0), (0, 0, 0), [])),
  (98, (.iload_n 2, (false, 99), (false, 0), (0, 0, 0), (0, 0, 0), [])),
  (99, (.invokevirtual 102, (false, 102), (false, 4), (21, 2, 1), (0, 0, 656), [])),
  (102, (.irem, (false, 103), (false, 0), (0, 0, 0), (0, 0, 0), [])),
  (103, (.ifCond .ne 30, (false, 106), (false, 133), (0, 0, 0), (0, 0, 0), [])),
  (106, (.aload_n 0, (false, 107), (false, 0), (0, 0, 0), (0, 0, 0), [])),
  (107, (.iload_n 2, (false, 108), (false, 0), (0, 0, 0), (0, 0, 0), [])),
  (108, (.invokevirtual 162, (false, 111), (false, 4), (28, 2, 1), (0, 0, 724), [])),
  (111, (.ifCond .eq 22, (false, 114), (false, 133), (0, 0, 0), (0, 0, 0), [])),
  (114, (.aload_n 0, (false, 115), (false, 0), (0, 0, 0), (0, 0, 0), [])),
  (115, (.iload_n 2, (false, 116), (false, 0), (0, 0, 0), (0, 0, 0), [])),
  (116, (.invokevirtual 168, (false, 119), (false, 4), (86, 2, 0), (0, 0, 728), [])),
  (119, (.iload_n 1, (false, 120), (false, 0), (0, 0, 0), (0, 0, 0), [])),
  (120, (.aload_n 0, (false, 121), (false, 0), (0, 0, 0), (0, 0, 0), [])),
  (121, (.getfield 7, (false, 124), (false, 0), (4, 3, 1), (0, 0, 520), [])),
  (124, (.iload_n 2, (false, 125), (false, 0), (0, 0, 0), (0, 0, 0), [])),
  (125, (.iaload, (false, 126), (false, 0), (0, 0, 0), (0, 0, 0), [])),
  (126, (.aload_n 0, (false, 127), (false, 0), (0, 0, 0), (0, 0, 0), [])),
  (127, (.getfield 148, (false, 130), (false, 0), (4, 29, 0), (0, 0, 546), [])),
  (130, (.isub, (false, 131), (false, 0), (0, 0, 0), (0, 0, 0), [])),
  (131, (.iadd, (false, 132), (false, 0), (0, 0, 0), (0, 0, 0), [])),
  (132, (.istore_n 1, (false, 133), (false, 0), (0, 0, 0), (0, 0, 0), [])),
  (133, (.iinc 2 1, (false, 136), (false, 0), (0, 0, 0), (0, 0, 0), [(1, (false, 0))])),
  (136, (.goto (-122), (false, 139), (true, 14), (0, 0, 0), (0, 0, 0), [])),
  (139, (.iconst 0, (false, 140), (false, 0), (0, 0, 0), (0, 0, 0), [(0, (false, 0))])),
  (140, (.istore_n 2, (true, 141), (false, 0), (0, 0, 0), (0, 0, 0), [])),
  (141, (.iload_n 2, (false, 142), (false, 0), (0, 0, 0), (0, 0, 0), [])),
  (142, (.aload_n 0, (false, 143), (false, 0), (0, 0, 0), (0, 0, 0), [])),
  (143, (.getfield 83, (false, 146), (false, 0), (4, 2, 0), (0, 0, 519), [])),
  (146, (.if_icmp .ge 39, (false, 149), (false, 185), (0, 0, 0), (0, 0, 0), [])),
  (149, (.aload_n 0, (false, 150), (false, 0), (0, 0, 0), (0, 0, 0), [])),
  (150, (.getfield 114, (false, 153), (false, 0), (4, 0, 0), (0, 0, 517), [])),
  (153, (.aload_n 0, (false, 154), (false, 0), (0, 0, 0), (0, 0, 0), [])),
  (154, (.iload_n 2, (false, 155), (false, 0), (0, 0, 0), (0, 0, 0), [])),
  (155, (.invokevirtual 105, (false, 158), (false, 4), (58, 2, 1), (0, 0, 652), [])),
  (158, (.irem, (false, 159), (false, 0), (0, 0, 0), (0, 0, 0), [])),
  (159, (.ifCond .ne 20, (false, 162), (false, 179), (0, 0, 0), (0, 0, 0), [])),
  (162, (.aload_n 0, (false, 163), (false, 0), (0, 0, 0), (0, 0, 0), [])),
  (163, (.iload_n 2, (false, 164), (false, 0), (0, 0, 0), (0, 0, 0), [])),
  (164, (.aload_n 0, (false, 165), (false, 0), (0, 0, 0), (0, 0, 0), [])),
  (165, (.getfield 114, (false, 168), (false, 0), (4, 0, 0), (0, 0, 517), [])),
  (168, (.aload_n 0, (false, 169), (false, 0), (0, 0, 0), (0, 0, 0), [])),
  (169, (.iload_n 2, (false, 170), (false, 0), (0, 0, 0), (0, 0, 0), [])),
  (170, (.invokevirtual 105, (false, 173), (false, 4), (58, 2, 1), (0, 0, 652), [])),
  (173, (.idiv, (false, 174), (false, 0), (0, 0, 0), (0, 0, 0), [])),
  (174, (.iconst 1, (false, 175), (false, 0), (0, 0, 0), (0, 0, 0), [(1, (false, 0))])),
  (175, (.isub, (false, 176), (false, 0), (0, 0, 0), (0, 0, 0), [])),
  (176, (.invokevirtual 171, (false, 179), (false, 4), (103, 3, 0), (0, 0, 744), [])),
  (179, (.iinc 2 1, (false, 182), (false, 0), (0, 0, 0), (0, 0, 0), [(1, (false, 0))])),
  (182, (.goto (-41), (false, 185), (true, 141), (0, 0, 0), (0, 0, 0), [])),
  (185, (.iload_n 1, (false, 186), (false, 0), (0, 0, 0), (0, 0, 0), [])),
  (186, (.ireturn, (false, 187), (false, 0), (0, 0, 0), (0, 0, 0), []))]
set_option maxRecDepth 100000 in
theorem pe_M_tickOne_0 : pw_fnd pp_M_tickOne 0 = (.aload_n 0, (false, 1), (false, 0), (0, 0, 0), (0, 0, 0), []) ∧
  pw_fnd pp_M_tickOne 1 = (.dup, (false, 2), (false, 0), (0, 0, 0), (0, 0, 0), []) ∧
  pw_fnd pp_M_tickOne 2 = (.getfield 114, (false, 5), (false, 0), (4, 0, 0), (0, 0, 517), []) ∧
  pw_fnd pp_M_tickOne 5 = (.iconst 1, (false, 6), (false, 0), (0, 0, 0), (0, 0, 0), [(1, (false, 0))]) ∧
  pw_fnd pp_M_tickOne 6 = (.iadd, (false, 7), (false, 0), (0, 0, 0), (0, 0, 0), []) ∧
  pw_fnd pp_M_tickOne 7 = (.putfield 114, (false, 10), (false, 0), (4, 0, 0), (0, 0, 517), []) ∧
  pw_fnd pp_M_tickOne 10 = (.iconst 0, (false, 11), (false, 0), (0, 0, 0), (0, 0, 0), [(0, (false, 0))]) ∧
  pw_fnd pp_M_tickOne 11 = (.istore_n 1, (false, 12), (false, 0), (0, 0, 0), (0, 0, 0), []) ∧
  pw_fnd pp_M_tickOne 12 = (.iconst 0, (false, 13), (false, 0), (0, 0, 0), (0, 0, 0), [(0, (false, 0))]) ∧
  pw_fnd pp_M_tickOne 13 = (.istore_n 2, (true, 14), (false, 0), (0, 0, 0), (0, 0, 0), []) ∧
  pw_fnd pp_M_tickOne 14 = (.iload_n 2, (false, 15), (false, 0), (0, 0, 0), (0, 0, 0), []) ∧
  pw_fnd pp_M_tickOne 15 = (.aload_n 0, (false, 16), (false, 0), (0, 0, 0), (0, 0, 0), []) ∧
  pw_fnd pp_M_tickOne 16 = (.getfield 83, (false, 19), (false, 0), (4, 2, 0), (0, 0, 519), []) ∧
  pw_fnd pp_M_tickOne 19 = (.if_icmp .ge 120, (false, 22), (false, 139), (0, 0, 0), (0, 0, 0), []) ∧
  pw_fnd pp_M_tickOne 22 = (.iconst 0, (false, 23), (false, 0), (0, 0, 0), (0, 0, 0), [(0, (false, 0))]) ∧
  pw_fnd pp_M_tickOne 23 = (.istore_n 3, (true, 24), (false, 0), (0, 0, 0), (0, 0, 0), []) ∧
  pw_fnd pp_M_tickOne 24 = (.iload_n 3, (false, 25), (false, 0), (0, 0, 0), (0, 0, 0), []) ∧
  pw_fnd pp_M_tickOne 25 = (.aload_n 0, (false, 26), (false, 0), (0, 0, 0), (0, 0, 0), []) ∧
  pw_fnd pp_M_tickOne 26 = (.getfield 91, (false, 29), (false, 0), (4, 14, 0), (0, 0, 531), []) ∧
  pw_fnd pp_M_tickOne 29 = (.if_icmp .ge 64, (false, 32), (false, 93), (0, 0, 0), (0, 0, 0), []) ∧
  pw_fnd pp_M_tickOne 32 = (.aload_n 0, (false, 33), (false, 0), (0, 0, 0), (0, 0, 0), []) ∧
  pw_fnd pp_M_tickOne 33 = (.getfield 47, (false, 36), (false, 0), (4, 16, 1), (0, 0, 533), []) ∧
  pw_fnd pp_M_tickOne 36 = (.iload_n 3, (false, 37), (false, 0), (0, 0, 0), (0, 0, 0), []) ∧
  pw_fnd pp_M_tickOne 37 = (.iaload, (false, 38), (false, 0), (0, 0, 0), (0, 0, 0), []) ∧
  pw_fnd pp_M_tickOne 38 = (.iconst 3, (false, 39), (false, 0), (0, 0, 0), (0, 0, 0), [(3, (false, 0))]) ∧
  pw_fnd pp_M_tickOne 39 = (.if_icmp .ne 48, (false, 42), (false, 87), (0, 0, 0), (0, 0, 0), []) ∧
  pw_fnd pp_M_tickOne 42 = (.aload_n 0, (false, 43), (false, 0), (0, 0, 0), (0, 0, 0), []) ∧
  pw_fnd pp_M_tickOne 43 = (.getfield 50, (false, 46), (false, 0), (4, 17, 1), (0, 0, 534), []) ∧
  pw_fnd pp_M_tickOne 46 = (.iload_n 3, (false, 47), (false, 0), (0, 0, 0), (0, 0, 0), []) ∧
  pw_fnd pp_M_tickOne 47 = (.iaload, (false, 48), (false, 0), (0, 0, 0), (0, 0, 0), []) ∧
  pw_fnd pp_M_tickOne 48 = (.iload_n 2, (false, 49), (false, 0), (0, 0, 0), (0, 0, 0), []) ∧
  pw_fnd pp_M_tickOne 49 = (.if_icmp .ne 38, (false, 52), (false, 87), (0, 0, 0), (0, 0, 0), []) ∧
  pw_fnd pp_M_tickOne 52 = (.aload_n 0, (false, 53), (false, 0), (0, 0, 0), (0, 0, 0), []) ∧
  pw_fnd pp_M_tickOne 53 = (.getfield 114, (false, 56), (false, 0), (4, 0, 0), (0, 0, 517), []) ∧
  pw_fnd pp_M_tickOne 56 = (.aload_n 0, (false, 57), (false, 0), (0, 0, 0), (0, 0, 0), []) ∧
  pw_fnd pp_M_tickOne 57 = (.getfield 56, (false, 60), (false, 0), (4, 20, 1), (0, 0, 537), []) ∧
  pw_fnd pp_M_tickOne 60 = (.iload_n 3, (false, 61), (false, 0), (0, 0, 0), (0, 0, 0), []) ∧
  pw_fnd pp_M_tickOne 61 = (.iaload, (false, 62), (false, 0), (0, 0, 0), (0, 0, 0), []) ∧
  pw_fnd pp_M_tickOne 62 = (.isub, (false, 63), (false, 0), (0, 0, 0), (0, 0, 0), []) ∧
  pw_fnd pp_M_tickOne 63 = (.aload_n 0, (false, 64), (false, 0), (0, 0, 0), (0, 0, 0), []) ∧
  pw_fnd pp_M_tickOne 64 = (.getfield 13, (false, 67), (false, 0), (4, 4, 1), (0, 0, 521), []) ∧
  pw_fnd pp_M_tickOne 67 = (.iload_n 2, (false, 68), (false, 0), (0, 0, 0), (0, 0, 0), []) ∧
  pw_fnd pp_M_tickOne 68 = (.iaload, (false, 69), (false, 0), (0, 0, 0), (0, 0, 0), []) ∧
  pw_fnd pp_M_tickOne 69 = (.if_icmp .lt 18, (false, 72), (false, 87), (0, 0, 0), (0, 0, 0), []) ∧
  pw_fnd pp_M_tickOne 72 = (.aload_n 0, (false, 73), (false, 0), (0, 0, 0), (0, 0, 0), []) ∧
  pw_fnd pp_M_tickOne 73 = (.getfield 47, (false, 76), (false, 0), (4, 16, 1), (0, 0, 533), []) ∧
  pw_fnd pp_M_tickOne 76 = (.iload_n 3, (false, 77), (false, 0), (0, 0, 0), (0, 0, 0), []) ∧
  pw_fnd pp_M_tickOne 77 = (.iconst 0, (false, 78), (false, 0), (0, 0, 0), (0, 0, 0), [(0, (false, 0))]) ∧
  pw_fnd pp_M_tickOne 78 = (.iastore, (false, 79), (false, 0), (0, 0, 0), (0, 0, 0), []) ∧
  pw_fnd pp_M_tickOne 79 = (.aload_n 0, (false, 80), (false, 0), (0, 0, 0), (0, 0, 0), []) ∧
  pw_fnd pp_M_tickOne 80 = (.getfield 50, (false, 83), (false, 0), (4, 17, 1), (0, 0, 534), []) ∧
  pw_fnd pp_M_tickOne 83 = (.iload_n 3, (false, 84), (false, 0), (0, 0, 0), (0, 0, 0), []) ∧
  pw_fnd pp_M_tickOne 84 = (.bipush (-9), (false, 86), (false, 0), (0, 0, 0), (0, 0, 0), [((-9), (false, 0))]) ∧
  pw_fnd pp_M_tickOne 86 = (.iastore, (false, 87), (false, 0), (0, 0, 0), (0, 0, 0), []) ∧
  pw_fnd pp_M_tickOne 87 = (.iinc 3 1, (false, 90), (false, 0), (0, 0, 0), (0, 0, 0), [(1, (false, 0))]) ∧
  pw_fnd pp_M_tickOne 90 = (.goto (-66), (false, 93), (true, 24), (0, 0, 0), (0, 0, 0), []) ∧
  pw_fnd pp_M_tickOne 93 = (.aload_n 0, (false, 94), (false, 0), (0, 0, 0), (0, 0, 0), []) ∧
  pw_fnd pp_M_tickOne 94 = (.getfield 114, (false, 97), (false, 0), (4, 0, 0), (0, 0, 517), []) ∧
  pw_fnd pp_M_tickOne 97 = (.aload_n 0, (false, 98), (false, 0), (0, 0, 0), (0, 0, 0), []) ∧
  pw_fnd pp_M_tickOne 98 = (.iload_n 2, (false, 99), (false, 0), (0, 0, 0), (0, 0, 0), []) ∧
  pw_fnd pp_M_tickOne 99 = (.invokevirtual 102, (false, 102), (false, 4), (21, 2, 1), (0, 0, 656), []) ∧
  pw_fnd pp_M_tickOne 102 = (.irem, (false, 103), (false, 0), (0, 0, 0), (0, 0, 0), []) ∧
  pw_fnd pp_M_tickOne 103 = (.ifCond .ne 30, (false, 106), (false, 133), (0, 0, 0), (0, 0, 0), []) ∧
  pw_fnd pp_M_tickOne 106 = (.aload_n 0, (false, 107), (false, 0), (0, 0, 0), (0, 0, 0), []) ∧
  pw_fnd pp_M_tickOne 107 = (.iload_n 2, (false, 108), (false, 0), (0, 0, 0), (0, 0, 0), []) ∧
  pw_fnd pp_M_tickOne 108 = (.invokevirtual 162, (false, 111), (false, 4), (28, 2, 1), (0, 0, 724), []) ∧
  pw_fnd pp_M_tickOne 111 = (.ifCond .eq 22, (false, 114), (false, 133), (0, 0, 0), (0, 0, 0), []) ∧
  pw_fnd pp_M_tickOne 114 = (.aload_n 0, (false, 115), (false, 0), (0, 0, 0), (0, 0, 0), []) ∧
  pw_fnd pp_M_tickOne 115 = (.iload_n 2, (false, 116), (false, 0), (0, 0, 0), (0, 0, 0), []) ∧
  pw_fnd pp_M_tickOne 116 = (.invokevirtual 168, (false, 119), (false, 4), (86, 2, 0), (0, 0, 728), []) ∧
  pw_fnd pp_M_tickOne 119 = (.iload_n 1, (false, 120), (false, 0), (0, 0, 0), (0, 0, 0), []) ∧
  pw_fnd pp_M_tickOne 120 = (.aload_n 0, (false, 121), (false, 0), (0, 0, 0), (0, 0, 0), []) ∧
  pw_fnd pp_M_tickOne 121 = (.getfield 7, (false, 124), (false, 0), (4, 3, 1), (0, 0, 520), []) ∧
  pw_fnd pp_M_tickOne 124 = (.iload_n 2, (false, 125), (false, 0), (0, 0, 0), (0, 0, 0), []) ∧
  pw_fnd pp_M_tickOne 125 = (.iaload, (false, 126), (false, 0), (0, 0, 0), (0, 0, 0), []) ∧
  pw_fnd pp_M_tickOne 126 = (.aload_n 0, (false, 127), (false, 0), (0, 0, 0), (0, 0, 0), []) ∧
  pw_fnd pp_M_tickOne 127 = (.getfield 148, (false, 130), (false, 0), (4, 29, 0), (0, 0, 546), []) ∧
  pw_fnd pp_M_tickOne 130 = (.isub, (false, 131), (false, 0), (0, 0, 0), (0, 0, 0), []) ∧
  pw_fnd pp_M_tickOne 131 = (.iadd, (false, 132), (false, 0), (0, 0, 0), (0, 0, 0), []) ∧
  pw_fnd pp_M_tickOne 132 = (.istore_n 1, (false, 133), (false, 0), (0, 0, 0), (0, 0, 0), []) ∧
  pw_fnd pp_M_tickOne 133 = (.iinc 2 1, (false, 136), (false, 0), (0, 0, 0), (0, 0, 0), [(1, (false, 0))]) ∧
  pw_fnd pp_M_tickOne 136 = (.goto (-122), (false, 139), (true, 14), (0, 0, 0), (0, 0, 0), []) ∧
  pw_fnd pp_M_tickOne 139 = (.iconst 0, (false, 140), (false, 0), (0, 0, 0), (0, 0, 0), [(0, (false, 0))]) ∧
  pw_fnd pp_M_tickOne 140 = (.istore_n 2, (true, 141), (false, 0), (0, 0, 0), (0, 0, 0), []) ∧
  pw_fnd pp_M_tickOne 141 = (.iload_n 2, (false, 142), (false, 0), (0, 0, 0), (0, 0, 0), []) ∧
  pw_fnd pp_M_tickOne 142 = (.aload_n 0, (false, 143), (false, 0), (0, 0, 0), (0, 0, 0), []) ∧
  pw_fnd pp_M_tickOne 143 = (.getfield 83, (false, 146), (false, 0), (4, 2, 0), (0, 0, 519), []) ∧
  pw_fnd pp_M_tickOne 146 = (.if_icmp .ge 39, (false, 149), (false, 185), (0, 0, 0), (0, 0, 0), []) ∧
  pw_fnd pp_M_tickOne 149 = (.aload_n 0, (false, 150), (false, 0), (0, 0, 0), (0, 0, 0), []) ∧
  pw_fnd pp_M_tickOne 150 = (.getfield 114, (false, 153), (false, 0), (4, 0, 0), (0, 0, 517), []) ∧
  pw_fnd pp_M_tickOne 153 = (.aload_n 0, (false, 154), (false, 0), (0, 0, 0), (0, 0, 0), []) ∧
  pw_fnd pp_M_tickOne 154 = (.iload_n 2, (false, 155), (false, 0), (0, 0, 0), (0, 0, 0), []) ∧
  pw_fnd pp_M_tickOne 155 = (.invokevirtual 105, (false, 158), (false, 4), (58, 2, 1), (0, 0, 652), []) ∧
  pw_fnd pp_M_tickOne 158 = (.irem, (false, 159), (false, 0), (0, 0, 0), (0, 0, 0), []) ∧
  pw_fnd pp_M_tickOne 159 = (.ifCond .ne 20, (false, 162), (false, 179), (0, 0, 0), (0, 0, 0), []) ∧
  pw_fnd pp_M_tickOne 162 = (.aload_n 0, (false, 163), (false, 0), (0, 0, 0), (0, 0, 0), []) ∧
  pw_fnd pp_M_tickOne 163 = (.iload_n 2, (false, 164), (false, 0), (0, 0, 0), (0, 0, 0), []) ∧
  pw_fnd pp_M_tickOne 164 = (.aload_n 0, (false, 165), (false, 0), (0, 0, 0), (0, 0, 0), []) ∧
  pw_fnd pp_M_tickOne 165 = (.getfield 114, (false, 168), (false, 0), (4, 0, 0), (0, 0, 517), []) ∧
  pw_fnd pp_M_tickOne 168 = (.aload_n 0, (false, 169), (false, 0), (0, 0, 0), (0, 0, 0), []) :=
  ⟨rfl, rfl, rfl, rfl, rfl, rfl, rfl, rfl, rfl, rfl, rfl, rfl, rfl, rfl, rfl, rfl, rfl, rfl, rfl, rfl, rfl, rfl, rfl, rfl, rfl, rfl, rfl, rfl, rfl, rfl, rfl, rfl, rfl, rfl, rfl, rfl, rfl, rfl, rfl, rfl, rfl, rfl, rfl, rfl, rfl, rfl, rfl, rfl, rfl, rfl, rfl, rfl, rfl, rfl, rfl, rfl, rfl, rfl, rfl, rfl, rfl, rfl, rfl, rfl, rfl, rfl, rfl, rfl, rfl, rfl, rfl, rfl, rfl, rfl, rfl, rfl, rfl, rfl, rfl, rfl, rfl, rfl, rfl, rfl, rfl, rfl, rfl, rfl, rfl, rfl, rfl, rfl, rfl, rfl, rfl, rfl, rfl, rfl, rfl, rfl⟩
set_option maxRecDepth 100000 in
theorem pe_M_tickOne_1 : pw_fnd pp_M_tickOne 169 = (.iload_n 2, (false, 170), (false, 0), (0, 0, 0), (0, 0, 0), []) ∧
  pw_fnd pp_M_tickOne 170 = (.invokevirtual 105, (false, 173), (false, 4), (58, 2, 1), (0, 0, 652), []) ∧
  pw_fnd pp_M_tickOne 173 = (.idiv, (false, 174), (false, 0), (0, 0, 0), (0, 0, 0), []) ∧
  pw_fnd pp_M_tickOne 174 = (.iconst 1, (false, 175), (false, 0), (0, 0, 0), (0, 0, 0), [(1, (false, 0))]) ∧
  pw_fnd pp_M_tickOne 175 = (.isub, (false, 176), (false, 0), (0, 0, 0), (0, 0, 0), []) ∧
  pw_fnd pp_M_tickOne 176 = (.invokevirtual 171, (false, 179), (false, 4), (103, 3, 0), (0, 0, 744), []) ∧
  pw_fnd pp_M_tickOne 179 = (.iinc 2 1, (false, 182), (false, 0), (0, 0, 0), (0, 0, 0), [(1, (false, 0))]) ∧
  pw_fnd pp_M_tickOne 182 = (.goto (-41), (false, 185), (true, 141), (0, 0, 0), (0, 0, 0), []) ∧
  pw_fnd pp_M_tickOne 185 = (.iload_n 1, (false, 186), (false, 0), (0, 0, 0), (0, 0, 0), []) ∧
  pw_fnd pp_M_tickOne 186 = (.ireturn, (false, 187), (false, 0), (0, 0, 0), (0, 0, 0), []) :=
  ⟨rfl, rfl, rfl, rfl, rfl, rfl, rfl, rfl, rfl, rfl⟩
set_option maxRecDepth 100000 in
theorem pk_M_tickOne : pp_M_tickOne.all (fun q => pw_chk pw_jt pm_M_tickOne q.1 q.2) = true := by decide +kernel
def pp_M_ticks : List (Nat × pw_E) := [(0, (.iload_n 1, (false, 1), (false, 0), (0, 0, 0), (0, 0, 0), [])),
  (1, (.iconst 1, (false, 2), (false, 0), (0, 0, 0), (0, 0, 0), [(1, (false, 0))])),
  (2, (.if_icmp .ge 10, (false, 5), (false, 12), (0, 0, 0), (0, 0, 0), [])),
  (5, (.aload_n 0, (false, 6), (false, 0), (0, 0, 0), (0, 0, 0), [])),
  (6, (.bipush (-4), (false, 8), (false, 0), (0, 0, 0), (0, 0, 0), [((-4), (false, 0))])),
  (8, (.invokevirtual 94, (false, 11), (false, 4), (20, 2, 1), (0, 0, 613), [])),
  (11, (.ireturn, (false, 12), (false, 0), (0, 0, 0), (0, 0, 0), [])),
  (12, (.iload_n 1, (false, 13), (false, 0), (0, 0, 0), (0, 0, 0), [])),
  (13, (.sipush 5000, (false, 16), (false, 0), (0, 0, 0), (0, 0, 0), [(5000, (false, 0))])),
  (16, (.aload_n 0, (false, 17), (false, 0), (0, 0, 0), (0, 0, 0), [])),
  (17, (.getfield 114, (false, 20), (false, 0), (4, 0, 0), (0, 0, 517), [])),
  (20, (.isub, (false, 21), (false, 0), (0, 0, 0), (0, 0, 0), [])),
  (21, (.if_icmp .le 10, (false, 24), (false, 31), (0, 0, 0), (0, 0, 0), [])),
  (24, (.aload_n 0, (false, 25), (false, 0), (0, 0, 0), (0, 0, 0), [])),
  (25, (.bipush (-6), (false, 27), (false, 0), (0, 0, 0), (0, 0, 0), [((-6), (false, 0))])),
  (27, (.invokevirtual 94, (false, 30), (false, 4), (20, 2, 1), (0, 0, 613), [])),
  (30, (.ireturn, (false, 31), (false, 0), (0, 0, 0), (0, 0, 0), [])),
  (31, (.iconst 0, (false, 32), (false, 0), (0, 0, 0), (0, 0, 0), [(0, (false, 0))])),
  (32, (.istore_n 2, (false, 33), (false, 0), (0, 0, 0), (0, 0, 0), [])),
  (33, (.iconst 0, (false, 34), (false, 0), (0, 0, 0), (0, 0, 0), [(0, (false, 0))])),
  (34, (.istore_n 3, (true, 35), (false, 0), (0, 0, 0), (0, 0, 0), [])),
  (35, (.iload_n 3, (false, 36), (false, 0), (0, 0, 0), (0, 0, 0), [])),
  (36, (.iload_n 1, (false, 37), (false, 0), (0, 0, 0), (0, 0, 0), [])),
  (37, (.if_icmp .ge 16, (false, 40), (false, 53), (0, 0, 0), (0, 0, 0), [])),
  (40, (.iload_n 2, (false, 41), (false, 0), (0, 0, 0), (0, 0, 0), [])),
  (41, (.aload_n 0, (false, 42), (false, 0), (0, 0, 0), (0, 0, 0), [])),
  (42, (.invokevirtual 174, (false, 45), (false, 4), (108, 1, 1), (0, 0, 720), [])),
  (45, (.iadd, (false, 46), (false, 0), (0, 0, 0), (0, 0, 0), [])),
  (46, (.istore_n 2, (false, 47), (false, 0), (0, 0, 0), (0, 0, 0), [])),
  (47, (.iinc 3 1, (false, 50), (false, 0), (0, 0, 0), (0, 0, 0), [(1, (false, 0))])),
  (50, (.goto (-15), (false, 53), (true, 35), (0, 0, 0), (0, 0, 0), [])),
  (53, (.iload_n 2, (false, 54), (false, 0), (0, 0, 0), (0, 0, 0), [])),
  (54, (.ireturn, (false, 55), (false, 0), (0, 0, 0), (0, 0, 0), []))]
set_option maxRecDepth 100000 in
theorem pe_M_ticks : pw_fnd pp_M_ticks 0 = (.iload_n 1, (false, 1), (false, 0), (0, 0, 0), (0, 0, 0), []) ∧
  pw_fnd pp_M_ticks 1 = (.iconst 1, (false, 2), (false, 0), (0, 0, 0), (0, 0, 0), [(1, (false, 0))]) ∧
  pw_fnd pp_M_ticks 2 = (.if_icmp .ge 10, (false, 5), (false, 12), (0, 0, 0), (0, 0, 0), []) ∧
  pw_fnd pp_M_ticks 5 = (.aload_n 0, (false, 6), (false, 0), (0, 0, 0), (0, 0, 0), []) ∧
  pw_fnd pp_M_ticks 6 = (.bipush (-4), (false, 8), (false, 0), (0, 0, 0), (0, 0, 0), [((-4), (false, 0))]) ∧
  pw_fnd pp_M_ticks 8 = (.invokevirtual 94, (false, 11), (false, 4), (20, 2, 1), (0, 0, 613), []) ∧
  pw_fnd pp_M_ticks 11 = (.ireturn, (false, 12), (false, 0), (0, 0, 0), (0, 0, 0), []) ∧
  pw_fnd pp_M_ticks 12 = (.iload_n 1, (false, 13), (false, 0), (0, 0, 0), (0, 0, 0), []) ∧
  pw_fnd pp_M_ticks 13 = (.sipush 5000, (false, 16), (false, 0), (0, 0, 0), (0, 0, 0), [(5000, (false, 0))]) ∧
  pw_fnd pp_M_ticks 16 = (.aload_n 0, (false, 17), (false, 0), (0, 0, 0), (0, 0, 0), []) ∧
  pw_fnd pp_M_ticks 17 = (.getfield 114, (false, 20), (false, 0), (4, 0, 0), (0, 0, 517), []) ∧
  pw_fnd pp_M_ticks 20 = (.isub, (false, 21), (false, 0), (0, 0, 0), (0, 0, 0), []) ∧
  pw_fnd pp_M_ticks 21 = (.if_icmp .le 10, (false, 24), (false, 31), (0, 0, 0), (0, 0, 0), []) ∧
  pw_fnd pp_M_ticks 24 = (.aload_n 0, (false, 25), (false, 0), (0, 0, 0), (0, 0, 0), []) ∧
  pw_fnd pp_M_ticks 25 = (.bipush (-6), (false, 27), (false, 0), (0, 0, 0), (0, 0, 0), [((-6), (false, 0))]) ∧
  pw_fnd pp_M_ticks 27 = (.invokevirtual 94, (false, 30), (false, 4), (20, 2, 1), (0, 0, 613), []) ∧
  pw_fnd pp_M_ticks 30 = (.ireturn, (false, 31), (false, 0), (0, 0, 0), (0, 0, 0), []) ∧
  pw_fnd pp_M_ticks 31 = (.iconst 0, (false, 32), (false, 0), (0, 0, 0), (0, 0, 0), [(0, (false, 0))]) ∧
  pw_fnd pp_M_ticks 32 = (.istore_n 2, (false, 33), (false, 0), (0, 0, 0), (0, 0, 0), []) ∧
  pw_fnd pp_M_ticks 33 = (.iconst 0, (false, 34), (false, 0), (0, 0, 0), (0, 0, 0), [(0, (false, 0))]) ∧
  pw_fnd pp_M_ticks 34 = (.istore_n 3, (true, 35), (false, 0), (0, 0, 0), (0, 0, 0), []) ∧
  pw_fnd pp_M_ticks 35 = (.iload_n 3, (false, 36), (false, 0), (0, 0, 0), (0, 0, 0), []) ∧
  pw_fnd pp_M_ticks 36 = (.iload_n 1, (false, 37), (false, 0), (0, 0, 0), (0, 0, 0), []) ∧
  pw_fnd pp_M_ticks 37 = (.if_icmp .ge 16, (false, 40), (false, 53), (0, 0, 0), (0, 0, 0), []) ∧
  pw_fnd pp_M_ticks 40 = (.iload_n 2, (false, 41), (false, 0), (0, 0, 0), (0, 0, 0), []) ∧
  pw_fnd pp_M_ticks 41 = (.aload_n 0, (false, 42), (false, 0), (0, 0, 0), (0, 0, 0), []) ∧
  pw_fnd pp_M_ticks 42 = (.invokevirtual 174, (false, 45), (false, 4), (108, 1, 1), (0, 0, 720), []) ∧
  pw_fnd pp_M_ticks 45 = (.iadd, (false, 46), (false, 0), (0, 0, 0), (0, 0, 0), []) ∧
  pw_fnd pp_M_ticks 46 = (.istore_n 2, (false, 47), (false, 0), (0, 0, 0), (0, 0, 0), []) ∧
  pw_fnd pp_M_ticks 47 = (.iinc 3 1, (false, 50), (false, 0), (0, 0, 0), (0, 0, 0), [(1, (false, 0))]) ∧
  pw_fnd pp_M_ticks 50 = (.goto (-15), (false, 53), (true, 35), (0, 0, 0), (0, 0, 0), []) ∧
  pw_fnd pp_M_ticks 53 = (.iload_n 2, (false, 54), (false, 0), (0, 0, 0), (0, 0, 0), []) ∧
  pw_fnd pp_M_ticks 54 = (.ireturn, (false, 55), (false, 0), (0, 0, 0), (0, 0, 0), []) :=
  ⟨rfl, rfl, rfl, rfl, rfl, rfl, rfl, rfl, rfl, rfl, rfl, rfl, rfl, rfl, rfl, rfl, rfl, rfl, rfl, rfl, rfl, rfl, rfl, rfl, rfl, rfl, rfl, rfl, rfl, rfl, rfl, rfl, rfl⟩
set_option maxRecDepth 100000 in
theorem pk_M_ticks : pp_M_ticks.all (fun q => pw_chk pw_jt pm_M_ticks q.1 q.2) = true := by decide +kernel
