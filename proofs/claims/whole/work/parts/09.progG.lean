def pp_G_turnTo : List (Nat × pw_E) := [(0, (.aload_n 0, (false, 1), (false, 0), (0, 0, 0), (0, 0, 0), [])),
  (1, (.iload_n 1, (false, 2), (false, 0), (0, 0, 0), (0, 0, 0), [])),
  (2, (.putfield 25, (false, 5), (false, 0), (0, 5, 0), (0, 0, 217), [])),
  (5, (.aload_n 0, (false, 6), (false, 0), (0, 0, 0), (0, 0, 0), [])),
  (6, (.iload_n 2, (false, 7), (false, 0), (0, 0, 0), (0, 0, 0), [])),
  (7, (.putfield 28, (false, 10), (false, 0), (0, 6, 0), (0, 0, 219), [])),
  (10, (.return_, (false, 11), (false, 0), (0, 0, 0), (0, 0, 0), []))]
set_option maxRecDepth 100000 in
theorem pe_G_turnTo : pw_fnd pp_G_turnTo 0 = (.aload_n 0, (false, 1), (false, 0), (0, 0, 0), (0, 0, 0), []) ∧
  pw_fnd pp_G_turnTo 1 = (.iload_n 1, (false, 2), (false, 0), (0, 0, 0), (0, 0, 0), []) ∧
  pw_fnd pp_G_turnTo 2 = (.putfield 25, (false, 5), (false, 0), (0, 5, 0), (0, 0, 217), []) ∧
  pw_fnd pp_G_turnTo 5 = (.aload_n 0, (false, 6), (false, 0), (0, 0, 0), (0, 0, 0), []) ∧
  pw_fnd pp_G_turnTo 6 = (.iload_n 2, (false, 7), (false, 0), (0, 0, 0), (0, 0, 0), []) ∧
  pw_fnd pp_G_turnTo 7 = (.putfield 28, (false, 10), (false, 0), (0, 6, 0), (0, 0, 219), []) ∧
  pw_fnd pp_G_turnTo 10 = (.return_, (false, 11), (false, 0), (0, 0, 0), (0, 0, 0), []) :=
  ⟨rfl, rfl, rfl, rfl, rfl, rfl, rfl⟩
set_option maxRecDepth 100000 in
theorem pk_G_turnTo : pp_G_turnTo.all (fun q => pw_chk pw_jt pm_G_turnTo q.1 q.2) = true := by decide +kernel
def pp_G_hasTime : List (Nat × pw_E) := [(0, (.iload_n 1, (false, 1), (false, 0), (0, 0, 0), (0, 0, 0), [])),
  (1, (.ifCond .lt 20, (false, 4), (false, 21), (0, 0, 0), (0, 0, 0), [])),
  (4, (.iload_n 1, (false, 5), (false, 0), (0, 0, 0), (0, 0, 0), [])),
  (5, (.aload_n 0, (false, 6), (false, 0), (0, 0, 0), (0, 0, 0), [])),
  (6, (.getfield 31, (false, 9), (false, 0), (0, 4, 0), (0, 0, 215), [])),
  (9, (.if_icmp .ge 12, (false, 12), (false, 21), (0, 0, 0), (0, 0, 0), [])),
  (12, (.iload_n 1, (false, 13), (false, 0), (0, 0, 0), (0, 0, 0), [])),
  (13, (.iconst 2, (false, 14), (false, 0), (0, 0, 0), (0, 0, 0), [(2, (false, 0))])),
  (14, (.if_icmp .ge 7, (false, 17), (false, 21), (0, 0, 0), (0, 0, 0), [])),
  (17, (.iconst 1, (false, 18), (false, 0), (0, 0, 0), (0, 0, 0), [(1, (false, 0))])),
  (18, (.goto 4, (false, 21), (false, 22), (0, 0, 0), (0, 0, 0), [])),
  (21, (.iconst 0, (false, 22), (false, 0), (0, 0, 0), (0, 0, 0), [(0, (false, 0))])),
  (22, (.ireturn, (false, 23), (false, 0), (0, 0, 2), (0, 0, 0), []))]
set_option maxRecDepth 100000 in
theorem pe_G_hasTime : pw_fnd pp_G_hasTime 0 = (.iload_n 1, (false, 1), (false, 0), (0, 0, 0), (0, 0, 0), []) ∧
  pw_fnd pp_G_hasTime 1 = (.ifCond .lt 20, (false, 4), (false, 21), (0, 0, 0), (0, 0, 0), []) ∧
  pw_fnd pp_G_hasTime 4 = (.iload_n 1, (false, 5), (false, 0), (0, 0, 0), (0, 0, 0), []) ∧
  pw_fnd pp_G_hasTime 5 = (.aload_n 0, (false, 6), (false, 0), (0, 0, 0), (0, 0, 0), []) ∧
  pw_fnd pp_G_hasTime 6 = (.getfield 31, (false, 9), (false, 0), (0, 4, 0), (0, 0, 215), []) ∧
  pw_fnd pp_G_hasTime 9 = (.if_icmp .ge 12, (false, 12), (false, 21), (0, 0, 0), (0, 0, 0), []) ∧
  pw_fnd pp_G_hasTime 12 = (.iload_n 1, (false, 13), (false, 0), (0, 0, 0), (0, 0, 0), []) ∧
  pw_fnd pp_G_hasTime 13 = (.iconst 2, (false, 14), (false, 0), (0, 0, 0), (0, 0, 0), [(2, (false, 0))]) ∧
  pw_fnd pp_G_hasTime 14 = (.if_icmp .ge 7, (false, 17), (false, 21), (0, 0, 0), (0, 0, 0), []) ∧
  pw_fnd pp_G_hasTime 17 = (.iconst 1, (false, 18), (false, 0), (0, 0, 0), (0, 0, 0), [(1, (false, 0))]) ∧
  pw_fnd pp_G_hasTime 18 = (.goto 4, (false, 21), (false, 22), (0, 0, 0), (0, 0, 0), []) ∧
  pw_fnd pp_G_hasTime 21 = (.iconst 0, (false, 22), (false, 0), (0, 0, 0), (0, 0, 0), [(0, (false, 0))]) ∧
  pw_fnd pp_G_hasTime 22 = (.ireturn, (false, 23), (false, 0), (0, 0, 2), (0, 0, 0), []) :=
  ⟨rfl, rfl, rfl, rfl, rfl, rfl, rfl, rfl, rfl, rfl, rfl, rfl, rfl⟩
set_option maxRecDepth 100000 in
theorem pk_G_hasTime : pp_G_hasTime.all (fun q => pw_chk pw_jt pm_G_hasTime q.1 q.2) = true := by decide +kernel
def pp_G_addTime : List (Nat × pw_E) := [(0, (.aload_n 0, (false, 1), (false, 0), (0, 0, 0), (0, 0, 0), [])),
  (1, (.getfield 31, (false, 4), (false, 0), (0, 4, 0), (0, 0, 215), [])),
  (4, (.ifCond .lt 57, (false, 7), (false, 61), (0, 0, 0), (0, 0, 0), [])),
  (7, (.aload_n 0, (false, 8), (false, 0), (0, 0, 0), (0, 0, 0), [])),
  (8, (.getfield 31, (false, 11), (false, 0), (0, 4, 0), (0, 0, 215), [])),
  (11, (.aload_n 0, (false, 12), (false, 0), (0, 0, 0), (0, 0, 0), [])),
  (12, (.getfield 18, (false, 15), (false, 0), (0, 2, 1), (0, 0, 213), [])),
  (15, (.arraylength, (false, 16), (false, 0), (0, 0, 0), (0, 0, 0), [])),
  (16, (.if_icmp .ge 45, (false, 19), (false, 61), (0, 0, 0), (0, 0, 0), [])),
  (19, (.aload_n 0, (false, 20), (false, 0), (0, 0, 0), (0, 0, 0), [])),
  (20, (.getfield 31, (false, 23), (false, 0), (0, 4, 0), (0, 0, 215), [])),
  (23, (.aload_n 0, (false, 24), (false, 0), (0, 0, 0), (0, 0, 0), [])),
  (24, (.getfield 22, (false, 27), (false, 0), (0, 3, 1), (0, 0, 214), [])),
  (27, (.arraylength, (false, 28), (false, 0), (0, 0, 0), (0, 0, 0), [])),
  (28, (.if_icmp .ge 33, (false, 31), (false, 61), (0, 0, 0), (0, 0, 0), [])),
  (31, (.aload_n 0, (false, 32), (false, 0), (0, 0, 0), (0, 0, 0), [])),
  (32, (.getfield 18, (false, 35), (false, 0), (0, 2, 1), (0, 0, 213), [])),
  (35, (.aload_n 0, (false, 36), (false, 0), (0, 0, 0), (0, 0, 0), [])),
  (36, (.getfield 31, (false, 39), (false, 0), (0, 4, 0), (0, 0, 215), [])),
  (39, (.iload_n 1, (false, 40), (false, 0), (0, 0, 0), (0, 0, 0), [])),
  (40, (.iastore, (false, 41), (false, 0), (0, 0, 0), (0, 0, 0), [])),
  (41, (.aload_n 0, (false, 42), (false, 0), (0, 0, 0), (0, 0, 0), [])),
  (42, (.getfield 22, (false, 45), (false, 0), (0, 3, 1), (0, 0, 214), [])),
  (45, (.aload_n 0, (false, 46), (false, 0), (0, 0, 0), (0, 0, 0), [])),
  (46, (.getfield 31, (false, 49), (false, 0), (0, 4, 0), (0, 0, 215), [])),
  (49, (.iload_n 2, (false, 50), (false, 0), (0, 0, 0), (0, 0, 0), [])),
  (50, (.iastore, (false, 51), (false, 0), (0, 0, 0), (0, 0, 0), [])),
  (51, (.aload_n 0, (false, 52), (false, 0), (0, 0, 0), (0, 0, 0), [])),
  (52, (.dup, (false, 53), (false, 0), (0, 0, 0), (0, 0, 0), [])),
  (53, (.getfield 31, (false, 56), (false, 0), (0, 4, 0), (0, 0, 215), [])),
  (56, (.iconst 1, (false, 57), (false, 0), (0, 0, 0), (0, 0, 0), [(1, (false, 0))])),
  (57, (.iadd, (false, 58), (false, 0), (0, 0, 0), (0, 0, 0), [])),
  (58, (.putfield 31, (false, 61), (false, 0), (0, 4, 0), (0, 0, 215), [])),
  (61, (.return_, (false, 62), (false, 0), (0, 0, 0), (0, 0, 0), []))]
set_option maxRecDepth 100000 in
theorem pe_G_addTime : pw_fnd pp_G_addTime 0 = (.aload_n 0, (false, 1), (false, 0), (0, 0, 0), (0, 0, 0), []) ∧
  pw_fnd pp_G_addTime 1 = (.getfield 31, (false, 4), (false, 0), (0, 4, 0), (0, 0, 215), []) ∧
  pw_fnd pp_G_addTime 4 = (.ifCond .lt 57, (false, 7), (false, 61), (0, 0, 0), (0, 0, 0), []) ∧
  pw_fnd pp_G_addTime 7 = (.aload_n 0, (false, 8), (false, 0), (0, 0, 0), (0, 0, 0), []) ∧
  pw_fnd pp_G_addTime 8 = (.getfield 31, (false, 11), (false, 0), (0, 4, 0), (0, 0, 215), []) ∧
  pw_fnd pp_G_addTime 11 = (.aload_n 0, (false, 12), (false, 0), (0, 0, 0), (0, 0, 0), []) ∧
  pw_fnd pp_G_addTime 12 = (.getfield 18, (false, 15), (false, 0), (0, 2, 1), (0, 0, 213), []) ∧
  pw_fnd pp_G_addTime 15 = (.arraylength, (false, 16), (false, 0), (0, 0, 0), (0, 0, 0), []) ∧
  pw_fnd pp_G_addTime 16 = (.if_icmp .ge 45, (false, 19), (false, 61), (0, 0, 0), (0, 0, 0), []) ∧
  pw_fnd pp_G_addTime 19 = (.aload_n 0, (false, 20), (false, 0), (0, 0, 0), (0, 0, 0), []) ∧
  pw_fnd pp_G_addTime 20 = (.getfield 31, (false, 23), (false, 0), (0, 4, 0), (0, 0, 215), []) ∧
  pw_fnd pp_G_addTime 23 = (.aload_n 0, (false, 24), (false, 0), (0, 0, 0), (0, 0, 0), []) ∧
  pw_fnd pp_G_addTime 24 = (.getfield 22, (false, 27), (false, 0), (0, 3, 1), (0, 0, 214), []) ∧
  pw_fnd pp_G_addTime 27 = (.arraylength, (false, 28), (false, 0), (0, 0, 0), (0, 0, 0), []) ∧
  pw_fnd pp_G_addTime 28 = (.if_icmp .ge 33, (false, 31), (false, 61), (0, 0, 0), (0, 0, 0), []) ∧
  pw_fnd pp_G_addTime 31 = (.aload_n 0, (false, 32), (false, 0), (0, 0, 0), (0, 0, 0), []) ∧
  pw_fnd pp_G_addTime 32 = (.getfield 18, (false, 35), (false, 0), (0, 2, 1), (0, 0, 213), []) ∧
  pw_fnd pp_G_addTime 35 = (.aload_n 0, (false, 36), (false, 0), (0, 0, 0), (0, 0, 0), []) ∧
  pw_fnd pp_G_addTime 36 = (.getfield 31, (false, 39), (false, 0), (0, 4, 0), (0, 0, 215), []) ∧
  pw_fnd pp_G_addTime 39 = (.iload_n 1, (false, 40), (false, 0), (0, 0, 0), (0, 0, 0), []) ∧
  pw_fnd pp_G_addTime 40 = (.iastore, (false, 41), (false, 0), (0, 0, 0), (0, 0, 0), []) ∧
  pw_fnd pp_G_addTime 41 = (.aload_n 0, (false, 42), (false, 0), (0, 0, 0), (0, 0, 0), []) ∧
  pw_fnd pp_G_addTime 42 = (.getfield 22, (false, 45), (false, 0), (0, 3, 1), (0, 0, 214), []) ∧
  pw_fnd pp_G_addTime 45 = (.aload_n 0, (false, 46), (false, 0), (0, 0, 0), (0, 0, 0), []) ∧
  pw_fnd pp_G_addTime 46 = (.getfield 31, (false, 49), (false, 0), (0, 4, 0), (0, 0, 215), []) ∧
  pw_fnd pp_G_addTime 49 = (.iload_n 2, (false, 50), (false, 0), (0, 0, 0), (0, 0, 0), []) ∧
  pw_fnd pp_G_addTime 50 = (.iastore, (false, 51), (false, 0), (0, 0, 0), (0, 0, 0), []) ∧
  pw_fnd pp_G_addTime 51 = (.aload_n 0, (false, 52), (false, 0), (0, 0, 0), (0, 0, 0), []) ∧
  pw_fnd pp_G_addTime 52 = (.dup, (false, 53), (false, 0), (0, 0, 0), (0, 0, 0), []) ∧
  pw_fnd pp_G_addTime 53 = (.getfield 31, (false, 56), (false, 0), (0, 4, 0), (0, 0, 215), []) ∧
  pw_fnd pp_G_addTime 56 = (.iconst 1, (false, 57), (false, 0), (0, 0, 0), (0, 0, 0), [(1, (false, 0))]) ∧
  pw_fnd pp_G_addTime 57 = (.iadd, (false, 58), (false, 0), (0, 0, 0), (0, 0, 0), []) ∧
  pw_fnd pp_G_addTime 58 = (.putfield 31, (false, 61), (false, 0), (0, 4, 0), (0, 0, 215), []) ∧
  pw_fnd pp_G_addTime 61 = (.return_, (false, 62), (false, 0), (0, 0, 0), (0, 0, 0), []) :=
  ⟨rfl, rfl, rfl, rfl, rfl, rfl, rfl, rfl, rfl, rfl, rfl, rfl, rfl, rfl, rfl, rfl, rfl, rfl, rfl, rfl, rfl, rfl, rfl, rfl, rfl, rfl, rfl, rfl, rfl, rfl, rfl, rfl, rfl, rfl⟩
set_option maxRecDepth 100000 in
theorem pk_G_addTime : pp_G_addTime.all (fun q => pw_chk pw_jt pm_G_addTime q.1 q.2) = true := by decide +kernel
def pp_D_runs : List (Nat × pw_E) := [(0, (.aload_n 0, (false, 1), (false, 0), (0, 0, 0), (0, 0, 0), [])),
  (1, (.getfield 50, (false, 4), (false, 0), (1, 11, 2), (0, 0, 161), [])),
  (4, (.ifCond .ne 19, (false, 7), (false, 23), (0, 0, 0), (0, 0, 0), [])),
  (7, (.aload_n 0, (false, 8), (false, 0), (0, 0, 0), (0, 0, 0), [])),
  (8, (.getfield 21, (false, 11), (false, 0), (1, 3, 0), (0, 0, 148), [])),
  (11, (.iconst 3, (false, 12), (false, 0), (0, 0, 0), (0, 0, 0), [(3, (false, 0))])),
  (12, (.if_icmp .ne 7, (false, 15), (false, 19), (0, 0, 0), (0, 0, 0), [])),
  (15, (.iload_n 1, (false, 16), (false, 0), (0, 0, 0), (0, 0, 0), [])),
  (16, (.ifCond .ne 7, (false, 19), (false, 23), (0, 0, 0), (0, 0, 0), [])),
  (19, (.iconst 1, (false, 20), (false, 0), (0, 0, 0), (0, 0, 0), [(1, (false, 0))])),
  (20, (.goto 4, (false, 23), (false, 24), (0, 0, 0), (0, 0, 0), [])),
  (23, (.iconst 0, (false, 24), (false, 0), (0, 0, 0), (0, 0, 0), [(0, (false, 0))])),
  (24, (.ireturn, (false, 25), (false, 0), (0, 0, 2), (0, 0, 0), []))]
set_option maxRecDepth 100000 in
theorem pe_D_runs : pw_fnd pp_D_runs 0 = (.aload_n 0, (false, 1), (false, 0), (0, 0, 0), (0, 0, 0), []) ∧
  pw_fnd pp_D_runs 1 = (.getfield 50, (false, 4), (false, 0), (1, 11, 2), (0, 0, 161), []) ∧
  pw_fnd pp_D_runs 4 = (.ifCond .ne 19, (false, 7), (false, 23), (0, 0, 0), (0, 0, 0), []) ∧
  pw_fnd pp_D_runs 7 = (.aload_n 0, (false, 8), (false, 0), (0, 0, 0), (0, 0, 0), []) ∧
  pw_fnd pp_D_runs 8 = (.getfield 21, (false, 11), (false, 0), (1, 3, 0), (0, 0, 148), []) ∧
  pw_fnd pp_D_runs 11 = (.iconst 3, (false, 12), (false, 0), (0, 0, 0), (0, 0, 0), [(3, (false, 0))]) ∧
  pw_fnd pp_D_runs 12 = (.if_icmp .ne 7, (false, 15), (false, 19), (0, 0, 0), (0, 0, 0), []) ∧
  pw_fnd pp_D_runs 15 = (.iload_n 1, (false, 16), (false, 0), (0, 0, 0), (0, 0, 0), []) ∧
  pw_fnd pp_D_runs 16 = (.ifCond .ne 7, (false, 19), (false, 23), (0, 0, 0), (0, 0, 0), []) ∧
  pw_fnd pp_D_runs 19 = (.iconst 1, (false, 20), (false, 0), (0, 0, 0), (0, 0, 0), [(1, (false, 0))]) ∧
  pw_fnd pp_D_runs 20 = (.goto 4, (false, 23), (false, 24), (0, 0, 0), (0, 0, 0), []) ∧
  pw_fnd pp_D_runs 23 = (.iconst 0, (false, 24), (false, 0), (0, 0, 0), (0, 0, 0), [(0, (false, 0))]) ∧
  pw_fnd pp_D_runs 24 = (.ireturn, (false, 25), (false, 0), (0, 0, 2), (0, 0, 0), []) :=
  ⟨rfl, rfl, rfl, rfl, rfl, rfl, rfl, rfl, rfl, rfl, rfl, rfl, rfl⟩
set_option maxRecDepth 100000 in
theorem pk_D_runs : pp_D_runs.all (fun q => pw_chk pw_jt pm_D_runs q.1 q.2) = true := by decide +kernel
def pp_D_beginsWindow : List (Nat × pw_E) := [(0, (.aload_n 0, (false, 1), (false, 0), (0, 0, 0), (0, 0, 0), [])),
  (1, (.getfield 33, (false, 4), (false, 0), (1, 5, 0), (0, 0, 151), [])),
  (4, (.ifCond .le 16, (false, 7), (false, 20), (0, 0, 0), (0, 0, 0), [])),
  (7, (.iload_n 1, (false, 8), (false, 0), (0, 0, 0), (0, 0, 0), [])),
  (8, (.aload_n 0, (false, 9), (false, 0), (0, 0, 0), (0, 0, 0), [])),
  (9, (.getfield 33, (false, 12), (false, 0), (1, 5, 0), (0, 0, 151), [])),
  (12, (.irem, (false, 13), (false, 0), (0, 0, 0), (0, 0, 0), [])),
  (13, (.ifCond .ne 7, (false, 16), (false, 20), (0, 0, 0), (0, 0, 0), [])),
  (16, (.iconst 1, (false, 17), (false, 0), (0, 0, 0), (0, 0, 0), [(1, (false, 0))])),
  (17, (.goto 4, (false, 20), (false, 21), (0, 0, 0), (0, 0, 0), [])),
  (20, (.iconst 0, (false, 21), (false, 0), (0, 0, 0), (0, 0, 0), [(0, (false, 0))])),
  (21, (.ireturn, (false, 22), (false, 0), (0, 0, 2), (0, 0, 0), []))]
set_option maxRecDepth 100000 in
theorem pe_D_beginsWindow : pw_fnd pp_D_beginsWindow 0 = (.aload_n 0, (false, 1), (false, 0), (0, 0, 0), (0, 0, 0), []) ∧
  pw_fnd pp_D_beginsWindow 1 = (.getfield 33, (false, 4), (false, 0), (1, 5, 0), (0, 0, 151), []) ∧
  pw_fnd pp_D_beginsWindow 4 = (.ifCond .le 16, (false, 7), (false, 20), (0, 0, 0), (0, 0, 0), []) ∧
  pw_fnd pp_D_beginsWindow 7 = (.iload_n 1, (false, 8), (false, 0), (0, 0, 0), (0, 0, 0), []) ∧
  pw_fnd pp_D_beginsWindow 8 = (.aload_n 0, (false, 9), (false, 0), (0, 0, 0), (0, 0, 0), []) ∧
  pw_fnd pp_D_beginsWindow 9 = (.getfield 33, (false, 12), (false, 0), (1, 5, 0), (0, 0, 151), []) ∧
  pw_fnd pp_D_beginsWindow 12 = (.irem, (false, 13), (false, 0), (0, 0, 0), (0, 0, 0), []) ∧
  pw_fnd pp_D_beginsWindow 13 = (.ifCond .ne 7, (false, 16), (false, 20), (0, 0, 0), (0, 0, 0), []) ∧
  pw_fnd pp_D_beginsWindow 16 = (.iconst 1, (false, 17), (false, 0), (0, 0, 0), (0, 0, 0), [(1, (false, 0))]) ∧
  pw_fnd pp_D_beginsWindow 17 = (.goto 4, (false, 20), (false, 21), (0, 0, 0), (0, 0, 0), []) ∧
  pw_fnd pp_D_beginsWindow 20 = (.iconst 0, (false, 21), (false, 0), (0, 0, 0), (0, 0, 0), [(0, (false, 0))]) ∧
  pw_fnd pp_D_beginsWindow 21 = (.ireturn, (false, 22), (false, 0), (0, 0, 2), (0, 0, 0), []) :=
  ⟨rfl, rfl, rfl, rfl, rfl, rfl, rfl, rfl, rfl, rfl, rfl, rfl⟩
set_option maxRecDepth 100000 in
theorem pk_D_beginsWindow : pp_D_beginsWindow.all (fun q => pw_chk pw_jt pm_D_beginsWindow q.1 q.2) = true := by decide +kernel
def pp_D_windowAt : List (Nat × pw_E) := [(0, (.aload_n 0, (false, 1), (false, 0), (0, 0, 0), (0, 0, 0), [])),
  (1, (.getfield 33, (false, 4), (false, 0), (1, 5, 0), (0, 0, 151), [])),
  (4, (.ifCond .le 12, (false, 7), (false, 16), (0, 0, 0), (0, 0, 0), [])),
  (7, (.iload_n 1, (false, 8), (false, 0), (0, 0, 0), (0, 0, 0), [])),
  (8, (.aload_n 0, (false, 9), (false, 0), (0, 0, 0), (0, 0, 0), [])),
  (9, (.getfield 33, (false, 12), (false, 0), (1, 5, 0), (0, 0, 151), [])),
  (12, (.idiv, (false, 13), (false, 0), (0, 0, 0), (0, 0, 0), [])),
  (13, (.goto 4, (false, 16), (false, 17), (0, 0, 0), (0, 0, 0), [])),
  (16, (.iconst 0, (false, 17), (false, 0), (0, 0, 0), (0, 0, 0), [(0, (false, 0))])),
  (17, (.ireturn, (false, 18), (false, 0), (0, 0, 0), (0, 0, 0), []))]
set_option maxRecDepth 100000 in
theorem pe_D_windowAt : pw_fnd pp_D_windowAt 0 = (.aload_n 0, (false, 1), (false, 0), (0, 0, 0), (0, 0, 0), []) ∧
  pw_fnd pp_D_windowAt 1 = (.getfield 33, (false, 4), (false, 0), (1, 5, 0), (0, 0, 151), []) ∧
  pw_fnd pp_D_windowAt 4 = (.ifCond .le 12, (false, 7), (false, 16), (0, 0, 0), (0, 0, 0), []) ∧
  pw_fnd pp_D_windowAt 7 = (.iload_n 1, (false, 8), (false, 0), (0, 0, 0), (0, 0, 0), []) ∧
  pw_fnd pp_D_windowAt 8 = (.aload_n 0, (false, 9), (false, 0), (0, 0, 0), (0, 0, 0), []) ∧
  pw_fnd pp_D_windowAt 9 = (.getfield 33, (false, 12), (false, 0), (1, 5, 0), (0, 0, 151), []) ∧
  pw_fnd pp_D_windowAt 12 = (.idiv, (false, 13), (false, 0), (0, 0, 0), (0, 0, 0), []) ∧
  pw_fnd pp_D_windowAt 13 = (.goto 4, (false, 16), (false, 17), (0, 0, 0), (0, 0, 0), []) ∧
  pw_fnd pp_D_windowAt 16 = (.iconst 0, (false, 17), (false, 0), (0, 0, 0), (0, 0, 0), [(0, (false, 0))]) ∧
  pw_fnd pp_D_windowAt 17 = (.ireturn, (false, 18), (false, 0), (0, 0, 0), (0, 0, 0), []) :=
  ⟨rfl, rfl, rfl, rfl, rfl, rfl, rfl, rfl, rfl, rfl⟩
set_option maxRecDepth 100000 in
theorem pk_D_windowAt : pp_D_windowAt.all (fun q => pw_chk pw_jt pm_D_windowAt q.1 q.2) = true := by decide +kernel
def pp_D_firstTickOf : List (Nat × pw_E) := [(0, (.iload_n 1, (false, 1), (false, 0), (0, 0, 0), (0, 0, 0), [])),
  (1, (.aload_n 0, (false, 2), (false, 0), (0, 0, 0), (0, 0, 0), [])),
  (2, (.getfield 33, (false, 5), (false, 0), (1, 5, 0), (0, 0, 151), [])),
  (5, (.imul, (false, 6), (false, 0), (0, 0, 0), (0, 0, 0), [])),
  (6, (.ireturn, (false, 7), (false, 0), (0, 0, 0), (0, 0, 0), []))]
set_option maxRecDepth 100000 in
theorem pe_D_firstTickOf : pw_fnd pp_D_firstTickOf 0 = (.iload_n 1, (false, 1), (false, 0), (0, 0, 0), (0, 0, 0), []) ∧
  pw_fnd pp_D_firstTickOf 1 = (.aload_n 0, (false, 2), (false, 0), (0, 0, 0), (0, 0, 0), []) ∧
  pw_fnd pp_D_firstTickOf 2 = (.getfield 33, (false, 5), (false, 0), (1, 5, 0), (0, 0, 151), []) ∧
  pw_fnd pp_D_firstTickOf 5 = (.imul, (false, 6), (false, 0), (0, 0, 0), (0, 0, 0), []) ∧
  pw_fnd pp_D_firstTickOf 6 = (.ireturn, (false, 7), (false, 0), (0, 0, 0), (0, 0, 0), []) :=
  ⟨rfl, rfl, rfl, rfl, rfl⟩
set_option maxRecDepth 100000 in
theorem pk_D_firstTickOf : pp_D_firstTickOf.all (fun q => pw_chk pw_jt pm_D_firstTickOf q.1 q.2) = true := by decide +kernel
def pp_D_givenOf : List (Nat × pw_E) := [(0, (.iload_n 1, (false, 1), (false, 0), (0, 0, 0), (0, 0, 0), [])),
  (1, (.ifCond .lt 21, (false, 4), (false, 22), (0, 0, 0), (0, 0, 0), [])),
  (4, (.iload_n 1, (false, 5), (false, 0), (0, 0, 0), (0, 0, 0), [])),
  (5, (.aload_n 0, (false, 6), (false, 0), (0, 0, 0), (0, 0, 0), [])),
  (6, (.getfield 46, (false, 9), (false, 0), (1, 8, 1), (0, 0, 156), [])),
  (9, (.arraylength, (false, 10), (false, 0), (0, 0, 0), (0, 0, 0), [])),
  (10, (.if_icmp .ge 12, (false, 13), (false, 22), (0, 0, 0), (0, 0, 0), [])),
  (13, (.aload_n 0, (false, 14), (false, 0), (0, 0, 0), (0, 0, 0), [])),
  (14, (.getfield 46, (false, 17), (false, 0), (1, 8, 1), (0, 0, 156), [])),
  (17, (.iload_n 1, (false, 18), (false, 0), (0, 0, 0), (0, 0, 0), [])),
  (18, (.iaload, (false, 19), (false, 0), (0, 0, 0), (0, 0, 0), [])),
  (19, (.goto 4, (false, 22), (false, 23), (0, 0, 0), (0, 0, 0), [])),
  (22, (.iconst 0, (false, 23), (false, 0), (0, 0, 0), (0, 0, 0), [(0, (false, 0))])),
  (23, (.ireturn, (false, 24), (false, 0), (0, 0, 0), (0, 0, 0), []))]
set_option maxRecDepth 100000 in
theorem pe_D_givenOf : pw_fnd pp_D_givenOf 0 = (.iload_n 1, (false, 1), (false, 0), (0, 0, 0), (0, 0, 0), []) ∧
  pw_fnd pp_D_givenOf 1 = (.ifCond .lt 21, (false, 4), (false, 22), (0, 0, 0), (0, 0, 0), []) ∧
  pw_fnd pp_D_givenOf 4 = (.iload_n 1, (false, 5), (false, 0), (0, 0, 0), (0, 0, 0), []) ∧
  pw_fnd pp_D_givenOf 5 = (.aload_n 0, (false, 6), (false, 0), (0, 0, 0), (0, 0, 0), []) ∧
  pw_fnd pp_D_givenOf 6 = (.getfield 46, (false, 9), (false, 0), (1, 8, 1), (0, 0, 156), []) ∧
  pw_fnd pp_D_givenOf 9 = (.arraylength, (false, 10), (false, 0), (0, 0, 0), (0, 0, 0), []) ∧
  pw_fnd pp_D_givenOf 10 = (.if_icmp .ge 12, (false, 13), (false, 22), (0, 0, 0), (0, 0, 0), []) ∧
  pw_fnd pp_D_givenOf 13 = (.aload_n 0, (false, 14), (false, 0), (0, 0, 0), (0, 0, 0), []) ∧
  pw_fnd pp_D_givenOf 14 = (.getfield 46, (false, 17), (false, 0), (1, 8, 1), (0, 0, 156), []) ∧
  pw_fnd pp_D_givenOf 17 = (.iload_n 1, (false, 18), (false, 0), (0, 0, 0), (0, 0, 0), []) ∧
  pw_fnd pp_D_givenOf 18 = (.iaload, (false, 19), (false, 0), (0, 0, 0), (0, 0, 0), []) ∧
  pw_fnd pp_D_givenOf 19 = (.goto 4, (false, 22), (false, 23), (0, 0, 0), (0, 0, 0), []) ∧
  pw_fnd pp_D_givenOf 22 = (.iconst 0, (false, 23), (false, 0), (0, 0, 0), (0, 0, 0), [(0, (false, 0))]) ∧
  pw_fnd pp_D_givenOf 23 = (.ireturn, (false, 24), (false, 0), (0, 0, 0), (0, 0, 0), []) :=
  ⟨rfl, rfl, rfl, rfl, rfl, rfl, rfl, rfl, rfl, rfl, rfl, rfl, rfl, rfl⟩
set_option maxRecDepth 100000 in
theorem pk_D_givenOf : pp_D_givenOf.all (fun q => pw_chk pw_jt pm_D_givenOf q.1 q.2) = true := by decide +kernel
def pp_D_addGiven : List (Nat × pw_E) := [(0, (.iload_n 1, (false, 1), (false, 0), (0, 0, 0), (0, 0, 0), [])),
  (1, (.ifCond .lt 22, (false, 4), (false, 23), (0, 0, 0), (0, 0, 0), [])),
  (4, (.iload_n 1, (false, 5), (false, 0), (0, 0, 0), (0, 0, 0), [])),
  (5, (.aload_n 0, (false, 6), (false, 0), (0, 0, 0), (0, 0, 0), [])),
  (6, (.getfield 46, (false, 9), (false, 0), (1, 8, 1), (0, 0, 156), [])),
  (9, (.arraylength, (false, 10), (false, 0), (0, 0, 0), (0, 0, 0), [])),
  (10, (.if_icmp .ge 13, (false, 13), (false, 23), (0, 0, 0), (0, 0, 0), [])),
  (13, (.aload_n 0, (false, 14), (false, 0), (0, 0, 0), (0, 0, 0), [])),
  (14, (.getfield 46, (false, 17), (false, 0), (1, 8, 1), (0, 0, 156), [])),
  (17, (.iload_n 1, (false, 18), (false, 0), (0, 0, 0), (0, 0, 0), [])),
  (18, (.dup2, (false, 19), (false, 0), (0, 0, 0), (0, 0, 0), [])),
  (19, (.iaload, (false, 20), (false, 0), (0, 0, 0), (0, 0, 0), [])),
  (20, (.iload_n 2, (false, 21), (false, 0), (0, 0, 0), (0, 0, 0), [])),
  (21, (.iadd, (false, 22), (false, 0), (0, 0, 0), (0, 0, 0), [])),
  (22, (.iastore, (false, 23), (false, 0), (0, 0, 0), (0, 0, 0), [])),
  (23, (.return_, (false, 24), (false, 0), (0, 0, 0), (0, 0, 0), []))]
set_option maxRecDepth 100000 in
theorem pe_D_addGiven : pw_fnd pp_D_addGiven 0 = (.iload_n 1, (false, 1), (false, 0), (0, 0, 0), (0, 0, 0), []) ∧
  pw_fnd pp_D_addGiven 1 = (.ifCond .lt 22, (false, 4), (false, 23), (0, 0, 0), (0, 0, 0), []) ∧
  pw_fnd pp_D_addGiven 4 = (.iload_n 1, (false, 5), (false, 0), (0, 0, 0), (0, 0, 0), []) ∧
  pw_fnd pp_D_addGiven 5 = (.aload_n 0, (false, 6), (false, 0), (0, 0, 0), (0, 0, 0), []) ∧
  pw_fnd pp_D_addGiven 6 = (.getfield 46, (false, 9), (false, 0), (1, 8, 1), (0, 0, 156), []) ∧
  pw_fnd pp_D_addGiven 9 = (.arraylength, (false, 10), (false, 0), (0, 0, 0), (0, 0, 0), []) ∧
  pw_fnd pp_D_addGiven 10 = (.if_icmp .ge 13, (false, 13), (false, 23), (0, 0, 0), (0, 0, 0), []) ∧
  pw_fnd pp_D_addGiven 13 = (.aload_n 0, (false, 14), (false, 0), (0, 0, 0), (0, 0, 0), []) ∧
  pw_fnd pp_D_addGiven 14 = (.getfield 46, (false, 17), (false, 0), (1, 8, 1), (0, 0, 156), []) ∧
  pw_fnd pp_D_addGiven 17 = (.iload_n 1, (false, 18), (false, 0), (0, 0, 0), (0, 0, 0), []) ∧
  pw_fnd pp_D_addGiven 18 = (.dup2, (false, 19), (false, 0), (0, 0, 0), (0, 0, 0), []) ∧
  pw_fnd pp_D_addGiven 19 = (.iaload, (false, 20), (false, 0), (0, 0, 0), (0, 0, 0), []) ∧
  pw_fnd pp_D_addGiven 20 = (.iload_n 2, (false, 21), (false, 0), (0, 0, 0), (0, 0, 0), []) ∧
  pw_fnd pp_D_addGiven 21 = (.iadd, (false, 22), (false, 0), (0, 0, 0), (0, 0, 0), []) ∧
  pw_fnd pp_D_addGiven 22 = (.iastore, (false, 23), (false, 0), (0, 0, 0), (0, 0, 0), []) ∧
  pw_fnd pp_D_addGiven 23 = (.return_, (false, 24), (false, 0), (0, 0, 0), (0, 0, 0), []) :=
  ⟨rfl, rfl, rfl, rfl, rfl, rfl, rfl, rfl, rfl, rfl, rfl, rfl, rfl, rfl, rfl, rfl⟩
set_option maxRecDepth 100000 in
theorem pk_D_addGiven : pp_D_addGiven.all (fun q => pw_chk pw_jt pm_D_addGiven q.1 q.2) = true := by decide +kernel
def pp_W_at : List (Nat × pw_E) := [(0, (.iload_n 1, (false, 1), (false, 0), (0, 0, 0), (0, 0, 0), [])),
  (1, (.ifCond .lt 29, (false, 4), (false, 30), (0, 0, 0), (0, 0, 0), [])),
  (4, (.iload_n 1, (false, 5), (false, 0), (0, 0, 0), (0, 0, 0), [])),
  (5, (.aload_n 0, (false, 6), (false, 0), (0, 0, 0), (0, 0, 0), [])),
  (6, (.getfield 15, (false, 9), (false, 0), (2, 1, 0), (0, 0, 135), [])),
  (9, (.if_icmp .ge 21, (false, 12), (false, 30), (0, 0, 0), (0, 0, 0), [])),
  (12, (.iload_n 1, (false, 13), (false, 0), (0, 0, 0), (0, 0, 0), [])),
  (13, (.aload_n 0, (false, 14), (false, 0), (0, 0, 0), (0, 0, 0), [])),
  (14, (.getfield 9, (false, 17), (false, 0), (2, 0, 1), (0, 0, 134), [])),
  (17, (.arraylength, (false, 18), (false, 0), (0, 0, 0), (0, 0, 0), [])),
  (18, (.if_icmp .ge 12, (false, 21), (false, 30), (0, 0, 0), (0, 0, 0), [])),
  (21, (.aload_n 0, (false, 22), (false, 0), (0, 0, 0), (0, 0, 0), [])),
  (22, (.getfield 9, (false, 25), (false, 0), (2, 0, 1), (0, 0, 134), [])),
  (25, (.iload_n 1, (false, 26), (false, 0), (0, 0, 0), (0, 0, 0), [])),
  (26, (.iaload, (false, 27), (false, 0), (0, 0, 0), (0, 0, 0), [])),
  (27, (.goto 5, (false, 30), (false, 32), (0, 0, 0), (0, 0, 0), [])),
  (30, (.bipush (-9), (false, 32), (false, 0), (0, 0, 0), (0, 0, 0), [((-9), (false, 0))])),
  (32, (.ireturn, (false, 33), (false, 0), (0, 0, 0), (0, 0, 0), []))]
set_option maxRecDepth 100000 in
theorem pe_W_at : pw_fnd pp_W_at 0 = (.iload_n 1, (false, 1), (false, 0), (0, 0, 0), (0, 0, 0), []) ∧
  pw_fnd pp_W_at 1 = (.ifCond .lt 29, (false, 4), (false, 30), (0, 0, 0), (0, 0, 0), []) ∧
  pw_fnd pp_W_at 4 = (.iload_n 1, (false, 5), (false, 0), (0, 0, 0), (0, 0, 0), []) ∧
  pw_fnd pp_W_at 5 = (.aload_n 0, (false, 6), (false, 0), (0, 0, 0), (0, 0, 0), []) ∧
  pw_fnd pp_W_at 6 = (.getfield 15, (false, 9), (false, 0), (2, 1, 0), (0, 0, 135), []) ∧
  pw_fnd pp_W_at 9 = (.if_icmp .ge 21, (false, 12), (false, 30), (0, 0, 0), (0, 0, 0), []) ∧
  pw_fnd pp_W_at 12 = (.iload_n 1, (false, 13), (false, 0), (0, 0, 0), (0, 0, 0), []) ∧
  pw_fnd pp_W_at 13 = (.aload_n 0, (false, 14), (false, 0), (0, 0, 0), (0, 0, 0), []) ∧
  pw_fnd pp_W_at 14 = (.getfield 9, (false, 17), (false, 0), (2, 0, 1), (0, 0, 134), []) ∧
  pw_fnd pp_W_at 17 = (.arraylength, (false, 18), (false, 0), (0, 0, 0), (0, 0, 0), []) ∧
  pw_fnd pp_W_at 18 = (.if_icmp .ge 12, (false, 21), (false, 30), (0, 0, 0), (0, 0, 0), []) ∧
  pw_fnd pp_W_at 21 = (.aload_n 0, (false, 22), (false, 0), (0, 0, 0), (0, 0, 0), []) ∧
  pw_fnd pp_W_at 22 = (.getfield 9, (false, 25), (false, 0), (2, 0, 1), (0, 0, 134), []) ∧
  pw_fnd pp_W_at 25 = (.iload_n 1, (false, 26), (false, 0), (0, 0, 0), (0, 0, 0), []) ∧
  pw_fnd pp_W_at 26 = (.iaload, (false, 27), (false, 0), (0, 0, 0), (0, 0, 0), []) ∧
  pw_fnd pp_W_at 27 = (.goto 5, (false, 30), (false, 32), (0, 0, 0), (0, 0, 0), []) ∧
  pw_fnd pp_W_at 30 = (.bipush (-9), (false, 32), (false, 0), (0, 0, 0), (0, 0, 0), [((-9), (false, 0))]) ∧
  pw_fnd pp_W_at 32 = (.ireturn, (false, 33), (false, 0), (0, 0, 0), (0, 0, 0), []) :=
  ⟨rfl, rfl, rfl, rfl, rfl, rfl, rfl, rfl, rfl, rfl, rfl, rfl, rfl, rfl, rfl, rfl, rfl, rfl⟩
set_option maxRecDepth 100000 in
theorem pk_W_at : pp_W_at.all (fun q => pw_chk pw_jt pm_W_at q.1 q.2) = true := by decide +kernel
def pp_W_append : List (Nat × pw_E) := [(0, (.aload_n 0, (false, 1), (false, 0), (0, 0, 0), (0, 0, 0), [])),
  (1, (.getfield 15, (false, 4), (false, 0), (2, 1, 0), (0, 0, 135), [])),
  (4, (.ifCond .lt 15, (false, 7), (false, 19), (0, 0, 0), (0, 0, 0), [])),
  (7, (.aload_n 0, (false, 8), (false, 0), (0, 0, 0), (0, 0, 0), [])),
  (8, (.getfield 15, (false, 11), (false, 0), (2, 1, 0), (0, 0, 135), [])),
  (11, (.aload_n 0, (false, 12), (false, 0), (0, 0, 0), (0, 0, 0), [])),
  (12, (.getfield 9, (false, 15), (false, 0), (2, 0, 1), (0, 0, 134), [])),
  (15, (.arraylength, (false, 16), (false, 0), (0, 0, 0), (0, 0, 0), [])),
  (16, (.if_icmp .lt 6, (false, 19), (false, 22), (0, 0, 0), (0, 0, 0), [])),
  (19, (.bipush (-9), (false, 21), (false, 0), (0, 0, 0), (0, 0, 0), [((-9), (false, 0))])),
  (21, (.ireturn, (false, 22), (false, 0), (0, 0, 0), (0, 0, 0), [])),
  (22, (.aload_n 0, (false, 23), (false, 0), (0, 0, 0), (0, 0, 0), [])),
  (23, (.getfield 9, (false, 26), (false, 0), (2, 0, 1), (0, 0, 134), [])),
  (26, (.aload_n 0, (false, 27), (false, 0), (0, 0, 0), (0, 0, 0), [])),
  (27, (.getfield 15, (false, 30), (false, 0), (2, 1, 0), (0, 0, 135), [])),
  (30, (.iload_n 1, (false, 31), (false, 0), (0, 0, 0), (0, 0, 0), [])),
  (31, (.iastore, (false, 32), (false, 0), (0, 0, 0), (0, 0, 0), [])),
  (32, (.aload_n 0, (false, 33), (false, 0), (0, 0, 0), (0, 0, 0), [])),
  (33, (.dup, (false, 34), (false, 0), (0, 0, 0), (0, 0, 0), [])),
  (34, (.getfield 15, (false, 37), (false, 0), (2, 1, 0), (0, 0, 135), [])),
  (37, (.iconst 1, (false, 38), (false, 0), (0, 0, 0), (0, 0, 0), [(1, (false, 0))])),
  (38, (.iadd, (false, 39), (false, 0), (0, 0, 0), (0, 0, 0), [])),
  (39, (.putfield 15, (false, 42), (false, 0), (2, 1, 0), (0, 0, 135), [])),
  (42, (.aload_n 0, (false, 43), (false, 0), (0, 0, 0), (0, 0, 0), [])),
  (43, (.getfield 15, (false, 46), (false, 0), (2, 1, 0), (0, 0, 135), [])),
  (46, (.iconst 1, (false, 47), (false, 0), (0, 0, 0), (0, 0, 0), [(1, (false, 0))])),
  (47, (.isub, (false, 48), (false, 0), (0, 0, 0), (0, 0, 0), [])),
  (48, (.ireturn, (false, 49), (false, 0), (0, 0, 0), (0, 0, 0), []))]
set_option maxRecDepth 100000 in
theorem pe_W_append : pw_fnd pp_W_append 0 = (.aload_n 0, (false, 1), (false, 0), (0, 0, 0), (0, 0, 0), []) ∧
  pw_fnd pp_W_append 1 = (.getfield 15, (false, 4), (false, 0), (2, 1, 0), (0, 0, 135), []) ∧
  pw_fnd pp_W_append 4 = (.ifCond .lt 15, (false, 7), (false, 19), (0, 0, 0), (0, 0, 0), []) ∧
  pw_fnd pp_W_append 7 = (.aload_n 0, (false, 8), (false, 0), (0, 0, 0), (0, 0, 0), []) ∧
  pw_fnd pp_W_append 8 = (.getfield 15, (false, 11), (false, 0), (2, 1, 0), (0, 0, 135), []) ∧
  pw_fnd pp_W_append 11 = (.aload_n 0, (false, 12), (false, 0), (0, 0, 0), (0, 0, 0), []) ∧
  pw_fnd pp_W_append 12 = (.getfield 9, (false, 15), (false, 0), (2, 0, 1), (0, 0, 134), []) ∧
  pw_fnd pp_W_append 15 = (.arraylength, (false, 16), (false, 0), (0, 0, 0), (0, 0, 0), []) ∧
  pw_fnd pp_W_append 16 = (.if_icmp .lt 6, (false, 19), (false, 22), (0, 0, 0), (0, 0, 0), []) ∧
  pw_fnd pp_W_append 19 = (.bipush (-9), (false, 21), (false, 0), (0, 0, 0), (0, 0, 0), [((-9), (false, 0))]) ∧
  pw_fnd pp_W_append 21 = (.ireturn, (false, 22), (false, 0), (0, 0, 0), (0, 0, 0), []) ∧
  pw_fnd pp_W_append 22 = (.aload_n 0, (false, 23), (false, 0), (0, 0, 0), (0, 0, 0), []) ∧
  pw_fnd pp_W_append 23 = (.getfield 9, (false, 26), (false, 0), (2, 0, 1), (0, 0, 134), []) ∧
  pw_fnd pp_W_append 26 = (.aload_n 0, (false, 27), (false, 0), (0, 0, 0), (0, 0, 0), []) ∧
  pw_fnd pp_W_append 27 = (.getfield 15, (false, 30), (false, 0), (2, 1, 0), (0, 0, 135), []) ∧
  pw_fnd pp_W_append 30 = (.iload_n 1, (false, 31), (false, 0), (0, 0, 0), (0, 0, 0), []) ∧
  pw_fnd pp_W_append 31 = (.iastore, (false, 32), (false, 0), (0, 0, 0), (0, 0, 0), []) ∧
  pw_fnd pp_W_append 32 = (.aload_n 0, (false, 33), (false, 0), (0, 0, 0), (0, 0, 0), []) ∧
  pw_fnd pp_W_append 33 = (.dup, (false, 34), (false, 0), (0, 0, 0), (0, 0, 0), []) ∧
  pw_fnd pp_W_append 34 = (.getfield 15, (false, 37), (false, 0), (2, 1, 0), (0, 0, 135), []) ∧
  pw_fnd pp_W_append 37 = (.iconst 1, (false, 38), (false, 0), (0, 0, 0), (0, 0, 0), [(1, (false, 0))]) ∧
  pw_fnd pp_W_append 38 = (.iadd, (false, 39), (false, 0), (0, 0, 0), (0, 0, 0), []) ∧
  pw_fnd pp_W_append 39 = (.putfield 15, (false, 42), (false, 0), (2, 1, 0), (0, 0, 135), []) ∧
  pw_fnd pp_W_append 42 = (.aload_n 0, (false, 43), (false, 0), (0, 0, 0), (0, 0, 0), []) ∧
  pw_fnd pp_W_append 43 = (.getfield 15, (false, 46), (false, 0), (2, 1, 0), (0, 0, 135), []) ∧
  pw_fnd pp_W_append 46 = (.iconst 1, (false, 47), (false, 0), (0, 0, 0), (0, 0, 0), [(1, (false, 0))]) ∧
  pw_fnd pp_W_append 47 = (.isub, (false, 48), (false, 0), (0, 0, 0), (0, 0, 0), []) ∧
  pw_fnd pp_W_append 48 = (.ireturn, (false, 49), (false, 0), (0, 0, 0), (0, 0, 0), []) :=
  ⟨rfl, rfl, rfl, rfl, rfl, rfl, rfl, rfl, rfl, rfl, rfl, rfl, rfl, rfl, rfl, rfl, rfl, rfl, rfl, rfl, rfl, rfl, rfl, rfl, rfl, rfl, rfl, rfl⟩
set_option maxRecDepth 100000 in
theorem pk_W_append : pp_W_append.all (fun q => pw_chk pw_jt pm_W_append q.1 q.2) = true := by decide +kernel
def pp_W_removeAt : List (Nat × pw_E) := [(0, (.iload_n 1, (false, 1), (false, 0), (0, 0, 0), (0, 0, 0), [])),
  (1, (.ifCond .lt 11, (false, 4), (false, 12), (0, 0, 0), (0, 0, 0), [])),
  (4, (.iload_n 1, (false, 5), (false, 0), (0, 0, 0), (0, 0, 0), [])),
  (5, (.aload_n 0, (false, 6), (false, 0), (0, 0, 0), (0, 0, 0), [])),
  (6, (.getfield 15, (false, 9), (false, 0), (2, 1, 0), (0, 0, 135), [])),
  (9, (.if_icmp .lt 4, (false, 12), (false, 13), (0, 0, 0), (0, 0, 0), [])),
  (12, (.return_, (false, 13), (false, 0), (0, 0, 0), (0, 0, 0), [])),
  (13, (.iload_n 1, (false, 14), (false, 0), (0, 0, 0), (0, 0, 0), [])),
  (14, (.iconst 1, (false, 15), (false, 0), (0, 0, 0), (0, 0, 0), [(1, (false, 0))])),
  (15, (.iadd, (false, 16), (false, 0), (0, 0, 0), (0, 0, 0), [])),
  (16, (.istore_n 2, (true, 17), (false, 0), (0, 0, 0), (0, 0, 0), [])),
  (17, (.iload_n 2, (false, 18), (false, 0), (0, 0, 0), (0, 0, 0), [])),
  (18, (.aload_n 0, (false, 19), (false, 0), (0, 0, 0), (0, 0, 0), [])),
  (19, (.getfield 15, (false, 22), (false, 0), (2, 1, 0), (0, 0, 135), [])),
  (22, (.if_icmp .ge 32, (false, 25), (false, 54), (0, 0, 0), (0, 0, 0), [])),
  (25, (.iload_n 2, (false, 26), (false, 0), (0, 0, 0), (0, 0, 0), [])),
  (26, (.aload_n 0, (false, 27), (false, 0), (0, 0, 0), (0, 0, 0), [])),
  (27, (.getfield 9, (false, 30), (false, 0), (2, 0, 1), (0, 0, 134), [])),
  (30, (.arraylength, (false, 31), (false, 0), (0, 0, 0), (0, 0, 0), [])),
  (31, (.if_icmp .ge 23, (false, 34), (false, 54), (0, 0, 0), (0, 0, 0), [])),
  (34, (.aload_n 0, (false, 35), (false, 0), (0, 0, 0), (0, 0, 0), [])),
  (35, (.getfield 9, (false, 38), (false, 0), (2, 0, 1), (0, 0, 134), [])),
  (38, (.iload_n 2, (false, 39), (false, 0), (0, 0, 0), (0, 0, 0), [])),
  (39, (.iconst 1, (false, 40), (false, 0), (0, 0, 0), (0, 0, 0), [(1, (false, 0))])),
  (40, (.isub, (false, 41), (false, 0), (0, 0, 0), (0, 0, 0), [])),
  (41, (.aload_n 0, (false, 42), (false, 0), (0, 0, 0), (0, 0, 0), [])),
  (42, (.getfield 9, (false, 45), (false, 0), (2, 0, 1), (0, 0, 134), [])),
  (45, (.iload_n 2, (false, 46), (false, 0), (0, 0, 0), (0, 0, 0), [])),
  (46, (.iaload, (false, 47), (false, 0), (0, 0, 0), (0, 0, 0), [])),
  (47, (.iastore, (false, 48), (false, 0), (0, 0, 0), (0, 0, 0), [])),
  (48, (.iinc 2 1, (false, 51), (false, 0), (0, 0, 0), (0, 0, 0), [(1, (false, 0))])),
  (51, (.goto (-34), (false, 54), (true, 17), (0, 0, 0), (0, 0, 0), [])),
  (54, (.aload_n 0, (false, 55), (false, 0), (0, 0, 0), (0, 0, 0), [])),
  (55, (.dup, (false, 56), (false, 0), (0, 0, 0), (0, 0, 0), [])),
  (56, (.getfield 15, (false, 59), (false, 0), (2, 1, 0), (0, 0, 135), [])),
  (59, (.iconst 1, (false, 60), (false, 0), (0, 0, 0), (0, 0, 0), [(1, (false, 0))])),
  (60, (.isub, (false, 61), (false, 0), (0, 0, 0), (0, 0, 0), [])),
  (61, (.putfield 15, (false, 64), (false, 0), (2, 1, 0), (0, 0, 135), [])),
  (64, (.return_, (false, 65), (false, 0), (0, 0, 0), (0, 0, 0), []))]
set_option maxRecDepth 100000 in
theorem pe_W_removeAt : pw_fnd pp_W_removeAt 0 = (.iload_n 1, (false, 1), (false, 0), (0, 0, 0), (0, 0, 0), []) ∧
  pw_fnd pp_W_removeAt 1 = (.ifCond .lt 11, (false, 4), (false, 12), (0, 0, 0), (0, 0, 0), []) ∧
  pw_fnd pp_W_removeAt 4 = (.iload_n 1, (false, 5), (false, 0), (0, 0, 0), (0, 0, 0), []) ∧
  pw_fnd pp_W_removeAt 5 = (.aload_n 0, (false, 6), (false, 0), (0, 0, 0), (0, 0, 0), []) ∧
  pw_fnd pp_W_removeAt 6 = (.getfield 15, (false, 9), (false, 0), (2, 1, 0), (0, 0, 135), []) ∧
  pw_fnd pp_W_removeAt 9 = (.if_icmp .lt 4, (false, 12), (false, 13), (0, 0, 0), (0, 0, 0), []) ∧
  pw_fnd pp_W_removeAt 12 = (.return_, (false, 13), (false, 0), (0, 0, 0), (0, 0, 0), []) ∧
  pw_fnd pp_W_removeAt 13 = (.iload_n 1, (false, 14), (false, 0), (0, 0, 0), (0, 0, 0), []) ∧
  pw_fnd pp_W_removeAt 14 = (.iconst 1, (false, 15), (false, 0), (0, 0, 0), (0, 0, 0), [(1, (false, 0))]) ∧
  pw_fnd pp_W_removeAt 15 = (.iadd, (false, 16), (false, 0), (0, 0, 0), (0, 0, 0), []) ∧
  pw_fnd pp_W_removeAt 16 = (.istore_n 2, (true, 17), (false, 0), (0, 0, 0), (0, 0, 0), []) ∧
  pw_fnd pp_W_removeAt 17 = (.iload_n 2, (false, 18), (false, 0), (0, 0, 0), (0, 0, 0), []) ∧
  pw_fnd pp_W_removeAt 18 = (.aload_n 0, (false, 19), (false, 0), (0, 0, 0), (0, 0, 0), []) ∧
  pw_fnd pp_W_removeAt 19 = (.getfield 15, (false, 22), (false, 0), (2, 1, 0), (0, 0, 135), []) ∧
  pw_fnd pp_W_removeAt 22 = (.if_icmp .ge 32, (false, 25), (false, 54), (0, 0, 0), (0, 0, 0), []) ∧
  pw_fnd pp_W_removeAt 25 = (.iload_n 2, (false, 26), (false, 0), (0, 0, 0), (0, 0, 0), []) ∧
  pw_fnd pp_W_removeAt 26 = (.aload_n 0, (false, 27), (false, 0), (0, 0, 0), (0, 0, 0), []) ∧
  pw_fnd pp_W_removeAt 27 = (.getfield 9, (false, 30), (false, 0), (2, 0, 1), (0, 0, 134), []) ∧
  pw_fnd pp_W_removeAt 30 = (.arraylength, (false, 31), (false, 0), (0, 0, 0), (0, 0, 0), []) ∧
  pw_fnd pp_W_removeAt 31 = (.if_icmp .ge 23, (false, 34), (false, 54), (0, 0, 0), (0, 0, 0), []) ∧
  pw_fnd pp_W_removeAt 34 = (.aload_n 0, (false, 35), (false, 0), (0, 0, 0), (0, 0, 0), []) ∧
  pw_fnd pp_W_removeAt 35 = (.getfield 9, (false, 38), (false, 0), (2, 0, 1), (0, 0, 134), []) ∧
  pw_fnd pp_W_removeAt 38 = (.iload_n 2, (false, 39), (false, 0), (0, 0, 0), (0, 0, 0), []) ∧
  pw_fnd pp_W_removeAt 39 = (.iconst 1, (false, 40), (false, 0), (0, 0, 0), (0, 0, 0), [(1, (false, 0))]) ∧
  pw_fnd pp_W_removeAt 40 = (.isub, (false, 41), (false, 0), (0, 0, 0), (0, 0, 0), []) ∧
  pw_fnd pp_W_removeAt 41 = (.aload_n 0, (false, 42), (false, 0), (0, 0, 0), (0, 0, 0), []) ∧
  pw_fnd pp_W_removeAt 42 = (.getfield 9, (false, 45), (false, 0), (2, 0, 1), (0, 0, 134), []) ∧
  pw_fnd pp_W_removeAt 45 = (.iload_n 2, (false, 46), (false, 0), (0, 0, 0), (0, 0, 0), []) ∧
  pw_fnd pp_W_removeAt 46 = (.iaload, (false, 47), (false, 0), (0, 0, 0), (0, 0, 0), []) ∧
  pw_fnd pp_W_removeAt 47 = (.iastore, (false, 48), (false, 0), (0, 0, 0), (0, 0, 0), []) ∧
  pw_fnd pp_W_removeAt 48 = (.iinc 2 1, (false, 51), (false, 0), (0, 0, 0), (0, 0, 0), [(1, (false, 0))]) ∧
  pw_fnd pp_W_removeAt 51 = (.goto (-34), (false, 54), (true, 17), (0, 0, 0), (0, 0, 0), []) ∧
  pw_fnd pp_W_removeAt 54 = (.aload_n 0, (false, 55), (false, 0), (0, 0, 0), (0, 0, 0), []) ∧
  pw_fnd pp_W_removeAt 55 = (.dup, (false, 56), (false, 0), (0, 0, 0), (0, 0, 0), []) ∧
  pw_fnd pp_W_removeAt 56 = (.getfield 15, (false, 59), (false, 0), (2, 1, 0), (0, 0, 135), []) ∧
  pw_fnd pp_W_removeAt 59 = (.iconst 1, (false, 60), (false, 0), (0, 0, 0), (0, 0, 0), [(1, (false, 0))]) ∧
  pw_fnd pp_W_removeAt 60 = (.isub, (false, 61), (false, 0), (0, 0, 0), (0, 0, 0), []) ∧
  pw_fnd pp_W_removeAt 61 = (.putfield 15, (false, 64), (false, 0), (2, 1, 0), (0, 0, 135), []) ∧
  pw_fnd pp_W_removeAt 64 = (.return_, (false, 65), (false, 0), (0, 0, 0), (0, 0, 0), []) :=
  ⟨rfl, rfl, rfl, rfl, rfl, rfl, rfl, rfl, rfl, rfl, rfl, rfl, rfl, rfl, rfl, rfl, rfl, rfl, rfl, rfl, rfl, rfl, rfl, rfl, rfl, rfl, rfl, rfl, rfl, rfl, rfl, rfl, rfl, rfl, rfl, rfl, rfl, rfl, rfl⟩
set_option maxRecDepth 100000 in
theorem pk_W_removeAt : pp_W_removeAt.all (fun q => pw_chk pw_jt pm_W_removeAt q.1 q.2) = true := by decide +kernel
def pp_G_init : List (Nat × pw_E) := [(0, (.aload_n 0, (false, 1), (false, 0), (0, 0, 0), (0, 0, 0), [])),
  (1, (.invokespecial 3, (false, 4), (false, 0), (1001, 0, 0), (80, 81, 208), [])),
  (4, (.aload_n 0, (false, 5), (false, 0), (0, 0, 0), (0, 0, 0), [])),
  (5, (.iload_n 1, (false, 6), (false, 0), (0, 0, 0), (0, 0, 0), [])),
  (6, (.putfield 9, (false, 9), (false, 0), (0, 0, 0), (0, 0, 209), [])),
  (9, (.aload_n 0, (false, 10), (false, 0), (0, 0, 0), (0, 0, 0), [])),
  (10, (.iload_n 2, (false, 11), (false, 0), (0, 0, 0), (0, 0, 0), [])),
  (11, (.putfield 15, (false, 14), (false, 0), (0, 1, 0), (0, 0, 211), [])),
  (14, (.aload_n 0, (false, 15), (false, 0), (0, 0, 0), (0, 0, 0), [])),
  (15, (.iconst 2, (false, 16), (false, 0), (0, 0, 0), (0, 0, 0), [(2, (false, 0))])),
  (16, (.newarray .int, (false, 18), (false, 0), (1, 0, 0), (0, 0, 111), [])),
  (18, (.putfield 18, (false, 21), (false, 0), (0, 2, 1), (0, 0, 213), [])),
  (21, (.aload_n 0, (false, 22), (false, 0), (0, 0, 0), (0, 0, 0), [])),
  (22, (.iconst 2, (false, 23), (false, 0), (0, 0, 0), (0, 0, 0), [(2, (false, 0))])),
  (23, (.newarray .int, (false, 25), (false, 0), (1, 0, 0), (0, 0, 111), [])),
  (25, (.putfield 22, (false, 28), (false, 0), (0, 3, 1), (0, 0, 214), [])),
  (28, (.aload_n 0, (false, 29), (false, 0), (0, 0, 0), (0, 0, 0), [])),
  (29, (.iconst 0, (false, 30), (false, 0), (0, 0, 0), (0, 0, 0), [(0, (false, 0))])),
  (30, (.putfield 25, (false, 33), (false, 0), (0, 5, 0), (0, 0, 217), [])),
  (33, (.aload_n 0, (false, 34), (false, 0), (0, 0, 0), (0, 0, 0), [])),
  (34, (.bipush (-9), (false, 36), (false, 0), (0, 0, 0), (0, 0, 0), [((-9), (false, 0))])),
  (36, (.putfield 28, (false, 39), (false, 0), (0, 6, 0), (0, 0, 219), [])),
  (39, (.return_, (false, 40), (false, 0), (0, 0, 0), (0, 0, 0), []))]
set_option maxRecDepth 100000 in
theorem pe_G_init : pw_fnd pp_G_init 0 = (.aload_n 0, (false, 1), (false, 0), (0, 0, 0), (0, 0, 0), []) ∧
  pw_fnd pp_G_init 1 = (.invokespecial 3, (false, 4), (false, 0), (1001, 0, 0), (80, 81, 208), []) ∧
  pw_fnd pp_G_init 4 = (.aload_n 0, (false, 5), (false, 0), (0, 0, 0), (0, 0, 0), []) ∧
  pw_fnd pp_G_init 5 = (.iload_n 1, (false, 6), (false, 0), (0, 0, 0), (0, 0, 0), []) ∧
  pw_fnd pp_G_init 6 = (.putfield 9, (false, 9), (false, 0), (0, 0, 0), (0, 0, 209), []) ∧
  pw_fnd pp_G_init 9 = (.aload_n 0, (false, 10), (false, 0), (0, 0, 0), (0, 0, 0), []) ∧
  pw_fnd pp_G_init 10 = (.iload_n 2, (false, 11), (false, 0), (0, 0, 0), (0, 0, 0), []) ∧
  pw_fnd pp_G_init 11 = (.putfield 15, (false, 14), (false, 0), (0, 1, 0), (0, 0, 211), []) ∧
  pw_fnd pp_G_init 14 = (.aload_n 0, (false, 15), (false, 0), (0, 0, 0), (0, 0, 0), []) ∧
  pw_fnd pp_G_init 15 = (.iconst 2, (false, 16), (false, 0), (0, 0, 0), (0, 0, 0), [(2, (false, 0))]) ∧
  pw_fnd pp_G_init 16 = (.newarray .int, (false, 18), (false, 0), (1, 0, 0), (0, 0, 111), []) ∧
  pw_fnd pp_G_init 18 = (.putfield 18, (false, 21), (false, 0), (0, 2, 1), (0, 0, 213), []) ∧
  pw_fnd pp_G_init 21 = (.aload_n 0, (false, 22), (false, 0), (0, 0, 0), (0, 0, 0), []) ∧
  pw_fnd pp_G_init 22 = (.iconst 2, (false, 23), (false, 0), (0, 0, 0), (0, 0, 0), [(2, (false, 0))]) ∧
  pw_fnd pp_G_init 23 = (.newarray .int, (false, 25), (false, 0), (1, 0, 0), (0, 0, 111), []) ∧
  pw_fnd pp_G_init 25 = (.putfield 22, (false, 28), (false, 0), (0, 3, 1), (0, 0, 214), []) ∧
  pw_fnd pp_G_init 28 = (.aload_n 0, (false, 29), (false, 0), (0, 0, 0), (0, 0, 0), []) ∧
  pw_fnd pp_G_init 29 = (.iconst 0, (false, 30), (false, 0), (0, 0, 0), (0, 0, 0), [(0, (false, 0))]) ∧
  pw_fnd pp_G_init 30 = (.putfield 25, (false, 33), (false, 0), (0, 5, 0), (0, 0, 217), []) ∧
  pw_fnd pp_G_init 33 = (.aload_n 0, (false, 34), (false, 0), (0, 0, 0), (0, 0, 0), []) ∧
  pw_fnd pp_G_init 34 = (.bipush (-9), (false, 36), (false, 0), (0, 0, 0), (0, 0, 0), [((-9), (false, 0))]) ∧
  pw_fnd pp_G_init 36 = (.putfield 28, (false, 39), (false, 0), (0, 6, 0), (0, 0, 219), []) ∧
  pw_fnd pp_G_init 39 = (.return_, (false, 40), (false, 0), (0, 0, 0), (0, 0, 0), []) :=
  ⟨rfl, rfl, rfl, rfl, rfl, rfl, rfl, rfl, rfl, rfl, rfl, rfl, rfl, rfl, rfl, rfl, rfl, rfl, rfl, rfl, rfl, rfl, rfl⟩
set_option maxRecDepth 100000 in
theorem pk_G_init : pp_G_init.all (fun q => pw_chk pw_jt pm_G_init q.1 q.2) = true := by decide +kernel
def pp_G_rideOfTime : List (Nat × pw_E) := [(0, (.aload_n 0, (false, 1), (false, 0), (0, 0, 0), (0, 0, 0), [])),
  (1, (.iload_n 1, (false, 2), (false, 0), (0, 0, 0), (0, 0, 0), [])),
  (2, (.invokevirtual 34, (false, 5), (false, 0), (1, 2, 1), (0, 0, 307), [])),
  (5, (.ifCond .eq 21, (false, 8), (false, 26), (0, 0, 0), (0, 0, 0), [])),
  (8, (.iload_n 1, (false, 9), (false, 0), (0, 0, 0), (0, 0, 0), [])),
  (9, (.aload_n 0, (false, 10), (false, 0), (0, 0, 0), (0, 0, 0), [])),
  (10, (.getfield 18, (false, 13), (false, 0), (0, 2, 1), (0, 0, 213), [])),
  (13, (.arraylength, (false, 14), (false, 0), (0, 0, 0), (0, 0, 0), [])),
  (14, (.if_icmp .ge 12, (false, 17), (false, 26), (0, 0, 0), (0, 0, 0), [])),
  (17, (.aload_n 0, (false, 18), (false, 0), (0, 0, 0), (0, 0, 0), [])),
  (18, (.getfield 18, (false, 21), (false, 0), (0, 2, 1), (0, 0, 213), [])),
  (21, (.iload_n 1, (false, 22), (false, 0), (0, 0, 0), (0, 0, 0), [])),
  (22, (.iaload, (false, 23), (false, 0), (0, 0, 0), (0, 0, 0), [])),
  (23, (.goto 5, (false, 26), (false, 28), (0, 0, 0), (0, 0, 0), [])),
  (26, (.bipush (-9), (false, 28), (false, 0), (0, 0, 0), (0, 0, 0), [((-9), (false, 0))])),
  (28, (.ireturn, (false, 29), (false, 0), (0, 0, 0), (0, 0, 0), []))]
set_option maxRecDepth 100000 in
theorem pe_G_rideOfTime : pw_fnd pp_G_rideOfTime 0 = (.aload_n 0, (false, 1), (false, 0), (0, 0, 0), (0, 0, 0), []) ∧
  pw_fnd pp_G_rideOfTime 1 = (.iload_n 1, (false, 2), (false, 0), (0, 0, 0), (0, 0, 0), []) ∧
  pw_fnd pp_G_rideOfTime 2 = (.invokevirtual 34, (false, 5), (false, 0), (1, 2, 1), (0, 0, 307), []) ∧
  pw_fnd pp_G_rideOfTime 5 = (.ifCond .eq 21, (false, 8), (false, 26), (0, 0, 0), (0, 0, 0), []) ∧
  pw_fnd pp_G_rideOfTime 8 = (.iload_n 1, (false, 9), (false, 0), (0, 0, 0), (0, 0, 0), []) ∧
  pw_fnd pp_G_rideOfTime 9 = (.aload_n 0, (false, 10), (false, 0), (0, 0, 0), (0, 0, 0), []) ∧
  pw_fnd pp_G_rideOfTime 10 = (.getfield 18, (false, 13), (false, 0), (0, 2, 1), (0, 0, 213), []) ∧
  pw_fnd pp_G_rideOfTime 13 = (.arraylength, (false, 14), (false, 0), (0, 0, 0), (0, 0, 0), []) ∧
  pw_fnd pp_G_rideOfTime 14 = (.if_icmp .ge 12, (false, 17), (false, 26), (0, 0, 0), (0, 0, 0), []) ∧
  pw_fnd pp_G_rideOfTime 17 = (.aload_n 0, (false, 18), (false, 0), (0, 0, 0), (0, 0, 0), []) ∧
  pw_fnd pp_G_rideOfTime 18 = (.getfield 18, (false, 21), (false, 0), (0, 2, 1), (0, 0, 213), []) ∧
  pw_fnd pp_G_rideOfTime 21 = (.iload_n 1, (false, 22), (false, 0), (0, 0, 0), (0, 0, 0), []) ∧
  pw_fnd pp_G_rideOfTime 22 = (.iaload, (false, 23), (false, 0), (0, 0, 0), (0, 0, 0), []) ∧
  pw_fnd pp_G_rideOfTime 23 = (.goto 5, (false, 26), (false, 28), (0, 0, 0), (0, 0, 0), []) ∧
  pw_fnd pp_G_rideOfTime 26 = (.bipush (-9), (false, 28), (false, 0), (0, 0, 0), (0, 0, 0), [((-9), (false, 0))]) ∧
  pw_fnd pp_G_rideOfTime 28 = (.ireturn, (false, 29), (false, 0), (0, 0, 0), (0, 0, 0), []) :=
  ⟨rfl, rfl, rfl, rfl, rfl, rfl, rfl, rfl, rfl, rfl, rfl, rfl, rfl, rfl, rfl, rfl⟩
set_option maxRecDepth 100000 in
theorem pk_G_rideOfTime : pp_G_rideOfTime.all (fun q => pw_chk pw_jt pm_G_rideOfTime q.1 q.2) = true := by decide +kernel
def pp_G_windowOfTime : List (Nat × pw_E) := [(0, (.aload_n 0, (false, 1), (false, 0), (0, 0, 0), (0, 0, 0), [])),
  (1, (.iload_n 1, (false, 2), (false, 0), (0, 0, 0), (0, 0, 0), [])),
  (2, (.invokevirtual 34, (false, 5), (false, 0), (1, 2, 1), (0, 0, 307), [])),
  (5, (.ifCond .eq 21, (false, 8), (false, 26), (0, 0, 0), (0, 0, 0), [])),
  (8, (.iload_n 1, (false, 9), (false, 0), (0, 0, 0), (0, 0, 0), [])),
  (9, (.aload_n 0, (false, 10), (false, 0), (0, 0, 0), (0, 0, 0), [])),
  (10, (.getfield 22, (false, 13), (false, 0), (0, 3, 1), (0, 0, 214), [])),
  (13, (.arraylength, (false, 14), (false, 0), (0, 0, 0), (0, 0, 0), [])),
  (14, (.if_icmp .ge 12, (false, 17), (false, 26), (0, 0, 0), (0, 0, 0), [])),
  (17, (.aload_n 0, (false, 18), (false, 0), (0, 0, 0), (0, 0, 0), [])),
  (18, (.getfield 22, (false, 21), (false, 0), (0, 3, 1), (0, 0, 214), [])),
  (21, (.iload_n 1, (false, 22), (false, 0), (0, 0, 0), (0, 0, 0), [])),
  (22, (.iaload, (false, 23), (false, 0), (0, 0, 0), (0, 0, 0), [])),
  (23, (.goto 5, (false, 26), (false, 28), (0, 0, 0), (0, 0, 0), [])),
  (26, (.bipush (-9), (false, 28), (false, 0), (0, 0, 0), (0, 0, 0), [((-9), (false, 0))])),
  (28, (.ireturn, (false, 29), (false, 0), (0, 0, 0), (0, 0, 0), []))]
set_option maxRecDepth 100000 in
theorem pe_G_windowOfTime : pw_fnd pp_G_windowOfTime 0 = (.aload_n 0, (false, 1), (false, 0), (0, 0, 0), (0, 0, 0), []) ∧
  pw_fnd pp_G_windowOfTime 1 = (.iload_n 1, (false, 2), (false, 0), (0, 0, 0), (0, 0, 0), []) ∧
  pw_fnd pp_G_windowOfTime 2 = (.invokevirtual 34, (false, 5), (false, 0), (1, 2, 1), (0, 0, 307), []) ∧
  pw_fnd pp_G_windowOfTime 5 = (.ifCond .eq 21, (false, 8), (false, 26), (0, 0, 0), (0, 0, 0), []) ∧
  pw_fnd pp_G_windowOfTime 8 = (.iload_n 1, (false, 9), (false, 0), (0, 0, 0), (0, 0, 0), []) ∧
  pw_fnd pp_G_windowOfTime 9 = (.aload_n 0, (false, 10), (false, 0), (0, 0, 0), (0, 0, 0), []) ∧
  pw_fnd pp_G_windowOfTime 10 = (.getfield 22, (false, 13), (false, 0), (0, 3, 1), (0, 0, 214), []) ∧
  pw_fnd pp_G_windowOfTime 13 = (.arraylength, (false, 14), (false, 0), (0, 0, 0), (0, 0, 0), []) ∧
  pw_fnd pp_G_windowOfTime 14 = (.if_icmp .ge 12, (false, 17), (false, 26), (0, 0, 0), (0, 0, 0), []) ∧
  pw_fnd pp_G_windowOfTime 17 = (.aload_n 0, (false, 18), (false, 0), (0, 0, 0), (0, 0, 0), []) ∧
  pw_fnd pp_G_windowOfTime 18 = (.getfield 22, (false, 21), (false, 0), (0, 3, 1), (0, 0, 214), []) ∧
  pw_fnd pp_G_windowOfTime 21 = (.iload_n 1, (false, 22), (false, 0), (0, 0, 0), (0, 0, 0), []) ∧
  pw_fnd pp_G_windowOfTime 22 = (.iaload, (false, 23), (false, 0), (0, 0, 0), (0, 0, 0), []) ∧
  pw_fnd pp_G_windowOfTime 23 = (.goto 5, (false, 26), (false, 28), (0, 0, 0), (0, 0, 0), []) ∧
  pw_fnd pp_G_windowOfTime 26 = (.bipush (-9), (false, 28), (false, 0), (0, 0, 0), (0, 0, 0), [((-9), (false, 0))]) ∧
  pw_fnd pp_G_windowOfTime 28 = (.ireturn, (false, 29), (false, 0), (0, 0, 0), (0, 0, 0), []) :=
  ⟨rfl, rfl, rfl, rfl, rfl, rfl, rfl, rfl, rfl, rfl, rfl, rfl, rfl, rfl, rfl, rfl⟩
set_option maxRecDepth 100000 in
theorem pk_G_windowOfTime : pp_G_windowOfTime.all (fun q => pw_chk pw_jt pm_G_windowOfTime q.1 q.2) = true := by decide +kernel
def pp_G_moveTimeTo : List (Nat × pw_E) := [(0, (.aload_n 0, (false, 1), (false, 0), (0, 0, 0), (0, 0, 0), [])),
  (1, (.iload_n 1, (false, 2), (false, 0), (0, 0, 0), (0, 0, 0), [])),
  (2, (.invokevirtual 34, (false, 5), (false, 0), (1, 2, 1), (0, 0, 307), [])),
  (5, (.ifCond .eq 19, (false, 8), (false, 24), (0, 0, 0), (0, 0, 0), [])),
  (8, (.iload_n 1, (false, 9), (false, 0), (0, 0, 0), (0, 0, 0), [])),
  (9, (.aload_n 0, (false, 10), (false, 0), (0, 0, 0), (0, 0, 0), [])),
  (10, (.getfield 22, (false, 13), (false, 0), (0, 3, 1), (0, 0, 214), [])),
  (13, (.arraylength, (false, 14), (false, 0), (0, 0, 0), (0, 0, 0), [])),
  (14, (.if_icmp .ge 10, (false, 17), (false, 24), (0, 0, 0), (0, 0, 0), [])),
  (17, (.aload_n 0, (false, 18), (false, 0), (0, 0, 0), (0, 0, 0), [])),
  (18, (.getfield 22, (false, 21), (false, 0), (0, 3, 1), (0, 0, 214), [])),
  (21, (.iload_n 1, (false, 22), (false, 0), (0, 0, 0), (0, 0, 0), [])),
  (22, (.iload_n 2, (false, 23), (false, 0), (0, 0, 0), (0, 0, 0), [])),
  (23, (.iastore, (false, 24), (false, 0), (0, 0, 0), (0, 0, 0), [])),
  (24, (.return_, (false, 25), (false, 0), (0, 0, 0), (0, 0, 0), []))]
set_option maxRecDepth 100000 in
theorem pe_G_moveTimeTo : pw_fnd pp_G_moveTimeTo 0 = (.aload_n 0, (false, 1), (false, 0), (0, 0, 0), (0, 0, 0), []) ∧
  pw_fnd pp_G_moveTimeTo 1 = (.iload_n 1, (false, 2), (false, 0), (0, 0, 0), (0, 0, 0), []) ∧
  pw_fnd pp_G_moveTimeTo 2 = (.invokevirtual 34, (false, 5), (false, 0), (1, 2, 1), (0, 0, 307), []) ∧
  pw_fnd pp_G_moveTimeTo 5 = (.ifCond .eq 19, (false, 8), (false, 24), (0, 0, 0), (0, 0, 0), []) ∧
  pw_fnd pp_G_moveTimeTo 8 = (.iload_n 1, (false, 9), (false, 0), (0, 0, 0), (0, 0, 0), []) ∧
  pw_fnd pp_G_moveTimeTo 9 = (.aload_n 0, (false, 10), (false, 0), (0, 0, 0), (0, 0, 0), []) ∧
  pw_fnd pp_G_moveTimeTo 10 = (.getfield 22, (false, 13), (false, 0), (0, 3, 1), (0, 0, 214), []) ∧
  pw_fnd pp_G_moveTimeTo 13 = (.arraylength, (false, 14), (false, 0), (0, 0, 0), (0, 0, 0), []) ∧
  pw_fnd pp_G_moveTimeTo 14 = (.if_icmp .ge 10, (false, 17), (false, 24), (0, 0, 0), (0, 0, 0), []) ∧
  pw_fnd pp_G_moveTimeTo 17 = (.aload_n 0, (false, 18), (false, 0), (0, 0, 0), (0, 0, 0), []) ∧
  pw_fnd pp_G_moveTimeTo 18 = (.getfield 22, (false, 21), (false, 0), (0, 3, 1), (0, 0, 214), []) ∧
  pw_fnd pp_G_moveTimeTo 21 = (.iload_n 1, (false, 22), (false, 0), (0, 0, 0), (0, 0, 0), []) ∧
  pw_fnd pp_G_moveTimeTo 22 = (.iload_n 2, (false, 23), (false, 0), (0, 0, 0), (0, 0, 0), []) ∧
  pw_fnd pp_G_moveTimeTo 23 = (.iastore, (false, 24), (false, 0), (0, 0, 0), (0, 0, 0), []) ∧
  pw_fnd pp_G_moveTimeTo 24 = (.return_, (false, 25), (false, 0), (0, 0, 0), (0, 0, 0), []) :=
  ⟨rfl, rfl, rfl, rfl, rfl, rfl, rfl, rfl, rfl, rfl, rfl, rfl, rfl, rfl, rfl⟩
set_option maxRecDepth 100000 in
theorem pk_G_moveTimeTo : pp_G_moveTimeTo.all (fun q => pw_chk pw_jt pm_G_moveTimeTo q.1 q.2) = true := by decide +kernel
def pp_G_dropTime : List (Nat × pw_E) := [(0, (.aload_n 0, (false, 1), (false, 0), (0, 0, 0), (0, 0, 0), [])),
  (1, (.iload_n 1, (false, 2), (false, 0), (0, 0, 0), (0, 0, 0), [])),
  (2, (.invokevirtual 34, (false, 5), (false, 0), (1, 2, 1), (0, 0, 307), [])),
  (5, (.ifCond .ne 4, (false, 8), (false, 9), (0, 0, 0), (0, 0, 0), [])),
  (8, (.return_, (false, 9), (false, 0), (0, 0, 0), (0, 0, 0), [])),
  (9, (.iload_n 1, (false, 10), (false, 0), (0, 0, 0), (0, 0, 0), [])),
  (10, (.iconst 1, (false, 11), (false, 0), (0, 0, 0), (0, 0, 0), [(1, (false, 0))])),
  (11, (.iadd, (false, 12), (false, 0), (0, 0, 0), (0, 0, 0), [])),
  (12, (.istore_n 2, (true, 13), (false, 0), (0, 0, 0), (0, 0, 0), [])),
  (13, (.iload_n 2, (false, 14), (false, 0), (0, 0, 0), (0, 0, 0), [])),
  (14, (.aload_n 0, (false, 15), (false, 0), (0, 0, 0), (0, 0, 0), [])),
  (15, (.getfield 31, (false, 18), (false, 0), (0, 4, 0), (0, 0, 215), [])),
  (18, (.if_icmp .ge 55, (false, 21), (false, 73), (0, 0, 0), (0, 0, 0), [])),
  (21, (.iload_n 2, (false, 22), (false, 0), (0, 0, 0), (0, 0, 0), [])),
  (22, (.aload_n 0, (false, 23), (false, 0), (0, 0, 0), (0, 0, 0), [])),
  (23, (.getfield 18, (false, 26), (false, 0), (0, 2, 1), (0, 0, 213), [])),
  (26, (.arraylength, (false, 27), (false, 0), (0, 0, 0), (0, 0, 0), [])),
  (27, (.if_icmp .ge 46, (false, 30), (false, 73), (0, 0, 0), (0, 0, 0), [])),
  (30, (.iload_n 2, (false, 31), (false, 0), (0, 0, 0), (0, 0, 0), [])),
  (31, (.aload_n 0, (false, 32), (false, 0), (0, 0, 0), (0, 0, 0), [])),
  (32, (.getfield 22, (false, 35), (false, 0), (0, 3, 1), (0, 0, 214), [])),
  (35, (.arraylength, (false, 36), (false, 0), (0, 0, 0), (0, 0, 0), [])),
  (36, (.if_icmp .ge 37, (false, 39), (false, 73), (0, 0, 0), (0, 0, 0), [])),
  (39, (.aload_n 0, (false, 40), (false, 0), (0, 0, 0), (0, 0, 0), [])),
  (40, (.getfield 18, (false, 43), (false, 0), (0, 2, 1), (0, 0, 213), [])),
  (43, (.iload_n 2, (false, 44), (false, 0), (0, 0, 0), (0, 0, 0), [])),
  (44, (.iconst 1, (false, 45), (false, 0), (0, 0, 0), (0, 0, 0), [(1, (false, 0))])),
  (45, (.isub, (false, 46), (false, 0), (0, 0, 0), (0, 0, 0), [])),
  (46, (.aload_n 0, (false, 47), (false, 0), (0, 0, 0), (0, 0, 0), [])),
  (47, (.getfield 18, (false, 50), (false, 0), (0, 2, 1), (0, 0, 213), [])),
  (50, (.iload_n 2, (false, 51), (false, 0), (0, 0, 0), (0, 0, 0), [])),
  (51, (.iaload, (false, 52), (false, 0), (0, 0, 0), (0, 0, 0), [])),
  (52, (.iastore, (false, 53), (false, 0), (0, 0, 0), (0, 0, 0), [])),
  (53, (.aload_n 0, (false, 54), (false, 0), (0, 0, 0), (0, 0, 0), [])),
  (54, (.getfield 22, (false, 57), (false, 0), (0, 3, 1), (0, 0, 214), [])),
  (57, (.iload_n 2, (false, 58), (false, 0), (0, 0, 0), (0, 0, 0), [])),
  (58, (.iconst 1, (false, 59), (false, 0), (0, 0, 0), (0, 0, 0), [(1, (false, 0))])),
  (59, (.isub, (false, 60), (false, 0), (0, 0, 0), (0, 0, 0), [])),
  (60, (.aload_n 0, (false, 61), (false, 0), (0, 0, 0), (0, 0, 0), [])),
  (61, (.getfield 22, (false, 64), (false, 0), (0, 3, 1), (0, 0, 214), [])),
  (64, (.iload_n 2, (false, 65), (false, 0), (0, 0, 0), (0, 0, 0), [])),
  (65, (.iaload, (false, 66), (false, 0), (0, 0, 0), (0, 0, 0), [])),
  (66, (.iastore, (false, 67), (false, 0), (0, 0, 0), (0, 0, 0), [])),
  (67, (.iinc 2 1, (false, 70), (false, 0), (0, 0, 0), (0, 0, 0), [(1, (false, 0))])),
  (70, (.goto (-57), (false, 73), (true, 13), (0, 0, 0), (0, 0, 0), [])),
  (73, (.aload_n 0, (false, 74), (false, 0), (0, 0, 0), (0, 0, 0), [])),
  (74, (.dup, (false, 75), (false, 0), (0, 0, 0), (0, 0, 0), [])),
  (75, (.getfield 31, (false, 78), (false, 0), (0, 4, 0), (0, 0, 215), [])),
  (78, (.iconst 1, (false, 79), (false, 0), (0, 0, 0), (0, 0, 0), [(1, (false, 0))])),
  (79, (.isub, (false, 80), (false, 0), (0, 0, 0), (0, 0, 0), [])),
  (80, (.putfield 31, (false, 83), (false, 0), (0, 4, 0), (0, 0, 215), [])),
  (83, (.return_, (false, 84), (false, 0), (0, 0, 0), (0, 0, 0), []))]
set_option maxRecDepth 100000 in
theorem pe_G_dropTime : pw_fnd pp_G_dropTime 0 = (.aload_n 0, (false, 1), (false, 0), (0, 0, 0), (0, 0, 0), []) ∧
  pw_fnd pp_G_dropTime 1 = (.iload_n 1, (false, 2), (false, 0), (0, 0, 0), (0, 0, 0), []) ∧
  pw_fnd pp_G_dropTime 2 = (.invokevirtual 34, (false, 5), (false, 0), (1, 2, 1), (0, 0, 307), []) ∧
  pw_fnd pp_G_dropTime 5 = (.ifCond .ne 4, (false, 8), (false, 9), (0, 0, 0), (0, 0, 0), []) ∧
  pw_fnd pp_G_dropTime 8 = (.return_, (false, 9), (false, 0), (0, 0, 0), (0, 0, 0), []) ∧
  pw_fnd pp_G_dropTime 9 = (.iload_n 1, (false, 10), (false, 0), (0, 0, 0), (0, 0, 0), []) ∧
  pw_fnd pp_G_dropTime 10 = (.iconst 1, (false, 11), (false, 0), (0, 0, 0), (0, 0, 0), [(1, (false, 0))]) ∧
  pw_fnd pp_G_dropTime 11 = (.iadd, (false, 12), (false, 0), (0, 0, 0), (0, 0, 0), []) ∧
  pw_fnd pp_G_dropTime 12 = (.istore_n 2, (true, 13), (false, 0), (0, 0, 0), (0, 0, 0), []) ∧
  pw_fnd pp_G_dropTime 13 = (.iload_n 2, (false, 14), (false, 0), (0, 0, 0), (0, 0, 0), []) ∧
  pw_fnd pp_G_dropTime 14 = (.aload_n 0, (false, 15), (false, 0), (0, 0, 0), (0, 0, 0), []) ∧
  pw_fnd pp_G_dropTime 15 = (.getfield 31, (false, 18), (false, 0), (0, 4, 0), (0, 0, 215), []) ∧
  pw_fnd pp_G_dropTime 18 = (.if_icmp .ge 55, (false, 21), (false, 73), (0, 0, 0), (0, 0, 0), []) ∧
  pw_fnd pp_G_dropTime 21 = (.iload_n 2, (false, 22), (false, 0), (0, 0, 0), (0, 0, 0), []) ∧
  pw_fnd pp_G_dropTime 22 = (.aload_n 0, (false, 23), (false, 0), (0, 0, 0), (0, 0, 0), []) ∧
  pw_fnd pp_G_dropTime 23 = (.getfield 18, (false, 26), (false, 0), (0, 2, 1), (0, 0, 213), []) ∧
  pw_fnd pp_G_dropTime 26 = (.arraylength, (false, 27), (false, 0), (0, 0, 0), (0, 0, 0), []) ∧
  pw_fnd pp_G_dropTime 27 = (.if_icmp .ge 46, (false, 30), (false, 73), (0, 0, 0), (0, 0, 0), []) ∧
  pw_fnd pp_G_dropTime 30 = (.iload_n 2, (false, 31), (false, 0), (0, 0, 0), (0, 0, 0), []) ∧
  pw_fnd pp_G_dropTime 31 = (.aload_n 0, (false, 32), (false, 0), (0, 0, 0), (0, 0, 0), []) ∧
  pw_fnd pp_G_dropTime 32 = (.getfield 22, (false, 35), (false, 0), (0, 3, 1), (0, 0, 214), []) ∧
  pw_fnd pp_G_dropTime 35 = (.arraylength, (false, 36), (false, 0), (0, 0, 0), (0, 0, 0), []) ∧
  pw_fnd pp_G_dropTime 36 = (.if_icmp .ge 37, (false, 39), (false, 73), (0, 0, 0), (0, 0, 0), []) ∧
  pw_fnd pp_G_dropTime 39 = (.aload_n 0, (false, 40), (false, 0), (0, 0, 0), (0, 0, 0), []) ∧
  pw_fnd pp_G_dropTime 40 = (.getfield 18, (false, 43), (false, 0), (0, 2, 1), (0, 0, 213), []) ∧
  pw_fnd pp_G_dropTime 43 = (.iload_n 2, (false, 44), (false, 0), (0, 0, 0), (0, 0, 0), []) ∧
  pw_fnd pp_G_dropTime 44 = (.iconst 1, (false, 45), (false, 0), (0, 0, 0), (0, 0, 0), [(1, (false, 0))]) ∧
  pw_fnd pp_G_dropTime 45 = (.isub, (false, 46), (false, 0), (0, 0, 0), (0, 0, 0), []) ∧
  pw_fnd pp_G_dropTime 46 = (.aload_n 0, (false, 47), (false, 0), (0, 0, 0), (0, 0, 0), []) ∧
  pw_fnd pp_G_dropTime 47 = (.getfield 18, (false, 50), (false, 0), (0, 2, 1), (0, 0, 213), []) ∧
  pw_fnd pp_G_dropTime 50 = (.iload_n 2, (false, 51), (false, 0), (0, 0, 0), (0, 0, 0), []) ∧
  pw_fnd pp_G_dropTime 51 = (.iaload, (false, 52), (false, 0), (0, 0, 0), (0, 0, 0), []) ∧
  pw_fnd pp_G_dropTime 52 = (.iastore, (false, 53), (false, 0), (0, 0, 0), (0, 0, 0), []) ∧
  pw_fnd pp_G_dropTime 53 = (.aload_n 0, (false, 54), (false, 0), (0, 0, 0), (0, 0, 0), []) ∧
  pw_fnd pp_G_dropTime 54 = (.getfield 22, (false, 57), (false, 0), (0, 3, 1), (0, 0, 214), []) ∧
  pw_fnd pp_G_dropTime 57 = (.iload_n 2, (false, 58), (false, 0), (0, 0, 0), (0, 0, 0), []) ∧
  pw_fnd pp_G_dropTime 58 = (.iconst 1, (false, 59), (false, 0), (0, 0, 0), (0, 0, 0), [(1, (false, 0))]) ∧
  pw_fnd pp_G_dropTime 59 = (.isub, (false, 60), (false, 0), (0, 0, 0), (0, 0, 0), []) ∧
  pw_fnd pp_G_dropTime 60 = (.aload_n 0, (false, 61), (false, 0), (0, 0, 0), (0, 0, 0), []) ∧
  pw_fnd pp_G_dropTime 61 = (.getfield 22, (false, 64), (false, 0), (0, 3, 1), (0, 0, 214), []) ∧
  pw_fnd pp_G_dropTime 64 = (.iload_n 2, (false, 65), (false, 0), (0, 0, 0), (0, 0, 0), []) ∧
  pw_fnd pp_G_dropTime 65 = (.iaload, (false, 66), (false, 0), (0, 0, 0), (0, 0, 0), []) ∧
  pw_fnd pp_G_dropTime 66 = (.iastore, (false, 67), (false, 0), (0, 0, 0), (0, 0, 0), []) ∧
  pw_fnd pp_G_dropTime 67 = (.iinc 2 1, (false, 70), (false, 0), (0, 0, 0), (0, 0, 0), [(1, (false, 0))]) ∧
  pw_fnd pp_G_dropTime 70 = (.goto (-57), (false, 73), (true, 13), (0, 0, 0), (0, 0, 0), []) ∧
  pw_fnd pp_G_dropTime 73 = (.aload_n 0, (false, 74), (false, 0), (0, 0, 0), (0, 0, 0), []) ∧
  pw_fnd pp_G_dropTime 74 = (.dup, (false, 75), (false, 0), (0, 0, 0), (0, 0, 0), []) ∧
  pw_fnd pp_G_dropTime 75 = (.getfield 31, (false, 78), (false, 0), (0, 4, 0), (0, 0, 215), []) ∧
  pw_fnd pp_G_dropTime 78 = (.iconst 1, (false, 79), (false, 0), (0, 0, 0), (0, 0, 0), [(1, (false, 0))]) ∧
  pw_fnd pp_G_dropTime 79 = (.isub, (false, 80), (false, 0), (0, 0, 0), (0, 0, 0), []) ∧
  pw_fnd pp_G_dropTime 80 = (.putfield 31, (false, 83), (false, 0), (0, 4, 0), (0, 0, 215), []) ∧
  pw_fnd pp_G_dropTime 83 = (.return_, (false, 84), (false, 0), (0, 0, 0), (0, 0, 0), []) :=
  ⟨rfl, rfl, rfl, rfl, rfl, rfl, rfl, rfl, rfl, rfl, rfl, rfl, rfl, rfl, rfl, rfl, rfl, rfl, rfl, rfl, rfl, rfl, rfl, rfl, rfl, rfl, rfl, rfl, rfl, rfl, rfl, rfl, rfl, rfl, rfl, rfl, rfl, rfl, rfl, rfl, rfl, rfl, rfl, rfl, rfl, rfl, rfl, rfl, rfl, rfl, rfl, rfl⟩
set_option maxRecDepth 100000 in
theorem pk_G_dropTime : pp_G_dropTime.all (fun q => pw_chk pw_jt pm_G_dropTime q.1 q.2) = true := by decide +kernel
def pp_D_beginsRound : List (Nat × pw_E) := [(0, (.aload_n 0, (false, 1), (false, 0), (0, 0, 0), (0, 0, 0), [])),
  (1, (.getfield 30, (false, 4), (false, 0), (1, 4, 0), (0, 0, 150), [])),
  (4, (.ifCond .le 24, (false, 7), (false, 28), (0, 0, 0), (0, 0, 0), [])),
  (7, (.iload_n 1, (false, 8), (false, 0), (0, 0, 0), (0, 0, 0), [])),
  (8, (.aload_n 0, (false, 9), (false, 0), (0, 0, 0), (0, 0, 0), [])),
  (9, (.getfield 30, (false, 12), (false, 0), (1, 4, 0), (0, 0, 150), [])),
  (12, (.irem, (false, 13), (false, 0), (0, 0, 0), (0, 0, 0), [])),
  (13, (.ifCond .ne 15, (false, 16), (false, 28), (0, 0, 0), (0, 0, 0), [])),
  (16, (.aload_n 0, (false, 17), (false, 0), (0, 0, 0), (0, 0, 0), [])),
  (17, (.iload_n 2, (false, 18), (false, 0), (0, 0, 0), (0, 0, 0), [])),
  (18, (.invokevirtual 54, (false, 21), (false, 1), (3, 2, 1), (0, 0, 419), [])),
  (21, (.ifCond .eq 7, (false, 24), (false, 28), (0, 0, 0), (0, 0, 0), [])),
  (24, (.iconst 1, (false, 25), (false, 0), (0, 0, 0), (0, 0, 0), [(1, (false, 0))])),
  (25, (.goto 4, (false, 28), (false, 29), (0, 0, 0), (0, 0, 0), [])),
  (28, (.iconst 0, (false, 29), (false, 0), (0, 0, 0), (0, 0, 0), [(0, (false, 0))])),
  (29, (.ireturn, (false, 30), (false, 0), (0, 0, 2), (0, 0, 0), []))]
set_option maxRecDepth 100000 in
theorem pe_D_beginsRound : pw_fnd pp_D_beginsRound 0 = (.aload_n 0, (false, 1), (false, 0), (0, 0, 0), (0, 0, 0), []) ∧
  pw_fnd pp_D_beginsRound 1 = (.getfield 30, (false, 4), (false, 0), (1, 4, 0), (0, 0, 150), []) ∧
  pw_fnd pp_D_beginsRound 4 = (.ifCond .le 24, (false, 7), (false, 28), (0, 0, 0), (0, 0, 0), []) ∧
  pw_fnd pp_D_beginsRound 7 = (.iload_n 1, (false, 8), (false, 0), (0, 0, 0), (0, 0, 0), []) ∧
  pw_fnd pp_D_beginsRound 8 = (.aload_n 0, (false, 9), (false, 0), (0, 0, 0), (0, 0, 0), []) ∧
  pw_fnd pp_D_beginsRound 9 = (.getfield 30, (false, 12), (false, 0), (1, 4, 0), (0, 0, 150), []) ∧
  pw_fnd pp_D_beginsRound 12 = (.irem, (false, 13), (false, 0), (0, 0, 0), (0, 0, 0), []) ∧
  pw_fnd pp_D_beginsRound 13 = (.ifCond .ne 15, (false, 16), (false, 28), (0, 0, 0), (0, 0, 0), []) ∧
  pw_fnd pp_D_beginsRound 16 = (.aload_n 0, (false, 17), (false, 0), (0, 0, 0), (0, 0, 0), []) ∧
  pw_fnd pp_D_beginsRound 17 = (.iload_n 2, (false, 18), (false, 0), (0, 0, 0), (0, 0, 0), []) ∧
  pw_fnd pp_D_beginsRound 18 = (.invokevirtual 54, (false, 21), (false, 1), (3, 2, 1), (0, 0, 419), []) ∧
  pw_fnd pp_D_beginsRound 21 = (.ifCond .eq 7, (false, 24), (false, 28), (0, 0, 0), (0, 0, 0), []) ∧
  pw_fnd pp_D_beginsRound 24 = (.iconst 1, (false, 25), (false, 0), (0, 0, 0), (0, 0, 0), [(1, (false, 0))]) ∧
  pw_fnd pp_D_beginsRound 25 = (.goto 4, (false, 28), (false, 29), (0, 0, 0), (0, 0, 0), []) ∧
  pw_fnd pp_D_beginsRound 28 = (.iconst 0, (false, 29), (false, 0), (0, 0, 0), (0, 0, 0), [(0, (false, 0))]) ∧
  pw_fnd pp_D_beginsRound 29 = (.ireturn, (false, 30), (false, 0), (0, 0, 2), (0, 0, 0), []) :=
  ⟨rfl, rfl, rfl, rfl, rfl, rfl, rfl, rfl, rfl, rfl, rfl, rfl, rfl, rfl, rfl, rfl⟩
set_option maxRecDepth 100000 in
theorem pk_D_beginsRound : pp_D_beginsRound.all (fun q => pw_chk pw_jt pm_D_beginsRound q.1 q.2) = true := by decide +kernel
def pp_D_lastTickOf : List (Nat × pw_E) := [(0, (.aload_n 0, (false, 1), (false, 0), (0, 0, 0), (0, 0, 0), [])),
  (1, (.iload_n 1, (false, 2), (false, 0), (0, 0, 0), (0, 0, 0), [])),
  (2, (.invokevirtual 58, (false, 5), (false, 1), (6, 2, 1), (0, 0, 323), [])),
  (5, (.aload_n 0, (false, 6), (false, 0), (0, 0, 0), (0, 0, 0), [])),
  (6, (.getfield 33, (false, 9), (false, 0), (1, 5, 0), (0, 0, 151), [])),
  (9, (.iadd, (false, 10), (false, 0), (0, 0, 0), (0, 0, 0), [])),
  (10, (.iconst 1, (false, 11), (false, 0), (0, 0, 0), (0, 0, 0), [(1, (false, 0))])),
  (11, (.isub, (false, 12), (false, 0), (0, 0, 0), (0, 0, 0), [])),
  (12, (.ireturn, (false, 13), (false, 0), (0, 0, 0), (0, 0, 0), []))]
set_option maxRecDepth 100000 in
theorem pe_D_lastTickOf : pw_fnd pp_D_lastTickOf 0 = (.aload_n 0, (false, 1), (false, 0), (0, 0, 0), (0, 0, 0), []) ∧
  pw_fnd pp_D_lastTickOf 1 = (.iload_n 1, (false, 2), (false, 0), (0, 0, 0), (0, 0, 0), []) ∧
  pw_fnd pp_D_lastTickOf 2 = (.invokevirtual 58, (false, 5), (false, 1), (6, 2, 1), (0, 0, 323), []) ∧
  pw_fnd pp_D_lastTickOf 5 = (.aload_n 0, (false, 6), (false, 0), (0, 0, 0), (0, 0, 0), []) ∧
  pw_fnd pp_D_lastTickOf 6 = (.getfield 33, (false, 9), (false, 0), (1, 5, 0), (0, 0, 151), []) ∧
  pw_fnd pp_D_lastTickOf 9 = (.iadd, (false, 10), (false, 0), (0, 0, 0), (0, 0, 0), []) ∧
  pw_fnd pp_D_lastTickOf 10 = (.iconst 1, (false, 11), (false, 0), (0, 0, 0), (0, 0, 0), [(1, (false, 0))]) ∧
  pw_fnd pp_D_lastTickOf 11 = (.isub, (false, 12), (false, 0), (0, 0, 0), (0, 0, 0), []) ∧
  pw_fnd pp_D_lastTickOf 12 = (.ireturn, (false, 13), (false, 0), (0, 0, 0), (0, 0, 0), []) :=
  ⟨rfl, rfl, rfl, rfl, rfl, rfl, rfl, rfl, rfl⟩
set_option maxRecDepth 100000 in
theorem pk_D_lastTickOf : pp_D_lastTickOf.all (fun q => pw_chk pw_jt pm_D_lastTickOf q.1 q.2) = true := by decide +kernel
def pp_D_roomOfWindow : List (Nat × pw_E) := [(0, (.iconst 0, (false, 1), (false, 0), (0, 0, 0), (0, 0, 0), [(0, (false, 0))])),
  (1, (.iconst 5, (false, 2), (false, 0), (0, 0, 0), (0, 0, 0), [(5, (false, 0))])),
  (2, (.aload_n 0, (false, 3), (false, 0), (0, 0, 0), (0, 0, 0), [])),
  (3, (.getfield 62, (false, 6), (false, 0), (1, 9, 0), (0, 0, 158), [])),
  (6, (.imul, (false, 7), (false, 0), (0, 0, 0), (0, 0, 0), [])),
  (7, (.aload_n 0, (false, 8), (false, 0), (0, 0, 0), (0, 0, 0), [])),
  (8, (.getfield 65, (false, 11), (false, 0), (1, 10, 0), (0, 0, 160), [])),
  (11, (.isub, (false, 12), (false, 0), (0, 0, 0), (0, 0, 0), [])),
  (12, (.invokestatic 24, (false, 15), (false, 0), (1000, 127, 0), (126, 71, 125), [])),
  (15, (.ireturn, (false, 16), (false, 0), (0, 0, 0), (0, 0, 0), []))]
set_option maxRecDepth 100000 in
theorem pe_D_roomOfWindow : pw_fnd pp_D_roomOfWindow 0 = (.iconst 0, (false, 1), (false, 0), (0, 0, 0), (0, 0, 0), [(0, (false, 0))]) ∧
  pw_fnd pp_D_roomOfWindow 1 = (.iconst 5, (false, 2), (false, 0), (0, 0, 0), (0, 0, 0), [(5, (false, 0))]) ∧
  pw_fnd pp_D_roomOfWindow 2 = (.aload_n 0, (false, 3), (false, 0), (0, 0, 0), (0, 0, 0), []) ∧
  pw_fnd pp_D_roomOfWindow 3 = (.getfield 62, (false, 6), (false, 0), (1, 9, 0), (0, 0, 158), []) ∧
  pw_fnd pp_D_roomOfWindow 6 = (.imul, (false, 7), (false, 0), (0, 0, 0), (0, 0, 0), []) ∧
  pw_fnd pp_D_roomOfWindow 7 = (.aload_n 0, (false, 8), (false, 0), (0, 0, 0), (0, 0, 0), []) ∧
  pw_fnd pp_D_roomOfWindow 8 = (.getfield 65, (false, 11), (false, 0), (1, 10, 0), (0, 0, 160), []) ∧
  pw_fnd pp_D_roomOfWindow 11 = (.isub, (false, 12), (false, 0), (0, 0, 0), (0, 0, 0), []) ∧
  pw_fnd pp_D_roomOfWindow 12 = (.invokestatic 24, (false, 15), (false, 0), (1000, 127, 0), (126, 71, 125), []) ∧
  pw_fnd pp_D_roomOfWindow 15 = (.ireturn, (false, 16), (false, 0), (0, 0, 0), (0, 0, 0), []) :=
  ⟨rfl, rfl, rfl, rfl, rfl, rfl, rfl, rfl, rfl, rfl⟩
set_option maxRecDepth 100000 in
theorem pk_D_roomOfWindow : pp_D_roomOfWindow.all (fun q => pw_chk pw_jt pm_D_roomOfWindow q.1 q.2) = true := by decide +kernel
def pp_W_init : List (Nat × pw_E) := [(0, (.aload_n 0, (false, 1), (false, 0), (0, 0, 0), (0, 0, 0), [])),
  (1, (.invokespecial 3, (false, 4), (false, 0), (1001, 0, 0), (80, 81, 133), [])),
  (4, (.aload_n 0, (false, 5), (false, 0), (0, 0, 0), (0, 0, 0), [])),
  (5, (.bipush 60, (false, 7), (false, 0), (0, 0, 0), (0, 0, 0), [(60, (false, 0))])),
  (7, (.newarray .int, (false, 9), (false, 0), (1, 0, 0), (0, 0, 111), [])),
  (9, (.putfield 9, (false, 12), (false, 0), (2, 0, 1), (0, 0, 134), [])),
  (12, (.return_, (false, 13), (false, 0), (0, 0, 0), (0, 0, 0), []))]
set_option maxRecDepth 100000 in
theorem pe_W_init : pw_fnd pp_W_init 0 = (.aload_n 0, (false, 1), (false, 0), (0, 0, 0), (0, 0, 0), []) ∧
  pw_fnd pp_W_init 1 = (.invokespecial 3, (false, 4), (false, 0), (1001, 0, 0), (80, 81, 133), []) ∧
  pw_fnd pp_W_init 4 = (.aload_n 0, (false, 5), (false, 0), (0, 0, 0), (0, 0, 0), []) ∧
  pw_fnd pp_W_init 5 = (.bipush 60, (false, 7), (false, 0), (0, 0, 0), (0, 0, 0), [(60, (false, 0))]) ∧
  pw_fnd pp_W_init 7 = (.newarray .int, (false, 9), (false, 0), (1, 0, 0), (0, 0, 111), []) ∧
  pw_fnd pp_W_init 9 = (.putfield 9, (false, 12), (false, 0), (2, 0, 1), (0, 0, 134), []) ∧
  pw_fnd pp_W_init 12 = (.return_, (false, 13), (false, 0), (0, 0, 0), (0, 0, 0), []) :=
  ⟨rfl, rfl, rfl, rfl, rfl, rfl, rfl⟩
set_option maxRecDepth 100000 in
theorem pk_W_init : pp_W_init.all (fun q => pw_chk pw_jt pm_W_init q.1 q.2) = true := by decide +kernel
def pp_W_placeOf : List (Nat × pw_E) := [(0, (.iconst 0, (false, 1), (false, 0), (0, 0, 0), (0, 0, 0), [(0, (false, 0))])),
  (1, (.istore_n 2, (true, 2), (false, 0), (0, 0, 0), (0, 0, 0), [])),
  (2, (.iload_n 2, (false, 3), (false, 0), (0, 0, 0), (0, 0, 0), [])),
  (3, (.aload_n 0, (false, 4), (false, 0), (0, 0, 0), (0, 0, 0), [])),
  (4, (.getfield 15, (false, 7), (false, 0), (2, 1, 0), (0, 0, 135), [])),
  (7, (.if_icmp .ge 20, (false, 10), (false, 27), (0, 0, 0), (0, 0, 0), [])),
  (10, (.aload_n 0, (false, 11), (false, 0), (0, 0, 0), (0, 0, 0), [])),
  (11, (.iload_n 2, (false, 12), (false, 0), (0, 0, 0), (0, 0, 0), [])),
  (12, (.invokevirtual 19, (false, 15), (false, 2), (9, 2, 1), (0, 0, 383), [])),
  (15, (.iload_n 1, (false, 16), (false, 0), (0, 0, 0), (0, 0, 0), [])),
  (16, (.if_icmp .ne 5, (false, 19), (false, 21), (0, 0, 0), (0, 0, 0), [])),
  (19, (.iload_n 2, (false, 20), (false, 0), (0, 0, 0), (0, 0, 0), [])),
  (20, (.ireturn, (false, 21), (false, 0), (0, 0, 0), (0, 0, 0), [])),
  (21, (.iinc 2 1, (false, 24), (false, 0), (0, 0, 0), (0, 0, 0), [(1, (false, 0))])),
  (24, (.goto (-22), (false, 27), (true, 2), (0, 0, 0), (0, 0, 0), [])),
  (27, (.bipush (-9), (false, 29), (false, 0), (0, 0, 0), (0, 0, 0), [((-9), (false, 0))])),
  (29, (.ireturn, (false, 30), (false, 0), (0, 0, 0), (0, 0, 0), []))]
set_option maxRecDepth 100000 in
theorem pe_W_placeOf : pw_fnd pp_W_placeOf 0 = (.iconst 0, (false, 1), (false, 0), (0, 0, 0), (0, 0, 0), [(0, (false, 0))]) ∧
  pw_fnd pp_W_placeOf 1 = (.istore_n 2, (true, 2), (false, 0), (0, 0, 0), (0, 0, 0), []) ∧
  pw_fnd pp_W_placeOf 2 = (.iload_n 2, (false, 3), (false, 0), (0, 0, 0), (0, 0, 0), []) ∧
  pw_fnd pp_W_placeOf 3 = (.aload_n 0, (false, 4), (false, 0), (0, 0, 0), (0, 0, 0), []) ∧
  pw_fnd pp_W_placeOf 4 = (.getfield 15, (false, 7), (false, 0), (2, 1, 0), (0, 0, 135), []) ∧
  pw_fnd pp_W_placeOf 7 = (.if_icmp .ge 20, (false, 10), (false, 27), (0, 0, 0), (0, 0, 0), []) ∧
  pw_fnd pp_W_placeOf 10 = (.aload_n 0, (false, 11), (false, 0), (0, 0, 0), (0, 0, 0), []) ∧
  pw_fnd pp_W_placeOf 11 = (.iload_n 2, (false, 12), (false, 0), (0, 0, 0), (0, 0, 0), []) ∧
  pw_fnd pp_W_placeOf 12 = (.invokevirtual 19, (false, 15), (false, 2), (9, 2, 1), (0, 0, 383), []) ∧
  pw_fnd pp_W_placeOf 15 = (.iload_n 1, (false, 16), (false, 0), (0, 0, 0), (0, 0, 0), []) ∧
  pw_fnd pp_W_placeOf 16 = (.if_icmp .ne 5, (false, 19), (false, 21), (0, 0, 0), (0, 0, 0), []) ∧
  pw_fnd pp_W_placeOf 19 = (.iload_n 2, (false, 20), (false, 0), (0, 0, 0), (0, 0, 0), []) ∧
  pw_fnd pp_W_placeOf 20 = (.ireturn, (false, 21), (false, 0), (0, 0, 0), (0, 0, 0), []) ∧
  pw_fnd pp_W_placeOf 21 = (.iinc 2 1, (false, 24), (false, 0), (0, 0, 0), (0, 0, 0), [(1, (false, 0))]) ∧
  pw_fnd pp_W_placeOf 24 = (.goto (-22), (false, 27), (true, 2), (0, 0, 0), (0, 0, 0), []) ∧
  pw_fnd pp_W_placeOf 27 = (.bipush (-9), (false, 29), (false, 0), (0, 0, 0), (0, 0, 0), [((-9), (false, 0))]) ∧
  pw_fnd pp_W_placeOf 29 = (.ireturn, (false, 30), (false, 0), (0, 0, 0), (0, 0, 0), []) :=
  ⟨rfl, rfl, rfl, rfl, rfl, rfl, rfl, rfl, rfl, rfl, rfl, rfl, rfl, rfl, rfl, rfl, rfl⟩
set_option maxRecDepth 100000 in
theorem pk_W_placeOf : pp_W_placeOf.all (fun q => pw_chk pw_jt pm_W_placeOf q.1 q.2) = true := by decide +kernel
def pp_G_placeOfTime : List (Nat × pw_E) := [(0, (.iconst 0, (false, 1), (false, 0), (0, 0, 0), (0, 0, 0), [(0, (false, 0))])),
  (1, (.istore_n 3, (true, 2), (false, 0), (0, 0, 0), (0, 0, 0), [])),
  (2, (.iload_n 3, (false, 3), (false, 0), (0, 0, 0), (0, 0, 0), [])),
  (3, (.aload_n 0, (false, 4), (false, 0), (0, 0, 0), (0, 0, 0), [])),
  (4, (.getfield 31, (false, 7), (false, 0), (0, 4, 0), (0, 0, 215), [])),
  (7, (.if_icmp .ge 29, (false, 10), (false, 36), (0, 0, 0), (0, 0, 0), [])),
  (10, (.aload_n 0, (false, 11), (false, 0), (0, 0, 0), (0, 0, 0), [])),
  (11, (.iload_n 3, (false, 12), (false, 0), (0, 0, 0), (0, 0, 0), [])),
  (12, (.invokevirtual 38, (false, 15), (false, 0), (32, 2, 1), (0, 0, 357), [])),
  (15, (.iload_n 1, (false, 16), (false, 0), (0, 0, 0), (0, 0, 0), [])),
  (16, (.if_icmp .ne 14, (false, 19), (false, 30), (0, 0, 0), (0, 0, 0), [])),
  (19, (.aload_n 0, (false, 20), (false, 0), (0, 0, 0), (0, 0, 0), [])),
  (20, (.iload_n 3, (false, 21), (false, 0), (0, 0, 0), (0, 0, 0), [])),
  (21, (.invokevirtual 42, (false, 24), (false, 0), (33, 2, 1), (0, 0, 358), [])),
  (24, (.iload_n 2, (false, 25), (false, 0), (0, 0, 0), (0, 0, 0), [])),
  (25, (.if_icmp .ne 5, (false, 28), (false, 30), (0, 0, 0), (0, 0, 0), [])),
  (28, (.iload_n 3, (false, 29), (false, 0), (0, 0, 0), (0, 0, 0), [])),
  (29, (.ireturn, (false, 30), (false, 0), (0, 0, 0), (0, 0, 0), [])),
  (30, (.iinc 3 1, (false, 33), (false, 0), (0, 0, 0), (0, 0, 0), [(1, (false, 0))])),
  (33, (.goto (-31), (false, 36), (true, 2), (0, 0, 0), (0, 0, 0), [])),
  (36, (.bipush (-9), (false, 38), (false, 0), (0, 0, 0), (0, 0, 0), [((-9), (false, 0))])),
  (38, (.ireturn, (false, 39), (false, 0), (0, 0, 0), (0, 0, 0), []))]
set_option maxRecDepth 100000 in
theorem pe_G_placeOfTime : pw_fnd pp_G_placeOfTime 0 = (.iconst 0, (false, 1), (false, 0), (0, 0, 0), (0, 0, 0), [(0, (false, 0))]) ∧
  pw_fnd pp_G_placeOfTime 1 = (.istore_n 3, (true, 2), (false, 0), (0, 0, 0), (0, 0, 0), []) ∧
  pw_fnd pp_G_placeOfTime 2 = (.iload_n 3, (false, 3), (false, 0), (0, 0, 0), (0, 0, 0), []) ∧
  pw_fnd pp_G_placeOfTime 3 = (.aload_n 0, (false, 4), (false, 0), (0, 0, 0), (0, 0, 0), []) ∧
  pw_fnd pp_G_placeOfTime 4 = (.getfield 31, (false, 7), (false, 0), (0, 4, 0), (0, 0, 215), []) ∧
  pw_fnd pp_G_placeOfTime 7 = (.if_icmp .ge 29, (false, 10), (false, 36), (0, 0, 0), (0, 0, 0), []) ∧
  pw_fnd pp_G_placeOfTime 10 = (.aload_n 0, (false, 11), (false, 0), (0, 0, 0), (0, 0, 0), []) ∧
  pw_fnd pp_G_placeOfTime 11 = (.iload_n 3, (false, 12), (false, 0), (0, 0, 0), (0, 0, 0), []) ∧
  pw_fnd pp_G_placeOfTime 12 = (.invokevirtual 38, (false, 15), (false, 0), (32, 2, 1), (0, 0, 357), []) ∧
  pw_fnd pp_G_placeOfTime 15 = (.iload_n 1, (false, 16), (false, 0), (0, 0, 0), (0, 0, 0), []) ∧
  pw_fnd pp_G_placeOfTime 16 = (.if_icmp .ne 14, (false, 19), (false, 30), (0, 0, 0), (0, 0, 0), []) ∧
  pw_fnd pp_G_placeOfTime 19 = (.aload_n 0, (false, 20), (false, 0), (0, 0, 0), (0, 0, 0), []) ∧
  pw_fnd pp_G_placeOfTime 20 = (.iload_n 3, (false, 21), (false, 0), (0, 0, 0), (0, 0, 0), []) ∧
  pw_fnd pp_G_placeOfTime 21 = (.invokevirtual 42, (false, 24), (false, 0), (33, 2, 1), (0, 0, 358), []) ∧
  pw_fnd pp_G_placeOfTime 24 = (.iload_n 2, (false, 25), (false, 0), (0, 0, 0), (0, 0, 0), []) ∧
  pw_fnd pp_G_placeOfTime 25 = (.if_icmp .ne 5, (false, 28), (false, 30), (0, 0, 0), (0, 0, 0), []) ∧
  pw_fnd pp_G_placeOfTime 28 = (.iload_n 3, (false, 29), (false, 0), (0, 0, 0), (0, 0, 0), []) ∧
  pw_fnd pp_G_placeOfTime 29 = (.ireturn, (false, 30), (false, 0), (0, 0, 0), (0, 0, 0), []) ∧
  pw_fnd pp_G_placeOfTime 30 = (.iinc 3 1, (false, 33), (false, 0), (0, 0, 0), (0, 0, 0), [(1, (false, 0))]) ∧
  pw_fnd pp_G_placeOfTime 33 = (.goto (-31), (false, 36), (true, 2), (0, 0, 0), (0, 0, 0), []) ∧
  pw_fnd pp_G_placeOfTime 36 = (.bipush (-9), (false, 38), (false, 0), (0, 0, 0), (0, 0, 0), [((-9), (false, 0))]) ∧
  pw_fnd pp_G_placeOfTime 38 = (.ireturn, (false, 39), (false, 0), (0, 0, 0), (0, 0, 0), []) :=
  ⟨rfl, rfl, rfl, rfl, rfl, rfl, rfl, rfl, rfl, rfl, rfl, rfl, rfl, rfl, rfl, rfl, rfl, rfl, rfl, rfl, rfl, rfl⟩
set_option maxRecDepth 100000 in
theorem pk_G_placeOfTime : pp_G_placeOfTime.all (fun q => pw_chk pw_jt pm_G_placeOfTime q.1 q.2) = true := by decide +kernel
def pp_D_init : List (Nat × pw_E) := [(0, (.aload_n 0, (false, 1), (false, 0), (0, 0, 0), (0, 0, 0), [])),
  (1, (.invokespecial 3, (false, 4), (false, 0), (1001, 0, 0), (80, 81, 124), [])),
  (4, (.aload_n 0, (false, 5), (false, 0), (0, 0, 0), (0, 0, 0), [])),
  (5, (.iload_n 1, (false, 6), (false, 0), (0, 0, 0), (0, 0, 0), [])),
  (6, (.putfield 9, (false, 9), (false, 0), (1, 0, 0), (0, 0, 142), [])),
  (9, (.aload_n 0, (false, 10), (false, 0), (0, 0, 0), (0, 0, 0), [])),
  (10, (.iload_n 2, (false, 11), (false, 0), (0, 0, 0), (0, 0, 0), [])),
  (11, (.putfield 15, (false, 14), (false, 0), (1, 1, 0), (0, 0, 144), [])),
  (14, (.aload_n 0, (false, 15), (false, 0), (0, 0, 0), (0, 0, 0), [])),
  (15, (.iload_n 3, (false, 16), (false, 0), (0, 0, 0), (0, 0, 0), [])),
  (16, (.putfield 18, (false, 19), (false, 0), (1, 2, 0), (0, 0, 146), [])),
  (19, (.aload_n 0, (false, 20), (false, 0), (0, 0, 0), (0, 0, 0), [])),
  (20, (.iload 4, (false, 22), (false, 0), (0, 0, 0), (0, 0, 0), [])),
  (22, (.putfield 21, (false, 25), (false, 0), (1, 3, 0), (0, 0, 148), [])),
  (25, (.aload_n 0, (false, 26), (false, 0), (0, 0, 0), (0, 0, 0), [])),
  (26, (.iconst 1, (false, 27), (false, 0), (0, 0, 0), (0, 0, 0), [(1, (false, 0))])),
  (27, (.iload 4, (false, 29), (false, 0), (0, 0, 0), (0, 0, 0), [])),
  (29, (.iconst 2, (false, 30), (false, 0), (0, 0, 0), (0, 0, 0), [(2, (false, 0))])),
  (30, (.if_icmp .ne 9, (false, 33), (false, 39), (0, 0, 0), (0, 0, 0), [])),
  (33, (.iconst 3, (false, 34), (false, 0), (0, 0, 0), (0, 0, 0), [(3, (false, 0))])),
  (34, (.iload_n 3, (false, 35), (false, 0), (0, 0, 0), (0, 0, 0), [])),
  (35, (.imul, (false, 36), (false, 0), (0, 0, 0), (0, 0, 0), [])),
  (36, (.goto 4, (false, 39), (false, 40), (0, 0, 0), (0, 0, 0), [])),
  (39, (.iload_n 3, (false, 40), (false, 0), (0, 0, 0), (0, 0, 0), [])),
  (40, (.invokestatic 24, (false, 43), (false, 0), (1000, 127, 0), (126, 71, 125), [])),
  (43, (.putfield 30, (false, 46), (false, 0), (1, 4, 0), (0, 0, 150), [])),
  (46, (.aload_n 0, (false, 47), (false, 0), (0, 0, 0), (0, 0, 0), [])),
  (47, (.iconst 5, (false, 48), (false, 0), (0, 0, 0), (0, 0, 0), [(5, (false, 0))])),
  (48, (.aload_n 0, (false, 49), (false, 0), (0, 0, 0), (0, 0, 0), [])),
  (49, (.getfield 30, (false, 52), (false, 0), (1, 4, 0), (0, 0, 150), [])),
  (52, (.imul, (false, 53), (false, 0), (0, 0, 0), (0, 0, 0), [])),
  (53, (.putfield 33, (false, 56), (false, 0), (1, 5, 0), (0, 0, 151), [])),
  (56, (.aload_n 0, (false, 57), (false, 0), (0, 0, 0), (0, 0, 0), [])),
  (57, (.new 36, (false, 60), (false, 0), (2, 2, 0), (129, 72, 128), [])),
  (60, (.dup, (false, 61), (false, 0), (0, 0, 0), (0, 0, 0), [])),
  (61, (.invokespecial 38, (false, 64), (false, 2), (39, 1, 0), (1, 60, 130), [])),
  (64, (.putfield 39, (false, 67), (false, 0), (1, 6, 1), (0, 0, 152), [])),
  (67, (.aload_n 0, (false, 68), (false, 0), (0, 0, 0), (0, 0, 0), [])),
  (68, (.new 36, (false, 71), (false, 0), (2, 2, 0), (129, 72, 128), [])),
  (71, (.dup, (false, 72), (false, 0), (0, 0, 0), (0, 0, 0), [])),
  (72, (.invokespecial 38, (false, 75), (false, 2), (39, 1, 0), (1, 60, 130), [])),
  (75, (.putfield 43, (false, 78), (false, 0), (1, 7, 1), (0, 0, 154), [])),
  (78, (.aload_n 0, (false, 79), (false, 0), (0, 0, 0), (0, 0, 0), [])),
  (79, (.aload_n 0, (false, 80), (false, 0), (0, 0, 0), (0, 0, 0), [])),
  (80, (.getfield 33, (false, 83), (false, 0), (1, 5, 0), (0, 0, 151), [])),
  (83, (.ifCond .le 19, (false, 86), (false, 102), (0, 0, 0), (0, 0, 0), [])),
  (86, (.sipush 5000, (false, 89), (false, 0), (0, 0, 0), (0, 0, 0), [(5000, (false, 0))])),
  (89, (.aload_n 0, (false, 90), (false, 0), (0, 0, 0), (0, 0, 0), [])),
  (90, (.getfield 33, (false, 93), (false, 0), (1, 5, 0), (0, 0, 151), [])),
  (93, (.idiv, (false, 94), (false, 0), (0, 0, 0), (0, 0, 0), [])),
  (94, (.bipush 40, (false, 96), (false, 0), (0, 0, 0), (0, 0, 0), [(40, (false, 0))])),
  (96, (.iadd, (false, 97), (false, 0), (0, 0, 0), (0, 0, 0), [])),
  (97, (.iconst 1, (false, 98), (false, 0), (0, 0, 0), (0, 0, 0), [(1, (false, 0))])),
  (98, (.iadd, (false, 99), (false, 0), (0, 0, 0), (0, 0, 0), [])),
  (99, (.goto 4, (false, 102), (false, 103), (0, 0, 0), (0, 0, 0), [])),
  (102, (.iconst 0, (false, 103), (false, 0), (0, 0, 0), (0, 0, 0), [(0, (false, 0))])),
  (103, (.newarray .int, (false, 105), (false, 0), (1, 0, 0), (0, 0, 111), [])),
  (105, (.putfield 46, (false, 108), (false, 0), (1, 8, 1), (0, 0, 156), [])),
  (108, (.return_, (false, 109), (false, 0), (0, 0, 0), (0, 0, 0), []))]
set_option maxRecDepth 100000 in
theorem pe_D_init : pw_fnd pp_D_init 0 = (.aload_n 0, (false, 1), (false, 0), (0, 0, 0), (0, 0, 0), []) ∧
  pw_fnd pp_D_init 1 = (.invokespecial 3, (false, 4), (false, 0), (1001, 0, 0), (80, 81, 124), []) ∧
  pw_fnd pp_D_init 4 = (.aload_n 0, (false, 5), (false, 0), (0, 0, 0), (0, 0, 0), []) ∧
  pw_fnd pp_D_init 5 = (.iload_n 1, (false, 6), (false, 0), (0, 0, 0), (0, 0, 0), []) ∧
  pw_fnd pp_D_init 6 = (.putfield 9, (false, 9), (false, 0), (1, 0, 0), (0, 0, 142), []) ∧
  pw_fnd pp_D_init 9 = (.aload_n 0, (false, 10), (false, 0), (0, 0, 0), (0, 0, 0), []) ∧
  pw_fnd pp_D_init 10 = (.iload_n 2, (false, 11), (false, 0), (0, 0, 0), (0, 0, 0), []) ∧
  pw_fnd pp_D_init 11 = (.putfield 15, (false, 14), (false, 0), (1, 1, 0), (0, 0, 144), []) ∧
  pw_fnd pp_D_init 14 = (.aload_n 0, (false, 15), (false, 0), (0, 0, 0), (0, 0, 0), []) ∧
  pw_fnd pp_D_init 15 = (.iload_n 3, (false, 16), (false, 0), (0, 0, 0), (0, 0, 0), []) ∧
  pw_fnd pp_D_init 16 = (.putfield 18, (false, 19), (false, 0), (1, 2, 0), (0, 0, 146), []) ∧
  pw_fnd pp_D_init 19 = (.aload_n 0, (false, 20), (false, 0), (0, 0, 0), (0, 0, 0), []) ∧
  pw_fnd pp_D_init 20 = (.iload 4, (false, 22), (false, 0), (0, 0, 0), (0, 0, 0), []) ∧
  pw_fnd pp_D_init 22 = (.putfield 21, (false, 25), (false, 0), (1, 3, 0), (0, 0, 148), []) ∧
  pw_fnd pp_D_init 25 = (.aload_n 0, (false, 26), (false, 0), (0, 0, 0), (0, 0, 0), []) ∧
  pw_fnd pp_D_init 26 = (.iconst 1, (false, 27), (false, 0), (0, 0, 0), (0, 0, 0), [(1, (false, 0))]) ∧
  pw_fnd pp_D_init 27 = (.iload 4, (false, 29), (false, 0), (0, 0, 0), (0, 0, 0), []) ∧
  pw_fnd pp_D_init 29 = (.iconst 2, (false, 30), (false, 0), (0, 0, 0), (0, 0, 0), [(2, (false, 0))]) ∧
  pw_fnd pp_D_init 30 = (.if_icmp .ne 9, (false, 33), (false, 39), (0, 0, 0), (0, 0, 0), []) ∧
  pw_fnd pp_D_init 33 = (.iconst 3, (false, 34), (false, 0), (0, 0, 0), (0, 0, 0), [(3, (false, 0))]) ∧
  pw_fnd pp_D_init 34 = (.iload_n 3, (false, 35), (false, 0), (0, 0, 0), (0, 0, 0), []) ∧
  pw_fnd pp_D_init 35 = (.imul, (false, 36), (false, 0), (0, 0, 0), (0, 0, 0), []) ∧
  pw_fnd pp_D_init 36 = (.goto 4, (false, 39), (false, 40), (0, 0, 0), (0, 0, 0), []) ∧
  pw_fnd pp_D_init 39 = (.iload_n 3, (false, 40), (false, 0), (0, 0, 0), (0, 0, 0), []) ∧
  pw_fnd pp_D_init 40 = (.invokestatic 24, (false, 43), (false, 0), (1000, 127, 0), (126, 71, 125), []) ∧
  pw_fnd pp_D_init 43 = (.putfield 30, (false, 46), (false, 0), (1, 4, 0), (0, 0, 150), []) ∧
  pw_fnd pp_D_init 46 = (.aload_n 0, (false, 47), (false, 0), (0, 0, 0), (0, 0, 0), []) ∧
  pw_fnd pp_D_init 47 = (.iconst 5, (false, 48), (false, 0), (0, 0, 0), (0, 0, 0), [(5, (false, 0))]) ∧
  pw_fnd pp_D_init 48 = (.aload_n 0, (false, 49), (false, 0), (0, 0, 0), (0, 0, 0), []) ∧
  pw_fnd pp_D_init 49 = (.getfield 30, (false, 52), (false, 0), (1, 4, 0), (0, 0, 150), []) ∧
  pw_fnd pp_D_init 52 = (.imul, (false, 53), (false, 0), (0, 0, 0), (0, 0, 0), []) ∧
  pw_fnd pp_D_init 53 = (.putfield 33, (false, 56), (false, 0), (1, 5, 0), (0, 0, 151), []) ∧
  pw_fnd pp_D_init 56 = (.aload_n 0, (false, 57), (false, 0), (0, 0, 0), (0, 0, 0), []) ∧
  pw_fnd pp_D_init 57 = (.new 36, (false, 60), (false, 0), (2, 2, 0), (129, 72, 128), []) ∧
  pw_fnd pp_D_init 60 = (.dup, (false, 61), (false, 0), (0, 0, 0), (0, 0, 0), []) ∧
  pw_fnd pp_D_init 61 = (.invokespecial 38, (false, 64), (false, 2), (39, 1, 0), (1, 60, 130), []) ∧
  pw_fnd pp_D_init 64 = (.putfield 39, (false, 67), (false, 0), (1, 6, 1), (0, 0, 152), []) ∧
  pw_fnd pp_D_init 67 = (.aload_n 0, (false, 68), (false, 0), (0, 0, 0), (0, 0, 0), []) ∧
  pw_fnd pp_D_init 68 = (.new 36, (false, 71), (false, 0), (2, 2, 0), (129, 72, 128), []) ∧
  pw_fnd pp_D_init 71 = (.dup, (false, 72), (false, 0), (0, 0, 0), (0, 0, 0), []) ∧
  pw_fnd pp_D_init 72 = (.invokespecial 38, (false, 75), (false, 2), (39, 1, 0), (1, 60, 130), []) ∧
  pw_fnd pp_D_init 75 = (.putfield 43, (false, 78), (false, 0), (1, 7, 1), (0, 0, 154), []) ∧
  pw_fnd pp_D_init 78 = (.aload_n 0, (false, 79), (false, 0), (0, 0, 0), (0, 0, 0), []) ∧
  pw_fnd pp_D_init 79 = (.aload_n 0, (false, 80), (false, 0), (0, 0, 0), (0, 0, 0), []) ∧
  pw_fnd pp_D_init 80 = (.getfield 33, (false, 83), (false, 0), (1, 5, 0), (0, 0, 151), []) ∧
  pw_fnd pp_D_init 83 = (.ifCond .le 19, (false, 86), (false, 102), (0, 0, 0), (0, 0, 0), []) ∧
  pw_fnd pp_D_init 86 = (.sipush 5000, (false, 89), (false, 0), (0, 0, 0), (0, 0, 0), [(5000, (false, 0))]) ∧
  pw_fnd pp_D_init 89 = (.aload_n 0, (false, 90), (false, 0), (0, 0, 0), (0, 0, 0), []) ∧
  pw_fnd pp_D_init 90 = (.getfield 33, (false, 93), (false, 0), (1, 5, 0), (0, 0, 151), []) ∧
  pw_fnd pp_D_init 93 = (.idiv, (false, 94), (false, 0), (0, 0, 0), (0, 0, 0), []) ∧
  pw_fnd pp_D_init 94 = (.bipush 40, (false, 96), (false, 0), (0, 0, 0), (0, 0, 0), [(40, (false, 0))]) ∧
  pw_fnd pp_D_init 96 = (.iadd, (false, 97), (false, 0), (0, 0, 0), (0, 0, 0), []) ∧
  pw_fnd pp_D_init 97 = (.iconst 1, (false, 98), (false, 0), (0, 0, 0), (0, 0, 0), [(1, (false, 0))]) ∧
  pw_fnd pp_D_init 98 = (.iadd, (false, 99), (false, 0), (0, 0, 0), (0, 0, 0), []) ∧
  pw_fnd pp_D_init 99 = (.goto 4, (false, 102), (false, 103), (0, 0, 0), (0, 0, 0), []) ∧
  pw_fnd pp_D_init 102 = (.iconst 0, (false, 103), (false, 0), (0, 0, 0), (0, 0, 0), [(0, (false, 0))]) ∧
  pw_fnd pp_D_init 103 = (.newarray .int, (false, 105), (false, 0), (1, 0, 0), (0, 0, 111), []) ∧
  pw_fnd pp_D_init 105 = (.putfield 46, (false, 108), (false, 0), (1, 8, 1), (0, 0, 156), []) ∧
  pw_fnd pp_D_init 108 = (.return_, (false, 109), (false, 0), (0, 0, 0), (0, 0, 0), []) :=
  ⟨rfl, rfl, rfl, rfl, rfl, rfl, rfl, rfl, rfl, rfl, rfl, rfl, rfl, rfl, rfl, rfl, rfl, rfl, rfl, rfl, rfl, rfl, rfl, rfl, rfl, rfl, rfl, rfl, rfl, rfl, rfl, rfl, rfl, rfl, rfl, rfl, rfl, rfl, rfl, rfl, rfl, rfl, rfl, rfl, rfl, rfl, rfl, rfl, rfl, rfl, rfl, rfl, rfl, rfl, rfl, rfl, rfl, rfl, rfl⟩
set_option maxRecDepth 100000 in
theorem pk_D_init : pp_D_init.all (fun q => pw_chk pw_jt pm_D_init q.1 q.2) = true := by decide +kernel
def pp_D_hasRoom : List (Nat × pw_E) := [(0, (.aload_n 0, (false, 1), (false, 0), (0, 0, 0), (0, 0, 0), [])),
  (1, (.iload_n 1, (false, 2), (false, 0), (0, 0, 0), (0, 0, 0), [])),
  (2, (.invokevirtual 68, (false, 5), (false, 1), (7, 2, 1), (0, 0, 291), [])),
  (5, (.iload_n 2, (false, 6), (false, 0), (0, 0, 0), (0, 0, 0), [])),
  (6, (.iadd, (false, 7), (false, 0), (0, 0, 0), (0, 0, 0), [])),
  (7, (.aload_n 0, (false, 8), (false, 0), (0, 0, 0), (0, 0, 0), [])),
  (8, (.invokevirtual 71, (false, 11), (false, 1), (38, 1, 1), (0, 0, 295), [])),
  (11, (.if_icmp .gt 7, (false, 14), (false, 18), (0, 0, 0), (0, 0, 0), [])),
  (14, (.iconst 1, (false, 15), (false, 0), (0, 0, 0), (0, 0, 0), [(1, (false, 0))])),
  (15, (.goto 4, (false, 18), (false, 19), (0, 0, 0), (0, 0, 0), [])),
  (18, (.iconst 0, (false, 19), (false, 0), (0, 0, 0), (0, 0, 0), [(0, (false, 0))])),
  (19, (.ireturn, (false, 20), (false, 0), (0, 0, 2), (0, 0, 0), []))]
set_option maxRecDepth 100000 in
theorem pe_D_hasRoom : pw_fnd pp_D_hasRoom 0 = (.aload_n 0, (false, 1), (false, 0), (0, 0, 0), (0, 0, 0), []) ∧
  pw_fnd pp_D_hasRoom 1 = (.iload_n 1, (false, 2), (false, 0), (0, 0, 0), (0, 0, 0), []) ∧
  pw_fnd pp_D_hasRoom 2 = (.invokevirtual 68, (false, 5), (false, 1), (7, 2, 1), (0, 0, 291), []) ∧
  pw_fnd pp_D_hasRoom 5 = (.iload_n 2, (false, 6), (false, 0), (0, 0, 0), (0, 0, 0), []) ∧
  pw_fnd pp_D_hasRoom 6 = (.iadd, (false, 7), (false, 0), (0, 0, 0), (0, 0, 0), []) ∧
  pw_fnd pp_D_hasRoom 7 = (.aload_n 0, (false, 8), (false, 0), (0, 0, 0), (0, 0, 0), []) ∧
  pw_fnd pp_D_hasRoom 8 = (.invokevirtual 71, (false, 11), (false, 1), (38, 1, 1), (0, 0, 295), []) ∧
  pw_fnd pp_D_hasRoom 11 = (.if_icmp .gt 7, (false, 14), (false, 18), (0, 0, 0), (0, 0, 0), []) ∧
  pw_fnd pp_D_hasRoom 14 = (.iconst 1, (false, 15), (false, 0), (0, 0, 0), (0, 0, 0), [(1, (false, 0))]) ∧
  pw_fnd pp_D_hasRoom 15 = (.goto 4, (false, 18), (false, 19), (0, 0, 0), (0, 0, 0), []) ∧
  pw_fnd pp_D_hasRoom 18 = (.iconst 0, (false, 19), (false, 0), (0, 0, 0), (0, 0, 0), [(0, (false, 0))]) ∧
  pw_fnd pp_D_hasRoom 19 = (.ireturn, (false, 20), (false, 0), (0, 0, 2), (0, 0, 0), []) :=
  ⟨rfl, rfl, rfl, rfl, rfl, rfl, rfl, rfl, rfl, rfl, rfl, rfl⟩
set_option maxRecDepth 100000 in
theorem pk_D_hasRoom : pp_D_hasRoom.all (fun q => pw_chk pw_jt pm_D_hasRoom q.1 q.2) = true := by decide +kernel
