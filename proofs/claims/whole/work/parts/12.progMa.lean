def pp_M_in : List (Nat × pw_E) := [(0, (.iload_n 0, (false, 1), (false, 0), (0, 0, 0), (0, 0, 0), [])),
  (1, (.iload_n 1, (false, 2), (false, 0), (0, 0, 0), (0, 0, 0), [])),
  (2, (.if_icmp .lt 12, (false, 5), (false, 14), (0, 0, 0), (0, 0, 0), [])),
  (5, (.iload_n 0, (false, 6), (false, 0), (0, 0, 0), (0, 0, 0), [])),
  (6, (.iload_n 2, (false, 7), (false, 0), (0, 0, 0), (0, 0, 0), [])),
  (7, (.if_icmp .gt 7, (false, 10), (false, 14), (0, 0, 0), (0, 0, 0), [])),
  (10, (.iconst 1, (false, 11), (false, 0), (0, 0, 0), (0, 0, 0), [(1, (false, 0))])),
  (11, (.goto 4, (false, 14), (false, 15), (0, 0, 0), (0, 0, 0), [])),
  (14, (.iconst 0, (false, 15), (false, 0), (0, 0, 0), (0, 0, 0), [(0, (false, 0))])),
  (15, (.ireturn, (false, 16), (false, 0), (0, 0, 2), (0, 0, 0), []))]
set_option maxRecDepth 100000 in
theorem pe_M_in : pw_fnd pp_M_in 0 = (.iload_n 0, (false, 1), (false, 0), (0, 0, 0), (0, 0, 0), []) ∧
  pw_fnd pp_M_in 1 = (.iload_n 1, (false, 2), (false, 0), (0, 0, 0), (0, 0, 0), []) ∧
  pw_fnd pp_M_in 2 = (.if_icmp .lt 12, (false, 5), (false, 14), (0, 0, 0), (0, 0, 0), []) ∧
  pw_fnd pp_M_in 5 = (.iload_n 0, (false, 6), (false, 0), (0, 0, 0), (0, 0, 0), []) ∧
  pw_fnd pp_M_in 6 = (.iload_n 2, (false, 7), (false, 0), (0, 0, 0), (0, 0, 0), []) ∧
  pw_fnd pp_M_in 7 = (.if_icmp .gt 7, (false, 10), (false, 14), (0, 0, 0), (0, 0, 0), []) ∧
  pw_fnd pp_M_in 10 = (.iconst 1, (false, 11), (false, 0), (0, 0, 0), (0, 0, 0), [(1, (false, 0))]) ∧
  pw_fnd pp_M_in 11 = (.goto 4, (false, 14), (false, 15), (0, 0, 0), (0, 0, 0), []) ∧
  pw_fnd pp_M_in 14 = (.iconst 0, (false, 15), (false, 0), (0, 0, 0), (0, 0, 0), [(0, (false, 0))]) ∧
  pw_fnd pp_M_in 15 = (.ireturn, (false, 16), (false, 0), (0, 0, 2), (0, 0, 0), []) :=
  ⟨rfl, rfl, rfl, rfl, rfl, rfl, rfl, rfl, rfl, rfl⟩
set_option maxRecDepth 100000 in
theorem pk_M_in : pp_M_in.all (fun q => pw_chk pw_jt pm_M_in q.1 q.2) = true := by decide +kernel
def pp_M_refuse : List (Nat × pw_E) := [(0, (.aload_n 0, (false, 1), (false, 0), (0, 0, 0), (0, 0, 0), [])),
  (1, (.getfield 80, (false, 4), (false, 0), (4, 28, 1), (0, 0, 545), [])),
  (4, (.iload_n 1, (false, 5), (false, 0), (0, 0, 0), (0, 0, 0), [])),
  (5, (.ineg, (false, 6), (false, 0), (0, 0, 0), (0, 0, 0), [])),
  (6, (.dup2, (false, 7), (false, 0), (0, 0, 0), (0, 0, 0), [])),
  (7, (.iaload, (false, 8), (false, 0), (0, 0, 0), (0, 0, 0), [])),
  (8, (.iconst 1, (false, 9), (false, 0), (0, 0, 0), (0, 0, 0), [(1, (false, 0))])),
  (9, (.iadd, (false, 10), (false, 0), (0, 0, 0), (0, 0, 0), [])),
  (10, (.iastore, (false, 11), (false, 0), (0, 0, 0), (0, 0, 0), [])),
  (11, (.iload_n 1, (false, 12), (false, 0), (0, 0, 0), (0, 0, 0), [])),
  (12, (.ireturn, (false, 13), (false, 0), (0, 0, 0), (0, 0, 0), []))]
set_option maxRecDepth 100000 in
theorem pe_M_refuse : pw_fnd pp_M_refuse 0 = (.aload_n 0, (false, 1), (false, 0), (0, 0, 0), (0, 0, 0), []) ∧
  pw_fnd pp_M_refuse 1 = (.getfield 80, (false, 4), (false, 0), (4, 28, 1), (0, 0, 545), []) ∧
  pw_fnd pp_M_refuse 4 = (.iload_n 1, (false, 5), (false, 0), (0, 0, 0), (0, 0, 0), []) ∧
  pw_fnd pp_M_refuse 5 = (.ineg, (false, 6), (false, 0), (0, 0, 0), (0, 0, 0), []) ∧
  pw_fnd pp_M_refuse 6 = (.dup2, (false, 7), (false, 0), (0, 0, 0), (0, 0, 0), []) ∧
  pw_fnd pp_M_refuse 7 = (.iaload, (false, 8), (false, 0), (0, 0, 0), (0, 0, 0), []) ∧
  pw_fnd pp_M_refuse 8 = (.iconst 1, (false, 9), (false, 0), (0, 0, 0), (0, 0, 0), [(1, (false, 0))]) ∧
  pw_fnd pp_M_refuse 9 = (.iadd, (false, 10), (false, 0), (0, 0, 0), (0, 0, 0), []) ∧
  pw_fnd pp_M_refuse 10 = (.iastore, (false, 11), (false, 0), (0, 0, 0), (0, 0, 0), []) ∧
  pw_fnd pp_M_refuse 11 = (.iload_n 1, (false, 12), (false, 0), (0, 0, 0), (0, 0, 0), []) ∧
  pw_fnd pp_M_refuse 12 = (.ireturn, (false, 13), (false, 0), (0, 0, 0), (0, 0, 0), []) :=
  ⟨rfl, rfl, rfl, rfl, rfl, rfl, rfl, rfl, rfl, rfl, rfl⟩
set_option maxRecDepth 100000 in
theorem pk_M_refuse : pp_M_refuse.all (fun q => pw_chk pw_jt pm_M_refuse q.1 q.2) = true := by decide +kernel
def pp_M_turn : List (Nat × pw_E) := [(0, (.aload_n 0, (false, 1), (false, 0), (0, 0, 0), (0, 0, 0), [])),
  (1, (.getfield 22, (false, 4), (false, 0), (4, 7, 1), (0, 0, 524), [])),
  (4, (.iload_n 1, (false, 5), (false, 0), (0, 0, 0), (0, 0, 0), [])),
  (5, (.iaload, (false, 6), (false, 0), (0, 0, 0), (0, 0, 0), [])),
  (6, (.iconst 2, (false, 7), (false, 0), (0, 0, 0), (0, 0, 0), [(2, (false, 0))])),
  (7, (.if_icmp .ne 14, (false, 10), (false, 21), (0, 0, 0), (0, 0, 0), [])),
  (10, (.iconst 3, (false, 11), (false, 0), (0, 0, 0), (0, 0, 0), [(3, (false, 0))])),
  (11, (.aload_n 0, (false, 12), (false, 0), (0, 0, 0), (0, 0, 0), [])),
  (12, (.getfield 13, (false, 15), (false, 0), (4, 4, 1), (0, 0, 521), [])),
  (15, (.iload_n 1, (false, 16), (false, 0), (0, 0, 0), (0, 0, 0), [])),
  (16, (.iaload, (false, 17), (false, 0), (0, 0, 0), (0, 0, 0), [])),
  (17, (.imul, (false, 18), (false, 0), (0, 0, 0), (0, 0, 0), [])),
  (18, (.goto 9, (false, 21), (false, 27), (0, 0, 0), (0, 0, 0), [])),
  (21, (.aload_n 0, (false, 22), (false, 0), (0, 0, 0), (0, 0, 0), [])),
  (22, (.getfield 13, (false, 25), (false, 0), (4, 4, 1), (0, 0, 521), [])),
  (25, (.iload_n 1, (false, 26), (false, 0), (0, 0, 0), (0, 0, 0), [])),
  (26, (.iaload, (false, 27), (false, 0), (0, 0, 0), (0, 0, 0), [])),
  (27, (.ireturn, (false, 28), (false, 0), (0, 0, 0), (0, 0, 0), []))]
set_option maxRecDepth 100000 in
theorem pe_M_turn : pw_fnd pp_M_turn 0 = (.aload_n 0, (false, 1), (false, 0), (0, 0, 0), (0, 0, 0), []) ∧
  pw_fnd pp_M_turn 1 = (.getfield 22, (false, 4), (false, 0), (4, 7, 1), (0, 0, 524), []) ∧
  pw_fnd pp_M_turn 4 = (.iload_n 1, (false, 5), (false, 0), (0, 0, 0), (0, 0, 0), []) ∧
  pw_fnd pp_M_turn 5 = (.iaload, (false, 6), (false, 0), (0, 0, 0), (0, 0, 0), []) ∧
  pw_fnd pp_M_turn 6 = (.iconst 2, (false, 7), (false, 0), (0, 0, 0), (0, 0, 0), [(2, (false, 0))]) ∧
  pw_fnd pp_M_turn 7 = (.if_icmp .ne 14, (false, 10), (false, 21), (0, 0, 0), (0, 0, 0), []) ∧
  pw_fnd pp_M_turn 10 = (.iconst 3, (false, 11), (false, 0), (0, 0, 0), (0, 0, 0), [(3, (false, 0))]) ∧
  pw_fnd pp_M_turn 11 = (.aload_n 0, (false, 12), (false, 0), (0, 0, 0), (0, 0, 0), []) ∧
  pw_fnd pp_M_turn 12 = (.getfield 13, (false, 15), (false, 0), (4, 4, 1), (0, 0, 521), []) ∧
  pw_fnd pp_M_turn 15 = (.iload_n 1, (false, 16), (false, 0), (0, 0, 0), (0, 0, 0), []) ∧
  pw_fnd pp_M_turn 16 = (.iaload, (false, 17), (false, 0), (0, 0, 0), (0, 0, 0), []) ∧
  pw_fnd pp_M_turn 17 = (.imul, (false, 18), (false, 0), (0, 0, 0), (0, 0, 0), []) ∧
  pw_fnd pp_M_turn 18 = (.goto 9, (false, 21), (false, 27), (0, 0, 0), (0, 0, 0), []) ∧
  pw_fnd pp_M_turn 21 = (.aload_n 0, (false, 22), (false, 0), (0, 0, 0), (0, 0, 0), []) ∧
  pw_fnd pp_M_turn 22 = (.getfield 13, (false, 25), (false, 0), (4, 4, 1), (0, 0, 521), []) ∧
  pw_fnd pp_M_turn 25 = (.iload_n 1, (false, 26), (false, 0), (0, 0, 0), (0, 0, 0), []) ∧
  pw_fnd pp_M_turn 26 = (.iaload, (false, 27), (false, 0), (0, 0, 0), (0, 0, 0), []) ∧
  pw_fnd pp_M_turn 27 = (.ireturn, (false, 28), (false, 0), (0, 0, 0), (0, 0, 0), []) :=
  ⟨rfl, rfl, rfl, rfl, rfl, rfl, rfl, rfl, rfl, rfl, rfl, rfl, rfl, rfl, rfl, rfl, rfl, rfl⟩
set_option maxRecDepth 100000 in
theorem pk_M_turn : pp_M_turn.all (fun q => pw_chk pw_jt pm_M_turn q.1 q.2) = true := by decide +kernel
def pp_M_roomOf : List (Nat × pw_E) := [(0, (.iconst 5, (false, 1), (false, 0), (0, 0, 0), (0, 0, 0), [(5, (false, 0))])),
  (1, (.aload_n 0, (false, 2), (false, 0), (0, 0, 0), (0, 0, 0), [])),
  (2, (.getfield 16, (false, 5), (false, 0), (4, 5, 1), (0, 0, 522), [])),
  (5, (.iload_n 1, (false, 6), (false, 0), (0, 0, 0), (0, 0, 0), [])),
  (6, (.iaload, (false, 7), (false, 0), (0, 0, 0), (0, 0, 0), [])),
  (7, (.imul, (false, 8), (false, 0), (0, 0, 0), (0, 0, 0), [])),
  (8, (.aload_n 0, (false, 9), (false, 0), (0, 0, 0), (0, 0, 0), [])),
  (9, (.getfield 19, (false, 12), (false, 0), (4, 6, 1), (0, 0, 523), [])),
  (12, (.iload_n 1, (false, 13), (false, 0), (0, 0, 0), (0, 0, 0), [])),
  (13, (.iaload, (false, 14), (false, 0), (0, 0, 0), (0, 0, 0), [])),
  (14, (.isub, (false, 15), (false, 0), (0, 0, 0), (0, 0, 0), [])),
  (15, (.istore_n 2, (false, 16), (false, 0), (0, 0, 0), (0, 0, 0), [])),
  (16, (.iload_n 2, (false, 17), (false, 0), (0, 0, 0), (0, 0, 0), [])),
  (17, (.ifCond .le 7, (false, 20), (false, 24), (0, 0, 0), (0, 0, 0), [])),
  (20, (.iload_n 2, (false, 21), (false, 0), (0, 0, 0), (0, 0, 0), [])),
  (21, (.goto 4, (false, 24), (false, 25), (0, 0, 0), (0, 0, 0), [])),
  (24, (.iconst 0, (false, 25), (false, 0), (0, 0, 0), (0, 0, 0), [(0, (false, 0))])),
  (25, (.ireturn, (false, 26), (false, 0), (0, 0, 0), (0, 0, 0), []))]
set_option maxRecDepth 100000 in
theorem pe_M_roomOf : pw_fnd pp_M_roomOf 0 = (.iconst 5, (false, 1), (false, 0), (0, 0, 0), (0, 0, 0), [(5, (false, 0))]) ∧
  pw_fnd pp_M_roomOf 1 = (.aload_n 0, (false, 2), (false, 0), (0, 0, 0), (0, 0, 0), []) ∧
  pw_fnd pp_M_roomOf 2 = (.getfield 16, (false, 5), (false, 0), (4, 5, 1), (0, 0, 522), []) ∧
  pw_fnd pp_M_roomOf 5 = (.iload_n 1, (false, 6), (false, 0), (0, 0, 0), (0, 0, 0), []) ∧
  pw_fnd pp_M_roomOf 6 = (.iaload, (false, 7), (false, 0), (0, 0, 0), (0, 0, 0), []) ∧
  pw_fnd pp_M_roomOf 7 = (.imul, (false, 8), (false, 0), (0, 0, 0), (0, 0, 0), []) ∧
  pw_fnd pp_M_roomOf 8 = (.aload_n 0, (false, 9), (false, 0), (0, 0, 0), (0, 0, 0), []) ∧
  pw_fnd pp_M_roomOf 9 = (.getfield 19, (false, 12), (false, 0), (4, 6, 1), (0, 0, 523), []) ∧
  pw_fnd pp_M_roomOf 12 = (.iload_n 1, (false, 13), (false, 0), (0, 0, 0), (0, 0, 0), []) ∧
  pw_fnd pp_M_roomOf 13 = (.iaload, (false, 14), (false, 0), (0, 0, 0), (0, 0, 0), []) ∧
  pw_fnd pp_M_roomOf 14 = (.isub, (false, 15), (false, 0), (0, 0, 0), (0, 0, 0), []) ∧
  pw_fnd pp_M_roomOf 15 = (.istore_n 2, (false, 16), (false, 0), (0, 0, 0), (0, 0, 0), []) ∧
  pw_fnd pp_M_roomOf 16 = (.iload_n 2, (false, 17), (false, 0), (0, 0, 0), (0, 0, 0), []) ∧
  pw_fnd pp_M_roomOf 17 = (.ifCond .le 7, (false, 20), (false, 24), (0, 0, 0), (0, 0, 0), []) ∧
  pw_fnd pp_M_roomOf 20 = (.iload_n 2, (false, 21), (false, 0), (0, 0, 0), (0, 0, 0), []) ∧
  pw_fnd pp_M_roomOf 21 = (.goto 4, (false, 24), (false, 25), (0, 0, 0), (0, 0, 0), []) ∧
  pw_fnd pp_M_roomOf 24 = (.iconst 0, (false, 25), (false, 0), (0, 0, 0), (0, 0, 0), [(0, (false, 0))]) ∧
  pw_fnd pp_M_roomOf 25 = (.ireturn, (false, 26), (false, 0), (0, 0, 0), (0, 0, 0), []) :=
  ⟨rfl, rfl, rfl, rfl, rfl, rfl, rfl, rfl, rfl, rfl, rfl, rfl, rfl, rfl, rfl, rfl, rfl, rfl⟩
set_option maxRecDepth 100000 in
theorem pk_M_roomOf : pp_M_roomOf.all (fun q => pw_chk pw_jt pm_M_roomOf q.1 q.2) = true := by decide +kernel
def pp_M_dropTime : List (Nat × pw_E) := [(0, (.iload_n 2, (false, 1), (false, 0), (0, 0, 0), (0, 0, 0), [])),
  (1, (.ifCond .ne 39, (false, 4), (false, 40), (0, 0, 0), (0, 0, 0), [])),
  (4, (.aload_n 0, (false, 5), (false, 0), (0, 0, 0), (0, 0, 0), [])),
  (5, (.getfield 62, (false, 8), (false, 0), (4, 22, 1), (0, 0, 539), [])),
  (8, (.iconst 2, (false, 9), (false, 0), (0, 0, 0), (0, 0, 0), [(2, (false, 0))])),
  (9, (.iload_n 1, (false, 10), (false, 0), (0, 0, 0), (0, 0, 0), [])),
  (10, (.imul, (false, 11), (false, 0), (0, 0, 0), (0, 0, 0), [])),
  (11, (.aload_n 0, (false, 12), (false, 0), (0, 0, 0), (0, 0, 0), [])),
  (12, (.getfield 62, (false, 15), (false, 0), (4, 22, 1), (0, 0, 539), [])),
  (15, (.iconst 2, (false, 16), (false, 0), (0, 0, 0), (0, 0, 0), [(2, (false, 0))])),
  (16, (.iload_n 1, (false, 17), (false, 0), (0, 0, 0), (0, 0, 0), [])),
  (17, (.imul, (false, 18), (false, 0), (0, 0, 0), (0, 0, 0), [])),
  (18, (.iconst 1, (false, 19), (false, 0), (0, 0, 0), (0, 0, 0), [(1, (false, 0))])),
  (19, (.iadd, (false, 20), (false, 0), (0, 0, 0), (0, 0, 0), [])),
  (20, (.iaload, (false, 21), (false, 0), (0, 0, 0), (0, 0, 0), [])),
  (21, (.iastore, (false, 22), (false, 0), (0, 0, 0), (0, 0, 0), [])),
  (22, (.aload_n 0, (false, 23), (false, 0), (0, 0, 0), (0, 0, 0), [])),
  (23, (.getfield 65, (false, 26), (false, 0), (4, 23, 1), (0, 0, 540), [])),
  (26, (.iconst 2, (false, 27), (false, 0), (0, 0, 0), (0, 0, 0), [(2, (false, 0))])),
  (27, (.iload_n 1, (false, 28), (false, 0), (0, 0, 0), (0, 0, 0), [])),
  (28, (.imul, (false, 29), (false, 0), (0, 0, 0), (0, 0, 0), [])),
  (29, (.aload_n 0, (false, 30), (false, 0), (0, 0, 0), (0, 0, 0), [])),
  (30, (.getfield 65, (false, 33), (false, 0), (4, 23, 1), (0, 0, 540), [])),
  (33, (.iconst 2, (false, 34), (false, 0), (0, 0, 0), (0, 0, 0), [(2, (false, 0))])),
  (34, (.iload_n 1, (false, 35), (false, 0), (0, 0, 0), (0, 0, 0), [])),
  (35, (.imul, (false, 36), (false, 0), (0, 0, 0), (0, 0, 0), [])),
  (36, (.iconst 1, (false, 37), (false, 0), (0, 0, 0), (0, 0, 0), [(1, (false, 0))])),
  (37, (.iadd, (false, 38), (false, 0), (0, 0, 0), (0, 0, 0), [])),
  (38, (.iaload, (false, 39), (false, 0), (0, 0, 0), (0, 0, 0), [])),
  (39, (.iastore, (false, 40), (false, 0), (0, 0, 0), (0, 0, 0), [])),
  (40, (.aload_n 0, (false, 41), (false, 0), (0, 0, 0), (0, 0, 0), [])),
  (41, (.getfield 59, (false, 44), (false, 0), (4, 21, 1), (0, 0, 538), [])),
  (44, (.iload_n 1, (false, 45), (false, 0), (0, 0, 0), (0, 0, 0), [])),
  (45, (.dup2, (false, 46), (false, 0), (0, 0, 0), (0, 0, 0), [])),
  (46, (.iaload, (false, 47), (false, 0), (0, 0, 0), (0, 0, 0), [])),
  (47, (.iconst 1, (false, 48), (false, 0), (0, 0, 0), (0, 0, 0), [(1, (false, 0))])),
  (48, (.isub, (false, 49), (false, 0), (0, 0, 0), (0, 0, 0), [])),
  (49, (.iastore, (false, 50), (false, 0), (0, 0, 0), (0, 0, 0), [])),
  (50, (.return_, (false, 51), (false, 0), (0, 0, 0), (0, 0, 0), []))]
set_option maxRecDepth 100000 in
theorem pe_M_dropTime : pw_fnd pp_M_dropTime 0 = (.iload_n 2, (false, 1), (false, 0), (0, 0, 0), (0, 0, 0), []) ∧
  pw_fnd pp_M_dropTime 1 = (.ifCond .ne 39, (false, 4), (false, 40), (0, 0, 0), (0, 0, 0), []) ∧
  pw_fnd pp_M_dropTime 4 = (.aload_n 0, (false, 5), (false, 0), (0, 0, 0), (0, 0, 0), []) ∧
  pw_fnd pp_M_dropTime 5 = (.getfield 62, (false, 8), (false, 0), (4, 22, 1), (0, 0, 539), []) ∧
  pw_fnd pp_M_dropTime 8 = (.iconst 2, (false, 9), (false, 0), (0, 0, 0), (0, 0, 0), [(2, (false, 0))]) ∧
  pw_fnd pp_M_dropTime 9 = (.iload_n 1, (false, 10), (false, 0), (0, 0, 0), (0, 0, 0), []) ∧
  pw_fnd pp_M_dropTime 10 = (.imul, (false, 11), (false, 0), (0, 0, 0), (0, 0, 0), []) ∧
  pw_fnd pp_M_dropTime 11 = (.aload_n 0, (false, 12), (false, 0), (0, 0, 0), (0, 0, 0), []) ∧
  pw_fnd pp_M_dropTime 12 = (.getfield 62, (false, 15), (false, 0), (4, 22, 1), (0, 0, 539), []) ∧
  pw_fnd pp_M_dropTime 15 = (.iconst 2, (false, 16), (false, 0), (0, 0, 0), (0, 0, 0), [(2, (false, 0))]) ∧
  pw_fnd pp_M_dropTime 16 = (.iload_n 1, (false, 17), (false, 0), (0, 0, 0), (0, 0, 0), []) ∧
  pw_fnd pp_M_dropTime 17 = (.imul, (false, 18), (false, 0), (0, 0, 0), (0, 0, 0), []) ∧
  pw_fnd pp_M_dropTime 18 = (.iconst 1, (false, 19), (false, 0), (0, 0, 0), (0, 0, 0), [(1, (false, 0))]) ∧
  pw_fnd pp_M_dropTime 19 = (.iadd, (false, 20), (false, 0), (0, 0, 0), (0, 0, 0), []) ∧
  pw_fnd pp_M_dropTime 20 = (.iaload, (false, 21), (false, 0), (0, 0, 0), (0, 0, 0), []) ∧
  pw_fnd pp_M_dropTime 21 = (.iastore, (false, 22), (false, 0), (0, 0, 0), (0, 0, 0), []) ∧
  pw_fnd pp_M_dropTime 22 = (.aload_n 0, (false, 23), (false, 0), (0, 0, 0), (0, 0, 0), []) ∧
  pw_fnd pp_M_dropTime 23 = (.getfield 65, (false, 26), (false, 0), (4, 23, 1), (0, 0, 540), []) ∧
  pw_fnd pp_M_dropTime 26 = (.iconst 2, (false, 27), (false, 0), (0, 0, 0), (0, 0, 0), [(2, (false, 0))]) ∧
  pw_fnd pp_M_dropTime 27 = (.iload_n 1, (false, 28), (false, 0), (0, 0, 0), (0, 0, 0), []) ∧
  pw_fnd pp_M_dropTime 28 = (.imul, (false, 29), (false, 0), (0, 0, 0), (0, 0, 0), []) ∧
  pw_fnd pp_M_dropTime 29 = (.aload_n 0, (false, 30), (false, 0), (0, 0, 0), (0, 0, 0), []) ∧
  pw_fnd pp_M_dropTime 30 = (.getfield 65, (false, 33), (false, 0), (4, 23, 1), (0, 0, 540), []) ∧
  pw_fnd pp_M_dropTime 33 = (.iconst 2, (false, 34), (false, 0), (0, 0, 0), (0, 0, 0), [(2, (false, 0))]) ∧
  pw_fnd pp_M_dropTime 34 = (.iload_n 1, (false, 35), (false, 0), (0, 0, 0), (0, 0, 0), []) ∧
  pw_fnd pp_M_dropTime 35 = (.imul, (false, 36), (false, 0), (0, 0, 0), (0, 0, 0), []) ∧
  pw_fnd pp_M_dropTime 36 = (.iconst 1, (false, 37), (false, 0), (0, 0, 0), (0, 0, 0), [(1, (false, 0))]) ∧
  pw_fnd pp_M_dropTime 37 = (.iadd, (false, 38), (false, 0), (0, 0, 0), (0, 0, 0), []) ∧
  pw_fnd pp_M_dropTime 38 = (.iaload, (false, 39), (false, 0), (0, 0, 0), (0, 0, 0), []) ∧
  pw_fnd pp_M_dropTime 39 = (.iastore, (false, 40), (false, 0), (0, 0, 0), (0, 0, 0), []) ∧
  pw_fnd pp_M_dropTime 40 = (.aload_n 0, (false, 41), (false, 0), (0, 0, 0), (0, 0, 0), []) ∧
  pw_fnd pp_M_dropTime 41 = (.getfield 59, (false, 44), (false, 0), (4, 21, 1), (0, 0, 538), []) ∧
  pw_fnd pp_M_dropTime 44 = (.iload_n 1, (false, 45), (false, 0), (0, 0, 0), (0, 0, 0), []) ∧
  pw_fnd pp_M_dropTime 45 = (.dup2, (false, 46), (false, 0), (0, 0, 0), (0, 0, 0), []) ∧
  pw_fnd pp_M_dropTime 46 = (.iaload, (false, 47), (false, 0), (0, 0, 0), (0, 0, 0), []) ∧
  pw_fnd pp_M_dropTime 47 = (.iconst 1, (false, 48), (false, 0), (0, 0, 0), (0, 0, 0), [(1, (false, 0))]) ∧
  pw_fnd pp_M_dropTime 48 = (.isub, (false, 49), (false, 0), (0, 0, 0), (0, 0, 0), []) ∧
  pw_fnd pp_M_dropTime 49 = (.iastore, (false, 50), (false, 0), (0, 0, 0), (0, 0, 0), []) ∧
  pw_fnd pp_M_dropTime 50 = (.return_, (false, 51), (false, 0), (0, 0, 0), (0, 0, 0), []) :=
  ⟨rfl, rfl, rfl, rfl, rfl, rfl, rfl, rfl, rfl, rfl, rfl, rfl, rfl, rfl, rfl, rfl, rfl, rfl, rfl, rfl, rfl, rfl, rfl, rfl, rfl, rfl, rfl, rfl, rfl, rfl, rfl, rfl, rfl, rfl, rfl, rfl, rfl, rfl, rfl⟩
set_option maxRecDepth 100000 in
theorem pk_M_dropTime : pp_M_dropTime.all (fun q => pw_chk pw_jt pm_M_dropTime q.1 q.2) = true := by decide +kernel
def pp_M_join : List (Nat × pw_E) := [(0, (.aload_n 0, (false, 1), (false, 0), (0, 0, 0), (0, 0, 0), [])),
  (1, (.getfield 47, (false, 4), (false, 0), (4, 16, 1), (0, 0, 533), [])),
  (4, (.iload_n 1, (false, 5), (false, 0), (0, 0, 0), (0, 0, 0), [])),
  (5, (.iload_n 2, (false, 6), (false, 0), (0, 0, 0), (0, 0, 0), [])),
  (6, (.iastore, (false, 7), (false, 0), (0, 0, 0), (0, 0, 0), [])),
  (7, (.aload_n 0, (false, 8), (false, 0), (0, 0, 0), (0, 0, 0), [])),
  (8, (.getfield 50, (false, 11), (false, 0), (4, 17, 1), (0, 0, 534), [])),
  (11, (.iload_n 1, (false, 12), (false, 0), (0, 0, 0), (0, 0, 0), [])),
  (12, (.iload_n 3, (false, 13), (false, 0), (0, 0, 0), (0, 0, 0), [])),
  (13, (.iastore, (false, 14), (false, 0), (0, 0, 0), (0, 0, 0), [])),
  (14, (.aload_n 0, (false, 15), (false, 0), (0, 0, 0), (0, 0, 0), [])),
  (15, (.dup, (false, 16), (false, 0), (0, 0, 0), (0, 0, 0), [])),
  (16, (.getfield 134, (false, 19), (false, 0), (4, 19, 0), (0, 0, 536), [])),
  (19, (.iconst 1, (false, 20), (false, 0), (0, 0, 0), (0, 0, 0), [(1, (false, 0))])),
  (20, (.iadd, (false, 21), (false, 0), (0, 0, 0), (0, 0, 0), [])),
  (21, (.putfield 134, (false, 24), (false, 0), (4, 19, 0), (0, 0, 536), [])),
  (24, (.aload_n 0, (false, 25), (false, 0), (0, 0, 0), (0, 0, 0), [])),
  (25, (.getfield 53, (false, 28), (false, 0), (4, 18, 1), (0, 0, 535), [])),
  (28, (.iload_n 1, (false, 29), (false, 0), (0, 0, 0), (0, 0, 0), [])),
  (29, (.aload_n 0, (false, 30), (false, 0), (0, 0, 0), (0, 0, 0), [])),
  (30, (.getfield 134, (false, 33), (false, 0), (4, 19, 0), (0, 0, 536), [])),
  (33, (.iastore, (false, 34), (false, 0), (0, 0, 0), (0, 0, 0), [])),
  (34, (.return_, (false, 35), (false, 0), (0, 0, 0), (0, 0, 0), []))]
set_option maxRecDepth 100000 in
theorem pe_M_join : pw_fnd pp_M_join 0 = (.aload_n 0, (false, 1), (false, 0), (0, 0, 0), (0, 0, 0), []) ∧
  pw_fnd pp_M_join 1 = (.getfield 47, (false, 4), (false, 0), (4, 16, 1), (0, 0, 533), []) ∧
  pw_fnd pp_M_join 4 = (.iload_n 1, (false, 5), (false, 0), (0, 0, 0), (0, 0, 0), []) ∧
  pw_fnd pp_M_join 5 = (.iload_n 2, (false, 6), (false, 0), (0, 0, 0), (0, 0, 0), []) ∧
  pw_fnd pp_M_join 6 = (.iastore, (false, 7), (false, 0), (0, 0, 0), (0, 0, 0), []) ∧
  pw_fnd pp_M_join 7 = (.aload_n 0, (false, 8), (false, 0), (0, 0, 0), (0, 0, 0), []) ∧
  pw_fnd pp_M_join 8 = (.getfield 50, (false, 11), (false, 0), (4, 17, 1), (0, 0, 534), []) ∧
  pw_fnd pp_M_join 11 = (.iload_n 1, (false, 12), (false, 0), (0, 0, 0), (0, 0, 0), []) ∧
  pw_fnd pp_M_join 12 = (.iload_n 3, (false, 13), (false, 0), (0, 0, 0), (0, 0, 0), []) ∧
  pw_fnd pp_M_join 13 = (.iastore, (false, 14), (false, 0), (0, 0, 0), (0, 0, 0), []) ∧
  pw_fnd pp_M_join 14 = (.aload_n 0, (false, 15), (false, 0), (0, 0, 0), (0, 0, 0), []) ∧
  pw_fnd pp_M_join 15 = (.dup, (false, 16), (false, 0), (0, 0, 0), (0, 0, 0), []) ∧
  pw_fnd pp_M_join 16 = (.getfield 134, (false, 19), (false, 0), (4, 19, 0), (0, 0, 536), []) ∧
  pw_fnd pp_M_join 19 = (.iconst 1, (false, 20), (false, 0), (0, 0, 0), (0, 0, 0), [(1, (false, 0))]) ∧
  pw_fnd pp_M_join 20 = (.iadd, (false, 21), (false, 0), (0, 0, 0), (0, 0, 0), []) ∧
  pw_fnd pp_M_join 21 = (.putfield 134, (false, 24), (false, 0), (4, 19, 0), (0, 0, 536), []) ∧
  pw_fnd pp_M_join 24 = (.aload_n 0, (false, 25), (false, 0), (0, 0, 0), (0, 0, 0), []) ∧
  pw_fnd pp_M_join 25 = (.getfield 53, (false, 28), (false, 0), (4, 18, 1), (0, 0, 535), []) ∧
  pw_fnd pp_M_join 28 = (.iload_n 1, (false, 29), (false, 0), (0, 0, 0), (0, 0, 0), []) ∧
  pw_fnd pp_M_join 29 = (.aload_n 0, (false, 30), (false, 0), (0, 0, 0), (0, 0, 0), []) ∧
  pw_fnd pp_M_join 30 = (.getfield 134, (false, 33), (false, 0), (4, 19, 0), (0, 0, 536), []) ∧
  pw_fnd pp_M_join 33 = (.iastore, (false, 34), (false, 0), (0, 0, 0), (0, 0, 0), []) ∧
  pw_fnd pp_M_join 34 = (.return_, (false, 35), (false, 0), (0, 0, 0), (0, 0, 0), []) :=
  ⟨rfl, rfl, rfl, rfl, rfl, rfl, rfl, rfl, rfl, rfl, rfl, rfl, rfl, rfl, rfl, rfl, rfl, rfl, rfl, rfl, rfl, rfl, rfl⟩
set_option maxRecDepth 100000 in
theorem pk_M_join : pp_M_join.all (fun q => pw_chk pw_jt pm_M_join q.1 q.2) = true := by decide +kernel
def pp_M_placeOf : List (Nat × pw_E) := [(0, (.iconst 0, (false, 1), (false, 0), (0, 0, 0), (0, 0, 0), [(0, (false, 0))])),
  (1, (.istore_n 2, (false, 2), (false, 0), (0, 0, 0), (0, 0, 0), [])),
  (2, (.iconst 0, (false, 3), (false, 0), (0, 0, 0), (0, 0, 0), [(0, (false, 0))])),
  (3, (.istore_n 3, (true, 4), (false, 0), (0, 0, 0), (0, 0, 0), [])),
  (4, (.iload_n 3, (false, 5), (false, 0), (0, 0, 0), (0, 0, 0), [])),
  (5, (.aload_n 0, (false, 6), (false, 0), (0, 0, 0), (0, 0, 0), [])),
  (6, (.getfield 91, (false, 9), (false, 0), (4, 14, 0), (0, 0, 531), [])),
  (9, (.if_icmp .ge 62, (false, 12), (false, 71), (0, 0, 0), (0, 0, 0), [])),
  (12, (.iload_n 2, (false, 13), (false, 0), (0, 0, 0), (0, 0, 0), [])),
  (13, (.aload_n 0, (false, 14), (false, 0), (0, 0, 0), (0, 0, 0), [])),
  (14, (.getfield 47, (false, 17), (false, 0), (4, 16, 1), (0, 0, 533), [])),
  (17, (.iload_n 3, (false, 18), (false, 0), (0, 0, 0), (0, 0, 0), [])),
  (18, (.iaload, (false, 19), (false, 0), (0, 0, 0), (0, 0, 0), [])),
  (19, (.aload_n 0, (false, 20), (false, 0), (0, 0, 0), (0, 0, 0), [])),
  (20, (.getfield 47, (false, 23), (false, 0), (4, 16, 1), (0, 0, 533), [])),
  (23, (.iload_n 1, (false, 24), (false, 0), (0, 0, 0), (0, 0, 0), [])),
  (24, (.iaload, (false, 25), (false, 0), (0, 0, 0), (0, 0, 0), [])),
  (25, (.if_icmp .ne 37, (false, 28), (false, 62), (0, 0, 0), (0, 0, 0), [])),
  (28, (.aload_n 0, (false, 29), (false, 0), (0, 0, 0), (0, 0, 0), [])),
  (29, (.getfield 50, (false, 32), (false, 0), (4, 17, 1), (0, 0, 534), [])),
  (32, (.iload_n 3, (false, 33), (false, 0), (0, 0, 0), (0, 0, 0), [])),
  (33, (.iaload, (false, 34), (false, 0), (0, 0, 0), (0, 0, 0), [])),
  (34, (.aload_n 0, (false, 35), (false, 0), (0, 0, 0), (0, 0, 0), [])),
  (35, (.getfield 50, (false, 38), (false, 0), (4, 17, 1), (0, 0, 534), [])),
  (38, (.iload_n 1, (false, 39), (false, 0), (0, 0, 0), (0, 0, 0), [])),
  (39, (.iaload, (false, 40), (false, 0), (0, 0, 0), (0, 0, 0), [])),
  (40, (.if_icmp .ne 22, (false, 43), (false, 62), (0, 0, 0), (0, 0, 0), [])),
  (43, (.aload_n 0, (false, 44), (false, 0), (0, 0, 0), (0, 0, 0), [])),
  (44, (.getfield 53, (false, 47), (false, 0), (4, 18, 1), (0, 0, 535), [])),
  (47, (.iload_n 3, (false, 48), (false, 0), (0, 0, 0), (0, 0, 0), [])),
  (48, (.iaload, (false, 49), (false, 0), (0, 0, 0), (0, 0, 0), [])),
  (49, (.aload_n 0, (false, 50), (false, 0), (0, 0, 0), (0, 0, 0), [])),
  (50, (.getfield 53, (false, 53), (false, 0), (4, 18, 1), (0, 0, 535), [])),
  (53, (.iload_n 1, (false, 54), (false, 0), (0, 0, 0), (0, 0, 0), [])),
  (54, (.iaload, (false, 55), (false, 0), (0, 0, 0), (0, 0, 0), [])),
  (55, (.if_icmp .ge 7, (false, 58), (false, 62), (0, 0, 0), (0, 0, 0), [])),
  (58, (.iconst 1, (false, 59), (false, 0), (0, 0, 0), (0, 0, 0), [(1, (false, 0))])),
  (59, (.goto 4, (false, 62), (false, 63), (0, 0, 0), (0, 0, 0), [])),
  (62, (.iconst 0, (false, 63), (false, 0), (0, 0, 0), (0, 0, 0), [(0, (false, 0))])),
  (63, (.iadd, (false, 64), (false, 0), (0, 0, 0), (0, 0, 0), [])),
  (64, (.istore_n 2, (false, 65), (false, 0), (0, 0, 0), (0, 0, 0), [])),
  (65, (.iinc 3 1, (false, 68), (false, 0), (0, 0, 0), (0, 0, 0), [(1, (false, 0))])),
  (68, (.goto (-64), (false, 71), (true, 4), (0, 0, 0), (0, 0, 0), [])),
  (71, (.iload_n 2, (false, 72), (false, 0), (0, 0, 0), (0, 0, 0), [])),
  (72, (.ireturn, (false, 73), (false, 0), (0, 0, 0), (0, 0, 0), []))]
set_option maxRecDepth 100000 in
theorem pe_M_placeOf : pw_fnd pp_M_placeOf 0 = (.iconst 0, (false, 1), (false, 0), (0, 0, 0), (0, 0, 0), [(0, (false, 0))]) ∧
  pw_fnd pp_M_placeOf 1 = (.istore_n 2, (false, 2), (false, 0), (0, 0, 0), (0, 0, 0), []) ∧
  pw_fnd pp_M_placeOf 2 = (.iconst 0, (false, 3), (false, 0), (0, 0, 0), (0, 0, 0), [(0, (false, 0))]) ∧
  pw_fnd pp_M_placeOf 3 = (.istore_n 3, (true, 4), (false, 0), (0, 0, 0), (0, 0, 0), []) ∧
  pw_fnd pp_M_placeOf 4 = (.iload_n 3, (false, 5), (false, 0), (0, 0, 0), (0, 0, 0), []) ∧
  pw_fnd pp_M_placeOf 5 = (.aload_n 0, (false, 6), (false, 0), (0, 0, 0), (0, 0, 0), []) ∧
  pw_fnd pp_M_placeOf 6 = (.getfield 91, (false, 9), (false, 0), (4, 14, 0), (0, 0, 531), []) ∧
  pw_fnd pp_M_placeOf 9 = (.if_icmp .ge 62, (false, 12), (false, 71), (0, 0, 0), (0, 0, 0), []) ∧
  pw_fnd pp_M_placeOf 12 = (.iload_n 2, (false, 13), (false, 0), (0, 0, 0), (0, 0, 0), []) ∧
  pw_fnd pp_M_placeOf 13 = (.aload_n 0, (false, 14), (false, 0), (0, 0, 0), (0, 0, 0), []) ∧
  pw_fnd pp_M_placeOf 14 = (.getfield 47, (false, 17), (false, 0), (4, 16, 1), (0, 0, 533), []) ∧
  pw_fnd pp_M_placeOf 17 = (.iload_n 3, (false, 18), (false, 0), (0, 0, 0), (0, 0, 0), []) ∧
  pw_fnd pp_M_placeOf 18 = (.iaload, (false, 19), (false, 0), (0, 0, 0), (0, 0, 0), []) ∧
  pw_fnd pp_M_placeOf 19 = (.aload_n 0, (false, 20), (false, 0), (0, 0, 0), (0, 0, 0), []) ∧
  pw_fnd pp_M_placeOf 20 = (.getfield 47, (false, 23), (false, 0), (4, 16, 1), (0, 0, 533), []) ∧
  pw_fnd pp_M_placeOf 23 = (.iload_n 1, (false, 24), (false, 0), (0, 0, 0), (0, 0, 0), []) ∧
  pw_fnd pp_M_placeOf 24 = (.iaload, (false, 25), (false, 0), (0, 0, 0), (0, 0, 0), []) ∧
  pw_fnd pp_M_placeOf 25 = (.if_icmp .ne 37, (false, 28), (false, 62), (0, 0, 0), (0, 0, 0), []) ∧
  pw_fnd pp_M_placeOf 28 = (.aload_n 0, (false, 29), (false, 0), (0, 0, 0), (0, 0, 0), []) ∧
  pw_fnd pp_M_placeOf 29 = (.getfield 50, (false, 32), (false, 0), (4, 17, 1), (0, 0, 534), []) ∧
  pw_fnd pp_M_placeOf 32 = (.iload_n 3, (false, 33), (false, 0), (0, 0, 0), (0, 0, 0), []) ∧
  pw_fnd pp_M_placeOf 33 = (.iaload, (false, 34), (false, 0), (0, 0, 0), (0, 0, 0), []) ∧
  pw_fnd pp_M_placeOf 34 = (.aload_n 0, (false, 35), (false, 0), (0, 0, 0), (0, 0, 0), []) ∧
  pw_fnd pp_M_placeOf 35 = (.getfield 50, (false, 38), (false, 0), (4, 17, 1), (0, 0, 534), []) ∧
  pw_fnd pp_M_placeOf 38 = (.iload_n 1, (false, 39), (false, 0), (0, 0, 0), (0, 0, 0), []) ∧
  pw_fnd pp_M_placeOf 39 = (.iaload, (false, 40), (false, 0), (0, 0, 0), (0, 0, 0), []) ∧
  pw_fnd pp_M_placeOf 40 = (.if_icmp .ne 22, (false, 43), (false, 62), (0, 0, 0), (0, 0, 0), []) ∧
  pw_fnd pp_M_placeOf 43 = (.aload_n 0, (false, 44), (false, 0), (0, 0, 0), (0, 0, 0), []) ∧
  pw_fnd pp_M_placeOf 44 = (.getfield 53, (false, 47), (false, 0), (4, 18, 1), (0, 0, 535), []) ∧
  pw_fnd pp_M_placeOf 47 = (.iload_n 3, (false, 48), (false, 0), (0, 0, 0), (0, 0, 0), []) ∧
  pw_fnd pp_M_placeOf 48 = (.iaload, (false, 49), (false, 0), (0, 0, 0), (0, 0, 0), []) ∧
  pw_fnd pp_M_placeOf 49 = (.aload_n 0, (false, 50), (false, 0), (0, 0, 0), (0, 0, 0), []) ∧
  pw_fnd pp_M_placeOf 50 = (.getfield 53, (false, 53), (false, 0), (4, 18, 1), (0, 0, 535), []) ∧
  pw_fnd pp_M_placeOf 53 = (.iload_n 1, (false, 54), (false, 0), (0, 0, 0), (0, 0, 0), []) ∧
  pw_fnd pp_M_placeOf 54 = (.iaload, (false, 55), (false, 0), (0, 0, 0), (0, 0, 0), []) ∧
  pw_fnd pp_M_placeOf 55 = (.if_icmp .ge 7, (false, 58), (false, 62), (0, 0, 0), (0, 0, 0), []) ∧
  pw_fnd pp_M_placeOf 58 = (.iconst 1, (false, 59), (false, 0), (0, 0, 0), (0, 0, 0), [(1, (false, 0))]) ∧
  pw_fnd pp_M_placeOf 59 = (.goto 4, (false, 62), (false, 63), (0, 0, 0), (0, 0, 0), []) ∧
  pw_fnd pp_M_placeOf 62 = (.iconst 0, (false, 63), (false, 0), (0, 0, 0), (0, 0, 0), [(0, (false, 0))]) ∧
  pw_fnd pp_M_placeOf 63 = (.iadd, (false, 64), (false, 0), (0, 0, 0), (0, 0, 0), []) ∧
  pw_fnd pp_M_placeOf 64 = (.istore_n 2, (false, 65), (false, 0), (0, 0, 0), (0, 0, 0), []) ∧
  pw_fnd pp_M_placeOf 65 = (.iinc 3 1, (false, 68), (false, 0), (0, 0, 0), (0, 0, 0), [(1, (false, 0))]) ∧
  pw_fnd pp_M_placeOf 68 = (.goto (-64), (false, 71), (true, 4), (0, 0, 0), (0, 0, 0), []) ∧
  pw_fnd pp_M_placeOf 71 = (.iload_n 2, (false, 72), (false, 0), (0, 0, 0), (0, 0, 0), []) ∧
  pw_fnd pp_M_placeOf 72 = (.ireturn, (false, 73), (false, 0), (0, 0, 0), (0, 0, 0), []) :=
  ⟨rfl, rfl, rfl, rfl, rfl, rfl, rfl, rfl, rfl, rfl, rfl, rfl, rfl, rfl, rfl, rfl, rfl, rfl, rfl, rfl, rfl, rfl, rfl, rfl, rfl, rfl, rfl, rfl, rfl, rfl, rfl, rfl, rfl, rfl, rfl, rfl, rfl, rfl, rfl, rfl, rfl, rfl, rfl, rfl, rfl⟩
set_option maxRecDepth 100000 in
theorem pk_M_placeOf : pp_M_placeOf.all (fun q => pw_chk pw_jt pm_M_placeOf q.1 q.2) = true := by decide +kernel
def pp_M_next : List (Nat × pw_E) := [(0, (.iconst (-1), (false, 1), (false, 0), (0, 0, 0), (0, 0, 0), [((-1), (false, 0))])),
  (1, (.istore 4, (false, 3), (false, 0), (0, 0, 0), (0, 0, 0), [])),
  (3, (.iconst 0, (false, 4), (false, 0), (0, 0, 0), (0, 0, 0), [(0, (false, 0))])),
  (4, (.istore 5, (true, 6), (false, 0), (0, 0, 0), (0, 0, 0), [])),
  (6, (.iload 5, (false, 8), (false, 0), (0, 0, 0), (0, 0, 0), [])),
  (8, (.aload_n 0, (false, 9), (false, 0), (0, 0, 0), (0, 0, 0), [])),
  (9, (.getfield 91, (false, 12), (false, 0), (4, 14, 0), (0, 0, 531), [])),
  (12, (.if_icmp .ge 85, (false, 15), (false, 97), (0, 0, 0), (0, 0, 0), [])),
  (15, (.aload_n 0, (false, 16), (false, 0), (0, 0, 0), (0, 0, 0), [])),
  (16, (.getfield 47, (false, 19), (false, 0), (4, 16, 1), (0, 0, 533), [])),
  (19, (.iload 5, (false, 21), (false, 0), (0, 0, 0), (0, 0, 0), [])),
  (21, (.iaload, (false, 22), (false, 0), (0, 0, 0), (0, 0, 0), [])),
  (22, (.iload_n 2, (false, 23), (false, 0), (0, 0, 0), (0, 0, 0), [])),
  (23, (.if_icmp .ne 29, (false, 26), (false, 52), (0, 0, 0), (0, 0, 0), [])),
  (26, (.aload_n 0, (false, 27), (false, 0), (0, 0, 0), (0, 0, 0), [])),
  (27, (.getfield 50, (false, 30), (false, 0), (4, 17, 1), (0, 0, 534), [])),
  (30, (.iload 5, (false, 32), (false, 0), (0, 0, 0), (0, 0, 0), [])),
  (32, (.iaload, (false, 33), (false, 0), (0, 0, 0), (0, 0, 0), [])),
  (33, (.iload_n 1, (false, 34), (false, 0), (0, 0, 0), (0, 0, 0), [])),
  (34, (.if_icmp .ne 18, (false, 37), (false, 52), (0, 0, 0), (0, 0, 0), [])),
  (37, (.aload_n 0, (false, 38), (false, 0), (0, 0, 0), (0, 0, 0), [])),
  (38, (.getfield 53, (false, 41), (false, 0), (4, 18, 1), (0, 0, 535), [])),
  (41, (.iload 5, (false, 43), (false, 0), (0, 0, 0), (0, 0, 0), [])),
  (43, (.iaload, (false, 44), (false, 0), (0, 0, 0), (0, 0, 0), [])),
  (44, (.iload_n 3, (false, 45), (false, 0), (0, 0, 0), (0, 0, 0), [])),
  (45, (.if_icmp .le 7, (false, 48), (false, 52), (0, 0, 0), (0, 0, 0), [])),
  (48, (.iconst 1, (false, 49), (false, 0), (0, 0, 0), (0, 0, 0), [(1, (false, 0))])),
  (49, (.goto 4, (false, 52), (false, 53), (0, 0, 0), (0, 0, 0), [])),
  (52, (.iconst 0, (false, 53), (false, 0), (0, 0, 0), (0, 0, 0), [(0, (false, 0))])),
  (53, (.istore 6, (false, 55), (false, 0), (0, 0, 0), (0, 0, 0), [])),
  (55, (.iload 6, (false, 57), (false, 0), (0, 0, 0), (0, 0, 0), [])),
  (57, (.ifCond .eq 30, (false, 60), (false, 87), (0, 0, 0), (0, 0, 0), [])),
  (60, (.iload 4, (false, 62), (false, 0), (0, 0, 0), (0, 0, 0), [])),
  (62, (.ifCond .lt 20, (false, 65), (false, 82), (0, 0, 0), (0, 0, 0), [])),
  (65, (.aload_n 0, (false, 66), (false, 0), (0, 0, 0), (0, 0, 0), [])),
  (66, (.getfield 53, (false, 69), (false, 0), (4, 18, 1), (0, 0, 535), [])),
  (69, (.iload 5, (false, 71), (false, 0), (0, 0, 0), (0, 0, 0), [])),
  (71, (.iaload, (false, 72), (false, 0), (0, 0, 0), (0, 0, 0), [])),
  (72, (.aload_n 0, (false, 73), (false, 0), (0, 0, 0), (0, 0, 0), [])),
  (73, (.getfield 53, (false, 76), (false, 0), (4, 18, 1), (0, 0, 535), [])),
  (76, (.iload 4, (false, 78), (false, 0), (0, 0, 0), (0, 0, 0), [])),
  (78, (.iaload, (false, 79), (false, 0), (0, 0, 0), (0, 0, 0), [])),
  (79, (.if_icmp .ge 8, (false, 82), (false, 87), (0, 0, 0), (0, 0, 0), [])),
  (82, (.iload 5, (false, 84), (false, 0), (0, 0, 0), (0, 0, 0), [])),
  (84, (.goto 5, (false, 87), (false, 89), (0, 0, 0), (0, 0, 0), [])),
  (87, (.iload 4, (false, 89), (false, 0), (0, 0, 0), (0, 0, 0), [])),
  (89, (.istore 4, (false, 91), (false, 0), (0, 0, 0), (0, 0, 0), [])),
  (91, (.iinc 5 1, (false, 94), (false, 0), (0, 0, 0), (0, 0, 0), [(1, (false, 0))])),
  (94, (.goto (-88), (false, 97), (true, 6), (0, 0, 0), (0, 0, 0), [])),
  (97, (.iload 4, (false, 99), (false, 0), (0, 0, 0), (0, 0, 0), [])),
  (99, (.ireturn, (false, 100), (false, 0), (0, 0, 0), (0, 0, 0), []))]
set_option maxRecDepth 100000 in
theorem pe_M_next : pw_fnd pp_M_next 0 = (.iconst (-1), (false, 1), (false, 0), (0, 0, 0), (0, 0, 0), [((-1), (false, 0))]) ∧
  pw_fnd pp_M_next 1 = (.istore 4, (false, 3), (false, 0), (0, 0, 0), (0, 0, 0), []) ∧
  pw_fnd pp_M_next 3 = (.iconst 0, (false, 4), (false, 0), (0, 0, 0), (0, 0, 0), [(0, (false, 0))]) ∧
  pw_fnd pp_M_next 4 = (.istore 5, (true, 6), (false, 0), (0, 0, 0), (0, 0, 0), []) ∧
  pw_fnd pp_M_next 6 = (.iload 5, (false, 8), (false, 0), (0, 0, 0), (0, 0, 0), []) ∧
  pw_fnd pp_M_next 8 = (.aload_n 0, (false, 9), (false, 0), (0, 0, 0), (0, 0, 0), []) ∧
  pw_fnd pp_M_next 9 = (.getfield 91, (false, 12), (false, 0), (4, 14, 0), (0, 0, 531), []) ∧
  pw_fnd pp_M_next 12 = (.if_icmp .ge 85, (false, 15), (false, 97), (0, 0, 0), (0, 0, 0), []) ∧
  pw_fnd pp_M_next 15 = (.aload_n 0, (false, 16), (false, 0), (0, 0, 0), (0, 0, 0), []) ∧
  pw_fnd pp_M_next 16 = (.getfield 47, (false, 19), (false, 0), (4, 16, 1), (0, 0, 533), []) ∧
  pw_fnd pp_M_next 19 = (.iload 5, (false, 21), (false, 0), (0, 0, 0), (0, 0, 0), []) ∧
  pw_fnd pp_M_next 21 = (.iaload, (false, 22), (false, 0), (0, 0, 0), (0, 0, 0), []) ∧
  pw_fnd pp_M_next 22 = (.iload_n 2, (false, 23), (false, 0), (0, 0, 0), (0, 0, 0), []) ∧
  pw_fnd pp_M_next 23 = (.if_icmp .ne 29, (false, 26), (false, 52), (0, 0, 0), (0, 0, 0), []) ∧
  pw_fnd pp_M_next 26 = (.aload_n 0, (false, 27), (false, 0), (0, 0, 0), (0, 0, 0), []) ∧
  pw_fnd pp_M_next 27 = (.getfield 50, (false, 30), (false, 0), (4, 17, 1), (0, 0, 534), []) ∧
  pw_fnd pp_M_next 30 = (.iload 5, (false, 32), (false, 0), (0, 0, 0), (0, 0, 0), []) ∧
  pw_fnd pp_M_next 32 = (.iaload, (false, 33), (false, 0), (0, 0, 0), (0, 0, 0), []) ∧
  pw_fnd pp_M_next 33 = (.iload_n 1, (false, 34), (false, 0), (0, 0, 0), (0, 0, 0), []) ∧
  pw_fnd pp_M_next 34 = (.if_icmp .ne 18, (false, 37), (false, 52), (0, 0, 0), (0, 0, 0), []) ∧
  pw_fnd pp_M_next 37 = (.aload_n 0, (false, 38), (false, 0), (0, 0, 0), (0, 0, 0), []) ∧
  pw_fnd pp_M_next 38 = (.getfield 53, (false, 41), (false, 0), (4, 18, 1), (0, 0, 535), []) ∧
  pw_fnd pp_M_next 41 = (.iload 5, (false, 43), (false, 0), (0, 0, 0), (0, 0, 0), []) ∧
  pw_fnd pp_M_next 43 = (.iaload, (false, 44), (false, 0), (0, 0, 0), (0, 0, 0), []) ∧
  pw_fnd pp_M_next 44 = (.iload_n 3, (false, 45), (false, 0), (0, 0, 0), (0, 0, 0), []) ∧
  pw_fnd pp_M_next 45 = (.if_icmp .le 7, (false, 48), (false, 52), (0, 0, 0), (0, 0, 0), []) ∧
  pw_fnd pp_M_next 48 = (.iconst 1, (false, 49), (false, 0), (0, 0, 0), (0, 0, 0), [(1, (false, 0))]) ∧
  pw_fnd pp_M_next 49 = (.goto 4, (false, 52), (false, 53), (0, 0, 0), (0, 0, 0), []) ∧
  pw_fnd pp_M_next 52 = (.iconst 0, (false, 53), (false, 0), (0, 0, 0), (0, 0, 0), [(0, (false, 0))]) ∧
  pw_fnd pp_M_next 53 = (.istore 6, (false, 55), (false, 0), (0, 0, 0), (0, 0, 0), []) ∧
  pw_fnd pp_M_next 55 = (.iload 6, (false, 57), (false, 0), (0, 0, 0), (0, 0, 0), []) ∧
  pw_fnd pp_M_next 57 = (.ifCond .eq 30, (false, 60), (false, 87), (0, 0, 0), (0, 0, 0), []) ∧
  pw_fnd pp_M_next 60 = (.iload 4, (false, 62), (false, 0), (0, 0, 0), (0, 0, 0), []) ∧
  pw_fnd pp_M_next 62 = (.ifCond .lt 20, (false, 65), (false, 82), (0, 0, 0), (0, 0, 0), []) ∧
  pw_fnd pp_M_next 65 = (.aload_n 0, (false, 66), (false, 0), (0, 0, 0), (0, 0, 0), []) ∧
  pw_fnd pp_M_next 66 = (.getfield 53, (false, 69), (false, 0), (4, 18, 1), (0, 0, 535), []) ∧
  pw_fnd pp_M_next 69 = (.iload 5, (false, 71), (false, 0), (0, 0, 0), (0, 0, 0), []) ∧
  pw_fnd pp_M_next 71 = (.iaload, (false, 72), (false, 0), (0, 0, 0), (0, 0, 0), []) ∧
  pw_fnd pp_M_next 72 = (.aload_n 0, (false, 73), (false, 0), (0, 0, 0), (0, 0, 0), []) ∧
  pw_fnd pp_M_next 73 = (.getfield 53, (false, 76), (false, 0), (4, 18, 1), (0, 0, 535), []) ∧
  pw_fnd pp_M_next 76 = (.iload 4, (false, 78), (false, 0), (0, 0, 0), (0, 0, 0), []) ∧
  pw_fnd pp_M_next 78 = (.iaload, (false, 79), (false, 0), (0, 0, 0), (0, 0, 0), []) ∧
  pw_fnd pp_M_next 79 = (.if_icmp .ge 8, (false, 82), (false, 87), (0, 0, 0), (0, 0, 0), []) ∧
  pw_fnd pp_M_next 82 = (.iload 5, (false, 84), (false, 0), (0, 0, 0), (0, 0, 0), []) ∧
  pw_fnd pp_M_next 84 = (.goto 5, (false, 87), (false, 89), (0, 0, 0), (0, 0, 0), []) ∧
  pw_fnd pp_M_next 87 = (.iload 4, (false, 89), (false, 0), (0, 0, 0), (0, 0, 0), []) ∧
  pw_fnd pp_M_next 89 = (.istore 4, (false, 91), (false, 0), (0, 0, 0), (0, 0, 0), []) ∧
  pw_fnd pp_M_next 91 = (.iinc 5 1, (false, 94), (false, 0), (0, 0, 0), (0, 0, 0), [(1, (false, 0))]) ∧
  pw_fnd pp_M_next 94 = (.goto (-88), (false, 97), (true, 6), (0, 0, 0), (0, 0, 0), []) ∧
  pw_fnd pp_M_next 97 = (.iload 4, (false, 99), (false, 0), (0, 0, 0), (0, 0, 0), []) ∧
  pw_fnd pp_M_next 99 = (.ireturn, (false, 100), (false, 0), (0, 0, 0), (0, 0, 0), []) :=
  ⟨rfl, rfl, rfl, rfl, rfl, rfl, rfl, rfl, rfl, rfl, rfl, rfl, rfl, rfl, rfl, rfl, rfl, rfl, rfl, rfl, rfl, rfl, rfl, rfl, rfl, rfl, rfl, rfl, rfl, rfl, rfl, rfl, rfl, rfl, rfl, rfl, rfl, rfl, rfl, rfl, rfl, rfl, rfl, rfl, rfl, rfl, rfl, rfl, rfl, rfl, rfl⟩
set_option maxRecDepth 100000 in
theorem pk_M_next : pp_M_next.all (fun q => pw_chk pw_jt pm_M_next q.1 q.2) = true := by decide +kernel
def pp_M_rain : List (Nat × pw_E) := [(0, (.aload_n 0, (false, 1), (false, 0), (0, 0, 0), (0, 0, 0), [])),
  (1, (.getfield 144, (false, 4), (false, 0), (4, 1, 2), (0, 0, 518), [])),
  (4, (.iload_n 1, (false, 5), (false, 0), (0, 0, 0), (0, 0, 0), [])),
  (5, (.if_icmp .eq 7, (false, 8), (false, 12), (0, 0, 0), (0, 0, 0), [])),
  (8, (.iconst 1, (false, 9), (false, 0), (0, 0, 0), (0, 0, 0), [(1, (false, 0))])),
  (9, (.goto 4, (false, 12), (false, 13), (0, 0, 0), (0, 0, 0), [])),
  (12, (.iconst 0, (false, 13), (false, 0), (0, 0, 0), (0, 0, 0), [(0, (false, 0))])),
  (13, (.istore_n 2, (false, 14), (false, 0), (0, 0, 0), (0, 0, 0), [])),
  (14, (.aload_n 0, (false, 15), (false, 0), (0, 0, 0), (0, 0, 0), [])),
  (15, (.iload_n 1, (false, 16), (false, 0), (0, 0, 0), (0, 0, 0), [])),
  (16, (.putfield 144, (false, 19), (false, 0), (4, 1, 2), (0, 0, 518), [])),
  (19, (.iload_n 2, (false, 20), (false, 0), (0, 0, 0), (0, 0, 0), [])),
  (20, (.ireturn, (false, 21), (false, 0), (0, 0, 2), (0, 0, 0), []))]
set_option maxRecDepth 100000 in
theorem pe_M_rain : pw_fnd pp_M_rain 0 = (.aload_n 0, (false, 1), (false, 0), (0, 0, 0), (0, 0, 0), []) ∧
  pw_fnd pp_M_rain 1 = (.getfield 144, (false, 4), (false, 0), (4, 1, 2), (0, 0, 518), []) ∧
  pw_fnd pp_M_rain 4 = (.iload_n 1, (false, 5), (false, 0), (0, 0, 0), (0, 0, 0), []) ∧
  pw_fnd pp_M_rain 5 = (.if_icmp .eq 7, (false, 8), (false, 12), (0, 0, 0), (0, 0, 0), []) ∧
  pw_fnd pp_M_rain 8 = (.iconst 1, (false, 9), (false, 0), (0, 0, 0), (0, 0, 0), [(1, (false, 0))]) ∧
  pw_fnd pp_M_rain 9 = (.goto 4, (false, 12), (false, 13), (0, 0, 0), (0, 0, 0), []) ∧
  pw_fnd pp_M_rain 12 = (.iconst 0, (false, 13), (false, 0), (0, 0, 0), (0, 0, 0), [(0, (false, 0))]) ∧
  pw_fnd pp_M_rain 13 = (.istore_n 2, (false, 14), (false, 0), (0, 0, 0), (0, 0, 0), []) ∧
  pw_fnd pp_M_rain 14 = (.aload_n 0, (false, 15), (false, 0), (0, 0, 0), (0, 0, 0), []) ∧
  pw_fnd pp_M_rain 15 = (.iload_n 1, (false, 16), (false, 0), (0, 0, 0), (0, 0, 0), []) ∧
  pw_fnd pp_M_rain 16 = (.putfield 144, (false, 19), (false, 0), (4, 1, 2), (0, 0, 518), []) ∧
  pw_fnd pp_M_rain 19 = (.iload_n 2, (false, 20), (false, 0), (0, 0, 0), (0, 0, 0), []) ∧
  pw_fnd pp_M_rain 20 = (.ireturn, (false, 21), (false, 0), (0, 0, 2), (0, 0, 0), []) :=
  ⟨rfl, rfl, rfl, rfl, rfl, rfl, rfl, rfl, rfl, rfl, rfl, rfl, rfl⟩
set_option maxRecDepth 100000 in
theorem pk_M_rain : pp_M_rain.all (fun q => pw_chk pw_jt pm_M_rain q.1 q.2) = true := by decide +kernel
def pp_M_runs : List (Nat × pw_E) := [(0, (.aload_n 0, (false, 1), (false, 0), (0, 0, 0), (0, 0, 0), [])),
  (1, (.getfield 25, (false, 4), (false, 0), (4, 8, 1), (0, 0, 525), [])),
  (4, (.iload_n 1, (false, 5), (false, 0), (0, 0, 0), (0, 0, 0), [])),
  (5, (.baload, (false, 6), (false, 0), (0, 0, 0), (0, 0, 0), [])),
  (6, (.ifCond .ne 24, (false, 9), (false, 30), (0, 0, 0), (0, 0, 0), [])),
  (9, (.aload_n 0, (false, 10), (false, 0), (0, 0, 0), (0, 0, 0), [])),
  (10, (.getfield 22, (false, 13), (false, 0), (4, 7, 1), (0, 0, 524), [])),
  (13, (.iload_n 1, (false, 14), (false, 0), (0, 0, 0), (0, 0, 0), [])),
  (14, (.iaload, (false, 15), (false, 0), (0, 0, 0), (0, 0, 0), [])),
  (15, (.iconst 3, (false, 16), (false, 0), (0, 0, 0), (0, 0, 0), [(3, (false, 0))])),
  (16, (.if_icmp .ne 10, (false, 19), (false, 26), (0, 0, 0), (0, 0, 0), [])),
  (19, (.aload_n 0, (false, 20), (false, 0), (0, 0, 0), (0, 0, 0), [])),
  (20, (.getfield 144, (false, 23), (false, 0), (4, 1, 2), (0, 0, 518), [])),
  (23, (.ifCond .ne 7, (false, 26), (false, 30), (0, 0, 0), (0, 0, 0), [])),
  (26, (.iconst 1, (false, 27), (false, 0), (0, 0, 0), (0, 0, 0), [(1, (false, 0))])),
  (27, (.goto 4, (false, 30), (false, 31), (0, 0, 0), (0, 0, 0), [])),
  (30, (.iconst 0, (false, 31), (false, 0), (0, 0, 0), (0, 0, 0), [(0, (false, 0))])),
  (31, (.ireturn, (false, 32), (false, 0), (0, 0, 2), (0, 0, 0), []))]
set_option maxRecDepth 100000 in
theorem pe_M_runs : pw_fnd pp_M_runs 0 = (.aload_n 0, (false, 1), (false, 0), (0, 0, 0), (0, 0, 0), []) ∧
  pw_fnd pp_M_runs 1 = (.getfield 25, (false, 4), (false, 0), (4, 8, 1), (0, 0, 525), []) ∧
  pw_fnd pp_M_runs 4 = (.iload_n 1, (false, 5), (false, 0), (0, 0, 0), (0, 0, 0), []) ∧
  pw_fnd pp_M_runs 5 = (.baload, (false, 6), (false, 0), (0, 0, 0), (0, 0, 0), []) ∧
  pw_fnd pp_M_runs 6 = (.ifCond .ne 24, (false, 9), (false, 30), (0, 0, 0), (0, 0, 0), []) ∧
  pw_fnd pp_M_runs 9 = (.aload_n 0, (false, 10), (false, 0), (0, 0, 0), (0, 0, 0), []) ∧
  pw_fnd pp_M_runs 10 = (.getfield 22, (false, 13), (false, 0), (4, 7, 1), (0, 0, 524), []) ∧
  pw_fnd pp_M_runs 13 = (.iload_n 1, (false, 14), (false, 0), (0, 0, 0), (0, 0, 0), []) ∧
  pw_fnd pp_M_runs 14 = (.iaload, (false, 15), (false, 0), (0, 0, 0), (0, 0, 0), []) ∧
  pw_fnd pp_M_runs 15 = (.iconst 3, (false, 16), (false, 0), (0, 0, 0), (0, 0, 0), [(3, (false, 0))]) ∧
  pw_fnd pp_M_runs 16 = (.if_icmp .ne 10, (false, 19), (false, 26), (0, 0, 0), (0, 0, 0), []) ∧
  pw_fnd pp_M_runs 19 = (.aload_n 0, (false, 20), (false, 0), (0, 0, 0), (0, 0, 0), []) ∧
  pw_fnd pp_M_runs 20 = (.getfield 144, (false, 23), (false, 0), (4, 1, 2), (0, 0, 518), []) ∧
  pw_fnd pp_M_runs 23 = (.ifCond .ne 7, (false, 26), (false, 30), (0, 0, 0), (0, 0, 0), []) ∧
  pw_fnd pp_M_runs 26 = (.iconst 1, (false, 27), (false, 0), (0, 0, 0), (0, 0, 0), [(1, (false, 0))]) ∧
  pw_fnd pp_M_runs 27 = (.goto 4, (false, 30), (false, 31), (0, 0, 0), (0, 0, 0), []) ∧
  pw_fnd pp_M_runs 30 = (.iconst 0, (false, 31), (false, 0), (0, 0, 0), (0, 0, 0), [(0, (false, 0))]) ∧
  pw_fnd pp_M_runs 31 = (.ireturn, (false, 32), (false, 0), (0, 0, 2), (0, 0, 0), []) :=
  ⟨rfl, rfl, rfl, rfl, rfl, rfl, rfl, rfl, rfl, rfl, rfl, rfl, rfl, rfl, rfl, rfl, rfl, rfl⟩
set_option maxRecDepth 100000 in
theorem pk_M_runs : pp_M_runs.all (fun q => pw_chk pw_jt pm_M_runs q.1 q.2) = true := by decide +kernel
def pp_M_board : List (Nat × pw_E) := [(0, (.aload_n 0, (false, 1), (false, 0), (0, 0, 0), (0, 0, 0), [])),
  (1, (.getfield 47, (false, 4), (false, 0), (4, 16, 1), (0, 0, 533), [])),
  (4, (.iload_n 1, (false, 5), (false, 0), (0, 0, 0), (0, 0, 0), [])),
  (5, (.iconst 3, (false, 6), (false, 0), (0, 0, 0), (0, 0, 0), [(3, (false, 0))])),
  (6, (.iastore, (false, 7), (false, 0), (0, 0, 0), (0, 0, 0), [])),
  (7, (.aload_n 0, (false, 8), (false, 0), (0, 0, 0), (0, 0, 0), [])),
  (8, (.getfield 56, (false, 11), (false, 0), (4, 20, 1), (0, 0, 537), [])),
  (11, (.iload_n 1, (false, 12), (false, 0), (0, 0, 0), (0, 0, 0), [])),
  (12, (.aload_n 0, (false, 13), (false, 0), (0, 0, 0), (0, 0, 0), [])),
  (13, (.getfield 114, (false, 16), (false, 0), (4, 0, 0), (0, 0, 517), [])),
  (16, (.iastore, (false, 17), (false, 0), (0, 0, 0), (0, 0, 0), [])),
  (17, (.aload_n 0, (false, 18), (false, 0), (0, 0, 0), (0, 0, 0), [])),
  (18, (.getfield 71, (false, 21), (false, 0), (4, 25, 1), (0, 0, 542), [])),
  (21, (.iload_n 1, (false, 22), (false, 0), (0, 0, 0), (0, 0, 0), [])),
  (22, (.dup2, (false, 23), (false, 0), (0, 0, 0), (0, 0, 0), [])),
  (23, (.iaload, (false, 24), (false, 0), (0, 0, 0), (0, 0, 0), [])),
  (24, (.iconst 1, (false, 25), (false, 0), (0, 0, 0), (0, 0, 0), [(1, (false, 0))])),
  (25, (.iadd, (false, 26), (false, 0), (0, 0, 0), (0, 0, 0), [])),
  (26, (.iastore, (false, 27), (false, 0), (0, 0, 0), (0, 0, 0), [])),
  (27, (.aload_n 0, (false, 28), (false, 0), (0, 0, 0), (0, 0, 0), [])),
  (28, (.dup, (false, 29), (false, 0), (0, 0, 0), (0, 0, 0), [])),
  (29, (.getfield 148, (false, 32), (false, 0), (4, 29, 0), (0, 0, 546), [])),
  (32, (.aload_n 0, (false, 33), (false, 0), (0, 0, 0), (0, 0, 0), [])),
  (33, (.getfield 44, (false, 36), (false, 0), (4, 15, 1), (0, 0, 532), [])),
  (36, (.iload_n 1, (false, 37), (false, 0), (0, 0, 0), (0, 0, 0), [])),
  (37, (.iaload, (false, 38), (false, 0), (0, 0, 0), (0, 0, 0), [])),
  (38, (.isub, (false, 39), (false, 0), (0, 0, 0), (0, 0, 0), [])),
  (39, (.putfield 148, (false, 42), (false, 0), (4, 29, 0), (0, 0, 546), [])),
  (42, (.return_, (false, 43), (false, 0), (0, 0, 0), (0, 0, 0), []))]
set_option maxRecDepth 100000 in
theorem pe_M_board : pw_fnd pp_M_board 0 = (.aload_n 0, (false, 1), (false, 0), (0, 0, 0), (0, 0, 0), []) ∧
  pw_fnd pp_M_board 1 = (.getfield 47, (false, 4), (false, 0), (4, 16, 1), (0, 0, 533), []) ∧
  pw_fnd pp_M_board 4 = (.iload_n 1, (false, 5), (false, 0), (0, 0, 0), (0, 0, 0), []) ∧
  pw_fnd pp_M_board 5 = (.iconst 3, (false, 6), (false, 0), (0, 0, 0), (0, 0, 0), [(3, (false, 0))]) ∧
  pw_fnd pp_M_board 6 = (.iastore, (false, 7), (false, 0), (0, 0, 0), (0, 0, 0), []) ∧
  pw_fnd pp_M_board 7 = (.aload_n 0, (false, 8), (false, 0), (0, 0, 0), (0, 0, 0), []) ∧
  pw_fnd pp_M_board 8 = (.getfield 56, (false, 11), (false, 0), (4, 20, 1), (0, 0, 537), []) ∧
  pw_fnd pp_M_board 11 = (.iload_n 1, (false, 12), (false, 0), (0, 0, 0), (0, 0, 0), []) ∧
  pw_fnd pp_M_board 12 = (.aload_n 0, (false, 13), (false, 0), (0, 0, 0), (0, 0, 0), []) ∧
  pw_fnd pp_M_board 13 = (.getfield 114, (false, 16), (false, 0), (4, 0, 0), (0, 0, 517), []) ∧
  pw_fnd pp_M_board 16 = (.iastore, (false, 17), (false, 0), (0, 0, 0), (0, 0, 0), []) ∧
  pw_fnd pp_M_board 17 = (.aload_n 0, (false, 18), (false, 0), (0, 0, 0), (0, 0, 0), []) ∧
  pw_fnd pp_M_board 18 = (.getfield 71, (false, 21), (false, 0), (4, 25, 1), (0, 0, 542), []) ∧
  pw_fnd pp_M_board 21 = (.iload_n 1, (false, 22), (false, 0), (0, 0, 0), (0, 0, 0), []) ∧
  pw_fnd pp_M_board 22 = (.dup2, (false, 23), (false, 0), (0, 0, 0), (0, 0, 0), []) ∧
  pw_fnd pp_M_board 23 = (.iaload, (false, 24), (false, 0), (0, 0, 0), (0, 0, 0), []) ∧
  pw_fnd pp_M_board 24 = (.iconst 1, (false, 25), (false, 0), (0, 0, 0), (0, 0, 0), [(1, (false, 0))]) ∧
  pw_fnd pp_M_board 25 = (.iadd, (false, 26), (false, 0), (0, 0, 0), (0, 0, 0), []) ∧
  pw_fnd pp_M_board 26 = (.iastore, (false, 27), (false, 0), (0, 0, 0), (0, 0, 0), []) ∧
  pw_fnd pp_M_board 27 = (.aload_n 0, (false, 28), (false, 0), (0, 0, 0), (0, 0, 0), []) ∧
  pw_fnd pp_M_board 28 = (.dup, (false, 29), (false, 0), (0, 0, 0), (0, 0, 0), []) ∧
  pw_fnd pp_M_board 29 = (.getfield 148, (false, 32), (false, 0), (4, 29, 0), (0, 0, 546), []) ∧
  pw_fnd pp_M_board 32 = (.aload_n 0, (false, 33), (false, 0), (0, 0, 0), (0, 0, 0), []) ∧
  pw_fnd pp_M_board 33 = (.getfield 44, (false, 36), (false, 0), (4, 15, 1), (0, 0, 532), []) ∧
  pw_fnd pp_M_board 36 = (.iload_n 1, (false, 37), (false, 0), (0, 0, 0), (0, 0, 0), []) ∧
  pw_fnd pp_M_board 37 = (.iaload, (false, 38), (false, 0), (0, 0, 0), (0, 0, 0), []) ∧
  pw_fnd pp_M_board 38 = (.isub, (false, 39), (false, 0), (0, 0, 0), (0, 0, 0), []) ∧
  pw_fnd pp_M_board 39 = (.putfield 148, (false, 42), (false, 0), (4, 29, 0), (0, 0, 546), []) ∧
  pw_fnd pp_M_board 42 = (.return_, (false, 43), (false, 0), (0, 0, 0), (0, 0, 0), []) :=
  ⟨rfl, rfl, rfl, rfl, rfl, rfl, rfl, rfl, rfl, rfl, rfl, rfl, rfl, rfl, rfl, rfl, rfl, rfl, rfl, rfl, rfl, rfl, rfl, rfl, rfl, rfl, rfl, rfl, rfl⟩
set_option maxRecDepth 100000 in
theorem pk_M_board : pp_M_board.all (fun q => pw_chk pw_jt pm_M_board q.1 q.2) = true := by decide +kernel
def pp_M_manyAt : List (Nat × pw_E) := [(0, (.iconst 0, (false, 1), (false, 0), (0, 0, 0), (0, 0, 0), [(0, (false, 0))])),
  (1, (.istore 4, (false, 3), (false, 0), (0, 0, 0), (0, 0, 0), [])),
  (3, (.iconst 0, (false, 4), (false, 0), (0, 0, 0), (0, 0, 0), [(0, (false, 0))])),
  (4, (.istore 5, (true, 6), (false, 0), (0, 0, 0), (0, 0, 0), [])),
  (6, (.iload 5, (false, 8), (false, 0), (0, 0, 0), (0, 0, 0), [])),
  (8, (.aload_n 0, (false, 9), (false, 0), (0, 0, 0), (0, 0, 0), [])),
  (9, (.getfield 91, (false, 12), (false, 0), (4, 14, 0), (0, 0, 531), [])),
  (12, (.if_icmp .ge 59, (false, 15), (false, 71), (0, 0, 0), (0, 0, 0), [])),
  (15, (.iload 4, (false, 17), (false, 0), (0, 0, 0), (0, 0, 0), [])),
  (17, (.aload_n 0, (false, 18), (false, 0), (0, 0, 0), (0, 0, 0), [])),
  (18, (.getfield 47, (false, 21), (false, 0), (4, 16, 1), (0, 0, 533), [])),
  (21, (.iload 5, (false, 23), (false, 0), (0, 0, 0), (0, 0, 0), [])),
  (23, (.iaload, (false, 24), (false, 0), (0, 0, 0), (0, 0, 0), [])),
  (24, (.iload_n 2, (false, 25), (false, 0), (0, 0, 0), (0, 0, 0), [])),
  (25, (.if_icmp .ne 36, (false, 28), (false, 61), (0, 0, 0), (0, 0, 0), [])),
  (28, (.iload_n 1, (false, 29), (false, 0), (0, 0, 0), (0, 0, 0), [])),
  (29, (.ifCond .lt 14, (false, 32), (false, 43), (0, 0, 0), (0, 0, 0), [])),
  (32, (.aload_n 0, (false, 33), (false, 0), (0, 0, 0), (0, 0, 0), [])),
  (33, (.getfield 50, (false, 36), (false, 0), (4, 17, 1), (0, 0, 534), [])),
  (36, (.iload 5, (false, 38), (false, 0), (0, 0, 0), (0, 0, 0), [])),
  (38, (.iaload, (false, 39), (false, 0), (0, 0, 0), (0, 0, 0), [])),
  (39, (.iload_n 1, (false, 40), (false, 0), (0, 0, 0), (0, 0, 0), [])),
  (40, (.if_icmp .ne 21, (false, 43), (false, 61), (0, 0, 0), (0, 0, 0), [])),
  (43, (.iload_n 3, (false, 44), (false, 0), (0, 0, 0), (0, 0, 0), [])),
  (44, (.ifCond .eq 13, (false, 47), (false, 57), (0, 0, 0), (0, 0, 0), [])),
  (47, (.aload_n 0, (false, 48), (false, 0), (0, 0, 0), (0, 0, 0), [])),
  (48, (.getfield 44, (false, 51), (false, 0), (4, 15, 1), (0, 0, 532), [])),
  (51, (.iload 5, (false, 53), (false, 0), (0, 0, 0), (0, 0, 0), [])),
  (53, (.iaload, (false, 54), (false, 0), (0, 0, 0), (0, 0, 0), [])),
  (54, (.goto 8, (false, 57), (false, 62), (0, 0, 0), (0, 0, 0), [])),
  (57, (.iconst 1, (false, 58), (false, 0), (0, 0, 0), (0, 0, 0), [(1, (false, 0))])),
  (58, (.goto 4, (false, 61), (false, 62), (0, 0, 0), (0, 0, 0), [])),
  (61, (.iconst 0, (false, 62), (false, 0), (0, 0, 0), (0, 0, 0), [(0, (false, 0))])),
  (62, (.iadd, (false, 63), (false, 0), (0, 0, 0), (0, 0, 0), [])),
  (63, (.istore 4, (false, 65), (false, 0), (0, 0, 0), (0, 0, 0), [])),
  (65, (.iinc 5 1, (false, 68), (false, 0), (0, 0, 0), (0, 0, 0), [(1, (false, 0))])),
  (68, (.goto (-62), (false, 71), (true, 6), (0, 0, 0), (0, 0, 0), [])),
  (71, (.iload 4, (false, 73), (false, 0), (0, 0, 0), (0, 0, 0), [])),
  (73, (.ireturn, (false, 74), (false, 0), (0, 0, 0), (0, 0, 0), []))]
set_option maxRecDepth 100000 in
theorem pe_M_manyAt : pw_fnd pp_M_manyAt 0 = (.iconst 0, (false, 1), (false, 0), (0, 0, 0), (0, 0, 0), [(0, (false, 0))]) ∧
  pw_fnd pp_M_manyAt 1 = (.istore 4, (false, 3), (false, 0), (0, 0, 0), (0, 0, 0), []) ∧
  pw_fnd pp_M_manyAt 3 = (.iconst 0, (false, 4), (false, 0), (0, 0, 0), (0, 0, 0), [(0, (false, 0))]) ∧
  pw_fnd pp_M_manyAt 4 = (.istore 5, (true, 6), (false, 0), (0, 0, 0), (0, 0, 0), []) ∧
  pw_fnd pp_M_manyAt 6 = (.iload 5, (false, 8), (false, 0), (0, 0, 0), (0, 0, 0), []) ∧
  pw_fnd pp_M_manyAt 8 = (.aload_n 0, (false, 9), (false, 0), (0, 0, 0), (0, 0, 0), []) ∧
  pw_fnd pp_M_manyAt 9 = (.getfield 91, (false, 12), (false, 0), (4, 14, 0), (0, 0, 531), []) ∧
  pw_fnd pp_M_manyAt 12 = (.if_icmp .ge 59, (false, 15), (false, 71), (0, 0, 0), (0, 0, 0), []) ∧
  pw_fnd pp_M_manyAt 15 = (.iload 4, (false, 17), (false, 0), (0, 0, 0), (0, 0, 0), []) ∧
  pw_fnd pp_M_manyAt 17 = (.aload_n 0, (false, 18), (false, 0), (0, 0, 0), (0, 0, 0), []) ∧
  pw_fnd pp_M_manyAt 18 = (.getfield 47, (false, 21), (false, 0), (4, 16, 1), (0, 0, 533), []) ∧
  pw_fnd pp_M_manyAt 21 = (.iload 5, (false, 23), (false, 0), (0, 0, 0), (0, 0, 0), []) ∧
  pw_fnd pp_M_manyAt 23 = (.iaload, (false, 24), (false, 0), (0, 0, 0), (0, 0, 0), []) ∧
  pw_fnd pp_M_manyAt 24 = (.iload_n 2, (false, 25), (false, 0), (0, 0, 0), (0, 0, 0), []) ∧
  pw_fnd pp_M_manyAt 25 = (.if_icmp .ne 36, (false, 28), (false, 61), (0, 0, 0), (0, 0, 0), []) ∧
  pw_fnd pp_M_manyAt 28 = (.iload_n 1, (false, 29), (false, 0), (0, 0, 0), (0, 0, 0), []) ∧
  pw_fnd pp_M_manyAt 29 = (.ifCond .lt 14, (false, 32), (false, 43), (0, 0, 0), (0, 0, 0), []) ∧
  pw_fnd pp_M_manyAt 32 = (.aload_n 0, (false, 33), (false, 0), (0, 0, 0), (0, 0, 0), []) ∧
  pw_fnd pp_M_manyAt 33 = (.getfield 50, (false, 36), (false, 0), (4, 17, 1), (0, 0, 534), []) ∧
  pw_fnd pp_M_manyAt 36 = (.iload 5, (false, 38), (false, 0), (0, 0, 0), (0, 0, 0), []) ∧
  pw_fnd pp_M_manyAt 38 = (.iaload, (false, 39), (false, 0), (0, 0, 0), (0, 0, 0), []) ∧
  pw_fnd pp_M_manyAt 39 = (.iload_n 1, (false, 40), (false, 0), (0, 0, 0), (0, 0, 0), []) ∧
  pw_fnd pp_M_manyAt 40 = (.if_icmp .ne 21, (false, 43), (false, 61), (0, 0, 0), (0, 0, 0), []) ∧
  pw_fnd pp_M_manyAt 43 = (.iload_n 3, (false, 44), (false, 0), (0, 0, 0), (0, 0, 0), []) ∧
  pw_fnd pp_M_manyAt 44 = (.ifCond .eq 13, (false, 47), (false, 57), (0, 0, 0), (0, 0, 0), []) ∧
  pw_fnd pp_M_manyAt 47 = (.aload_n 0, (false, 48), (false, 0), (0, 0, 0), (0, 0, 0), []) ∧
  pw_fnd pp_M_manyAt 48 = (.getfield 44, (false, 51), (false, 0), (4, 15, 1), (0, 0, 532), []) ∧
  pw_fnd pp_M_manyAt 51 = (.iload 5, (false, 53), (false, 0), (0, 0, 0), (0, 0, 0), []) ∧
  pw_fnd pp_M_manyAt 53 = (.iaload, (false, 54), (false, 0), (0, 0, 0), (0, 0, 0), []) ∧
  pw_fnd pp_M_manyAt 54 = (.goto 8, (false, 57), (false, 62), (0, 0, 0), (0, 0, 0), []) ∧
  pw_fnd pp_M_manyAt 57 = (.iconst 1, (false, 58), (false, 0), (0, 0, 0), (0, 0, 0), [(1, (false, 0))]) ∧
  pw_fnd pp_M_manyAt 58 = (.goto 4, (false, 61), (false, 62), (0, 0, 0), (0, 0, 0), []) ∧
  pw_fnd pp_M_manyAt 61 = (.iconst 0, (false, 62), (false, 0), (0, 0, 0), (0, 0, 0), [(0, (false, 0))]) ∧
  pw_fnd pp_M_manyAt 62 = (.iadd, (false, 63), (false, 0), (0, 0, 0), (0, 0, 0), []) ∧
  pw_fnd pp_M_manyAt 63 = (.istore 4, (false, 65), (false, 0), (0, 0, 0), (0, 0, 0), []) ∧
  pw_fnd pp_M_manyAt 65 = (.iinc 5 1, (false, 68), (false, 0), (0, 0, 0), (0, 0, 0), [(1, (false, 0))]) ∧
  pw_fnd pp_M_manyAt 68 = (.goto (-62), (false, 71), (true, 6), (0, 0, 0), (0, 0, 0), []) ∧
  pw_fnd pp_M_manyAt 71 = (.iload 4, (false, 73), (false, 0), (0, 0, 0), (0, 0, 0), []) ∧
  pw_fnd pp_M_manyAt 73 = (.ireturn, (false, 74), (false, 0), (0, 0, 0), (0, 0, 0), []) :=
  ⟨rfl, rfl, rfl, rfl, rfl, rfl, rfl, rfl, rfl, rfl, rfl, rfl, rfl, rfl, rfl, rfl, rfl, rfl, rfl, rfl, rfl, rfl, rfl, rfl, rfl, rfl, rfl, rfl, rfl, rfl, rfl, rfl, rfl, rfl, rfl, rfl, rfl, rfl, rfl⟩
set_option maxRecDepth 100000 in
theorem pk_M_manyAt : pp_M_manyAt.all (fun q => pw_chk pw_jt pm_M_manyAt q.1 q.2) = true := by decide +kernel
def pp_M_init : List (Nat × pw_E) := [(0, (.aload_n 0, (false, 1), (false, 0), (0, 0, 0), (0, 0, 0), [])),
  (1, (.invokespecial 1, (false, 4), (false, 0), (1001, 0, 0), (80, 81, 516), [])),
  (4, (.aload_n 0, (false, 5), (false, 0), (0, 0, 0), (0, 0, 0), [])),
  (5, (.bipush 8, (false, 7), (false, 0), (0, 0, 0), (0, 0, 0), [(8, (false, 0))])),
  (7, (.newarray .int, (false, 9), (false, 0), (1, 0, 0), (0, 0, 111), [])),
  (9, (.putfield 7, (false, 12), (false, 0), (4, 3, 1), (0, 0, 520), [])),
  (12, (.aload_n 0, (false, 13), (false, 0), (0, 0, 0), (0, 0, 0), [])),
  (13, (.bipush 8, (false, 15), (false, 0), (0, 0, 0), (0, 0, 0), [(8, (false, 0))])),
  (15, (.newarray .int, (false, 17), (false, 0), (1, 0, 0), (0, 0, 111), [])),
  (17, (.putfield 13, (false, 20), (false, 0), (4, 4, 1), (0, 0, 521), [])),
  (20, (.aload_n 0, (false, 21), (false, 0), (0, 0, 0), (0, 0, 0), [])),
  (21, (.bipush 8, (false, 23), (false, 0), (0, 0, 0), (0, 0, 0), [(8, (false, 0))])),
  (23, (.newarray .int, (false, 25), (false, 0), (1, 0, 0), (0, 0, 111), [])),
  (25, (.putfield 16, (false, 28), (false, 0), (4, 5, 1), (0, 0, 522), [])),
  (28, (.aload_n 0, (false, 29), (false, 0), (0, 0, 0), (0, 0, 0), [])),
  (29, (.bipush 8, (false, 31), (false, 0), (0, 0, 0), (0, 0, 0), [(8, (false, 0))])),
  (31, (.newarray .int, (false, 33), (false, 0), (1, 0, 0), (0, 0, 111), [])),
  (33, (.putfield 19, (false, 36), (false, 0), (4, 6, 1), (0, 0, 523), [])),
  (36, (.aload_n 0, (false, 37), (false, 0), (0, 0, 0), (0, 0, 0), [])),
  (37, (.bipush 8, (false, 39), (false, 0), (0, 0, 0), (0, 0, 0), [(8, (false, 0))])),
  (39, (.newarray .int, (false, 41), (false, 0), (1, 0, 0), (0, 0, 111), [])),
  (41, (.putfield 22, (false, 44), (false, 0), (4, 7, 1), (0, 0, 524), [])),
  (44, (.aload_n 0, (false, 45), (false, 0), (0, 0, 0), (0, 0, 0), [])),
  (45, (.bipush 8, (false, 47), (false, 0), (0, 0, 0), (0, 0, 0), [(8, (false, 0))])),
  (47, (.newarray .boolean, (false, 49), (false, 0), (2, 0, 0), (0, 0, 608), [])),
  (49, (.putfield 25, (false, 52), (false, 0), (4, 8, 1), (0, 0, 525), [])),
  (52, (.aload_n 0, (false, 53), (false, 0), (0, 0, 0), (0, 0, 0), [])),
  (53, (.bipush 8, (false, 55), (false, 0), (0, 0, 0), (0, 0, 0), [(8, (false, 0))])),
  (55, (.newarray .int, (false, 57), (false, 0), (1, 0, 0), (0, 0, 111), [])),
  (57, (.putfield 29, (false, 60), (false, 0), (4, 9, 1), (0, 0, 526), [])),
  (60, (.aload_n 0, (false, 61), (false, 0), (0, 0, 0), (0, 0, 0), [])),
  (61, (.bipush 8, (false, 63), (false, 0), (0, 0, 0), (0, 0, 0), [(8, (false, 0))])),
  (63, (.newarray .int, (false, 65), (false, 0), (1, 0, 0), (0, 0, 111), [])),
  (65, (.putfield 32, (false, 68), (false, 0), (4, 10, 1), (0, 0, 527), [])),
  (68, (.aload_n 0, (false, 69), (false, 0), (0, 0, 0), (0, 0, 0), [])),
  (69, (.bipush 8, (false, 71), (false, 0), (0, 0, 0), (0, 0, 0), [(8, (false, 0))])),
  (71, (.newarray .int, (false, 73), (false, 0), (1, 0, 0), (0, 0, 111), [])),
  (73, (.putfield 35, (false, 76), (false, 0), (4, 11, 1), (0, 0, 528), [])),
  (76, (.aload_n 0, (false, 77), (false, 0), (0, 0, 0), (0, 0, 0), [])),
  (77, (.bipush 64, (false, 79), (false, 0), (0, 0, 0), (0, 0, 0), [(64, (false, 0))])),
  (79, (.newarray .int, (false, 81), (false, 0), (1, 0, 0), (0, 0, 111), [])),
  (81, (.putfield 38, (false, 84), (false, 0), (4, 12, 1), (0, 0, 529), [])),
  (84, (.aload_n 0, (false, 85), (false, 0), (0, 0, 0), (0, 0, 0), [])),
  (85, (.sipush 8800, (false, 88), (false, 0), (0, 0, 0), (0, 0, 0), [(8800, (false, 0))])),
  (88, (.newarray .int, (false, 90), (false, 0), (1, 0, 0), (0, 0, 111), [])),
  (90, (.putfield 41, (false, 93), (false, 0), (4, 13, 1), (0, 0, 530), [])),
  (93, (.aload_n 0, (false, 94), (false, 0), (0, 0, 0), (0, 0, 0), [])),
  (94, (.bipush 60, (false, 96), (false, 0), (0, 0, 0), (0, 0, 0), [(60, (false, 0))])),
  (96, (.newarray .int, (false, 98), (false, 0), (1, 0, 0), (0, 0, 111), [])),
  (98, (.putfield 44, (false, 101), (false, 0), (4, 15, 1), (0, 0, 532), [])),
  (101, (.aload_n 0, (false, 102), (false, 0), (0, 0, 0), (0, 0, 0), [])),
  (102, (.bipush 60, (false, 104), (false, 0), (0, 0, 0), (0, 0, 0), [(60, (false, 0))])),
  (104, (.newarray .int, (false, 106), (false, 0), (1, 0, 0), (0, 0, 111), [])),
  (106, (.putfield 47, (false, 109), (false, 0), (4, 16, 1), (0, 0, 533), [])),
  (109, (.aload_n 0, (false, 110), (false, 0), (0, 0, 0), (0, 0, 0), [])),
  (110, (.bipush 60, (false, 112), (false, 0), (0, 0, 0), (0, 0, 0), [(60, (false, 0))])),
  (112, (.newarray .int, (false, 114), (false, 0), (1, 0, 0), (0, 0, 111), [])),
  (114, (.putfield 50, (false, 117), (false, 0), (4, 17, 1), (0, 0, 534), [])),
  (117, (.aload_n 0, (false, 118), (false, 0), (0, 0, 0), (0, 0, 0), [])),
  (118, (.bipush 60, (false, 120), (false, 0), (0, 0, 0), (0, 0, 0), [(60, (false, 0))])),
  (120, (.newarray .int, (false, 122), (false, 0), (1, 0, 0), (0, 0, 111), [])),
  (122, (.putfield 53, (false, 125), (false, 0), (4, 18, 1), (0, 0, 535), [])),
  (125, (.aload_n 0, (false, 126), (false, 0), (0, 0, 0), (0, 0, 0), [])),
  (126, (.bipush 60, (false, 128), (false, 0), (0, 0, 0), (0, 0, 0), [(60, (false, 0))])),
  (128, (.newarray .int, (false, 130), (false, 0), (1, 0, 0), (0, 0, 111), [])),
  (130, (.putfield 56, (false, 133), (false, 0), (4, 20, 1), (0, 0, 537), [])),
  (133, (.aload_n 0, (false, 134), (false, 0), (0, 0, 0), (0, 0, 0), [])),
  (134, (.bipush 60, (false, 136), (false, 0), (0, 0, 0), (0, 0, 0), [(60, (false, 0))])),
  (136, (.newarray .int, (false, 138), (false, 0), (1, 0, 0), (0, 0, 111), [])),
  (138, (.putfield 59, (false, 141), (false, 0), (4, 21, 1), (0, 0, 538), [])),
  (141, (.aload_n 0, (false, 142), (false, 0), (0, 0, 0), (0, 0, 0), [])),
  (142, (.bipush 120, (false, 144), (false, 0), (0, 0, 0), (0, 0, 0), [(120, (false, 0))])),
  (144, (.newarray .int, (false, 146), (false, 0), (1, 0, 0), (0, 0, 111), [])),
  (146, (.putfield 62, (false, 149), (false, 0), (4, 22, 1), (0, 0, 539), [])),
  (149, (.aload_n 0, (false, 150), (false, 0), (0, 0, 0), (0, 0, 0), [])),
  (150, (.bipush 120, (false, 152), (false, 0), (0, 0, 0), (0, 0, 0), [(120, (false, 0))])),
  (152, (.newarray .int, (false, 154), (false, 0), (1, 0, 0), (0, 0, 111), [])),
  (154, (.putfield 65, (false, 157), (false, 0), (4, 23, 1), (0, 0, 540), [])),
  (157, (.aload_n 0, (false, 158), (false, 0), (0, 0, 0), (0, 0, 0), [])),
  (158, (.bipush 60, (false, 160), (false, 0), (0, 0, 0), (0, 0, 0), [(60, (false, 0))])),
  (160, (.newarray .int, (false, 162), (false, 0), (1, 0, 0), (0, 0, 111), [])),
  (162, (.putfield 68, (false, 165), (false, 0), (4, 24, 1), (0, 0, 541), [])),
  (165, (.aload_n 0, (false, 166), (false, 0), (0, 0, 0), (0, 0, 0), [])),
  (166, (.bipush 60, (false, 168), (false, 0), (0, 0, 0), (0, 0, 0), [(60, (false, 0))])),
  (168, (.newarray .int, (false, 170), (false, 0), (1, 0, 0), (0, 0, 111), [])),
  (170, (.putfield 71, (false, 173), (false, 0), (4, 25, 1), (0, 0, 542), [])),
  (173, (.aload_n 0, (false, 174), (false, 0), (0, 0, 0), (0, 0, 0), [])),
  (174, (.bipush 60, (false, 176), (false, 0), (0, 0, 0), (0, 0, 0), [(60, (false, 0))])),
  (176, (.newarray .int, (false, 178), (false, 0), (1, 0, 0), (0, 0, 111), [])),
  (178, (.putfield 74, (false, 181), (false, 0), (4, 26, 1), (0, 0, 543), [])),
  (181, (.aload_n 0, (false, 182), (false, 0), (0, 0, 0), (0, 0, 0), [])),
  (182, (.bipush 60, (false, 184), (false, 0), (0, 0, 0), (0, 0, 0), [(60, (false, 0))])),
  (184, (.newarray .int, (false, 186), (false, 0), (1, 0, 0), (0, 0, 111), [])),
  (186, (.putfield 77, (false, 189), (false, 0), (4, 27, 1), (0, 0, 544), [])),
  (189, (.aload_n 0, (false, 190), (false, 0), (0, 0, 0), (0, 0, 0), [])),
  (190, (.bipush 7, (false, 192), (false, 0), (0, 0, 0), (0, 0, 0), [(7, (false, 0))])),
  (192, (.newarray .int, (false, 194), (false, 0), (1, 0, 0), (0, 0, 111), [])),
  (194, (.putfield 80, (false, 197), (false, 0), (4, 28, 1), (0, 0, 545), [])),
  (197, (.return_, (false, 198), (false, 0), (0, 0, 0), (0, 0, 0), []))]
set_option maxRecDepth 100000 in
theorem pe_M_init : pw_fnd pp_M_init 0 = (.aload_n 0, (false, 1), (false, 0), (0, 0, 0), (0, 0, 0), []) ∧
  pw_fnd pp_M_init 1 = (.invokespecial 1, (false, 4), (false, 0), (1001, 0, 0), (80, 81, 516), []) ∧
  pw_fnd pp_M_init 4 = (.aload_n 0, (false, 5), (false, 0), (0, 0, 0), (0, 0, 0), []) ∧
  pw_fnd pp_M_init 5 = (.bipush 8, (false, 7), (false, 0), (0, 0, 0), (0, 0, 0), [(8, (false, 0))]) ∧
  pw_fnd pp_M_init 7 = (.newarray .int, (false, 9), (false, 0), (1, 0, 0), (0, 0, 111), []) ∧
  pw_fnd pp_M_init 9 = (.putfield 7, (false, 12), (false, 0), (4, 3, 1), (0, 0, 520), []) ∧
  pw_fnd pp_M_init 12 = (.aload_n 0, (false, 13), (false, 0), (0, 0, 0), (0, 0, 0), []) ∧
  pw_fnd pp_M_init 13 = (.bipush 8, (false, 15), (false, 0), (0, 0, 0), (0, 0, 0), [(8, (false, 0))]) ∧
  pw_fnd pp_M_init 15 = (.newarray .int, (false, 17), (false, 0), (1, 0, 0), (0, 0, 111), []) ∧
  pw_fnd pp_M_init 17 = (.putfield 13, (false, 20), (false, 0), (4, 4, 1), (0, 0, 521), []) ∧
  pw_fnd pp_M_init 20 = (.aload_n 0, (false, 21), (false, 0), (0, 0, 0), (0, 0, 0), []) ∧
  pw_fnd pp_M_init 21 = (.bipush 8, (false, 23), (false, 0), (0, 0, 0), (0, 0, 0), [(8, (false, 0))]) ∧
  pw_fnd pp_M_init 23 = (.newarray .int, (false, 25), (false, 0), (1, 0, 0), (0, 0, 111), []) ∧
  pw_fnd pp_M_init 25 = (.putfield 16, (false, 28), (false, 0), (4, 5, 1), (0, 0, 522), []) ∧
  pw_fnd pp_M_init 28 = (.aload_n 0, (false, 29), (false, 0), (0, 0, 0), (0, 0, 0), []) ∧
  pw_fnd pp_M_init 29 = (.bipush 8, (false, 31), (false, 0), (0, 0, 0), (0, 0, 0), [(8, (false, 0))]) ∧
  pw_fnd pp_M_init 31 = (.newarray .int, (false, 33), (false, 0), (1, 0, 0), (0, 0, 111), []) ∧
  pw_fnd pp_M_init 33 = (.putfield 19, (false, 36), (false, 0), (4, 6, 1), (0, 0, 523), []) ∧
  pw_fnd pp_M_init 36 = (.aload_n 0, (false, 37), (false, 0), (0, 0, 0), (0, 0, 0), []) ∧
  pw_fnd pp_M_init 37 = (.bipush 8, (false, 39), (false, 0), (0, 0, 0), (0, 0, 0), [(8, (false, 0))]) ∧
  pw_fnd pp_M_init 39 = (.newarray .int, (false, 41), (false, 0), (1, 0, 0), (0, 0, 111), []) ∧
  pw_fnd pp_M_init 41 = (.putfield 22, (false, 44), (false, 0), (4, 7, 1), (0, 0, 524), []) ∧
  pw_fnd pp_M_init 44 = (.aload_n 0, (false, 45), (false, 0), (0, 0, 0), (0, 0, 0), []) ∧
  pw_fnd pp_M_init 45 = (.bipush 8, (false, 47), (false, 0), (0, 0, 0), (0, 0, 0), [(8, (false, 0))]) ∧
  pw_fnd pp_M_init 47 = (.newarray .boolean, (false, 49), (false, 0), (2, 0, 0), (0, 0, 608), []) ∧
  pw_fnd pp_M_init 49 = (.putfield 25, (false, 52), (false, 0), (4, 8, 1), (0, 0, 525), []) ∧
  pw_fnd pp_M_init 52 = (.aload_n 0, (false, 53), (false, 0), (0, 0, 0), (0, 0, 0), []) ∧
  pw_fnd pp_M_init 53 = (.bipush 8, (false, 55), (false, 0), (0, 0, 0), (0, 0, 0), [(8, (false, 0))]) ∧
  pw_fnd pp_M_init 55 = (.newarray .int, (false, 57), (false, 0), (1, 0, 0), (0, 0, 111), []) ∧
  pw_fnd pp_M_init 57 = (.putfield 29, (false, 60), (false, 0), (4, 9, 1), (0, 0, 526), []) ∧
  pw_fnd pp_M_init 60 = (.aload_n 0, (false, 61), (false, 0), (0, 0, 0), (0, 0, 0), []) ∧
  pw_fnd pp_M_init 61 = (.bipush 8, (false, 63), (false, 0), (0, 0, 0), (0, 0, 0), [(8, (false, 0))]) ∧
  pw_fnd pp_M_init 63 = (.newarray .int, (false, 65), (false, 0), (1, 0, 0), (0, 0, 111), []) ∧
  pw_fnd pp_M_init 65 = (.putfield 32, (false, 68), (false, 0), (4, 10, 1), (0, 0, 527), []) ∧
  pw_fnd pp_M_init 68 = (.aload_n 0, (false, 69), (false, 0), (0, 0, 0), (0, 0, 0), []) ∧
  pw_fnd pp_M_init 69 = (.bipush 8, (false, 71), (false, 0), (0, 0, 0), (0, 0, 0), [(8, (false, 0))]) ∧
  pw_fnd pp_M_init 71 = (.newarray .int, (false, 73), (false, 0), (1, 0, 0), (0, 0, 111), []) ∧
  pw_fnd pp_M_init 73 = (.putfield 35, (false, 76), (false, 0), (4, 11, 1), (0, 0, 528), []) ∧
  pw_fnd pp_M_init 76 = (.aload_n 0, (false, 77), (false, 0), (0, 0, 0), (0, 0, 0), []) ∧
  pw_fnd pp_M_init 77 = (.bipush 64, (false, 79), (false, 0), (0, 0, 0), (0, 0, 0), [(64, (false, 0))]) ∧
  pw_fnd pp_M_init 79 = (.newarray .int, (false, 81), (false, 0), (1, 0, 0), (0, 0, 111), []) ∧
  pw_fnd pp_M_init 81 = (.putfield 38, (false, 84), (false, 0), (4, 12, 1), (0, 0, 529), []) ∧
  pw_fnd pp_M_init 84 = (.aload_n 0, (false, 85), (false, 0), (0, 0, 0), (0, 0, 0), []) ∧
  pw_fnd pp_M_init 85 = (.sipush 8800, (false, 88), (false, 0), (0, 0, 0), (0, 0, 0), [(8800, (false, 0))]) ∧
  pw_fnd pp_M_init 88 = (.newarray .int, (false, 90), (false, 0), (1, 0, 0), (0, 0, 111), []) ∧
  pw_fnd pp_M_init 90 = (.putfield 41, (false, 93), (false, 0), (4, 13, 1), (0, 0, 530), []) ∧
  pw_fnd pp_M_init 93 = (.aload_n 0, (false, 94), (false, 0), (0, 0, 0), (0, 0, 0), []) ∧
  pw_fnd pp_M_init 94 = (.bipush 60, (false, 96), (false, 0), (0, 0, 0), (0, 0, 0), [(60, (false, 0))]) ∧
  pw_fnd pp_M_init 96 = (.newarray .int, (false, 98), (false, 0), (1, 0, 0), (0, 0, 111), []) ∧
  pw_fnd pp_M_init 98 = (.putfield 44, (false, 101), (false, 0), (4, 15, 1), (0, 0, 532), []) ∧
  pw_fnd pp_M_init 101 = (.aload_n 0, (false, 102), (false, 0), (0, 0, 0), (0, 0, 0), []) ∧
  pw_fnd pp_M_init 102 = (.bipush 60, (false, 104), (false, 0), (0, 0, 0), (0, 0, 0), [(60, (false, 0))]) ∧
  pw_fnd pp_M_init 104 = (.newarray .int, (false, 106), (false, 0), (1, 0, 0), (0, 0, 111), []) ∧
  pw_fnd pp_M_init 106 = (.putfield 47, (false, 109), (false, 0), (4, 16, 1), (0, 0, 533), []) ∧
  pw_fnd pp_M_init 109 = (.aload_n 0, (false, 110), (false, 0), (0, 0, 0), (0, 0, 0), []) ∧
  pw_fnd pp_M_init 110 = (.bipush 60, (false, 112), (false, 0), (0, 0, 0), (0, 0, 0), [(60, (false, 0))]) ∧
  pw_fnd pp_M_init 112 = (.newarray .int, (false, 114), (false, 0), (1, 0, 0), (0, 0, 111), []) ∧
  pw_fnd pp_M_init 114 = (.putfield 50, (false, 117), (false, 0), (4, 17, 1), (0, 0, 534), []) ∧
  pw_fnd pp_M_init 117 = (.aload_n 0, (false, 118), (false, 0), (0, 0, 0), (0, 0, 0), []) ∧
  pw_fnd pp_M_init 118 = (.bipush 60, (false, 120), (false, 0), (0, 0, 0), (0, 0, 0), [(60, (false, 0))]) ∧
  pw_fnd pp_M_init 120 = (.newarray .int, (false, 122), (false, 0), (1, 0, 0), (0, 0, 111), []) ∧
  pw_fnd pp_M_init 122 = (.putfield 53, (false, 125), (false, 0), (4, 18, 1), (0, 0, 535), []) ∧
  pw_fnd pp_M_init 125 = (.aload_n 0, (false, 126), (false, 0), (0, 0, 0), (0, 0, 0), []) ∧
  pw_fnd pp_M_init 126 = (.bipush 60, (false, 128), (false, 0), (0, 0, 0), (0, 0, 0), [(60, (false, 0))]) ∧
  pw_fnd pp_M_init 128 = (.newarray .int, (false, 130), (false, 0), (1, 0, 0), (0, 0, 111), []) ∧
  pw_fnd pp_M_init 130 = (.putfield 56, (false, 133), (false, 0), (4, 20, 1), (0, 0, 537), []) ∧
  pw_fnd pp_M_init 133 = (.aload_n 0, (false, 134), (false, 0), (0, 0, 0), (0, 0, 0), []) ∧
  pw_fnd pp_M_init 134 = (.bipush 60, (false, 136), (false, 0), (0, 0, 0), (0, 0, 0), [(60, (false, 0))]) ∧
  pw_fnd pp_M_init 136 = (.newarray .int, (false, 138), (false, 0), (1, 0, 0), (0, 0, 111), []) ∧
  pw_fnd pp_M_init 138 = (.putfield 59, (false, 141), (false, 0), (4, 21, 1), (0, 0, 538), []) ∧
  pw_fnd pp_M_init 141 = (.aload_n 0, (false, 142), (false, 0), (0, 0, 0), (0, 0, 0), []) ∧
  pw_fnd pp_M_init 142 = (.bipush 120, (false, 144), (false, 0), (0, 0, 0), (0, 0, 0), [(120, (false, 0))]) ∧
  pw_fnd pp_M_init 144 = (.newarray .int, (false, 146), (false, 0), (1, 0, 0), (0, 0, 111), []) ∧
  pw_fnd pp_M_init 146 = (.putfield 62, (false, 149), (false, 0), (4, 22, 1), (0, 0, 539), []) ∧
  pw_fnd pp_M_init 149 = (.aload_n 0, (false, 150), (false, 0), (0, 0, 0), (0, 0, 0), []) ∧
  pw_fnd pp_M_init 150 = (.bipush 120, (false, 152), (false, 0), (0, 0, 0), (0, 0, 0), [(120, (false, 0))]) ∧
  pw_fnd pp_M_init 152 = (.newarray .int, (false, 154), (false, 0), (1, 0, 0), (0, 0, 111), []) ∧
  pw_fnd pp_M_init 154 = (.putfield 65, (false, 157), (false, 0), (4, 23, 1), (0, 0, 540), []) ∧
  pw_fnd pp_M_init 157 = (.aload_n 0, (false, 158), (false, 0), (0, 0, 0), (0, 0, 0), []) ∧
  pw_fnd pp_M_init 158 = (.bipush 60, (false, 160), (false, 0), (0, 0, 0), (0, 0, 0), [(60, (false, 0))]) ∧
  pw_fnd pp_M_init 160 = (.newarray .int, (false, 162), (false, 0), (1, 0, 0), (0, 0, 111), []) ∧
  pw_fnd pp_M_init 162 = (.putfield 68, (false, 165), (false, 0), (4, 24, 1), (0, 0, 541), []) ∧
  pw_fnd pp_M_init 165 = (.aload_n 0, (false, 166), (false, 0), (0, 0, 0), (0, 0, 0), []) ∧
  pw_fnd pp_M_init 166 = (.bipush 60, (false, 168), (false, 0), (0, 0, 0), (0, 0, 0), [(60, (false, 0))]) ∧
  pw_fnd pp_M_init 168 = (.newarray .int, (false, 170), (false, 0), (1, 0, 0), (0, 0, 111), []) ∧
  pw_fnd pp_M_init 170 = (.putfield 71, (false, 173), (false, 0), (4, 25, 1), (0, 0, 542), []) ∧
  pw_fnd pp_M_init 173 = (.aload_n 0, (false, 174), (false, 0), (0, 0, 0), (0, 0, 0), []) ∧
  pw_fnd pp_M_init 174 = (.bipush 60, (false, 176), (false, 0), (0, 0, 0), (0, 0, 0), [(60, (false, 0))]) ∧
  pw_fnd pp_M_init 176 = (.newarray .int, (false, 178), (false, 0), (1, 0, 0), (0, 0, 111), []) ∧
  pw_fnd pp_M_init 178 = (.putfield 74, (false, 181), (false, 0), (4, 26, 1), (0, 0, 543), []) ∧
  pw_fnd pp_M_init 181 = (.aload_n 0, (false, 182), (false, 0), (0, 0, 0), (0, 0, 0), []) ∧
  pw_fnd pp_M_init 182 = (.bipush 60, (false, 184), (false, 0), (0, 0, 0), (0, 0, 0), [(60, (false, 0))]) ∧
  pw_fnd pp_M_init 184 = (.newarray .int, (false, 186), (false, 0), (1, 0, 0), (0, 0, 111), []) ∧
  pw_fnd pp_M_init 186 = (.putfield 77, (false, 189), (false, 0), (4, 27, 1), (0, 0, 544), []) ∧
  pw_fnd pp_M_init 189 = (.aload_n 0, (false, 190), (false, 0), (0, 0, 0), (0, 0, 0), []) ∧
  pw_fnd pp_M_init 190 = (.bipush 7, (false, 192), (false, 0), (0, 0, 0), (0, 0, 0), [(7, (false, 0))]) ∧
  pw_fnd pp_M_init 192 = (.newarray .int, (false, 194), (false, 0), (1, 0, 0), (0, 0, 111), []) ∧
  pw_fnd pp_M_init 194 = (.putfield 80, (false, 197), (false, 0), (4, 28, 1), (0, 0, 545), []) ∧
  pw_fnd pp_M_init 197 = (.return_, (false, 198), (false, 0), (0, 0, 0), (0, 0, 0), []) :=
  ⟨rfl, rfl, rfl, rfl, rfl, rfl, rfl, rfl, rfl, rfl, rfl, rfl, rfl, rfl, rfl, rfl, rfl, rfl, rfl, rfl, rfl, rfl, rfl, rfl, rfl, rfl, rfl, rfl, rfl, rfl, rfl, rfl, rfl, rfl, rfl, rfl, rfl, rfl, rfl, rfl, rfl, rfl, rfl, rfl, rfl, rfl, rfl, rfl, rfl, rfl, rfl, rfl, rfl, rfl, rfl, rfl, rfl, rfl, rfl, rfl, rfl, rfl, rfl, rfl, rfl, rfl, rfl, rfl, rfl, rfl, rfl, rfl, rfl, rfl, rfl, rfl, rfl, rfl, rfl, rfl, rfl, rfl, rfl, rfl, rfl, rfl, rfl, rfl, rfl, rfl, rfl, rfl, rfl, rfl, rfl, rfl, rfl, rfl, rfl⟩
set_option maxRecDepth 100000 in
theorem pk_M_init : pp_M_init.all (fun q => pw_chk pw_jt pm_M_init q.1 q.2) = true := by decide +kernel
def pp_M_isRide : List (Nat × pw_E) := [(0, (.iload_n 1, (false, 1), (false, 0), (0, 0, 0), (0, 0, 0), [])),
  (1, (.iconst 0, (false, 2), (false, 0), (0, 0, 0), (0, 0, 0), [(0, (false, 0))])),
  (2, (.aload_n 0, (false, 3), (false, 0), (0, 0, 0), (0, 0, 0), [])),
  (3, (.getfield 83, (false, 6), (false, 0), (4, 2, 0), (0, 0, 519), [])),
  (6, (.iconst 1, (false, 7), (false, 0), (0, 0, 0), (0, 0, 0), [(1, (false, 0))])),
  (7, (.isub, (false, 8), (false, 0), (0, 0, 0), (0, 0, 0), [])),
  (8, (.invokestatic 87, (false, 11), (false, 0), (19, 3, 1), (0, 0, 629), [])),
  (11, (.ireturn, (false, 12), (false, 0), (0, 0, 2), (0, 0, 0), []))]
set_option maxRecDepth 100000 in
theorem pe_M_isRide : pw_fnd pp_M_isRide 0 = (.iload_n 1, (false, 1), (false, 0), (0, 0, 0), (0, 0, 0), []) ∧
  pw_fnd pp_M_isRide 1 = (.iconst 0, (false, 2), (false, 0), (0, 0, 0), (0, 0, 0), [(0, (false, 0))]) ∧
  pw_fnd pp_M_isRide 2 = (.aload_n 0, (false, 3), (false, 0), (0, 0, 0), (0, 0, 0), []) ∧
  pw_fnd pp_M_isRide 3 = (.getfield 83, (false, 6), (false, 0), (4, 2, 0), (0, 0, 519), []) ∧
  pw_fnd pp_M_isRide 6 = (.iconst 1, (false, 7), (false, 0), (0, 0, 0), (0, 0, 0), [(1, (false, 0))]) ∧
  pw_fnd pp_M_isRide 7 = (.isub, (false, 8), (false, 0), (0, 0, 0), (0, 0, 0), []) ∧
  pw_fnd pp_M_isRide 8 = (.invokestatic 87, (false, 11), (false, 0), (19, 3, 1), (0, 0, 629), []) ∧
  pw_fnd pp_M_isRide 11 = (.ireturn, (false, 12), (false, 0), (0, 0, 2), (0, 0, 0), []) :=
  ⟨rfl, rfl, rfl, rfl, rfl, rfl, rfl, rfl⟩
set_option maxRecDepth 100000 in
theorem pk_M_isRide : pp_M_isRide.all (fun q => pw_chk pw_jt pm_M_isRide q.1 q.2) = true := by decide +kernel
def pp_M_isGroup : List (Nat × pw_E) := [(0, (.iload_n 1, (false, 1), (false, 0), (0, 0, 0), (0, 0, 0), [])),
  (1, (.iconst 0, (false, 2), (false, 0), (0, 0, 0), (0, 0, 0), [(0, (false, 0))])),
  (2, (.aload_n 0, (false, 3), (false, 0), (0, 0, 0), (0, 0, 0), [])),
  (3, (.getfield 91, (false, 6), (false, 0), (4, 14, 0), (0, 0, 531), [])),
  (6, (.iconst 1, (false, 7), (false, 0), (0, 0, 0), (0, 0, 0), [(1, (false, 0))])),
  (7, (.isub, (false, 8), (false, 0), (0, 0, 0), (0, 0, 0), [])),
  (8, (.invokestatic 87, (false, 11), (false, 0), (19, 3, 1), (0, 0, 629), [])),
  (11, (.ireturn, (false, 12), (false, 0), (0, 0, 2), (0, 0, 0), []))]
set_option maxRecDepth 100000 in
theorem pe_M_isGroup : pw_fnd pp_M_isGroup 0 = (.iload_n 1, (false, 1), (false, 0), (0, 0, 0), (0, 0, 0), []) ∧
  pw_fnd pp_M_isGroup 1 = (.iconst 0, (false, 2), (false, 0), (0, 0, 0), (0, 0, 0), [(0, (false, 0))]) ∧
  pw_fnd pp_M_isGroup 2 = (.aload_n 0, (false, 3), (false, 0), (0, 0, 0), (0, 0, 0), []) ∧
  pw_fnd pp_M_isGroup 3 = (.getfield 91, (false, 6), (false, 0), (4, 14, 0), (0, 0, 531), []) ∧
  pw_fnd pp_M_isGroup 6 = (.iconst 1, (false, 7), (false, 0), (0, 0, 0), (0, 0, 0), [(1, (false, 0))]) ∧
  pw_fnd pp_M_isGroup 7 = (.isub, (false, 8), (false, 0), (0, 0, 0), (0, 0, 0), []) ∧
  pw_fnd pp_M_isGroup 8 = (.invokestatic 87, (false, 11), (false, 0), (19, 3, 1), (0, 0, 629), []) ∧
  pw_fnd pp_M_isGroup 11 = (.ireturn, (false, 12), (false, 0), (0, 0, 2), (0, 0, 0), []) :=
  ⟨rfl, rfl, rfl, rfl, rfl, rfl, rfl, rfl⟩
set_option maxRecDepth 100000 in
theorem pk_M_isGroup : pp_M_isGroup.all (fun q => pw_chk pw_jt pm_M_isGroup q.1 q.2) = true := by decide +kernel
def pp_M_ride : List (Nat × pw_E) := [(0, (.iload_n 1, (false, 1), (false, 0), (0, 0, 0), (0, 0, 0), [])),
  (1, (.iconst 1, (false, 2), (false, 0), (0, 0, 0), (0, 0, 0), [(1, (false, 0))])),
  (2, (.if_icmp .lt 22, (false, 5), (false, 24), (0, 0, 0), (0, 0, 0), [])),
  (5, (.iload_n 2, (false, 6), (false, 0), (0, 0, 0), (0, 0, 0), [])),
  (6, (.iconst 1, (false, 7), (false, 0), (0, 0, 0), (0, 0, 0), [(1, (false, 0))])),
  (7, (.if_icmp .lt 17, (false, 10), (false, 24), (0, 0, 0), (0, 0, 0), [])),
  (10, (.iload_n 3, (false, 11), (false, 0), (0, 0, 0), (0, 0, 0), [])),
  (11, (.ifCond .lt 13, (false, 14), (false, 24), (0, 0, 0), (0, 0, 0), [])),
  (14, (.iload 4, (false, 16), (false, 0), (0, 0, 0), (0, 0, 0), [])),
  (16, (.ifCond .lt 8, (false, 19), (false, 24), (0, 0, 0), (0, 0, 0), [])),
  (19, (.iload 5, (false, 21), (false, 0), (0, 0, 0), (0, 0, 0), [])),
  (21, (.ifCond .ge 10, (false, 24), (false, 31), (0, 0, 0), (0, 0, 0), [])),
  (24, (.aload_n 0, (false, 25), (false, 0), (0, 0, 0), (0, 0, 0), [])),
  (25, (.bipush (-4), (false, 27), (false, 0), (0, 0, 0), (0, 0, 0), [((-4), (false, 0))])),
  (27, (.invokevirtual 94, (false, 30), (false, 4), (20, 2, 1), (0, 0, 613), [])),
  (30, (.ireturn, (false, 31), (false, 0), (0, 0, 0), (0, 0, 0), [])),
  (31, (.iload_n 1, (false, 32), (false, 0), (0, 0, 0), (0, 0, 0), [])),
  (32, (.bipush 40, (false, 34), (false, 0), (0, 0, 0), (0, 0, 0), [(40, (false, 0))])),
  (34, (.if_icmp .gt 36, (false, 37), (false, 70), (0, 0, 0), (0, 0, 0), [])),
  (37, (.iload_n 2, (false, 38), (false, 0), (0, 0, 0), (0, 0, 0), [])),
  (38, (.bipush 20, (false, 40), (false, 0), (0, 0, 0), (0, 0, 0), [(20, (false, 0))])),
  (40, (.if_icmp .gt 30, (false, 43), (false, 70), (0, 0, 0), (0, 0, 0), [])),
  (43, (.iload_n 3, (false, 44), (false, 0), (0, 0, 0), (0, 0, 0), [])),
  (44, (.iload_n 1, (false, 45), (false, 0), (0, 0, 0), (0, 0, 0), [])),
  (45, (.if_icmp .gt 25, (false, 48), (false, 70), (0, 0, 0), (0, 0, 0), [])),
  (48, (.iload 4, (false, 50), (false, 0), (0, 0, 0), (0, 0, 0), [])),
  (50, (.bipush 99, (false, 52), (false, 0), (0, 0, 0), (0, 0, 0), [(99, (false, 0))])),
  (52, (.if_icmp .gt 18, (false, 55), (false, 70), (0, 0, 0), (0, 0, 0), [])),
  (55, (.iload 5, (false, 57), (false, 0), (0, 0, 0), (0, 0, 0), [])),
  (57, (.iconst 3, (false, 58), (false, 0), (0, 0, 0), (0, 0, 0), [(3, (false, 0))])),
  (58, (.if_icmp .gt 12, (false, 61), (false, 70), (0, 0, 0), (0, 0, 0), [])),
  (61, (.aload_n 0, (false, 62), (false, 0), (0, 0, 0), (0, 0, 0), [])),
  (62, (.getfield 83, (false, 65), (false, 0), (4, 2, 0), (0, 0, 519), [])),
  (65, (.bipush 8, (false, 67), (false, 0), (0, 0, 0), (0, 0, 0), [(8, (false, 0))])),
  (67, (.if_icmp .ne 10, (false, 70), (false, 77), (0, 0, 0), (0, 0, 0), [])),
  (70, (.aload_n 0, (false, 71), (false, 0), (0, 0, 0), (0, 0, 0), [])),
  (71, (.bipush (-6), (false, 73), (false, 0), (0, 0, 0), (0, 0, 0), [((-6), (false, 0))])),
  (73, (.invokevirtual 94, (false, 76), (false, 4), (20, 2, 1), (0, 0, 613), [])),
  (76, (.ireturn, (false, 77), (false, 0), (0, 0, 0), (0, 0, 0), [])),
  (77, (.aload_n 0, (false, 78), (false, 0), (0, 0, 0), (0, 0, 0), [])),
  (78, (.getfield 7, (false, 81), (false, 0), (4, 3, 1), (0, 0, 520), [])),
  (81, (.aload_n 0, (false, 82), (false, 0), (0, 0, 0), (0, 0, 0), [])),
  (82, (.getfield 83, (false, 85), (false, 0), (4, 2, 0), (0, 0, 519), [])),
  (85, (.iload_n 1, (false, 86), (false, 0), (0, 0, 0), (0, 0, 0), [])),
  (86, (.iastore, (false, 87), (false, 0), (0, 0, 0), (0, 0, 0), [])),
  (87, (.aload_n 0, (false, 88), (false, 0), (0, 0, 0), (0, 0, 0), [])),
  (88, (.getfield 13, (false, 91), (false, 0), (4, 4, 1), (0, 0, 521), [])),
  (91, (.aload_n 0, (false, 92), (false, 0), (0, 0, 0), (0, 0, 0), [])),
  (92, (.getfield 83, (false, 95), (false, 0), (4, 2, 0), (0, 0, 519), [])),
  (95, (.iload_n 2, (false, 96), (false, 0), (0, 0, 0), (0, 0, 0), [])),
  (96, (.iastore, (false, 97), (false, 0), (0, 0, 0), (0, 0, 0), [])),
  (97, (.aload_n 0, (false, 98), (false, 0), (0, 0, 0), (0, 0, 0), [])),
  (98, (.getfield 16, (false, 101), (false, 0), (4, 5, 1), (0, 0, 522), [])),
  (101, (.aload_n 0, (false, 102), (false, 0), (0, 0, 0), (0, 0, 0), [])),
  (102, (.getfield 83, (false, 105), (false, 0), (4, 2, 0), (0, 0, 519), [])),
  (105, (.iload_n 3, (false, 106), (false, 0), (0, 0, 0), (0, 0, 0), [])),
  (106, (.iastore, (false, 107), (false, 0), (0, 0, 0), (0, 0, 0), [])),
  (107, (.aload_n 0, (false, 108), (false, 0), (0, 0, 0), (0, 0, 0), [])),
  (108, (.getfield 19, (false, 111), (false, 0), (4, 6, 1), (0, 0, 523), [])),
  (111, (.aload_n 0, (false, 112), (false, 0), (0, 0, 0), (0, 0, 0), [])),
  (112, (.getfield 83, (false, 115), (false, 0), (4, 2, 0), (0, 0, 519), [])),
  (115, (.iload 4, (false, 117), (false, 0), (0, 0, 0), (0, 0, 0), [])),
  (117, (.iastore, (false, 118), (false, 0), (0, 0, 0), (0, 0, 0), [])),
  (118, (.aload_n 0, (false, 119), (false, 0), (0, 0, 0), (0, 0, 0), [])),
  (119, (.getfield 22, (false, 122), (false, 0), (4, 7, 1), (0, 0, 524), [])),
  (122, (.aload_n 0, (false, 123), (false, 0), (0, 0, 0), (0, 0, 0), [])),
  (123, (.getfield 83, (false, 126), (false, 0), (4, 2, 0), (0, 0, 519), [])),
  (126, (.iload 5, (false, 128), (false, 0), (0, 0, 0), (0, 0, 0), [])),
  (128, (.iastore, (false, 129), (false, 0), (0, 0, 0), (0, 0, 0), [])),
  (129, (.aload_n 0, (false, 130), (false, 0), (0, 0, 0), (0, 0, 0), [])),
  (130, (.dup, (false, 131), (false, 0), (0, 0, 0), (0, 0, 0), [])),
  (131, (.getfield 83, (false, 134), (false, 0), (4, 2, 0), (0, 0, 519), [])),
  (134, (.iconst 1, (false, 135), (false, 0), (0, 0, 0), (0, 0, 0), [(1, (false, 0))])),
  (135, (.iadd, (false, 136), (false, 0), (0, 0, 0), (0, 0, 0), [])),
  (136, (.putfield 83, (false, 139), (false, 0), (4, 2, 0), (0, 0, 519), [])),
  (139, (.aload_n 0, (false, 140), (false, 0), (0, 0, 0), (0, 0, 0), [])),
  (140, (.getfield 83, (false, 143), (false, 0), (4, 2, 0), (0, 0, 519), [])),
  (143, (.iconst 1, (false, 144), (false, 0), (0, 0, 0), (0, 0, 0), [(1, (false, 0))])),
  (144, (.isub, (false, 145), (false, 0), (0, 0, 0), (0, 0, 0), [])),
  (145, (.ireturn, (false, 146), (false, 0), (0, 0, 0), (0, 0, 0), []))]
set_option maxRecDepth 100000 in
theorem pe_M_ride : pw_fnd pp_M_ride 0 = (.iload_n 1, (false, 1), (false, 0), (0, 0, 0), (0, 0, 0), []) ∧
  pw_fnd pp_M_ride 1 = (.iconst 1, (false, 2), (false, 0), (0, 0, 0), (0, 0, 0), [(1, (false, 0))]) ∧
  pw_fnd pp_M_ride 2 = (.if_icmp .lt 22, (false, 5), (false, 24), (0, 0, 0), (0, 0, 0), []) ∧
  pw_fnd pp_M_ride 5 = (.iload_n 2, (false, 6), (false, 0), (0, 0, 0), (0, 0, 0), []) ∧
  pw_fnd pp_M_ride 6 = (.iconst 1, (false, 7), (false, 0), (0, 0, 0), (0, 0, 0), [(1, (false, 0))]) ∧
  pw_fnd pp_M_ride 7 = (.if_icmp .lt 17, (false, 10), (false, 24), (0, 0, 0), (0, 0, 0), []) ∧
  pw_fnd pp_M_ride 10 = (.iload_n 3, (false, 11), (false, 0), (0, 0, 0), (0, 0, 0), []) ∧
  pw_fnd pp_M_ride 11 = (.ifCond .lt 13, (false, 14), (false, 24), (0, 0, 0), (0, 0, 0), []) ∧
  pw_fnd pp_M_ride 14 = (.iload 4, (false, 16), (false, 0), (0, 0, 0), (0, 0, 0), []) ∧
  pw_fnd pp_M_ride 16 = (.ifCond .lt 8, (false, 19), (false, 24), (0, 0, 0), (0, 0, 0), []) ∧
  pw_fnd pp_M_ride 19 = (.iload 5, (false, 21), (false, 0), (0, 0, 0), (0, 0, 0), []) ∧
  pw_fnd pp_M_ride 21 = (.ifCond .ge 10, (false, 24), (false, 31), (0, 0, 0), (0, 0, 0), []) ∧
  pw_fnd pp_M_ride 24 = (.aload_n 0, (false, 25), (false, 0), (0, 0, 0), (0, 0, 0), []) ∧
  pw_fnd pp_M_ride 25 = (.bipush (-4), (false, 27), (false, 0), (0, 0, 0), (0, 0, 0), [((-4), (false, 0))]) ∧
  pw_fnd pp_M_ride 27 = (.invokevirtual 94, (false, 30), (false, 4), (20, 2, 1), (0, 0, 613), []) ∧
  pw_fnd pp_M_ride 30 = (.ireturn, (false, 31), (false, 0), (0, 0, 0), (0, 0, 0), []) ∧
  pw_fnd pp_M_ride 31 = (.iload_n 1, (false, 32), (false, 0), (0, 0, 0), (0, 0, 0), []) ∧
  pw_fnd pp_M_ride 32 = (.bipush 40, (false, 34), (false, 0), (0, 0, 0), (0, 0, 0), [(40, (false, 0))]) ∧
  pw_fnd pp_M_ride 34 = (.if_icmp .gt 36, (false, 37), (false, 70), (0, 0, 0), (0, 0, 0), []) ∧
  pw_fnd pp_M_ride 37 = (.iload_n 2, (false, 38), (false, 0), (0, 0, 0), (0, 0, 0), []) ∧
  pw_fnd pp_M_ride 38 = (.bipush 20, (false, 40), (false, 0), (0, 0, 0), (0, 0, 0), [(20, (false, 0))]) ∧
  pw_fnd pp_M_ride 40 = (.if_icmp .gt 30, (false, 43), (false, 70), (0, 0, 0), (0, 0, 0), []) ∧
  pw_fnd pp_M_ride 43 = (.iload_n 3, (false, 44), (false, 0), (0, 0, 0), (0, 0, 0), []) ∧
  pw_fnd pp_M_ride 44 = (.iload_n 1, (false, 45), (false, 0), (0, 0, 0), (0, 0, 0), []) ∧
  pw_fnd pp_M_ride 45 = (.if_icmp .gt 25, (false, 48), (false, 70), (0, 0, 0), (0, 0, 0), []) ∧
  pw_fnd pp_M_ride 48 = (.iload 4, (false, 50), (false, 0), (0, 0, 0), (0, 0, 0), []) ∧
  pw_fnd pp_M_ride 50 = (.bipush 99, (false, 52), (false, 0), (0, 0, 0), (0, 0, 0), [(99, (false, 0))]) ∧
  pw_fnd pp_M_ride 52 = (.if_icmp .gt 18, (false, 55), (false, 70), (0, 0, 0), (0, 0, 0), []) ∧
  pw_fnd pp_M_ride 55 = (.iload 5, (false, 57), (false, 0), (0, 0, 0), (0, 0, 0), []) ∧
  pw_fnd pp_M_ride 57 = (.iconst 3, (false, 58), (false, 0), (0, 0, 0), (0, 0, 0), [(3, (false, 0))]) ∧
  pw_fnd pp_M_ride 58 = (.if_icmp .gt 12, (false, 61), (false, 70), (0, 0, 0), (0, 0, 0), []) ∧
  pw_fnd pp_M_ride 61 = (.aload_n 0, (false, 62), (false, 0), (0, 0, 0), (0, 0, 0), []) ∧
  pw_fnd pp_M_ride 62 = (.getfield 83, (false, 65), (false, 0), (4, 2, 0), (0, 0, 519), []) ∧
  pw_fnd pp_M_ride 65 = (.bipush 8, (false, 67), (false, 0), (0, 0, 0), (0, 0, 0), [(8, (false, 0))]) ∧
  pw_fnd pp_M_ride 67 = (.if_icmp .ne 10, (false, 70), (false, 77), (0, 0, 0), (0, 0, 0), []) ∧
  pw_fnd pp_M_ride 70 = (.aload_n 0, (false, 71), (false, 0), (0, 0, 0), (0, 0, 0), []) ∧
  pw_fnd pp_M_ride 71 = (.bipush (-6), (false, 73), (false, 0), (0, 0, 0), (0, 0, 0), [((-6), (false, 0))]) ∧
  pw_fnd pp_M_ride 73 = (.invokevirtual 94, (false, 76), (false, 4), (20, 2, 1), (0, 0, 613), []) ∧
  pw_fnd pp_M_ride 76 = (.ireturn, (false, 77), (false, 0), (0, 0, 0), (0, 0, 0), []) ∧
  pw_fnd pp_M_ride 77 = (.aload_n 0, (false, 78), (false, 0), (0, 0, 0), (0, 0, 0), []) ∧
  pw_fnd pp_M_ride 78 = (.getfield 7, (false, 81), (false, 0), (4, 3, 1), (0, 0, 520), []) ∧
  pw_fnd pp_M_ride 81 = (.aload_n 0, (false, 82), (false, 0), (0, 0, 0), (0, 0, 0), []) ∧
  pw_fnd pp_M_ride 82 = (.getfield 83, (false, 85), (false, 0), (4, 2, 0), (0, 0, 519), []) ∧
  pw_fnd pp_M_ride 85 = (.iload_n 1, (false, 86), (false, 0), (0, 0, 0), (0, 0, 0), []) ∧
  pw_fnd pp_M_ride 86 = (.iastore, (false, 87), (false, 0), (0, 0, 0), (0, 0, 0), []) ∧
  pw_fnd pp_M_ride 87 = (.aload_n 0, (false, 88), (false, 0), (0, 0, 0), (0, 0, 0), []) ∧
  pw_fnd pp_M_ride 88 = (.getfield 13, (false, 91), (false, 0), (4, 4, 1), (0, 0, 521), []) ∧
  pw_fnd pp_M_ride 91 = (.aload_n 0, (false, 92), (false, 0), (0, 0, 0), (0, 0, 0), []) ∧
  pw_fnd pp_M_ride 92 = (.getfield 83, (false, 95), (false, 0), (4, 2, 0), (0, 0, 519), []) ∧
  pw_fnd pp_M_ride 95 = (.iload_n 2, (false, 96), (false, 0), (0, 0, 0), (0, 0, 0), []) ∧
  pw_fnd pp_M_ride 96 = (.iastore, (false, 97), (false, 0), (0, 0, 0), (0, 0, 0), []) ∧
  pw_fnd pp_M_ride 97 = (.aload_n 0, (false, 98), (false, 0), (0, 0, 0), (0, 0, 0), []) ∧
  pw_fnd pp_M_ride 98 = (.getfield 16, (false, 101), (false, 0), (4, 5, 1), (0, 0, 522), []) ∧
  pw_fnd pp_M_ride 101 = (.aload_n 0, (false, 102), (false, 0), (0, 0, 0), (0, 0, 0), []) ∧
  pw_fnd pp_M_ride 102 = (.getfield 83, (false, 105), (false, 0), (4, 2, 0), (0, 0, 519), []) ∧
  pw_fnd pp_M_ride 105 = (.iload_n 3, (false, 106), (false, 0), (0, 0, 0), (0, 0, 0), []) ∧
  pw_fnd pp_M_ride 106 = (.iastore, (false, 107), (false, 0), (0, 0, 0), (0, 0, 0), []) ∧
  pw_fnd pp_M_ride 107 = (.aload_n 0, (false, 108), (false, 0), (0, 0, 0), (0, 0, 0), []) ∧
  pw_fnd pp_M_ride 108 = (.getfield 19, (false, 111), (false, 0), (4, 6, 1), (0, 0, 523), []) ∧
  pw_fnd pp_M_ride 111 = (.aload_n 0, (false, 112), (false, 0), (0, 0, 0), (0, 0, 0), []) ∧
  pw_fnd pp_M_ride 112 = (.getfield 83, (false, 115), (false, 0), (4, 2, 0), (0, 0, 519), []) ∧
  pw_fnd pp_M_ride 115 = (.iload 4, (false, 117), (false, 0), (0, 0, 0), (0, 0, 0), []) ∧
  pw_fnd pp_M_ride 117 = (.iastore, (false, 118), (false, 0), (0, 0, 0), (0, 0, 0), []) ∧
  pw_fnd pp_M_ride 118 = (.aload_n 0, (false, 119), (false, 0), (0, 0, 0), (0, 0, 0), []) ∧
  pw_fnd pp_M_ride 119 = (.getfield 22, (false, 122), (false, 0), (4, 7, 1), (0, 0, 524), []) ∧
  pw_fnd pp_M_ride 122 = (.aload_n 0, (false, 123), (false, 0), (0, 0, 0), (0, 0, 0), []) ∧
  pw_fnd pp_M_ride 123 = (.getfield 83, (false, 126), (false, 0), (4, 2, 0), (0, 0, 519), []) ∧
  pw_fnd pp_M_ride 126 = (.iload 5, (false, 128), (false, 0), (0, 0, 0), (0, 0, 0), []) ∧
  pw_fnd pp_M_ride 128 = (.iastore, (false, 129), (false, 0), (0, 0, 0), (0, 0, 0), []) ∧
  pw_fnd pp_M_ride 129 = (.aload_n 0, (false, 130), (false, 0), (0, 0, 0), (0, 0, 0), []) ∧
  pw_fnd pp_M_ride 130 = (.dup, (false, 131), (false, 0), (0, 0, 0), (0, 0, 0), []) ∧
  pw_fnd pp_M_ride 131 = (.getfield 83, (false, 134), (false, 0), (4, 2, 0), (0, 0, 519), []) ∧
  pw_fnd pp_M_ride 134 = (.iconst 1, (false, 135), (false, 0), (0, 0, 0), (0, 0, 0), [(1, (false, 0))]) ∧
  pw_fnd pp_M_ride 135 = (.iadd, (false, 136), (false, 0), (0, 0, 0), (0, 0, 0), []) ∧
  pw_fnd pp_M_ride 136 = (.putfield 83, (false, 139), (false, 0), (4, 2, 0), (0, 0, 519), []) ∧
  pw_fnd pp_M_ride 139 = (.aload_n 0, (false, 140), (false, 0), (0, 0, 0), (0, 0, 0), []) ∧
  pw_fnd pp_M_ride 140 = (.getfield 83, (false, 143), (false, 0), (4, 2, 0), (0, 0, 519), []) ∧
  pw_fnd pp_M_ride 143 = (.iconst 1, (false, 144), (false, 0), (0, 0, 0), (0, 0, 0), [(1, (false, 0))]) ∧
  pw_fnd pp_M_ride 144 = (.isub, (false, 145), (false, 0), (0, 0, 0), (0, 0, 0), []) ∧
  pw_fnd pp_M_ride 145 = (.ireturn, (false, 146), (false, 0), (0, 0, 0), (0, 0, 0), []) :=
  ⟨rfl, rfl, rfl, rfl, rfl, rfl, rfl, rfl, rfl, rfl, rfl, rfl, rfl, rfl, rfl, rfl, rfl, rfl, rfl, rfl, rfl, rfl, rfl, rfl, rfl, rfl, rfl, rfl, rfl, rfl, rfl, rfl, rfl, rfl, rfl, rfl, rfl, rfl, rfl, rfl, rfl, rfl, rfl, rfl, rfl, rfl, rfl, rfl, rfl, rfl, rfl, rfl, rfl, rfl, rfl, rfl, rfl, rfl, rfl, rfl, rfl, rfl, rfl, rfl, rfl, rfl, rfl, rfl, rfl, rfl, rfl, rfl, rfl, rfl, rfl, rfl, rfl, rfl, rfl, rfl⟩
set_option maxRecDepth 100000 in
theorem pk_M_ride : pp_M_ride.all (fun q => pw_chk pw_jt pm_M_ride q.1 q.2) = true := by decide +kernel
def pp_M_group : List (Nat × pw_E) := [(0, (.iload_n 1, (false, 1), (false, 0), (0, 0, 0), (0, 0, 0), [])),
  (1, (.iconst 1, (false, 2), (false, 0), (0, 0, 0), (0, 0, 0), [(1, (false, 0))])),
  (2, (.if_icmp .ge 10, (false, 5), (false, 12), (0, 0, 0), (0, 0, 0), [])),
  (5, (.aload_n 0, (false, 6), (false, 0), (0, 0, 0), (0, 0, 0), [])),
  (6, (.bipush (-4), (false, 8), (false, 0), (0, 0, 0), (0, 0, 0), [((-4), (false, 0))])),
  (8, (.invokevirtual 94, (false, 11), (false, 4), (20, 2, 1), (0, 0, 613), [])),
  (11, (.ireturn, (false, 12), (false, 0), (0, 0, 0), (0, 0, 0), [])),
  (12, (.iload_n 1, (false, 13), (false, 0), (0, 0, 0), (0, 0, 0), [])),
  (13, (.bipush 8, (false, 15), (false, 0), (0, 0, 0), (0, 0, 0), [(8, (false, 0))])),
  (15, (.if_icmp .gt 12, (false, 18), (false, 27), (0, 0, 0), (0, 0, 0), [])),
  (18, (.aload_n 0, (false, 19), (false, 0), (0, 0, 0), (0, 0, 0), [])),
  (19, (.getfield 91, (false, 22), (false, 0), (4, 14, 0), (0, 0, 531), [])),
  (22, (.bipush 60, (false, 24), (false, 0), (0, 0, 0), (0, 0, 0), [(60, (false, 0))])),
  (24, (.if_icmp .ne 10, (false, 27), (false, 34), (0, 0, 0), (0, 0, 0), [])),
  (27, (.aload_n 0, (false, 28), (false, 0), (0, 0, 0), (0, 0, 0), [])),
  (28, (.bipush (-6), (false, 30), (false, 0), (0, 0, 0), (0, 0, 0), [((-6), (false, 0))])),
  (30, (.invokevirtual 94, (false, 33), (false, 4), (20, 2, 1), (0, 0, 613), [])),
  (33, (.ireturn, (false, 34), (false, 0), (0, 0, 0), (0, 0, 0), [])),
  (34, (.aload_n 0, (false, 35), (false, 0), (0, 0, 0), (0, 0, 0), [])),
  (35, (.getfield 44, (false, 38), (false, 0), (4, 15, 1), (0, 0, 532), [])),
  (38, (.aload_n 0, (false, 39), (false, 0), (0, 0, 0), (0, 0, 0), [])),
  (39, (.getfield 91, (false, 42), (false, 0), (4, 14, 0), (0, 0, 531), [])),
  (42, (.iload_n 1, (false, 43), (false, 0), (0, 0, 0), (0, 0, 0), [])),
  (43, (.iastore, (false, 44), (false, 0), (0, 0, 0), (0, 0, 0), [])),
  (44, (.aload_n 0, (false, 45), (false, 0), (0, 0, 0), (0, 0, 0), [])),
  (45, (.getfield 50, (false, 48), (false, 0), (4, 17, 1), (0, 0, 534), [])),
  (48, (.aload_n 0, (false, 49), (false, 0), (0, 0, 0), (0, 0, 0), [])),
  (49, (.getfield 91, (false, 52), (false, 0), (4, 14, 0), (0, 0, 531), [])),
  (52, (.bipush (-9), (false, 54), (false, 0), (0, 0, 0), (0, 0, 0), [((-9), (false, 0))])),
  (54, (.iastore, (false, 55), (false, 0), (0, 0, 0), (0, 0, 0), [])),
  (55, (.aload_n 0, (false, 56), (false, 0), (0, 0, 0), (0, 0, 0), [])),
  (56, (.dup, (false, 57), (false, 0), (0, 0, 0), (0, 0, 0), [])),
  (57, (.getfield 91, (false, 60), (false, 0), (4, 14, 0), (0, 0, 531), [])),
  (60, (.iconst 1, (false, 61), (false, 0), (0, 0, 0), (0, 0, 0), [(1, (false, 0))])),
  (61, (.iadd, (false, 62), (false, 0), (0, 0, 0), (0, 0, 0), [])),
  (62, (.putfield 91, (false, 65), (false, 0), (4, 14, 0), (0, 0, 531), [])),
  (65, (.aload_n 0, (false, 66), (false, 0), (0, 0, 0), (0, 0, 0), [])),
  (66, (.getfield 91, (false, 69), (false, 0), (4, 14, 0), (0, 0, 531), [])),
  (69, (.iconst 1, (false, 70), (false, 0), (0, 0, 0), (0, 0, 0), [(1, (false, 0))])),
  (70, (.isub, (false, 71), (false, 0), (0, 0, 0), (0, 0, 0), [])),
  (71, (.ireturn, (false, 72), (false, 0), (0, 0, 0), (0, 0, 0), []))]
set_option maxRecDepth 100000 in
theorem pe_M_group : pw_fnd pp_M_group 0 = (.iload_n 1, (false, 1), (false, 0), (0, 0, 0), (0, 0, 0), []) ∧
  pw_fnd pp_M_group 1 = (.iconst 1, (false, 2), (false, 0), (0, 0, 0), (0, 0, 0), [(1, (false, 0))]) ∧
  pw_fnd pp_M_group 2 = (.if_icmp .ge 10, (false, 5), (false, 12), (0, 0, 0), (0, 0, 0), []) ∧
  pw_fnd pp_M_group 5 = (.aload_n 0, (false, 6), (false, 0), (0, 0, 0), (0, 0, 0), []) ∧
  pw_fnd pp_M_group 6 = (.bipush (-4), (false, 8), (false, 0), (0, 0, 0), (0, 0, 0), [((-4), (false, 0))]) ∧
  pw_fnd pp_M_group 8 = (.invokevirtual 94, (false, 11), (false, 4), (20, 2, 1), (0, 0, 613), []) ∧
  pw_fnd pp_M_group 11 = (.ireturn, (false, 12), (false, 0), (0, 0, 0), (0, 0, 0), []) ∧
  pw_fnd pp_M_group 12 = (.iload_n 1, (false, 13), (false, 0), (0, 0, 0), (0, 0, 0), []) ∧
  pw_fnd pp_M_group 13 = (.bipush 8, (false, 15), (false, 0), (0, 0, 0), (0, 0, 0), [(8, (false, 0))]) ∧
  pw_fnd pp_M_group 15 = (.if_icmp .gt 12, (false, 18), (false, 27), (0, 0, 0), (0, 0, 0), []) ∧
  pw_fnd pp_M_group 18 = (.aload_n 0, (false, 19), (false, 0), (0, 0, 0), (0, 0, 0), []) ∧
  pw_fnd pp_M_group 19 = (.getfield 91, (false, 22), (false, 0), (4, 14, 0), (0, 0, 531), []) ∧
  pw_fnd pp_M_group 22 = (.bipush 60, (false, 24), (false, 0), (0, 0, 0), (0, 0, 0), [(60, (false, 0))]) ∧
  pw_fnd pp_M_group 24 = (.if_icmp .ne 10, (false, 27), (false, 34), (0, 0, 0), (0, 0, 0), []) ∧
  pw_fnd pp_M_group 27 = (.aload_n 0, (false, 28), (false, 0), (0, 0, 0), (0, 0, 0), []) ∧
  pw_fnd pp_M_group 28 = (.bipush (-6), (false, 30), (false, 0), (0, 0, 0), (0, 0, 0), [((-6), (false, 0))]) ∧
  pw_fnd pp_M_group 30 = (.invokevirtual 94, (false, 33), (false, 4), (20, 2, 1), (0, 0, 613), []) ∧
  pw_fnd pp_M_group 33 = (.ireturn, (false, 34), (false, 0), (0, 0, 0), (0, 0, 0), []) ∧
  pw_fnd pp_M_group 34 = (.aload_n 0, (false, 35), (false, 0), (0, 0, 0), (0, 0, 0), []) ∧
  pw_fnd pp_M_group 35 = (.getfield 44, (false, 38), (false, 0), (4, 15, 1), (0, 0, 532), []) ∧
  pw_fnd pp_M_group 38 = (.aload_n 0, (false, 39), (false, 0), (0, 0, 0), (0, 0, 0), []) ∧
  pw_fnd pp_M_group 39 = (.getfield 91, (false, 42), (false, 0), (4, 14, 0), (0, 0, 531), []) ∧
  pw_fnd pp_M_group 42 = (.iload_n 1, (false, 43), (false, 0), (0, 0, 0), (0, 0, 0), []) ∧
  pw_fnd pp_M_group 43 = (.iastore, (false, 44), (false, 0), (0, 0, 0), (0, 0, 0), []) ∧
  pw_fnd pp_M_group 44 = (.aload_n 0, (false, 45), (false, 0), (0, 0, 0), (0, 0, 0), []) ∧
  pw_fnd pp_M_group 45 = (.getfield 50, (false, 48), (false, 0), (4, 17, 1), (0, 0, 534), []) ∧
  pw_fnd pp_M_group 48 = (.aload_n 0, (false, 49), (false, 0), (0, 0, 0), (0, 0, 0), []) ∧
  pw_fnd pp_M_group 49 = (.getfield 91, (false, 52), (false, 0), (4, 14, 0), (0, 0, 531), []) ∧
  pw_fnd pp_M_group 52 = (.bipush (-9), (false, 54), (false, 0), (0, 0, 0), (0, 0, 0), [((-9), (false, 0))]) ∧
  pw_fnd pp_M_group 54 = (.iastore, (false, 55), (false, 0), (0, 0, 0), (0, 0, 0), []) ∧
  pw_fnd pp_M_group 55 = (.aload_n 0, (false, 56), (false, 0), (0, 0, 0), (0, 0, 0), []) ∧
  pw_fnd pp_M_group 56 = (.dup, (false, 57), (false, 0), (0, 0, 0), (0, 0, 0), []) ∧
  pw_fnd pp_M_group 57 = (.getfield 91, (false, 60), (false, 0), (4, 14, 0), (0, 0, 531), []) ∧
  pw_fnd pp_M_group 60 = (.iconst 1, (false, 61), (false, 0), (0, 0, 0), (0, 0, 0), [(1, (false, 0))]) ∧
  pw_fnd pp_M_group 61 = (.iadd, (false, 62), (false, 0), (0, 0, 0), (0, 0, 0), []) ∧
  pw_fnd pp_M_group 62 = (.putfield 91, (false, 65), (false, 0), (4, 14, 0), (0, 0, 531), []) ∧
  pw_fnd pp_M_group 65 = (.aload_n 0, (false, 66), (false, 0), (0, 0, 0), (0, 0, 0), []) ∧
  pw_fnd pp_M_group 66 = (.getfield 91, (false, 69), (false, 0), (4, 14, 0), (0, 0, 531), []) ∧
  pw_fnd pp_M_group 69 = (.iconst 1, (false, 70), (false, 0), (0, 0, 0), (0, 0, 0), [(1, (false, 0))]) ∧
  pw_fnd pp_M_group 70 = (.isub, (false, 71), (false, 0), (0, 0, 0), (0, 0, 0), []) ∧
  pw_fnd pp_M_group 71 = (.ireturn, (false, 72), (false, 0), (0, 0, 0), (0, 0, 0), []) :=
  ⟨rfl, rfl, rfl, rfl, rfl, rfl, rfl, rfl, rfl, rfl, rfl, rfl, rfl, rfl, rfl, rfl, rfl, rfl, rfl, rfl, rfl, rfl, rfl, rfl, rfl, rfl, rfl, rfl, rfl, rfl, rfl, rfl, rfl, rfl, rfl, rfl, rfl, rfl, rfl, rfl, rfl⟩
set_option maxRecDepth 100000 in
theorem pk_M_group : pp_M_group.all (fun q => pw_chk pw_jt pm_M_group q.1 q.2) = true := by decide +kernel
def pp_M_width : List (Nat × pw_E) := [(0, (.iconst 5, (false, 1), (false, 0), (0, 0, 0), (0, 0, 0), [(5, (false, 0))])),
  (1, (.aload_n 0, (false, 2), (false, 0), (0, 0, 0), (0, 0, 0), [])),
  (2, (.iload_n 1, (false, 3), (false, 0), (0, 0, 0), (0, 0, 0), [])),
  (3, (.invokevirtual 102, (false, 6), (false, 4), (21, 2, 1), (0, 0, 656), [])),
  (6, (.imul, (false, 7), (false, 0), (0, 0, 0), (0, 0, 0), [])),
  (7, (.ireturn, (false, 8), (false, 0), (0, 0, 0), (0, 0, 0), []))]
set_option maxRecDepth 100000 in
theorem pe_M_width : pw_fnd pp_M_width 0 = (.iconst 5, (false, 1), (false, 0), (0, 0, 0), (0, 0, 0), [(5, (false, 0))]) ∧
  pw_fnd pp_M_width 1 = (.aload_n 0, (false, 2), (false, 0), (0, 0, 0), (0, 0, 0), []) ∧
  pw_fnd pp_M_width 2 = (.iload_n 1, (false, 3), (false, 0), (0, 0, 0), (0, 0, 0), []) ∧
  pw_fnd pp_M_width 3 = (.invokevirtual 102, (false, 6), (false, 4), (21, 2, 1), (0, 0, 656), []) ∧
  pw_fnd pp_M_width 6 = (.imul, (false, 7), (false, 0), (0, 0, 0), (0, 0, 0), []) ∧
  pw_fnd pp_M_width 7 = (.ireturn, (false, 8), (false, 0), (0, 0, 0), (0, 0, 0), []) :=
  ⟨rfl, rfl, rfl, rfl, rfl, rfl⟩
set_option maxRecDepth 100000 in
theorem pk_M_width : pp_M_width.all (fun q => pw_chk pw_jt pm_M_width q.1 q.2) = true := by decide +kernel
def pp_M_fits : List (Nat × pw_E) := [(0, (.aload_n 0, (false, 1), (false, 0), (0, 0, 0), (0, 0, 0), [])),
  (1, (.getfield 41, (false, 4), (false, 0), (4, 13, 1), (0, 0, 530), [])),
  (4, (.sipush 1100, (false, 7), (false, 0), (0, 0, 0), (0, 0, 0), [(1100, (false, 0))])),
  (7, (.iload_n 2, (false, 8), (false, 0), (0, 0, 0), (0, 0, 0), [])),
  (8, (.imul, (false, 9), (false, 0), (0, 0, 0), (0, 0, 0), [])),
  (9, (.iload_n 3, (false, 10), (false, 0), (0, 0, 0), (0, 0, 0), [])),
  (10, (.iadd, (false, 11), (false, 0), (0, 0, 0), (0, 0, 0), [])),
  (11, (.iaload, (false, 12), (false, 0), (0, 0, 0), (0, 0, 0), [])),
  (12, (.aload_n 0, (false, 13), (false, 0), (0, 0, 0), (0, 0, 0), [])),
  (13, (.getfield 44, (false, 16), (false, 0), (4, 15, 1), (0, 0, 532), [])),
  (16, (.iload_n 1, (false, 17), (false, 0), (0, 0, 0), (0, 0, 0), [])),
  (17, (.iaload, (false, 18), (false, 0), (0, 0, 0), (0, 0, 0), [])),
  (18, (.iadd, (false, 19), (false, 0), (0, 0, 0), (0, 0, 0), [])),
  (19, (.aload_n 0, (false, 20), (false, 0), (0, 0, 0), (0, 0, 0), [])),
  (20, (.iload_n 2, (false, 21), (false, 0), (0, 0, 0), (0, 0, 0), [])),
  (21, (.invokevirtual 108, (false, 24), (false, 4), (22, 2, 1), (0, 0, 664), [])),
  (24, (.if_icmp .gt 7, (false, 27), (false, 31), (0, 0, 0), (0, 0, 0), [])),
  (27, (.iconst 1, (false, 28), (false, 0), (0, 0, 0), (0, 0, 0), [(1, (false, 0))])),
  (28, (.goto 4, (false, 31), (false, 32), (0, 0, 0), (0, 0, 0), [])),
  (31, (.iconst 0, (false, 32), (false, 0), (0, 0, 0), (0, 0, 0), [(0, (false, 0))])),
  (32, (.ireturn, (false, 33), (false, 0), (0, 0, 2), (0, 0, 0), []))]
set_option maxRecDepth 100000 in
theorem pe_M_fits : pw_fnd pp_M_fits 0 = (.aload_n 0, (false, 1), (false, 0), (0, 0, 0), (0, 0, 0), []) ∧
  pw_fnd pp_M_fits 1 = (.getfield 41, (false, 4), (false, 0), (4, 13, 1), (0, 0, 530), []) ∧
  pw_fnd pp_M_fits 4 = (.sipush 1100, (false, 7), (false, 0), (0, 0, 0), (0, 0, 0), [(1100, (false, 0))]) ∧
  pw_fnd pp_M_fits 7 = (.iload_n 2, (false, 8), (false, 0), (0, 0, 0), (0, 0, 0), []) ∧
  pw_fnd pp_M_fits 8 = (.imul, (false, 9), (false, 0), (0, 0, 0), (0, 0, 0), []) ∧
  pw_fnd pp_M_fits 9 = (.iload_n 3, (false, 10), (false, 0), (0, 0, 0), (0, 0, 0), []) ∧
  pw_fnd pp_M_fits 10 = (.iadd, (false, 11), (false, 0), (0, 0, 0), (0, 0, 0), []) ∧
  pw_fnd pp_M_fits 11 = (.iaload, (false, 12), (false, 0), (0, 0, 0), (0, 0, 0), []) ∧
  pw_fnd pp_M_fits 12 = (.aload_n 0, (false, 13), (false, 0), (0, 0, 0), (0, 0, 0), []) ∧
  pw_fnd pp_M_fits 13 = (.getfield 44, (false, 16), (false, 0), (4, 15, 1), (0, 0, 532), []) ∧
  pw_fnd pp_M_fits 16 = (.iload_n 1, (false, 17), (false, 0), (0, 0, 0), (0, 0, 0), []) ∧
  pw_fnd pp_M_fits 17 = (.iaload, (false, 18), (false, 0), (0, 0, 0), (0, 0, 0), []) ∧
  pw_fnd pp_M_fits 18 = (.iadd, (false, 19), (false, 0), (0, 0, 0), (0, 0, 0), []) ∧
  pw_fnd pp_M_fits 19 = (.aload_n 0, (false, 20), (false, 0), (0, 0, 0), (0, 0, 0), []) ∧
  pw_fnd pp_M_fits 20 = (.iload_n 2, (false, 21), (false, 0), (0, 0, 0), (0, 0, 0), []) ∧
  pw_fnd pp_M_fits 21 = (.invokevirtual 108, (false, 24), (false, 4), (22, 2, 1), (0, 0, 664), []) ∧
  pw_fnd pp_M_fits 24 = (.if_icmp .gt 7, (false, 27), (false, 31), (0, 0, 0), (0, 0, 0), []) ∧
  pw_fnd pp_M_fits 27 = (.iconst 1, (false, 28), (false, 0), (0, 0, 0), (0, 0, 0), [(1, (false, 0))]) ∧
  pw_fnd pp_M_fits 28 = (.goto 4, (false, 31), (false, 32), (0, 0, 0), (0, 0, 0), []) ∧
  pw_fnd pp_M_fits 31 = (.iconst 0, (false, 32), (false, 0), (0, 0, 0), (0, 0, 0), [(0, (false, 0))]) ∧
  pw_fnd pp_M_fits 32 = (.ireturn, (false, 33), (false, 0), (0, 0, 2), (0, 0, 0), []) :=
  ⟨rfl, rfl, rfl, rfl, rfl, rfl, rfl, rfl, rfl, rfl, rfl, rfl, rfl, rfl, rfl, rfl, rfl, rfl, rfl, rfl, rfl⟩
set_option maxRecDepth 100000 in
theorem pk_M_fits : pp_M_fits.all (fun q => pw_chk pw_jt pm_M_fits q.1 q.2) = true := by decide +kernel
def pp_M_fill : List (Nat × pw_E) := [(0, (.iconst 0, (false, 1), (false, 0), (0, 0, 0), (0, 0, 0), [(0, (false, 0))])),
  (1, (.istore 4, (false, 3), (false, 0), (0, 0, 0), (0, 0, 0), [])),
  (3, (.aload_n 0, (false, 4), (false, 0), (0, 0, 0), (0, 0, 0), [])),
  (4, (.iload_n 1, (false, 5), (false, 0), (0, 0, 0), (0, 0, 0), [])),
  (5, (.iload_n 2, (false, 6), (false, 0), (0, 0, 0), (0, 0, 0), [])),
  (6, (.iconst 0, (false, 7), (false, 0), (0, 0, 0), (0, 0, 0), [(0, (false, 0))])),
  (7, (.invokevirtual 151, (false, 10), (false, 4), (26, 4, 1), (0, 0, 736), [])),
  (10, (.istore 5, (true, 12), (false, 0), (0, 0, 0), (0, 0, 0), [])),
  (12, (.iload 5, (false, 14), (false, 0), (0, 0, 0), (0, 0, 0), [])),
  (14, (.ifCond .lt 47, (false, 17), (false, 61), (0, 0, 0), (0, 0, 0), [])),
  (17, (.iload 4, (false, 19), (false, 0), (0, 0, 0), (0, 0, 0), [])),
  (19, (.aload_n 0, (false, 20), (false, 0), (0, 0, 0), (0, 0, 0), [])),
  (20, (.getfield 44, (false, 23), (false, 0), (4, 15, 1), (0, 0, 532), [])),
  (23, (.iload 5, (false, 25), (false, 0), (0, 0, 0), (0, 0, 0), [])),
  (25, (.iaload, (false, 26), (false, 0), (0, 0, 0), (0, 0, 0), [])),
  (26, (.iadd, (false, 27), (false, 0), (0, 0, 0), (0, 0, 0), [])),
  (27, (.iload_n 3, (false, 28), (false, 0), (0, 0, 0), (0, 0, 0), [])),
  (28, (.if_icmp .gt 33, (false, 31), (false, 61), (0, 0, 0), (0, 0, 0), [])),
  (31, (.aload_n 0, (false, 32), (false, 0), (0, 0, 0), (0, 0, 0), [])),
  (32, (.iload 5, (false, 34), (false, 0), (0, 0, 0), (0, 0, 0), [])),
  (34, (.invokevirtual 155, (false, 37), (false, 4), (29, 2, 0), (0, 0, 740), [])),
  (37, (.iload 4, (false, 39), (false, 0), (0, 0, 0), (0, 0, 0), [])),
  (39, (.aload_n 0, (false, 40), (false, 0), (0, 0, 0), (0, 0, 0), [])),
  (40, (.getfield 44, (false, 43), (false, 0), (4, 15, 1), (0, 0, 532), [])),
  (43, (.iload 5, (false, 45), (false, 0), (0, 0, 0), (0, 0, 0), [])),
  (45, (.iaload, (false, 46), (false, 0), (0, 0, 0), (0, 0, 0), [])),
  (46, (.iadd, (false, 47), (false, 0), (0, 0, 0), (0, 0, 0), [])),
  (47, (.istore 4, (false, 49), (false, 0), (0, 0, 0), (0, 0, 0), [])),
  (49, (.aload_n 0, (false, 50), (false, 0), (0, 0, 0), (0, 0, 0), [])),
  (50, (.iload_n 1, (false, 51), (false, 0), (0, 0, 0), (0, 0, 0), [])),
  (51, (.iload_n 2, (false, 52), (false, 0), (0, 0, 0), (0, 0, 0), [])),
  (52, (.iconst 0, (false, 53), (false, 0), (0, 0, 0), (0, 0, 0), [(0, (false, 0))])),
  (53, (.invokevirtual 151, (false, 56), (false, 4), (26, 4, 1), (0, 0, 736), [])),
  (56, (.istore 5, (false, 58), (false, 0), (0, 0, 0), (0, 0, 0), [])),
  (58, (.goto (-46), (false, 61), (true, 12), (0, 0, 0), (0, 0, 0), [])),
  (61, (.iload 4, (false, 63), (false, 0), (0, 0, 0), (0, 0, 0), [])),
  (63, (.ireturn, (false, 64), (false, 0), (0, 0, 0), (0, 0, 0), []))]
set_option maxRecDepth 100000 in
theorem pe_M_fill : pw_fnd pp_M_fill 0 = (.iconst 0, (false, 1), (false, 0), (0, 0, 0), (0, 0, 0), [(0, (false, 0))]) ∧
  pw_fnd pp_M_fill 1 = (.istore 4, (false, 3), (false, 0), (0, 0, 0), (0, 0, 0), []) ∧
  pw_fnd pp_M_fill 3 = (.aload_n 0, (false, 4), (false, 0), (0, 0, 0), (0, 0, 0), []) ∧
  pw_fnd pp_M_fill 4 = (.iload_n 1, (false, 5), (false, 0), (0, 0, 0), (0, 0, 0), []) ∧
  pw_fnd pp_M_fill 5 = (.iload_n 2, (false, 6), (false, 0), (0, 0, 0), (0, 0, 0), []) ∧
  pw_fnd pp_M_fill 6 = (.iconst 0, (false, 7), (false, 0), (0, 0, 0), (0, 0, 0), [(0, (false, 0))]) ∧
  pw_fnd pp_M_fill 7 = (.invokevirtual 151, (false, 10), (false, 4), (26, 4, 1), (0, 0, 736), []) ∧
  pw_fnd pp_M_fill 10 = (.istore 5, (true, 12), (false, 0), (0, 0, 0), (0, 0, 0), []) ∧
  pw_fnd pp_M_fill 12 = (.iload 5, (false, 14), (false, 0), (0, 0, 0), (0, 0, 0), []) ∧
  pw_fnd pp_M_fill 14 = (.ifCond .lt 47, (false, 17), (false, 61), (0, 0, 0), (0, 0, 0), []) ∧
  pw_fnd pp_M_fill 17 = (.iload 4, (false, 19), (false, 0), (0, 0, 0), (0, 0, 0), []) ∧
  pw_fnd pp_M_fill 19 = (.aload_n 0, (false, 20), (false, 0), (0, 0, 0), (0, 0, 0), []) ∧
  pw_fnd pp_M_fill 20 = (.getfield 44, (false, 23), (false, 0), (4, 15, 1), (0, 0, 532), []) ∧
  pw_fnd pp_M_fill 23 = (.iload 5, (false, 25), (false, 0), (0, 0, 0), (0, 0, 0), []) ∧
  pw_fnd pp_M_fill 25 = (.iaload, (false, 26), (false, 0), (0, 0, 0), (0, 0, 0), []) ∧
  pw_fnd pp_M_fill 26 = (.iadd, (false, 27), (false, 0), (0, 0, 0), (0, 0, 0), []) ∧
  pw_fnd pp_M_fill 27 = (.iload_n 3, (false, 28), (false, 0), (0, 0, 0), (0, 0, 0), []) ∧
  pw_fnd pp_M_fill 28 = (.if_icmp .gt 33, (false, 31), (false, 61), (0, 0, 0), (0, 0, 0), []) ∧
  pw_fnd pp_M_fill 31 = (.aload_n 0, (false, 32), (false, 0), (0, 0, 0), (0, 0, 0), []) ∧
  pw_fnd pp_M_fill 32 = (.iload 5, (false, 34), (false, 0), (0, 0, 0), (0, 0, 0), []) ∧
  pw_fnd pp_M_fill 34 = (.invokevirtual 155, (false, 37), (false, 4), (29, 2, 0), (0, 0, 740), []) ∧
  pw_fnd pp_M_fill 37 = (.iload 4, (false, 39), (false, 0), (0, 0, 0), (0, 0, 0), []) ∧
  pw_fnd pp_M_fill 39 = (.aload_n 0, (false, 40), (false, 0), (0, 0, 0), (0, 0, 0), []) ∧
  pw_fnd pp_M_fill 40 = (.getfield 44, (false, 43), (false, 0), (4, 15, 1), (0, 0, 532), []) ∧
  pw_fnd pp_M_fill 43 = (.iload 5, (false, 45), (false, 0), (0, 0, 0), (0, 0, 0), []) ∧
  pw_fnd pp_M_fill 45 = (.iaload, (false, 46), (false, 0), (0, 0, 0), (0, 0, 0), []) ∧
  pw_fnd pp_M_fill 46 = (.iadd, (false, 47), (false, 0), (0, 0, 0), (0, 0, 0), []) ∧
  pw_fnd pp_M_fill 47 = (.istore 4, (false, 49), (false, 0), (0, 0, 0), (0, 0, 0), []) ∧
  pw_fnd pp_M_fill 49 = (.aload_n 0, (false, 50), (false, 0), (0, 0, 0), (0, 0, 0), []) ∧
  pw_fnd pp_M_fill 50 = (.iload_n 1, (false, 51), (false, 0), (0, 0, 0), (0, 0, 0), []) ∧
  pw_fnd pp_M_fill 51 = (.iload_n 2, (false, 52), (false, 0), (0, 0, 0), (0, 0, 0), []) ∧
  pw_fnd pp_M_fill 52 = (.iconst 0, (false, 53), (false, 0), (0, 0, 0), (0, 0, 0), [(0, (false, 0))]) ∧
  pw_fnd pp_M_fill 53 = (.invokevirtual 151, (false, 56), (false, 4), (26, 4, 1), (0, 0, 736), []) ∧
  pw_fnd pp_M_fill 56 = (.istore 5, (false, 58), (false, 0), (0, 0, 0), (0, 0, 0), []) ∧
  pw_fnd pp_M_fill 58 = (.goto (-46), (false, 61), (true, 12), (0, 0, 0), (0, 0, 0), []) ∧
  pw_fnd pp_M_fill 61 = (.iload 4, (false, 63), (false, 0), (0, 0, 0), (0, 0, 0), []) ∧
  pw_fnd pp_M_fill 63 = (.ireturn, (false, 64), (false, 0), (0, 0, 0), (0, 0, 0), []) :=
  ⟨rfl, rfl, rfl, rfl, rfl, rfl, rfl, rfl, rfl, rfl, rfl, rfl, rfl, rfl, rfl, rfl, rfl, rfl, rfl, rfl, rfl, rfl, rfl, rfl, rfl, rfl, rfl, rfl, rfl, rfl, rfl, rfl, rfl, rfl, rfl, rfl, rfl⟩
set_option maxRecDepth 100000 in
theorem pk_M_fill : pp_M_fill.all (fun q => pw_chk pw_jt pm_M_fill q.1 q.2) = true := by decide +kernel
def pp_M_count : List (Nat × pw_E) := [(0, (.iconst 0, (false, 1), (false, 0), (0, 0, 0), (0, 0, 0), [(0, (false, 0))])),
  (1, (.istore_n 2, (false, 2), (false, 0), (0, 0, 0), (0, 0, 0), [])),
  (2, (.iload_n 1, (false, 3), (false, 0), (0, 0, 0), (0, 0, 0), [])),
  (3, (.tableswitch 115 0 6 #[41, 46, 51, 56, 83, 91, 107], (false, 44), (false, 118), (0, 0, 0), (0, 0, 0), [(0, (false, 44)), (1, (false, 49)), (2, (false, 54)), (3, (false, 59)), (4, (false, 86)), (5, (false, 94)), (6, (false, 110))])),
  (44, (.aload_n 0, (false, 45), (false, 0), (0, 0, 0), (0, 0, 0), [])),
  (45, (.getfield 114, (false, 48), (false, 0), (4, 0, 0), (0, 0, 517), [])),
  (48, (.ireturn, (false, 49), (false, 0), (0, 0, 0), (0, 0, 0), [])),
  (49, (.aload_n 0, (false, 50), (false, 0), (0, 0, 0), (0, 0, 0), [])),
  (50, (.getfield 83, (false, 53), (false, 0), (4, 2, 0), (0, 0, 519), [])),
  (53, (.ireturn, (false, 54), (false, 0), (0, 0, 0), (0, 0, 0), [])),
  (54, (.aload_n 0, (false, 55), (false, 0), (0, 0, 0), (0, 0, 0), [])),
  (55, (.getfield 91, (false, 58), (false, 0), (4, 14, 0), (0, 0, 531), [])),
  (58, (.ireturn, (false, 59), (false, 0), (0, 0, 0), (0, 0, 0), [])),
  (59, (.iconst 0, (false, 60), (false, 0), (0, 0, 0), (0, 0, 0), [(0, (false, 0))])),
  (60, (.istore_n 3, (true, 61), (false, 0), (0, 0, 0), (0, 0, 0), [])),
  (61, (.iload_n 3, (false, 62), (false, 0), (0, 0, 0), (0, 0, 0), [])),
  (62, (.aload_n 0, (false, 63), (false, 0), (0, 0, 0), (0, 0, 0), [])),
  (63, (.getfield 91, (false, 66), (false, 0), (4, 14, 0), (0, 0, 531), [])),
  (66, (.if_icmp .ge 18, (false, 69), (false, 84), (0, 0, 0), (0, 0, 0), [])),
  (69, (.iload_n 2, (false, 70), (false, 0), (0, 0, 0), (0, 0, 0), [])),
  (70, (.aload_n 0, (false, 71), (false, 0), (0, 0, 0), (0, 0, 0), [])),
  (71, (.getfield 44, (false, 74), (false, 0), (4, 15, 1), (0, 0, 532), [])),
  (74, (.iload_n 3, (false, 75), (false, 0), (0, 0, 0), (0, 0, 0), [])),
  (75, (.iaload, (false, 76), (false, 0), (0, 0, 0), (0, 0, 0), [])),
  (76, (.iadd, (false, 77), (false, 0), (0, 0, 0), (0, 0, 0), [])),
  (77, (.istore_n 2, (false, 78), (false, 0), (0, 0, 0), (0, 0, 0), [])),
  (78, (.iinc 3 1, (false, 81), (false, 0), (0, 0, 0), (0, 0, 0), [(1, (false, 0))])),
  (81, (.goto (-20), (false, 84), (true, 61), (0, 0, 0), (0, 0, 0), [])),
  (84, (.iload_n 2, (false, 85), (false, 0), (0, 0, 0), (0, 0, 0), [])),
  (85, (.ireturn, (false, 86), (false, 0), (0, 0, 0), (0, 0, 0), [])),
  (86, (.aload_n 0, (false, 87), (false, 0), (0, 0, 0), (0, 0, 0), [])),
  (87, (.iconst (-1), (false, 88), (false, 0), (0, 0, 0), (0, 0, 0), [((-1), (false, 0))])),
  (88, (.iconst 3, (false, 89), (false, 0), (0, 0, 0), (0, 0, 0), [(3, (false, 0))])),
  (89, (.iconst 1, (false, 90), (false, 0), (0, 0, 0), (0, 0, 0), [(1, (false, 0))])),
  (90, (.invokevirtual 178, (false, 93), (false, 4), (30, 4, 1), (0, 0, 768), [])),
  (93, (.ireturn, (false, 94), (false, 0), (0, 0, 0), (0, 0, 0), [])),
  (94, (.aload_n 0, (false, 95), (false, 0), (0, 0, 0), (0, 0, 0), [])),
  (95, (.iconst (-1), (false, 96), (false, 0), (0, 0, 0), (0, 0, 0), [((-1), (false, 0))])),
  (96, (.iconst 1, (false, 97), (false, 0), (0, 0, 0), (0, 0, 0), [(1, (false, 0))])),
  (97, (.iconst 1, (false, 98), (false, 0), (0, 0, 0), (0, 0, 0), [(1, (false, 0))])),
  (98, (.invokevirtual 178, (false, 101), (false, 4), (30, 4, 1), (0, 0, 768), [])),
  (101, (.aload_n 0, (false, 102), (false, 0), (0, 0, 0), (0, 0, 0), [])),
  (102, (.iconst (-1), (false, 103), (false, 0), (0, 0, 0), (0, 0, 0), [((-1), (false, 0))])),
  (103, (.iconst 2, (false, 104), (false, 0), (0, 0, 0), (0, 0, 0), [(2, (false, 0))])),
  (104, (.iconst 1, (false, 105), (false, 0), (0, 0, 0), (0, 0, 0), [(1, (false, 0))])),
  (105, (.invokevirtual 178, (false, 108), (false, 4), (30, 4, 1), (0, 0, 768), [])),
  (108, (.iadd, (false, 109), (false, 0), (0, 0, 0), (0, 0, 0), [])),
  (109, (.ireturn, (false, 110), (false, 0), (0, 0, 0), (0, 0, 0), [])),
  (110, (.aload_n 0, (false, 111), (false, 0), (0, 0, 0), (0, 0, 0), [])),
  (111, (.iconst (-1), (false, 112), (false, 0), (0, 0, 0), (0, 0, 0), [((-1), (false, 0))])),
  (112, (.iconst 4, (false, 113), (false, 0), (0, 0, 0), (0, 0, 0), [(4, (false, 0))])),
  (113, (.iconst 1, (false, 114), (false, 0), (0, 0, 0), (0, 0, 0), [(1, (false, 0))])),
  (114, (.invokevirtual 178, (false, 117), (false, 4), (30, 4, 1), (0, 0, 768), [])),
  (117, (.ireturn, (false, 118), (false, 0), (0, 0, 0), (0, 0, 0), [])),
  (118, (.iload_n 1, (false, 119), (false, 0), (0, 0, 0), (0, 0, 0), [])),
  (119, (.bipush 11, (false, 121), (false, 0), (0, 0, 0), (0, 0, 0), [(11, (false, 0))])),
  (121, (.bipush 16, (false, 123), (false, 0), (0, 0, 0), (0, 0, 0), [(16, (false, 0))])),
  (123, (.invokestatic 87, (false, 126), (false, 0), (19, 3, 1), (0, 0, 629), [])),
  (126, (.ifCond .eq 15, (false, 129), (false, 141), (0, 0, 0), (0, 0, 0), [])),
  (129, (.aload_n 0, (false, 130), (false, 0), (0, 0, 0), (0, 0, 0), [])),
  (130, (.getfield 80, (false, 133), (false, 0), (4, 28, 1), (0, 0, 545), [])),
  (133, (.iload_n 1, (false, 134), (false, 0), (0, 0, 0), (0, 0, 0), [])),
  (134, (.bipush 10, (false, 136), (false, 0), (0, 0, 0), (0, 0, 0), [(10, (false, 0))])),
  (136, (.isub, (false, 137), (false, 0), (0, 0, 0), (0, 0, 0), [])),
  (137, (.iaload, (false, 138), (false, 0), (0, 0, 0), (0, 0, 0), [])),
  (138, (.goto 5, (false, 141), (false, 143), (0, 0, 0), (0, 0, 0), [])),
  (141, (.bipush (-9), (false, 143), (false, 0), (0, 0, 0), (0, 0, 0), [((-9), (false, 0))])),
  (143, (.ireturn, (false, 144), (false, 0), (0, 0, 0), (0, 0, 0), []))]
set_option maxRecDepth 100000 in
theorem pe_M_count : pw_fnd pp_M_count 0 = (.iconst 0, (false, 1), (false, 0), (0, 0, 0), (0, 0, 0), [(0, (false, 0))]) ∧
  pw_fnd pp_M_count 1 = (.istore_n 2, (false, 2), (false, 0), (0, 0, 0), (0, 0, 0), []) ∧
  pw_fnd pp_M_count 2 = (.iload_n 1, (false, 3), (false, 0), (0, 0, 0), (0, 0, 0), []) ∧
  pw_fnd pp_M_count 3 = (.tableswitch 115 0 6 #[41, 46, 51, 56, 83, 91, 107], (false, 44), (false, 118), (0, 0, 0), (0, 0, 0), [(0, (false, 44)), (1, (false, 49)), (2, (false, 54)), (3, (false, 59)), (4, (false, 86)), (5, (false, 94)), (6, (false, 110))]) ∧
  pw_fnd pp_M_count 44 = (.aload_n 0, (false, 45), (false, 0), (0, 0, 0), (0, 0, 0), []) ∧
  pw_fnd pp_M_count 45 = (.getfield 114, (false, 48), (false, 0), (4, 0, 0), (0, 0, 517), []) ∧
  pw_fnd pp_M_count 48 = (.ireturn, (false, 49), (false, 0), (0, 0, 0), (0, 0, 0), []) ∧
  pw_fnd pp_M_count 49 = (.aload_n 0, (false, 50), (false, 0), (0, 0, 0), (0, 0, 0), []) ∧
  pw_fnd pp_M_count 50 = (.getfield 83, (false, 53), (false, 0), (4, 2, 0), (0, 0, 519), []) ∧
  pw_fnd pp_M_count 53 = (.ireturn, (false, 54), (false, 0), (0, 0, 0), (0, 0, 0), []) ∧
  pw_fnd pp_M_count 54 = (.aload_n 0, (false, 55), (false, 0), (0, 0, 0), (0, 0, 0), []) ∧
  pw_fnd pp_M_count 55 = (.getfield 91, (false, 58), (false, 0), (4, 14, 0), (0, 0, 531), []) ∧
  pw_fnd pp_M_count 58 = (.ireturn, (false, 59), (false, 0), (0, 0, 0), (0, 0, 0), []) ∧
  pw_fnd pp_M_count 59 = (.iconst 0, (false, 60), (false, 0), (0, 0, 0), (0, 0, 0), [(0, (false, 0))]) ∧
  pw_fnd pp_M_count 60 = (.istore_n 3, (true, 61), (false, 0), (0, 0, 0), (0, 0, 0), []) ∧
  pw_fnd pp_M_count 61 = (.iload_n 3, (false, 62), (false, 0), (0, 0, 0), (0, 0, 0), []) ∧
  pw_fnd pp_M_count 62 = (.aload_n 0, (false, 63), (false, 0), (0, 0, 0), (0, 0, 0), []) ∧
  pw_fnd pp_M_count 63 = (.getfield 91, (false, 66), (false, 0), (4, 14, 0), (0, 0, 531), []) ∧
  pw_fnd pp_M_count 66 = (.if_icmp .ge 18, (false, 69), (false, 84), (0, 0, 0), (0, 0, 0), []) ∧
  pw_fnd pp_M_count 69 = (.iload_n 2, (false, 70), (false, 0), (0, 0, 0), (0, 0, 0), []) ∧
  pw_fnd pp_M_count 70 = (.aload_n 0, (false, 71), (false, 0), (0, 0, 0), (0, 0, 0), []) ∧
  pw_fnd pp_M_count 71 = (.getfield 44, (false, 74), (false, 0), (4, 15, 1), (0, 0, 532), []) ∧
  pw_fnd pp_M_count 74 = (.iload_n 3, (false, 75), (false, 0), (0, 0, 0), (0, 0, 0), []) ∧
  pw_fnd pp_M_count 75 = (.iaload, (false, 76), (false, 0), (0, 0, 0), (0, 0, 0), []) ∧
  pw_fnd pp_M_count 76 = (.iadd, (false, 77), (false, 0), (0, 0, 0), (0, 0, 0), []) ∧
  pw_fnd pp_M_count 77 = (.istore_n 2, (false, 78), (false, 0), (0, 0, 0), (0, 0, 0), []) ∧
  pw_fnd pp_M_count 78 = (.iinc 3 1, (false, 81), (false, 0), (0, 0, 0), (0, 0, 0), [(1, (false, 0))]) ∧
  pw_fnd pp_M_count 81 = (.goto (-20), (false, 84), (true, 61), (0, 0, 0), (0, 0, 0), []) ∧
  pw_fnd pp_M_count 84 = (.iload_n 2, (false, 85), (false, 0), (0, 0, 0), (0, 0, 0), []) ∧
  pw_fnd pp_M_count 85 = (.ireturn, (false, 86), (false, 0), (0, 0, 0), (0, 0, 0), []) ∧
  pw_fnd pp_M_count 86 = (.aload_n 0, (false, 87), (false, 0), (0, 0, 0), (0, 0, 0), []) ∧
  pw_fnd pp_M_count 87 = (.iconst (-1), (false, 88), (false, 0), (0, 0, 0), (0, 0, 0), [((-1), (false, 0))]) ∧
  pw_fnd pp_M_count 88 = (.iconst 3, (false, 89), (false, 0), (0, 0, 0), (0, 0, 0), [(3, (false, 0))]) ∧
  pw_fnd pp_M_count 89 = (.iconst 1, (false, 90), (false, 0), (0, 0, 0), (0, 0, 0), [(1, (false, 0))]) ∧
  pw_fnd pp_M_count 90 = (.invokevirtual 178, (false, 93), (false, 4), (30, 4, 1), (0, 0, 768), []) ∧
  pw_fnd pp_M_count 93 = (.ireturn, (false, 94), (false, 0), (0, 0, 0), (0, 0, 0), []) ∧
  pw_fnd pp_M_count 94 = (.aload_n 0, (false, 95), (false, 0), (0, 0, 0), (0, 0, 0), []) ∧
  pw_fnd pp_M_count 95 = (.iconst (-1), (false, 96), (false, 0), (0, 0, 0), (0, 0, 0), [((-1), (false, 0))]) ∧
  pw_fnd pp_M_count 96 = (.iconst 1, (false, 97), (false, 0), (0, 0, 0), (0, 0, 0), [(1, (false, 0))]) ∧
  pw_fnd pp_M_count 97 = (.iconst 1, (false, 98), (false, 0), (0, 0, 0), (0, 0, 0), [(1, (false, 0))]) ∧
  pw_fnd pp_M_count 98 = (.invokevirtual 178, (false, 101), (false, 4), (30, 4, 1), (0, 0, 768), []) ∧
  pw_fnd pp_M_count 101 = (.aload_n 0, (false, 102), (false, 0), (0, 0, 0), (0, 0, 0), []) ∧
  pw_fnd pp_M_count 102 = (.iconst (-1), (false, 103), (false, 0), (0, 0, 0), (0, 0, 0), [((-1), (false, 0))]) ∧
  pw_fnd pp_M_count 103 = (.iconst 2, (false, 104), (false, 0), (0, 0, 0), (0, 0, 0), [(2, (false, 0))]) ∧
  pw_fnd pp_M_count 104 = (.iconst 1, (false, 105), (false, 0), (0, 0, 0), (0, 0, 0), [(1, (false, 0))]) ∧
  pw_fnd pp_M_count 105 = (.invokevirtual 178, (false, 108), (false, 4), (30, 4, 1), (0, 0, 768), []) ∧
  pw_fnd pp_M_count 108 = (.iadd, (false, 109), (false, 0), (0, 0, 0), (0, 0, 0), []) ∧
  pw_fnd pp_M_count 109 = (.ireturn, (false, 110), (false, 0), (0, 0, 0), (0, 0, 0), []) ∧
  pw_fnd pp_M_count 110 = (.aload_n 0, (false, 111), (false, 0), (0, 0, 0), (0, 0, 0), []) ∧
  pw_fnd pp_M_count 111 = (.iconst (-1), (false, 112), (false, 0), (0, 0, 0), (0, 0, 0), [((-1), (false, 0))]) ∧
  pw_fnd pp_M_count 112 = (.iconst 4, (false, 113), (false, 0), (0, 0, 0), (0, 0, 0), [(4, (false, 0))]) ∧
  pw_fnd pp_M_count 113 = (.iconst 1, (false, 114), (false, 0), (0, 0, 0), (0, 0, 0), [(1, (false, 0))]) ∧
  pw_fnd pp_M_count 114 = (.invokevirtual 178, (false, 117), (false, 4), (30, 4, 1), (0, 0, 768), []) ∧
  pw_fnd pp_M_count 117 = (.ireturn, (false, 118), (false, 0), (0, 0, 0), (0, 0, 0), []) ∧
  pw_fnd pp_M_count 118 = (.iload_n 1, (false, 119), (false, 0), (0, 0, 0), (0, 0, 0), []) ∧
  pw_fnd pp_M_count 119 = (.bipush 11, (false, 121), (false, 0), (0, 0, 0), (0, 0, 0), [(11, (false, 0))]) ∧
  pw_fnd pp_M_count 121 = (.bipush 16, (false, 123), (false, 0), (0, 0, 0), (0, 0, 0), [(16, (false, 0))]) ∧
  pw_fnd pp_M_count 123 = (.invokestatic 87, (false, 126), (false, 0), (19, 3, 1), (0, 0, 629), []) ∧
  pw_fnd pp_M_count 126 = (.ifCond .eq 15, (false, 129), (false, 141), (0, 0, 0), (0, 0, 0), []) ∧
  pw_fnd pp_M_count 129 = (.aload_n 0, (false, 130), (false, 0), (0, 0, 0), (0, 0, 0), []) ∧
  pw_fnd pp_M_count 130 = (.getfield 80, (false, 133), (false, 0), (4, 28, 1), (0, 0, 545), []) ∧
  pw_fnd pp_M_count 133 = (.iload_n 1, (false, 134), (false, 0), (0, 0, 0), (0, 0, 0), []) ∧
  pw_fnd pp_M_count 134 = (.bipush 10, (false, 136), (false, 0), (0, 0, 0), (0, 0, 0), [(10, (false, 0))]) ∧
  pw_fnd pp_M_count 136 = (.isub, (false, 137), (false, 0), (0, 0, 0), (0, 0, 0), []) ∧
  pw_fnd pp_M_count 137 = (.iaload, (false, 138), (false, 0), (0, 0, 0), (0, 0, 0), []) ∧
  pw_fnd pp_M_count 138 = (.goto 5, (false, 141), (false, 143), (0, 0, 0), (0, 0, 0), []) ∧
  pw_fnd pp_M_count 141 = (.bipush (-9), (false, 143), (false, 0), (0, 0, 0), (0, 0, 0), [((-9), (false, 0))]) ∧
  pw_fnd pp_M_count 143 = (.ireturn, (false, 144), (false, 0), (0, 0, 0), (0, 0, 0), []) :=
  ⟨rfl, rfl, rfl, rfl, rfl, rfl, rfl, rfl, rfl, rfl, rfl, rfl, rfl, rfl, rfl, rfl, rfl, rfl, rfl, rfl, rfl, rfl, rfl, rfl, rfl, rfl, rfl, rfl, rfl, rfl, rfl, rfl, rfl, rfl, rfl, rfl, rfl, rfl, rfl, rfl, rfl, rfl, rfl, rfl, rfl, rfl, rfl, rfl, rfl, rfl, rfl, rfl, rfl, rfl, rfl, rfl, rfl, rfl, rfl, rfl, rfl, rfl, rfl, rfl, rfl, rfl, rfl, rfl⟩
set_option maxRecDepth 100000 in
theorem pk_M_count : pp_M_count.all (fun q => pw_chk pw_jt pm_M_count q.1 q.2) = true := by decide +kernel
def pp_M_walk : List (Nat × pw_E) := [(0, (.aload_n 0, (false, 1), (false, 0), (0, 0, 0), (0, 0, 0), [])),
  (1, (.iload_n 1, (false, 2), (false, 0), (0, 0, 0), (0, 0, 0), [])),
  (2, (.invokevirtual 98, (false, 5), (false, 4), (54, 2, 1), (0, 0, 625), [])),
  (5, (.ifCond .eq 16, (false, 8), (false, 21), (0, 0, 0), (0, 0, 0), [])),
  (8, (.aload_n 0, (false, 9), (false, 0), (0, 0, 0), (0, 0, 0), [])),
  (9, (.iload_n 2, (false, 10), (false, 0), (0, 0, 0), (0, 0, 0), [])),
  (10, (.invokevirtual 98, (false, 13), (false, 4), (54, 2, 1), (0, 0, 625), [])),
  (13, (.ifCond .eq 8, (false, 16), (false, 21), (0, 0, 0), (0, 0, 0), [])),
  (16, (.iload_n 1, (false, 17), (false, 0), (0, 0, 0), (0, 0, 0), [])),
  (17, (.iload_n 2, (false, 18), (false, 0), (0, 0, 0), (0, 0, 0), [])),
  (18, (.if_icmp .ne 9, (false, 21), (false, 27), (0, 0, 0), (0, 0, 0), [])),
  (21, (.aload_n 0, (false, 22), (false, 0), (0, 0, 0), (0, 0, 0), [])),
  (22, (.iconst (-1), (false, 23), (false, 0), (0, 0, 0), (0, 0, 0), [((-1), (false, 0))])),
  (23, (.invokevirtual 94, (false, 26), (false, 4), (20, 2, 1), (0, 0, 613), [])),
  (26, (.ireturn, (false, 27), (false, 0), (0, 0, 0), (0, 0, 0), [])),
  (27, (.iload_n 3, (false, 28), (false, 0), (0, 0, 0), (0, 0, 0), [])),
  (28, (.ifCond .ge 10, (false, 31), (false, 38), (0, 0, 0), (0, 0, 0), [])),
  (31, (.aload_n 0, (false, 32), (false, 0), (0, 0, 0), (0, 0, 0), [])),
  (32, (.bipush (-4), (false, 34), (false, 0), (0, 0, 0), (0, 0, 0), [((-4), (false, 0))])),
  (34, (.invokevirtual 94, (false, 37), (false, 4), (20, 2, 1), (0, 0, 613), [])),
  (37, (.ireturn, (false, 38), (false, 0), (0, 0, 0), (0, 0, 0), [])),
  (38, (.iload_n 3, (false, 39), (false, 0), (0, 0, 0), (0, 0, 0), [])),
  (39, (.bipush 50, (false, 41), (false, 0), (0, 0, 0), (0, 0, 0), [(50, (false, 0))])),
  (41, (.if_icmp .le 10, (false, 44), (false, 51), (0, 0, 0), (0, 0, 0), [])),
  (44, (.aload_n 0, (false, 45), (false, 0), (0, 0, 0), (0, 0, 0), [])),
  (45, (.bipush (-6), (false, 47), (false, 0), (0, 0, 0), (0, 0, 0), [((-6), (false, 0))])),
  (47, (.invokevirtual 94, (false, 50), (false, 4), (20, 2, 1), (0, 0, 613), [])),
  (50, (.ireturn, (false, 51), (false, 0), (0, 0, 0), (0, 0, 0), [])),
  (51, (.aload_n 0, (false, 52), (false, 0), (0, 0, 0), (0, 0, 0), [])),
  (52, (.getfield 38, (false, 55), (false, 0), (4, 12, 1), (0, 0, 529), [])),
  (55, (.bipush 8, (false, 57), (false, 0), (0, 0, 0), (0, 0, 0), [(8, (false, 0))])),
  (57, (.iload_n 1, (false, 58), (false, 0), (0, 0, 0), (0, 0, 0), [])),
  (58, (.imul, (false, 59), (false, 0), (0, 0, 0), (0, 0, 0), [])),
  (59, (.iload_n 2, (false, 60), (false, 0), (0, 0, 0), (0, 0, 0), [])),
  (60, (.iadd, (false, 61), (false, 0), (0, 0, 0), (0, 0, 0), [])),
  (61, (.iaload, (false, 62), (false, 0), (0, 0, 0), (0, 0, 0), [])),
  (62, (.istore 4, (false, 64), (false, 0), (0, 0, 0), (0, 0, 0), [])),
  (64, (.aload_n 0, (false, 65), (false, 0), (0, 0, 0), (0, 0, 0), [])),
  (65, (.getfield 38, (false, 68), (false, 0), (4, 12, 1), (0, 0, 529), [])),
  (68, (.bipush 8, (false, 70), (false, 0), (0, 0, 0), (0, 0, 0), [(8, (false, 0))])),
  (70, (.iload_n 1, (false, 71), (false, 0), (0, 0, 0), (0, 0, 0), [])),
  (71, (.imul, (false, 72), (false, 0), (0, 0, 0), (0, 0, 0), [])),
  (72, (.iload_n 2, (false, 73), (false, 0), (0, 0, 0), (0, 0, 0), [])),
  (73, (.iadd, (false, 74), (false, 0), (0, 0, 0), (0, 0, 0), [])),
  (74, (.iload_n 3, (false, 75), (false, 0), (0, 0, 0), (0, 0, 0), [])),
  (75, (.iastore, (false, 76), (false, 0), (0, 0, 0), (0, 0, 0), [])),
  (76, (.aload_n 0, (false, 77), (false, 0), (0, 0, 0), (0, 0, 0), [])),
  (77, (.getfield 38, (false, 80), (false, 0), (4, 12, 1), (0, 0, 529), [])),
  (80, (.bipush 8, (false, 82), (false, 0), (0, 0, 0), (0, 0, 0), [(8, (false, 0))])),
  (82, (.iload_n 2, (false, 83), (false, 0), (0, 0, 0), (0, 0, 0), [])),
  (83, (.imul, (false, 84), (false, 0), (0, 0, 0), (0, 0, 0), [])),
  (84, (.iload_n 1, (false, 85), (false, 0), (0, 0, 0), (0, 0, 0), [])),
  (85, (.iadd, (false, 86), (false, 0), (0, 0, 0), (0, 0, 0), [])),
  (86, (.iload_n 3, (false, 87), (false, 0), (0, 0, 0), (0, 0, 0), [])),
  (87, (.iastore, (false, 88), (false, 0), (0, 0, 0), (0, 0, 0), [])),
  (88, (.iload 4, (false, 90), (false, 0), (0, 0, 0), (0, 0, 0), [])),
  (90, (.ireturn, (false, 91), (false, 0), (0, 0, 0), (0, 0, 0), []))]
set_option maxRecDepth 100000 in
theorem pe_M_walk : pw_fnd pp_M_walk 0 = (.aload_n 0, (false, 1), (false, 0), (0, 0, 0), (0, 0, 0), []) ∧
  pw_fnd pp_M_walk 1 = (.iload_n 1, (false, 2), (false, 0), (0, 0, 0), (0, 0, 0), []) ∧
  pw_fnd pp_M_walk 2 = (.invokevirtual 98, (false, 5), (false, 4), (54, 2, 1), (0, 0, 625), []) ∧
  pw_fnd pp_M_walk 5 = (.ifCond .eq 16, (false, 8), (false, 21), (0, 0, 0), (0, 0, 0), []) ∧
  pw_fnd pp_M_walk 8 = (.aload_n 0, (false, 9), (false, 0), (0, 0, 0), (0, 0, 0), []) ∧
  pw_fnd pp_M_walk 9 = (.iload_n 2, (false, 10), (false, 0), (0, 0, 0), (0, 0, 0), []) ∧
  pw_fnd pp_M_walk 10 = (.invokevirtual 98, (false, 13), (false, 4), (54, 2, 1), (0, 0, 625), []) ∧
  pw_fnd pp_M_walk 13 = (.ifCond .eq 8, (false, 16), (false, 21), (0, 0, 0), (0, 0, 0), []) ∧
  pw_fnd pp_M_walk 16 = (.iload_n 1, (false, 17), (false, 0), (0, 0, 0), (0, 0, 0), []) ∧
  pw_fnd pp_M_walk 17 = (.iload_n 2, (false, 18), (false, 0), (0, 0, 0), (0, 0, 0), []) ∧
  pw_fnd pp_M_walk 18 = (.if_icmp .ne 9, (false, 21), (false, 27), (0, 0, 0), (0, 0, 0), []) ∧
  pw_fnd pp_M_walk 21 = (.aload_n 0, (false, 22), (false, 0), (0, 0, 0), (0, 0, 0), []) ∧
  pw_fnd pp_M_walk 22 = (.iconst (-1), (false, 23), (false, 0), (0, 0, 0), (0, 0, 0), [((-1), (false, 0))]) ∧
  pw_fnd pp_M_walk 23 = (.invokevirtual 94, (false, 26), (false, 4), (20, 2, 1), (0, 0, 613), []) ∧
  pw_fnd pp_M_walk 26 = (.ireturn, (false, 27), (false, 0), (0, 0, 0), (0, 0, 0), []) ∧
  pw_fnd pp_M_walk 27 = (.iload_n 3, (false, 28), (false, 0), (0, 0, 0), (0, 0, 0), []) ∧
  pw_fnd pp_M_walk 28 = (.ifCond .ge 10, (false, 31), (false, 38), (0, 0, 0), (0, 0, 0), []) ∧
  pw_fnd pp_M_walk 31 = (.aload_n 0, (false, 32), (false, 0), (0, 0, 0), (0, 0, 0), []) ∧
  pw_fnd pp_M_walk 32 = (.bipush (-4), (false, 34), (false, 0), (0, 0, 0), (0, 0, 0), [((-4), (false, 0))]) ∧
  pw_fnd pp_M_walk 34 = (.invokevirtual 94, (false, 37), (false, 4), (20, 2, 1), (0, 0, 613), []) ∧
  pw_fnd pp_M_walk 37 = (.ireturn, (false, 38), (false, 0), (0, 0, 0), (0, 0, 0), []) ∧
  pw_fnd pp_M_walk 38 = (.iload_n 3, (false, 39), (false, 0), (0, 0, 0), (0, 0, 0), []) ∧
  pw_fnd pp_M_walk 39 = (.bipush 50, (false, 41), (false, 0), (0, 0, 0), (0, 0, 0), [(50, (false, 0))]) ∧
  pw_fnd pp_M_walk 41 = (.if_icmp .le 10, (false, 44), (false, 51), (0, 0, 0), (0, 0, 0), []) ∧
  pw_fnd pp_M_walk 44 = (.aload_n 0, (false, 45), (false, 0), (0, 0, 0), (0, 0, 0), []) ∧
  pw_fnd pp_M_walk 45 = (.bipush (-6), (false, 47), (false, 0), (0, 0, 0), (0, 0, 0), [((-6), (false, 0))]) ∧
  pw_fnd pp_M_walk 47 = (.invokevirtual 94, (false, 50), (false, 4), (20, 2, 1), (0, 0, 613), []) ∧
  pw_fnd pp_M_walk 50 = (.ireturn, (false, 51), (false, 0), (0, 0, 0), (0, 0, 0), []) ∧
  pw_fnd pp_M_walk 51 = (.aload_n 0, (false, 52), (false, 0), (0, 0, 0), (0, 0, 0), []) ∧
  pw_fnd pp_M_walk 52 = (.getfield 38, (false, 55), (false, 0), (4, 12, 1), (0, 0, 529), []) ∧
  pw_fnd pp_M_walk 55 = (.bipush 8, (false, 57), (false, 0), (0, 0, 0), (0, 0, 0), [(8, (false, 0))]) ∧
  pw_fnd pp_M_walk 57 = (.iload_n 1, (false, 58), (false, 0), (0, 0, 0), (0, 0, 0), []) ∧
  pw_fnd pp_M_walk 58 = (.imul, (false, 59), (false, 0), (0, 0, 0), (0, 0, 0), []) ∧
  pw_fnd pp_M_walk 59 = (.iload_n 2, (false, 60), (false, 0), (0, 0, 0), (0, 0, 0), []) ∧
  pw_fnd pp_M_walk 60 = (.iadd, (false, 61), (false, 0), (0, 0, 0), (0, 0, 0), []) ∧
  pw_fnd pp_M_walk 61 = (.iaload, (false, 62), (false, 0), (0, 0, 0), (0, 0, 0), []) ∧
  pw_fnd pp_M_walk 62 = (.istore 4, (false, 64), (false, 0), (0, 0, 0), (0, 0, 0), []) ∧
  pw_fnd pp_M_walk 64 = (.aload_n 0, (false, 65), (false, 0), (0, 0, 0), (0, 0, 0), []) ∧
  pw_fnd pp_M_walk 65 = (.getfield 38, (false, 68), (false, 0), (4, 12, 1), (0, 0, 529), []) ∧
  pw_fnd pp_M_walk 68 = (.bipush 8, (false, 70), (false, 0), (0, 0, 0), (0, 0, 0), [(8, (false, 0))]) ∧
  pw_fnd pp_M_walk 70 = (.iload_n 1, (false, 71), (false, 0), (0, 0, 0), (0, 0, 0), []) ∧
  pw_fnd pp_M_walk 71 = (.imul, (false, 72), (false, 0), (0, 0, 0), (0, 0, 0), []) ∧
  pw_fnd pp_M_walk 72 = (.iload_n 2, (false, 73), (false, 0), (0, 0, 0), (0, 0, 0), []) ∧
  pw_fnd pp_M_walk 73 = (.iadd, (false, 74), (false, 0), (0, 0, 0), (0, 0, 0), []) ∧
  pw_fnd pp_M_walk 74 = (.iload_n 3, (false, 75), (false, 0), (0, 0, 0), (0, 0, 0), []) ∧
  pw_fnd pp_M_walk 75 = (.iastore, (false, 76), (false, 0), (0, 0, 0), (0, 0, 0), []) ∧
  pw_fnd pp_M_walk 76 = (.aload_n 0, (false, 77), (false, 0), (0, 0, 0), (0, 0, 0), []) ∧
  pw_fnd pp_M_walk 77 = (.getfield 38, (false, 80), (false, 0), (4, 12, 1), (0, 0, 529), []) ∧
  pw_fnd pp_M_walk 80 = (.bipush 8, (false, 82), (false, 0), (0, 0, 0), (0, 0, 0), [(8, (false, 0))]) ∧
  pw_fnd pp_M_walk 82 = (.iload_n 2, (false, 83), (false, 0), (0, 0, 0), (0, 0, 0), []) ∧
  pw_fnd pp_M_walk 83 = (.imul, (false, 84), (false, 0), (0, 0, 0), (0, 0, 0), []) ∧
  pw_fnd pp_M_walk 84 = (.iload_n 1, (false, 85), (false, 0), (0, 0, 0), (0, 0, 0), []) ∧
  pw_fnd pp_M_walk 85 = (.iadd, (false, 86), (false, 0), (0, 0, 0), (0, 0, 0), []) ∧
  pw_fnd pp_M_walk 86 = (.iload_n 3, (false, 87), (false, 0), (0, 0, 0), (0, 0, 0), []) ∧
  pw_fnd pp_M_walk 87 = (.iastore, (false, 88), (false, 0), (0, 0, 0), (0, 0, 0), []) ∧
  pw_fnd pp_M_walk 88 = (.iload 4, (false, 90), (false, 0), (0, 0, 0), (0, 0, 0), []) ∧
  pw_fnd pp_M_walk 90 = (.ireturn, (false, 91), (false, 0), (0, 0, 0), (0, 0, 0), []) :=
  ⟨rfl, rfl, rfl, rfl, rfl, rfl, rfl, rfl, rfl, rfl, rfl, rfl, rfl, rfl, rfl, rfl, rfl, rfl, rfl, rfl, rfl, rfl, rfl, rfl, rfl, rfl, rfl, rfl, rfl, rfl, rfl, rfl, rfl, rfl, rfl, rfl, rfl, rfl, rfl, rfl, rfl, rfl, rfl, rfl, rfl, rfl, rfl, rfl, rfl, rfl, rfl, rfl, rfl, rfl, rfl, rfl, rfl⟩
set_option maxRecDepth 100000 in
theorem pk_M_walk : pp_M_walk.all (fun q => pw_chk pw_jt pm_M_walk q.1 q.2) = true := by decide +kernel
def pp_M_part : List (Nat × pw_E) := [(0, (.aload_n 0, (false, 1), (false, 0), (0, 0, 0), (0, 0, 0), [])),
  (1, (.iload_n 1, (false, 2), (false, 0), (0, 0, 0), (0, 0, 0), [])),
  (2, (.invokevirtual 98, (false, 5), (false, 4), (54, 2, 1), (0, 0, 625), [])),
  (5, (.ifCond .ne 9, (false, 8), (false, 14), (0, 0, 0), (0, 0, 0), [])),
  (8, (.aload_n 0, (false, 9), (false, 0), (0, 0, 0), (0, 0, 0), [])),
  (9, (.iconst (-1), (false, 10), (false, 0), (0, 0, 0), (0, 0, 0), [((-1), (false, 0))])),
  (10, (.invokevirtual 94, (false, 13), (false, 4), (20, 2, 1), (0, 0, 613), [])),
  (13, (.ireturn, (false, 14), (false, 0), (0, 0, 0), (0, 0, 0), [])),
  (14, (.iload_n 2, (false, 15), (false, 0), (0, 0, 0), (0, 0, 0), [])),
  (15, (.ifCond .lt 7, (false, 18), (false, 22), (0, 0, 0), (0, 0, 0), [])),
  (18, (.iload_n 3, (false, 19), (false, 0), (0, 0, 0), (0, 0, 0), [])),
  (19, (.ifCond .ge 10, (false, 22), (false, 29), (0, 0, 0), (0, 0, 0), [])),
  (22, (.aload_n 0, (false, 23), (false, 0), (0, 0, 0), (0, 0, 0), [])),
  (23, (.bipush (-4), (false, 25), (false, 0), (0, 0, 0), (0, 0, 0), [((-4), (false, 0))])),
  (25, (.invokevirtual 94, (false, 28), (false, 4), (20, 2, 1), (0, 0, 613), [])),
  (28, (.ireturn, (false, 29), (false, 0), (0, 0, 0), (0, 0, 0), [])),
  (29, (.iload_n 2, (false, 30), (false, 0), (0, 0, 0), (0, 0, 0), [])),
  (30, (.aload_n 0, (false, 31), (false, 0), (0, 0, 0), (0, 0, 0), [])),
  (31, (.getfield 7, (false, 34), (false, 0), (4, 3, 1), (0, 0, 520), [])),
  (34, (.iload_n 1, (false, 35), (false, 0), (0, 0, 0), (0, 0, 0), [])),
  (35, (.iaload, (false, 36), (false, 0), (0, 0, 0), (0, 0, 0), [])),
  (36, (.if_icmp .gt 9, (false, 39), (false, 45), (0, 0, 0), (0, 0, 0), [])),
  (39, (.iload_n 3, (false, 40), (false, 0), (0, 0, 0), (0, 0, 0), [])),
  (40, (.bipush 99, (false, 42), (false, 0), (0, 0, 0), (0, 0, 0), [(99, (false, 0))])),
  (42, (.if_icmp .le 10, (false, 45), (false, 52), (0, 0, 0), (0, 0, 0), [])),
  (45, (.aload_n 0, (false, 46), (false, 0), (0, 0, 0), (0, 0, 0), [])),
  (46, (.bipush (-6), (false, 48), (false, 0), (0, 0, 0), (0, 0, 0), [((-6), (false, 0))])),
  (48, (.invokevirtual 94, (false, 51), (false, 4), (20, 2, 1), (0, 0, 613), [])),
  (51, (.ireturn, (false, 52), (false, 0), (0, 0, 0), (0, 0, 0), [])),
  (52, (.aload_n 0, (false, 53), (false, 0), (0, 0, 0), (0, 0, 0), [])),
  (53, (.getfield 16, (false, 56), (false, 0), (4, 5, 1), (0, 0, 522), [])),
  (56, (.iload_n 1, (false, 57), (false, 0), (0, 0, 0), (0, 0, 0), [])),
  (57, (.iload_n 2, (false, 58), (false, 0), (0, 0, 0), (0, 0, 0), [])),
  (58, (.iastore, (false, 59), (false, 0), (0, 0, 0), (0, 0, 0), [])),
  (59, (.aload_n 0, (false, 60), (false, 0), (0, 0, 0), (0, 0, 0), [])),
  (60, (.getfield 19, (false, 63), (false, 0), (4, 6, 1), (0, 0, 523), [])),
  (63, (.iload_n 1, (false, 64), (false, 0), (0, 0, 0), (0, 0, 0), [])),
  (64, (.iload_n 3, (false, 65), (false, 0), (0, 0, 0), (0, 0, 0), [])),
  (65, (.iastore, (false, 66), (false, 0), (0, 0, 0), (0, 0, 0), [])),
  (66, (.iconst 1, (false, 67), (false, 0), (0, 0, 0), (0, 0, 0), [(1, (false, 0))])),
  (67, (.ireturn, (false, 68), (false, 0), (0, 0, 0), (0, 0, 0), []))]
set_option maxRecDepth 100000 in
theorem pe_M_part : pw_fnd pp_M_part 0 = (.aload_n 0, (false, 1), (false, 0), (0, 0, 0), (0, 0, 0), []) ∧
  pw_fnd pp_M_part 1 = (.iload_n 1, (false, 2), (false, 0), (0, 0, 0), (0, 0, 0), []) ∧
  pw_fnd pp_M_part 2 = (.invokevirtual 98, (false, 5), (false, 4), (54, 2, 1), (0, 0, 625), []) ∧
  pw_fnd pp_M_part 5 = (.ifCond .ne 9, (false, 8), (false, 14), (0, 0, 0), (0, 0, 0), []) ∧
  pw_fnd pp_M_part 8 = (.aload_n 0, (false, 9), (false, 0), (0, 0, 0), (0, 0, 0), []) ∧
  pw_fnd pp_M_part 9 = (.iconst (-1), (false, 10), (false, 0), (0, 0, 0), (0, 0, 0), [((-1), (false, 0))]) ∧
  pw_fnd pp_M_part 10 = (.invokevirtual 94, (false, 13), (false, 4), (20, 2, 1), (0, 0, 613), []) ∧
  pw_fnd pp_M_part 13 = (.ireturn, (false, 14), (false, 0), (0, 0, 0), (0, 0, 0), []) ∧
  pw_fnd pp_M_part 14 = (.iload_n 2, (false, 15), (false, 0), (0, 0, 0), (0, 0, 0), []) ∧
  pw_fnd pp_M_part 15 = (.ifCond .lt 7, (false, 18), (false, 22), (0, 0, 0), (0, 0, 0), []) ∧
  pw_fnd pp_M_part 18 = (.iload_n 3, (false, 19), (false, 0), (0, 0, 0), (0, 0, 0), []) ∧
  pw_fnd pp_M_part 19 = (.ifCond .ge 10, (false, 22), (false, 29), (0, 0, 0), (0, 0, 0), []) ∧
  pw_fnd pp_M_part 22 = (.aload_n 0, (false, 23), (false, 0), (0, 0, 0), (0, 0, 0), []) ∧
  pw_fnd pp_M_part 23 = (.bipush (-4), (false, 25), (false, 0), (0, 0, 0), (0, 0, 0), [((-4), (false, 0))]) ∧
  pw_fnd pp_M_part 25 = (.invokevirtual 94, (false, 28), (false, 4), (20, 2, 1), (0, 0, 613), []) ∧
  pw_fnd pp_M_part 28 = (.ireturn, (false, 29), (false, 0), (0, 0, 0), (0, 0, 0), []) ∧
  pw_fnd pp_M_part 29 = (.iload_n 2, (false, 30), (false, 0), (0, 0, 0), (0, 0, 0), []) ∧
  pw_fnd pp_M_part 30 = (.aload_n 0, (false, 31), (false, 0), (0, 0, 0), (0, 0, 0), []) ∧
  pw_fnd pp_M_part 31 = (.getfield 7, (false, 34), (false, 0), (4, 3, 1), (0, 0, 520), []) ∧
  pw_fnd pp_M_part 34 = (.iload_n 1, (false, 35), (false, 0), (0, 0, 0), (0, 0, 0), []) ∧
  pw_fnd pp_M_part 35 = (.iaload, (false, 36), (false, 0), (0, 0, 0), (0, 0, 0), []) ∧
  pw_fnd pp_M_part 36 = (.if_icmp .gt 9, (false, 39), (false, 45), (0, 0, 0), (0, 0, 0), []) ∧
  pw_fnd pp_M_part 39 = (.iload_n 3, (false, 40), (false, 0), (0, 0, 0), (0, 0, 0), []) ∧
  pw_fnd pp_M_part 40 = (.bipush 99, (false, 42), (false, 0), (0, 0, 0), (0, 0, 0), [(99, (false, 0))]) ∧
  pw_fnd pp_M_part 42 = (.if_icmp .le 10, (false, 45), (false, 52), (0, 0, 0), (0, 0, 0), []) ∧
  pw_fnd pp_M_part 45 = (.aload_n 0, (false, 46), (false, 0), (0, 0, 0), (0, 0, 0), []) ∧
  pw_fnd pp_M_part 46 = (.bipush (-6), (false, 48), (false, 0), (0, 0, 0), (0, 0, 0), [((-6), (false, 0))]) ∧
  pw_fnd pp_M_part 48 = (.invokevirtual 94, (false, 51), (false, 4), (20, 2, 1), (0, 0, 613), []) ∧
  pw_fnd pp_M_part 51 = (.ireturn, (false, 52), (false, 0), (0, 0, 0), (0, 0, 0), []) ∧
  pw_fnd pp_M_part 52 = (.aload_n 0, (false, 53), (false, 0), (0, 0, 0), (0, 0, 0), []) ∧
  pw_fnd pp_M_part 53 = (.getfield 16, (false, 56), (false, 0), (4, 5, 1), (0, 0, 522), []) ∧
  pw_fnd pp_M_part 56 = (.iload_n 1, (false, 57), (false, 0), (0, 0, 0), (0, 0, 0), []) ∧
  pw_fnd pp_M_part 57 = (.iload_n 2, (false, 58), (false, 0), (0, 0, 0), (0, 0, 0), []) ∧
  pw_fnd pp_M_part 58 = (.iastore, (false, 59), (false, 0), (0, 0, 0), (0, 0, 0), []) ∧
  pw_fnd pp_M_part 59 = (.aload_n 0, (false, 60), (false, 0), (0, 0, 0), (0, 0, 0), []) ∧
  pw_fnd pp_M_part 60 = (.getfield 19, (false, 63), (false, 0), (4, 6, 1), (0, 0, 523), []) ∧
  pw_fnd pp_M_part 63 = (.iload_n 1, (false, 64), (false, 0), (0, 0, 0), (0, 0, 0), []) ∧
  pw_fnd pp_M_part 64 = (.iload_n 3, (false, 65), (false, 0), (0, 0, 0), (0, 0, 0), []) ∧
  pw_fnd pp_M_part 65 = (.iastore, (false, 66), (false, 0), (0, 0, 0), (0, 0, 0), []) ∧
  pw_fnd pp_M_part 66 = (.iconst 1, (false, 67), (false, 0), (0, 0, 0), (0, 0, 0), [(1, (false, 0))]) ∧
  pw_fnd pp_M_part 67 = (.ireturn, (false, 68), (false, 0), (0, 0, 0), (0, 0, 0), []) :=
  ⟨rfl, rfl, rfl, rfl, rfl, rfl, rfl, rfl, rfl, rfl, rfl, rfl, rfl, rfl, rfl, rfl, rfl, rfl, rfl, rfl, rfl, rfl, rfl, rfl, rfl, rfl, rfl, rfl, rfl, rfl, rfl, rfl, rfl, rfl, rfl, rfl, rfl, rfl, rfl, rfl, rfl⟩
set_option maxRecDepth 100000 in
theorem pk_M_part : pp_M_part.all (fun q => pw_chk pw_jt pm_M_part q.1 q.2) = true := by decide +kernel
def pp_M_overlaps : List (Nat × pw_E) := [(0, (.iconst 0, (false, 1), (false, 0), (0, 0, 0), (0, 0, 0), [(0, (false, 0))])),
  (1, (.istore 4, (false, 3), (false, 0), (0, 0, 0), (0, 0, 0), [])),
  (3, (.iconst 2, (false, 4), (false, 0), (0, 0, 0), (0, 0, 0), [(2, (false, 0))])),
  (4, (.iload_n 1, (false, 5), (false, 0), (0, 0, 0), (0, 0, 0), [])),
  (5, (.imul, (false, 6), (false, 0), (0, 0, 0), (0, 0, 0), [])),
  (6, (.istore 5, (true, 8), (false, 0), (0, 0, 0), (0, 0, 0), [])),
  (8, (.iload 5, (false, 10), (false, 0), (0, 0, 0), (0, 0, 0), [])),
  (10, (.iconst 2, (false, 11), (false, 0), (0, 0, 0), (0, 0, 0), [(2, (false, 0))])),
  (11, (.iload_n 1, (false, 12), (false, 0), (0, 0, 0), (0, 0, 0), [])),
  (12, (.imul, (false, 13), (false, 0), (0, 0, 0), (0, 0, 0), [])),
  (13, (.aload_n 0, (false, 14), (false, 0), (0, 0, 0), (0, 0, 0), [])),
  (14, (.getfield 59, (false, 17), (false, 0), (4, 21, 1), (0, 0, 538), [])),
  (17, (.iload_n 1, (false, 18), (false, 0), (0, 0, 0), (0, 0, 0), [])),
  (18, (.iaload, (false, 19), (false, 0), (0, 0, 0), (0, 0, 0), [])),
  (19, (.iadd, (false, 20), (false, 0), (0, 0, 0), (0, 0, 0), [])),
  (20, (.if_icmp .ge 124, (false, 23), (false, 144), (0, 0, 0), (0, 0, 0), [])),
  (23, (.aload_n 0, (false, 24), (false, 0), (0, 0, 0), (0, 0, 0), [])),
  (24, (.getfield 62, (false, 27), (false, 0), (4, 22, 1), (0, 0, 539), [])),
  (27, (.iload 5, (false, 29), (false, 0), (0, 0, 0), (0, 0, 0), [])),
  (29, (.iaload, (false, 30), (false, 0), (0, 0, 0), (0, 0, 0), [])),
  (30, (.istore 6, (false, 32), (false, 0), (0, 0, 0), (0, 0, 0), [])),
  (32, (.iload 6, (false, 34), (false, 0), (0, 0, 0), (0, 0, 0), [])),
  (34, (.iload_n 2, (false, 35), (false, 0), (0, 0, 0), (0, 0, 0), [])),
  (35, (.if_icmp .ne 7, (false, 38), (false, 42), (0, 0, 0), (0, 0, 0), [])),
  (38, (.iconst 0, (false, 39), (false, 0), (0, 0, 0), (0, 0, 0), [(0, (false, 0))])),
  (39, (.goto 15, (false, 42), (false, 54), (0, 0, 0), (0, 0, 0), [])),
  (42, (.aload_n 0, (false, 43), (false, 0), (0, 0, 0), (0, 0, 0), [])),
  (43, (.getfield 38, (false, 46), (false, 0), (4, 12, 1), (0, 0, 529), [])),
  (46, (.bipush 8, (false, 48), (false, 0), (0, 0, 0), (0, 0, 0), [(8, (false, 0))])),
  (48, (.iload 6, (false, 50), (false, 0), (0, 0, 0), (0, 0, 0), [])),
  (50, (.imul, (false, 51), (false, 0), (0, 0, 0), (0, 0, 0), [])),
  (51, (.iload_n 2, (false, 52), (false, 0), (0, 0, 0), (0, 0, 0), [])),
  (52, (.iadd, (false, 53), (false, 0), (0, 0, 0), (0, 0, 0), [])),
  (53, (.iaload, (false, 54), (false, 0), (0, 0, 0), (0, 0, 0), [])),
  (54, (.istore 7, (false, 56), (false, 0), (0, 0, 0), (0, 0, 0), [])),
  (56, (.iload_n 3, (false, 57), (false, 0), (0, 0, 0), (0, 0, 0), [])),
  (57, (.aload_n 0, (false, 58), (false, 0), (0, 0, 0), (0, 0, 0), [])),
  (58, (.iload_n 2, (false, 59), (false, 0), (0, 0, 0), (0, 0, 0), [])),
  (59, (.invokevirtual 105, (false, 62), (false, 4), (58, 2, 1), (0, 0, 652), [])),
  (62, (.imul, (false, 63), (false, 0), (0, 0, 0), (0, 0, 0), [])),
  (63, (.istore 8, (false, 65), (false, 0), (0, 0, 0), (0, 0, 0), [])),
  (65, (.iload 8, (false, 67), (false, 0), (0, 0, 0), (0, 0, 0), [])),
  (67, (.aload_n 0, (false, 68), (false, 0), (0, 0, 0), (0, 0, 0), [])),
  (68, (.iload_n 2, (false, 69), (false, 0), (0, 0, 0), (0, 0, 0), [])),
  (69, (.invokevirtual 105, (false, 72), (false, 4), (58, 2, 1), (0, 0, 652), [])),
  (72, (.iadd, (false, 73), (false, 0), (0, 0, 0), (0, 0, 0), [])),
  (73, (.iconst 1, (false, 74), (false, 0), (0, 0, 0), (0, 0, 0), [(1, (false, 0))])),
  (74, (.isub, (false, 75), (false, 0), (0, 0, 0), (0, 0, 0), [])),
  (75, (.istore 9, (false, 77), (false, 0), (0, 0, 0), (0, 0, 0), [])),
  (77, (.aload_n 0, (false, 78), (false, 0), (0, 0, 0), (0, 0, 0), [])),
  (78, (.getfield 65, (false, 81), (false, 0), (4, 23, 1), (0, 0, 540), [])),
  (81, (.iload 5, (false, 83), (false, 0), (0, 0, 0), (0, 0, 0), [])),
  (83, (.iaload, (false, 84), (false, 0), (0, 0, 0), (0, 0, 0), [])),
  (84, (.aload_n 0, (false, 85), (false, 0), (0, 0, 0), (0, 0, 0), [])),
  (85, (.iload 6, (false, 87), (false, 0), (0, 0, 0), (0, 0, 0), [])),
  (87, (.invokevirtual 105, (false, 90), (false, 4), (58, 2, 1), (0, 0, 652), [])),
  (90, (.imul, (false, 91), (false, 0), (0, 0, 0), (0, 0, 0), [])),
  (91, (.istore 10, (false, 93), (false, 0), (0, 0, 0), (0, 0, 0), [])),
  (93, (.iload 10, (false, 95), (false, 0), (0, 0, 0), (0, 0, 0), [])),
  (95, (.aload_n 0, (false, 96), (false, 0), (0, 0, 0), (0, 0, 0), [])),
  (96, (.iload 6, (false, 98), (false, 0), (0, 0, 0), (0, 0, 0), [])),
  (98, (.invokevirtual 105, (false, 101), (false, 4), (58, 2, 1), (0, 0, 652), [])),
  (101, (.iadd, (false, 102), (false, 0), (0, 0, 0), (0, 0, 0), [])),
  (102, (.iconst 1, (false, 103), (false, 0), (0, 0, 0), (0, 0, 0), [(1, (false, 0))])),
  (103, (.isub, (false, 104), (false, 0), (0, 0, 0), (0, 0, 0), [])),
  (104, (.istore 11, (false, 106), (false, 0), (0, 0, 0), (0, 0, 0), [])),
  (106, (.iload 4, (false, 108), (false, 0), (0, 0, 0), (0, 0, 0), [])),
  (108, (.ifCond .ne 23, (false, 111), (false, 131), (0, 0, 0), (0, 0, 0), [])),
  (111, (.iload 9, (false, 113), (false, 0), (0, 0, 0), (0, 0, 0), [])),
  (113, (.iload 7, (false, 115), (false, 0), (0, 0, 0), (0, 0, 0), [])),
  (115, (.iadd, (false, 116), (false, 0), (0, 0, 0), (0, 0, 0), [])),
  (116, (.iload 10, (false, 118), (false, 0), (0, 0, 0), (0, 0, 0), [])),
  (118, (.if_icmp .lt 17, (false, 121), (false, 135), (0, 0, 0), (0, 0, 0), [])),
  (121, (.iload 11, (false, 123), (false, 0), (0, 0, 0), (0, 0, 0), [])),
  (123, (.iload 7, (false, 125), (false, 0), (0, 0, 0), (0, 0, 0), [])),
  (125, (.iadd, (false, 126), (false, 0), (0, 0, 0), (0, 0, 0), [])),
  (126, (.iload 8, (false, 128), (false, 0), (0, 0, 0), (0, 0, 0), [])),
  (128, (.if_icmp .lt 7, (false, 131), (false, 135), (0, 0, 0), (0, 0, 0), [])),
  (131, (.iconst 1, (false, 132), (false, 0), (0, 0, 0), (0, 0, 0), [(1, (false, 0))])),
  (132, (.goto 4, (false, 135), (false, 136), (0, 0, 0), (0, 0, 0), [])),
  (135, (.iconst 0, (false, 136), (false, 0), (0, 0, 0), (0, 0, 0), [(0, (false, 0))])),
  (136, (.istore 4, (false, 138), (false, 0), (0, 0, 0), (0, 0, 0), [])),
  (138, (.iinc 5 1, (false, 141), (false, 0), (0, 0, 0), (0, 0, 0), [(1, (false, 0))])),
  (141, (.goto (-133), (false, 144), (true, 8), (0, 0, 0), (0, 0, 0), [])),
  (144, (.iload 4, (false, 146), (false, 0), (0, 0, 0), (0, 0, 0), [])),
  (146, (.ireturn, (false, 147), (false, 0), (0, 0, 2), (0, 0, 0), []))]
set_option maxRecDepth 100000 in
theorem pe_M_overlaps : pw_fnd pp_M_overlaps 0 = (.iconst 0, (false, 1), (false, 0), (0, 0, 0), (0, 0, 0), [(0, (false, 0))]) ∧
  pw_fnd pp_M_overlaps 1 = (.istore 4, (false, 3), (false, 0), (0, 0, 0), (0, 0, 0), []) ∧
  pw_fnd pp_M_overlaps 3 = (.iconst 2, (false, 4), (false, 0), (0, 0, 0), (0, 0, 0), [(2, (false, 0))]) ∧
  pw_fnd pp_M_overlaps 4 = (.iload_n 1, (false, 5), (false, 0), (0, 0, 0), (0, 0, 0), []) ∧
  pw_fnd pp_M_overlaps 5 = (.imul, (false, 6), (false, 0), (0, 0, 0), (0, 0, 0), []) ∧
  pw_fnd pp_M_overlaps 6 = (.istore 5, (true, 8), (false, 0), (0, 0, 0), (0, 0, 0), []) ∧
  pw_fnd pp_M_overlaps 8 = (.iload 5, (false, 10), (false, 0), (0, 0, 0), (0, 0, 0), []) ∧
  pw_fnd pp_M_overlaps 10 = (.iconst 2, (false, 11), (false, 0), (0, 0, 0), (0, 0, 0), [(2, (false, 0))]) ∧
  pw_fnd pp_M_overlaps 11 = (.iload_n 1, (false, 12), (false, 0), (0, 0, 0), (0, 0, 0), []) ∧
  pw_fnd pp_M_overlaps 12 = (.imul, (false, 13), (false, 0), (0, 0, 0), (0, 0, 0), []) ∧
  pw_fnd pp_M_overlaps 13 = (.aload_n 0, (false, 14), (false, 0), (0, 0, 0), (0, 0, 0), []) ∧
  pw_fnd pp_M_overlaps 14 = (.getfield 59, (false, 17), (false, 0), (4, 21, 1), (0, 0, 538), []) ∧
  pw_fnd pp_M_overlaps 17 = (.iload_n 1, (false, 18), (false, 0), (0, 0, 0), (0, 0, 0), []) ∧
  pw_fnd pp_M_overlaps 18 = (.iaload, (false, 19), (false, 0), (0, 0, 0), (0, 0, 0), []) ∧
  pw_fnd pp_M_overlaps 19 = (.iadd, (false, 20), (false, 0), (0, 0, 0), (0, 0, 0), []) ∧
  pw_fnd pp_M_overlaps 20 = (.if_icmp .ge 124, (false, 23), (false, 144), (0, 0, 0), (0, 0, 0), []) ∧
  pw_fnd pp_M_overlaps 23 = (.aload_n 0, (false, 24), (false, 0), (0, 0, 0), (0, 0, 0), []) ∧
  pw_fnd pp_M_overlaps 24 = (.getfield 62, (false, 27), (false, 0), (4, 22, 1), (0, 0, 539), []) ∧
  pw_fnd pp_M_overlaps 27 = (.iload 5, (false, 29), (false, 0), (0, 0, 0), (0, 0, 0), []) ∧
  pw_fnd pp_M_overlaps 29 = (.iaload, (false, 30), (false, 0), (0, 0, 0), (0, 0, 0), []) ∧
  pw_fnd pp_M_overlaps 30 = (.istore 6, (false, 32), (false, 0), (0, 0, 0), (0, 0, 0), []) ∧
  pw_fnd pp_M_overlaps 32 = (.iload 6, (false, 34), (false, 0), (0, 0, 0), (0, 0, 0), []) ∧
  pw_fnd pp_M_overlaps 34 = (.iload_n 2, (false, 35), (false, 0), (0, 0, 0), (0, 0, 0), []) ∧
  pw_fnd pp_M_overlaps 35 = (.if_icmp .ne 7, (false, 38), (false, 42), (0, 0, 0), (0, 0, 0), []) ∧
  pw_fnd pp_M_overlaps 38 = (.iconst 0, (false, 39), (false, 0), (0, 0, 0), (0, 0, 0), [(0, (false, 0))]) ∧
  pw_fnd pp_M_overlaps 39 = (.goto 15, (false, 42), (false, 54), (0, 0, 0), (0, 0, 0), []) ∧
  pw_fnd pp_M_overlaps 42 = (.aload_n 0, (false, 43), (false, 0), (0, 0, 0), (0, 0, 0), []) ∧
  pw_fnd pp_M_overlaps 43 = (.getfield 38, (false, 46), (false, 0), (4, 12, 1), (0, 0, 529), []) ∧
  pw_fnd pp_M_overlaps 46 = (.bipush 8, (false, 48), (false, 0), (0, 0, 0), (0, 0, 0), [(8, (false, 0))]) ∧
  pw_fnd pp_M_overlaps 48 = (.iload 6, (false, 50), (false, 0), (0, 0, 0), (0, 0, 0), []) ∧
  pw_fnd pp_M_overlaps 50 = (.imul, (false, 51), (false, 0), (0, 0, 0), (0, 0, 0), []) ∧
  pw_fnd pp_M_overlaps 51 = (.iload_n 2, (false, 52), (false, 0), (0, 0, 0), (0, 0, 0), []) ∧
  pw_fnd pp_M_overlaps 52 = (.iadd, (false, 53), (false, 0), (0, 0, 0), (0, 0, 0), []) ∧
  pw_fnd pp_M_overlaps 53 = (.iaload, (false, 54), (false, 0), (0, 0, 0), (0, 0, 0), []) ∧
  pw_fnd pp_M_overlaps 54 = (.istore 7, (false, 56), (false, 0), (0, 0, 0), (0, 0, 0), []) ∧
  pw_fnd pp_M_overlaps 56 = (.iload_n 3, (false, 57), (false, 0), (0, 0, 0), (0, 0, 0), []) ∧
  pw_fnd pp_M_overlaps 57 = (.aload_n 0, (false, 58), (false, 0), (0, 0, 0), (0, 0, 0), []) ∧
  pw_fnd pp_M_overlaps 58 = (.iload_n 2, (false, 59), (false, 0), (0, 0, 0), (0, 0, 0), []) ∧
  pw_fnd pp_M_overlaps 59 = (.invokevirtual 105, (false, 62), (false, 4), (58, 2, 1), (0, 0, 652), []) ∧
  pw_fnd pp_M_overlaps 62 = (.imul, (false, 63), (false, 0), (0, 0, 0), (0, 0, 0), []) ∧
  pw_fnd pp_M_overlaps 63 = (.istore 8, (false, 65), (false, 0), (0, 0, 0), (0, 0, 0), []) ∧
  pw_fnd pp_M_overlaps 65 = (.iload 8, (false, 67), (false, 0), (0, 0, 0), (0, 0, 0), []) ∧
  pw_fnd pp_M_overlaps 67 = (.aload_n 0, (false, 68), (false, 0), (0, 0, 0), (0, 0, 0), []) ∧
  pw_fnd pp_M_overlaps 68 = (.iload_n 2, (false, 69), (false, 0), (0, 0, 0), (0, 0, 0), []) ∧
  pw_fnd pp_M_overlaps 69 = (.invokevirtual 105, (false, 72), (false, 4), (58, 2, 1), (0, 0, 652), []) ∧
  pw_fnd pp_M_overlaps 72 = (.iadd, (false, 73), (false, 0), (0, 0, 0), (0, 0, 0), []) ∧
  pw_fnd pp_M_overlaps 73 = (.iconst 1, (false, 74), (false, 0), (0, 0, 0), (0, 0, 0), [(1, (false, 0))]) ∧
  pw_fnd pp_M_overlaps 74 = (.isub, (false, 75), (false, 0), (0, 0, 0), (0, 0, 0), []) ∧
  pw_fnd pp_M_overlaps 75 = (.istore 9, (false, 77), (false, 0), (0, 0, 0), (0, 0, 0), []) ∧
  pw_fnd pp_M_overlaps 77 = (.aload_n 0, (false, 78), (false, 0), (0, 0, 0), (0, 0, 0), []) ∧
  pw_fnd pp_M_overlaps 78 = (.getfield 65, (false, 81), (false, 0), (4, 23, 1), (0, 0, 540), []) ∧
  pw_fnd pp_M_overlaps 81 = (.iload 5, (false, 83), (false, 0), (0, 0, 0), (0, 0, 0), []) ∧
  pw_fnd pp_M_overlaps 83 = (.iaload, (false, 84), (false, 0), (0, 0, 0), (0, 0, 0), []) ∧
  pw_fnd pp_M_overlaps 84 = (.aload_n 0, (false, 85), (false, 0), (0, 0, 0), (0, 0, 0), []) ∧
  pw_fnd pp_M_overlaps 85 = (.iload 6, (false, 87), (false, 0), (0, 0, 0), (0, 0, 0), []) ∧
  pw_fnd pp_M_overlaps 87 = (.invokevirtual 105, (false, 90), (false, 4), (58, 2, 1), (0, 0, 652), []) ∧
  pw_fnd pp_M_overlaps 90 = (.imul, (false, 91), (false, 0), (0, 0, 0), (0, 0, 0), []) ∧
  pw_fnd pp_M_overlaps 91 = (.istore 10, (false, 93), (false, 0), (0, 0, 0), (0, 0, 0), []) ∧
  pw_fnd pp_M_overlaps 93 = (.iload 10, (false, 95), (false, 0), (0, 0, 0), (0, 0, 0), []) ∧
  pw_fnd pp_M_overlaps 95 = (.aload_n 0, (false, 96), (false, 0), (0, 0, 0), (0, 0, 0), []) ∧
  pw_fnd pp_M_overlaps 96 = (.iload 6, (false, 98), (false, 0), (0, 0, 0), (0, 0, 0), []) ∧
  pw_fnd pp_M_overlaps 98 = (.invokevirtual 105, (false, 101), (false, 4), (58, 2, 1), (0, 0, 652), []) ∧
  pw_fnd pp_M_overlaps 101 = (.iadd, (false, 102), (false, 0), (0, 0, 0), (0, 0, 0), []) ∧
  pw_fnd pp_M_overlaps 102 = (.iconst 1, (false, 103), (false, 0), (0, 0, 0), (0, 0, 0), [(1, (false, 0))]) ∧
  pw_fnd pp_M_overlaps 103 = (.isub, (false, 104), (false, 0), (0, 0, 0), (0, 0, 0), []) ∧
  pw_fnd pp_M_overlaps 104 = (.istore 11, (false, 106), (false, 0), (0, 0, 0), (0, 0, 0), []) ∧
  pw_fnd pp_M_overlaps 106 = (.iload 4, (false, 108), (false, 0), (0, 0, 0), (0, 0, 0), []) ∧
  pw_fnd pp_M_overlaps 108 = (.ifCond .ne 23, (false, 111), (false, 131), (0, 0, 0), (0, 0, 0), []) ∧
  pw_fnd pp_M_overlaps 111 = (.iload 9, (false, 113), (false, 0), (0, 0, 0), (0, 0, 0), []) ∧
  pw_fnd pp_M_overlaps 113 = (.iload 7, (false, 115), (false, 0), (0, 0, 0), (0, 0, 0), []) ∧
  pw_fnd pp_M_overlaps 115 = (.iadd, (false, 116), (false, 0), (0, 0, 0), (0, 0, 0), []) ∧
  pw_fnd pp_M_overlaps 116 = (.iload 10, (false, 118), (false, 0), (0, 0, 0), (0, 0, 0), []) ∧
  pw_fnd pp_M_overlaps 118 = (.if_icmp .lt 17, (false, 121), (false, 135), (0, 0, 0), (0, 0, 0), []) ∧
  pw_fnd pp_M_overlaps 121 = (.iload 11, (false, 123), (false, 0), (0, 0, 0), (0, 0, 0), []) ∧
  pw_fnd pp_M_overlaps 123 = (.iload 7, (false, 125), (false, 0), (0, 0, 0), (0, 0, 0), []) ∧
  pw_fnd pp_M_overlaps 125 = (.iadd, (false, 126), (false, 0), (0, 0, 0), (0, 0, 0), []) ∧
  pw_fnd pp_M_overlaps 126 = (.iload 8, (false, 128), (false, 0), (0, 0, 0), (0, 0, 0), []) ∧
  pw_fnd pp_M_overlaps 128 = (.if_icmp .lt 7, (false, 131), (false, 135), (0, 0, 0), (0, 0, 0), []) ∧
  pw_fnd pp_M_overlaps 131 = (.iconst 1, (false, 132), (false, 0), (0, 0, 0), (0, 0, 0), [(1, (false, 0))]) ∧
  pw_fnd pp_M_overlaps 132 = (.goto 4, (false, 135), (false, 136), (0, 0, 0), (0, 0, 0), []) ∧
  pw_fnd pp_M_overlaps 135 = (.iconst 0, (false, 136), (false, 0), (0, 0, 0), (0, 0, 0), [(0, (false, 0))]) ∧
  pw_fnd pp_M_overlaps 136 = (.istore 4, (false, 138), (false, 0), (0, 0, 0), (0, 0, 0), []) ∧
  pw_fnd pp_M_overlaps 138 = (.iinc 5 1, (false, 141), (false, 0), (0, 0, 0), (0, 0, 0), [(1, (false, 0))]) ∧
  pw_fnd pp_M_overlaps 141 = (.goto (-133), (false, 144), (true, 8), (0, 0, 0), (0, 0, 0), []) ∧
  pw_fnd pp_M_overlaps 144 = (.iload 4, (false, 146), (false, 0), (0, 0, 0), (0, 0, 0), []) ∧
  pw_fnd pp_M_overlaps 146 = (.ireturn, (false, 147), (false, 0), (0, 0, 2), (0, 0, 0), []) :=
  ⟨rfl, rfl, rfl, rfl, rfl, rfl, rfl, rfl, rfl, rfl, rfl, rfl, rfl, rfl, rfl, rfl, rfl, rfl, rfl, rfl, rfl, rfl, rfl, rfl, rfl, rfl, rfl, rfl, rfl, rfl, rfl, rfl, rfl, rfl, rfl, rfl, rfl, rfl, rfl, rfl, rfl, rfl, rfl, rfl, rfl, rfl, rfl, rfl, rfl, rfl, rfl, rfl, rfl, rfl, rfl, rfl, rfl, rfl, rfl, rfl, rfl, rfl, rfl, rfl, rfl, rfl, rfl, rfl, rfl, rfl, rfl, rfl, rfl, rfl, rfl, rfl, rfl, rfl, rfl, rfl, rfl, rfl, rfl, rfl, rfl, rfl⟩
set_option maxRecDepth 100000 in
theorem pk_M_overlaps : pp_M_overlaps.all (fun q => pw_chk pw_jt pm_M_overlaps q.1 q.2) = true := by decide +kernel
def pp_M_lackOfTaking : List (Nat × pw_E) := [(0, (.aload_n 0, (false, 1), (false, 0), (0, 0, 0), (0, 0, 0), [])),
  (1, (.iload_n 1, (false, 2), (false, 0), (0, 0, 0), (0, 0, 0), [])),
  (2, (.invokevirtual 111, (false, 5), (false, 4), (55, 2, 1), (0, 0, 644), [])),
  (5, (.ifCond .eq 11, (false, 8), (false, 16), (0, 0, 0), (0, 0, 0), [])),
  (8, (.aload_n 0, (false, 9), (false, 0), (0, 0, 0), (0, 0, 0), [])),
  (9, (.iload_n 2, (false, 10), (false, 0), (0, 0, 0), (0, 0, 0), [])),
  (10, (.invokevirtual 98, (false, 13), (false, 4), (54, 2, 1), (0, 0, 625), [])),
  (13, (.ifCond .ne 7, (false, 16), (false, 20), (0, 0, 0), (0, 0, 0), [])),
  (16, (.iconst (-1), (false, 17), (false, 0), (0, 0, 0), (0, 0, 0), [((-1), (false, 0))])),
  (17, (.goto 34, (false, 20), (false, 51), (0, 0, 0), (0, 0, 0), [])),
  (20, (.aload_n 0, (false, 21), (false, 0), (0, 0, 0), (0, 0, 0), [])),
  (21, (.getfield 47, (false, 24), (false, 0), (4, 16, 1), (0, 0, 533), [])),
  (24, (.iload_n 1, (false, 25), (false, 0), (0, 0, 0), (0, 0, 0), [])),
  (25, (.iaload, (false, 26), (false, 0), (0, 0, 0), (0, 0, 0), [])),
  (26, (.iconst 4, (false, 27), (false, 0), (0, 0, 0), (0, 0, 0), [(4, (false, 0))])),
  (27, (.if_icmp .ne 8, (false, 30), (false, 35), (0, 0, 0), (0, 0, 0), [])),
  (30, (.bipush (-2), (false, 32), (false, 0), (0, 0, 0), (0, 0, 0), [((-2), (false, 0))])),
  (32, (.goto 19, (false, 35), (false, 51), (0, 0, 0), (0, 0, 0), [])),
  (35, (.aload_n 0, (false, 36), (false, 0), (0, 0, 0), (0, 0, 0), [])),
  (36, (.getfield 59, (false, 39), (false, 0), (4, 21, 1), (0, 0, 538), [])),
  (39, (.iload_n 1, (false, 40), (false, 0), (0, 0, 0), (0, 0, 0), [])),
  (40, (.iaload, (false, 41), (false, 0), (0, 0, 0), (0, 0, 0), [])),
  (41, (.iconst 2, (false, 42), (false, 0), (0, 0, 0), (0, 0, 0), [(2, (false, 0))])),
  (42, (.if_icmp .ne 8, (false, 45), (false, 50), (0, 0, 0), (0, 0, 0), [])),
  (45, (.bipush (-6), (false, 47), (false, 0), (0, 0, 0), (0, 0, 0), [((-6), (false, 0))])),
  (47, (.goto 4, (false, 50), (false, 51), (0, 0, 0), (0, 0, 0), [])),
  (50, (.iconst 0, (false, 51), (false, 0), (0, 0, 0), (0, 0, 0), [(0, (false, 0))])),
  (51, (.ireturn, (false, 52), (false, 0), (0, 0, 0), (0, 0, 0), []))]
set_option maxRecDepth 100000 in
theorem pe_M_lackOfTaking : pw_fnd pp_M_lackOfTaking 0 = (.aload_n 0, (false, 1), (false, 0), (0, 0, 0), (0, 0, 0), []) ∧
  pw_fnd pp_M_lackOfTaking 1 = (.iload_n 1, (false, 2), (false, 0), (0, 0, 0), (0, 0, 0), []) ∧
  pw_fnd pp_M_lackOfTaking 2 = (.invokevirtual 111, (false, 5), (false, 4), (55, 2, 1), (0, 0, 644), []) ∧
  pw_fnd pp_M_lackOfTaking 5 = (.ifCond .eq 11, (false, 8), (false, 16), (0, 0, 0), (0, 0, 0), []) ∧
  pw_fnd pp_M_lackOfTaking 8 = (.aload_n 0, (false, 9), (false, 0), (0, 0, 0), (0, 0, 0), []) ∧
  pw_fnd pp_M_lackOfTaking 9 = (.iload_n 2, (false, 10), (false, 0), (0, 0, 0), (0, 0, 0), []) ∧
  pw_fnd pp_M_lackOfTaking 10 = (.invokevirtual 98, (false, 13), (false, 4), (54, 2, 1), (0, 0, 625), []) ∧
  pw_fnd pp_M_lackOfTaking 13 = (.ifCond .ne 7, (false, 16), (false, 20), (0, 0, 0), (0, 0, 0), []) ∧
  pw_fnd pp_M_lackOfTaking 16 = (.iconst (-1), (false, 17), (false, 0), (0, 0, 0), (0, 0, 0), [((-1), (false, 0))]) ∧
  pw_fnd pp_M_lackOfTaking 17 = (.goto 34, (false, 20), (false, 51), (0, 0, 0), (0, 0, 0), []) ∧
  pw_fnd pp_M_lackOfTaking 20 = (.aload_n 0, (false, 21), (false, 0), (0, 0, 0), (0, 0, 0), []) ∧
  pw_fnd pp_M_lackOfTaking 21 = (.getfield 47, (false, 24), (false, 0), (4, 16, 1), (0, 0, 533), []) ∧
  pw_fnd pp_M_lackOfTaking 24 = (.iload_n 1, (false, 25), (false, 0), (0, 0, 0), (0, 0, 0), []) ∧
  pw_fnd pp_M_lackOfTaking 25 = (.iaload, (false, 26), (false, 0), (0, 0, 0), (0, 0, 0), []) ∧
  pw_fnd pp_M_lackOfTaking 26 = (.iconst 4, (false, 27), (false, 0), (0, 0, 0), (0, 0, 0), [(4, (false, 0))]) ∧
  pw_fnd pp_M_lackOfTaking 27 = (.if_icmp .ne 8, (false, 30), (false, 35), (0, 0, 0), (0, 0, 0), []) ∧
  pw_fnd pp_M_lackOfTaking 30 = (.bipush (-2), (false, 32), (false, 0), (0, 0, 0), (0, 0, 0), [((-2), (false, 0))]) ∧
  pw_fnd pp_M_lackOfTaking 32 = (.goto 19, (false, 35), (false, 51), (0, 0, 0), (0, 0, 0), []) ∧
  pw_fnd pp_M_lackOfTaking 35 = (.aload_n 0, (false, 36), (false, 0), (0, 0, 0), (0, 0, 0), []) ∧
  pw_fnd pp_M_lackOfTaking 36 = (.getfield 59, (false, 39), (false, 0), (4, 21, 1), (0, 0, 538), []) ∧
  pw_fnd pp_M_lackOfTaking 39 = (.iload_n 1, (false, 40), (false, 0), (0, 0, 0), (0, 0, 0), []) ∧
  pw_fnd pp_M_lackOfTaking 40 = (.iaload, (false, 41), (false, 0), (0, 0, 0), (0, 0, 0), []) ∧
  pw_fnd pp_M_lackOfTaking 41 = (.iconst 2, (false, 42), (false, 0), (0, 0, 0), (0, 0, 0), [(2, (false, 0))]) ∧
  pw_fnd pp_M_lackOfTaking 42 = (.if_icmp .ne 8, (false, 45), (false, 50), (0, 0, 0), (0, 0, 0), []) ∧
  pw_fnd pp_M_lackOfTaking 45 = (.bipush (-6), (false, 47), (false, 0), (0, 0, 0), (0, 0, 0), [((-6), (false, 0))]) ∧
  pw_fnd pp_M_lackOfTaking 47 = (.goto 4, (false, 50), (false, 51), (0, 0, 0), (0, 0, 0), []) ∧
  pw_fnd pp_M_lackOfTaking 50 = (.iconst 0, (false, 51), (false, 0), (0, 0, 0), (0, 0, 0), [(0, (false, 0))]) ∧
  pw_fnd pp_M_lackOfTaking 51 = (.ireturn, (false, 52), (false, 0), (0, 0, 0), (0, 0, 0), []) :=
  ⟨rfl, rfl, rfl, rfl, rfl, rfl, rfl, rfl, rfl, rfl, rfl, rfl, rfl, rfl, rfl, rfl, rfl, rfl, rfl, rfl, rfl, rfl, rfl, rfl, rfl, rfl, rfl, rfl⟩
set_option maxRecDepth 100000 in
theorem pk_M_lackOfTaking : pp_M_lackOfTaking.all (fun q => pw_chk pw_jt pm_M_lackOfTaking q.1 q.2) = true := by decide +kernel
def pp_M_give : List (Nat × pw_E) := [(0, (.aload_n 0, (false, 1), (false, 0), (0, 0, 0), (0, 0, 0), [])),
  (1, (.iload_n 1, (false, 2), (false, 0), (0, 0, 0), (0, 0, 0), [])),
  (2, (.invokevirtual 111, (false, 5), (false, 4), (55, 2, 1), (0, 0, 644), [])),
  (5, (.ifCond .eq 19, (false, 8), (false, 24), (0, 0, 0), (0, 0, 0), [])),
  (8, (.iload_n 2, (false, 9), (false, 0), (0, 0, 0), (0, 0, 0), [])),
  (9, (.iconst 0, (false, 10), (false, 0), (0, 0, 0), (0, 0, 0), [(0, (false, 0))])),
  (10, (.aload_n 0, (false, 11), (false, 0), (0, 0, 0), (0, 0, 0), [])),
  (11, (.getfield 59, (false, 14), (false, 0), (4, 21, 1), (0, 0, 538), [])),
  (14, (.iload_n 1, (false, 15), (false, 0), (0, 0, 0), (0, 0, 0), [])),
  (15, (.iaload, (false, 16), (false, 0), (0, 0, 0), (0, 0, 0), [])),
  (16, (.iconst 1, (false, 17), (false, 0), (0, 0, 0), (0, 0, 0), [(1, (false, 0))])),
  (17, (.isub, (false, 18), (false, 0), (0, 0, 0), (0, 0, 0), [])),
  (18, (.invokestatic 87, (false, 21), (false, 0), (19, 3, 1), (0, 0, 629), [])),
  (21, (.ifCond .ne 9, (false, 24), (false, 30), (0, 0, 0), (0, 0, 0), [])),
  (24, (.aload_n 0, (false, 25), (false, 0), (0, 0, 0), (0, 0, 0), [])),
  (25, (.iconst (-1), (false, 26), (false, 0), (0, 0, 0), (0, 0, 0), [((-1), (false, 0))])),
  (26, (.invokevirtual 94, (false, 29), (false, 4), (20, 2, 1), (0, 0, 613), [])),
  (29, (.ireturn, (false, 30), (false, 0), (0, 0, 0), (0, 0, 0), [])),
  (30, (.aload_n 0, (false, 31), (false, 0), (0, 0, 0), (0, 0, 0), [])),
  (31, (.getfield 65, (false, 34), (false, 0), (4, 23, 1), (0, 0, 540), [])),
  (34, (.iconst 2, (false, 35), (false, 0), (0, 0, 0), (0, 0, 0), [(2, (false, 0))])),
  (35, (.iload_n 1, (false, 36), (false, 0), (0, 0, 0), (0, 0, 0), [])),
  (36, (.imul, (false, 37), (false, 0), (0, 0, 0), (0, 0, 0), [])),
  (37, (.iload_n 2, (false, 38), (false, 0), (0, 0, 0), (0, 0, 0), [])),
  (38, (.iadd, (false, 39), (false, 0), (0, 0, 0), (0, 0, 0), [])),
  (39, (.iaload, (false, 40), (false, 0), (0, 0, 0), (0, 0, 0), [])),
  (40, (.istore_n 3, (false, 41), (false, 0), (0, 0, 0), (0, 0, 0), [])),
  (41, (.aload_n 0, (false, 42), (false, 0), (0, 0, 0), (0, 0, 0), [])),
  (42, (.getfield 41, (false, 45), (false, 0), (4, 13, 1), (0, 0, 530), [])),
  (45, (.sipush 1100, (false, 48), (false, 0), (0, 0, 0), (0, 0, 0), [(1100, (false, 0))])),
  (48, (.aload_n 0, (false, 49), (false, 0), (0, 0, 0), (0, 0, 0), [])),
  (49, (.getfield 62, (false, 52), (false, 0), (4, 22, 1), (0, 0, 539), [])),
  (52, (.iconst 2, (false, 53), (false, 0), (0, 0, 0), (0, 0, 0), [(2, (false, 0))])),
  (53, (.iload_n 1, (false, 54), (false, 0), (0, 0, 0), (0, 0, 0), [])),
  (54, (.imul, (false, 55), (false, 0), (0, 0, 0), (0, 0, 0), [])),
  (55, (.iload_n 2, (false, 56), (false, 0), (0, 0, 0), (0, 0, 0), [])),
  (56, (.iadd, (false, 57), (false, 0), (0, 0, 0), (0, 0, 0), [])),
  (57, (.iaload, (false, 58), (false, 0), (0, 0, 0), (0, 0, 0), [])),
  (58, (.imul, (false, 59), (false, 0), (0, 0, 0), (0, 0, 0), [])),
  (59, (.iload_n 3, (false, 60), (false, 0), (0, 0, 0), (0, 0, 0), [])),
  (60, (.iadd, (false, 61), (false, 0), (0, 0, 0), (0, 0, 0), [])),
  (61, (.dup2, (false, 62), (false, 0), (0, 0, 0), (0, 0, 0), [])),
  (62, (.iaload, (false, 63), (false, 0), (0, 0, 0), (0, 0, 0), [])),
  (63, (.aload_n 0, (false, 64), (false, 0), (0, 0, 0), (0, 0, 0), [])),
  (64, (.getfield 44, (false, 67), (false, 0), (4, 15, 1), (0, 0, 532), [])),
  (67, (.iload_n 1, (false, 68), (false, 0), (0, 0, 0), (0, 0, 0), [])),
  (68, (.iaload, (false, 69), (false, 0), (0, 0, 0), (0, 0, 0), [])),
  (69, (.isub, (false, 70), (false, 0), (0, 0, 0), (0, 0, 0), [])),
  (70, (.iastore, (false, 71), (false, 0), (0, 0, 0), (0, 0, 0), [])),
  (71, (.aload_n 0, (false, 72), (false, 0), (0, 0, 0), (0, 0, 0), [])),
  (72, (.iload_n 1, (false, 73), (false, 0), (0, 0, 0), (0, 0, 0), [])),
  (73, (.iload_n 2, (false, 74), (false, 0), (0, 0, 0), (0, 0, 0), [])),
  (74, (.invokevirtual 130, (false, 77), (false, 4), (23, 3, 0), (0, 0, 680), [])),
  (77, (.iload_n 3, (false, 78), (false, 0), (0, 0, 0), (0, 0, 0), [])),
  (78, (.ireturn, (false, 79), (false, 0), (0, 0, 0), (0, 0, 0), []))]
set_option maxRecDepth 100000 in
theorem pe_M_give : pw_fnd pp_M_give 0 = (.aload_n 0, (false, 1), (false, 0), (0, 0, 0), (0, 0, 0), []) ∧
  pw_fnd pp_M_give 1 = (.iload_n 1, (false, 2), (false, 0), (0, 0, 0), (0, 0, 0), []) ∧
  pw_fnd pp_M_give 2 = (.invokevirtual 111, (false, 5), (false, 4), (55, 2, 1), (0, 0, 644), []) ∧
  pw_fnd pp_M_give 5 = (.ifCond .eq 19, (false, 8), (false, 24), (0, 0, 0), (0, 0, 0), []) ∧
  pw_fnd pp_M_give 8 = (.iload_n 2, (false, 9), (false, 0), (0, 0, 0), (0, 0, 0), []) ∧
  pw_fnd pp_M_give 9 = (.iconst 0, (false, 10), (false, 0), (0, 0, 0), (0, 0, 0), [(0, (false, 0))]) ∧
  pw_fnd pp_M_give 10 = (.aload_n 0, (false, 11), (false, 0), (0, 0, 0), (0, 0, 0), []) ∧
  pw_fnd pp_M_give 11 = (.getfield 59, (false, 14), (false, 0), (4, 21, 1), (0, 0, 538), []) ∧
  pw_fnd pp_M_give 14 = (.iload_n 1, (false, 15), (false, 0), (0, 0, 0), (0, 0, 0), []) ∧
  pw_fnd pp_M_give 15 = (.iaload, (false, 16), (false, 0), (0, 0, 0), (0, 0, 0), []) ∧
  pw_fnd pp_M_give 16 = (.iconst 1, (false, 17), (false, 0), (0, 0, 0), (0, 0, 0), [(1, (false, 0))]) ∧
  pw_fnd pp_M_give 17 = (.isub, (false, 18), (false, 0), (0, 0, 0), (0, 0, 0), []) ∧
  pw_fnd pp_M_give 18 = (.invokestatic 87, (false, 21), (false, 0), (19, 3, 1), (0, 0, 629), []) ∧
  pw_fnd pp_M_give 21 = (.ifCond .ne 9, (false, 24), (false, 30), (0, 0, 0), (0, 0, 0), []) ∧
  pw_fnd pp_M_give 24 = (.aload_n 0, (false, 25), (false, 0), (0, 0, 0), (0, 0, 0), []) ∧
  pw_fnd pp_M_give 25 = (.iconst (-1), (false, 26), (false, 0), (0, 0, 0), (0, 0, 0), [((-1), (false, 0))]) ∧
  pw_fnd pp_M_give 26 = (.invokevirtual 94, (false, 29), (false, 4), (20, 2, 1), (0, 0, 613), []) ∧
  pw_fnd pp_M_give 29 = (.ireturn, (false, 30), (false, 0), (0, 0, 0), (0, 0, 0), []) ∧
  pw_fnd pp_M_give 30 = (.aload_n 0, (false, 31), (false, 0), (0, 0, 0), (0, 0, 0), []) ∧
  pw_fnd pp_M_give 31 = (.getfield 65, (false, 34), (false, 0), (4, 23, 1), (0, 0, 540), []) ∧
  pw_fnd pp_M_give 34 = (.iconst 2, (false, 35), (false, 0), (0, 0, 0), (0, 0, 0), [(2, (false, 0))]) ∧
  pw_fnd pp_M_give 35 = (.iload_n 1, (false, 36), (false, 0), (0, 0, 0), (0, 0, 0), []) ∧
  pw_fnd pp_M_give 36 = (.imul, (false, 37), (false, 0), (0, 0, 0), (0, 0, 0), []) ∧
  pw_fnd pp_M_give 37 = (.iload_n 2, (false, 38), (false, 0), (0, 0, 0), (0, 0, 0), []) ∧
  pw_fnd pp_M_give 38 = (.iadd, (false, 39), (false, 0), (0, 0, 0), (0, 0, 0), []) ∧
  pw_fnd pp_M_give 39 = (.iaload, (false, 40), (false, 0), (0, 0, 0), (0, 0, 0), []) ∧
  pw_fnd pp_M_give 40 = (.istore_n 3, (false, 41), (false, 0), (0, 0, 0), (0, 0, 0), []) ∧
  pw_fnd pp_M_give 41 = (.aload_n 0, (false, 42), (false, 0), (0, 0, 0), (0, 0, 0), []) ∧
  pw_fnd pp_M_give 42 = (.getfield 41, (false, 45), (false, 0), (4, 13, 1), (0, 0, 530), []) ∧
  pw_fnd pp_M_give 45 = (.sipush 1100, (false, 48), (false, 0), (0, 0, 0), (0, 0, 0), [(1100, (false, 0))]) ∧
  pw_fnd pp_M_give 48 = (.aload_n 0, (false, 49), (false, 0), (0, 0, 0), (0, 0, 0), []) ∧
  pw_fnd pp_M_give 49 = (.getfield 62, (false, 52), (false, 0), (4, 22, 1), (0, 0, 539), []) ∧
  pw_fnd pp_M_give 52 = (.iconst 2, (false, 53), (false, 0), (0, 0, 0), (0, 0, 0), [(2, (false, 0))]) ∧
  pw_fnd pp_M_give 53 = (.iload_n 1, (false, 54), (false, 0), (0, 0, 0), (0, 0, 0), []) ∧
  pw_fnd pp_M_give 54 = (.imul, (false, 55), (false, 0), (0, 0, 0), (0, 0, 0), []) ∧
  pw_fnd pp_M_give 55 = (.iload_n 2, (false, 56), (false, 0), (0, 0, 0), (0, 0, 0), []) ∧
  pw_fnd pp_M_give 56 = (.iadd, (false, 57), (false, 0), (0, 0, 0), (0, 0, 0), []) ∧
  pw_fnd pp_M_give 57 = (.iaload, (false, 58), (false, 0), (0, 0, 0), (0, 0, 0), []) ∧
  pw_fnd pp_M_give 58 = (.imul, (false, 59), (false, 0), (0, 0, 0), (0, 0, 0), []) ∧
  pw_fnd pp_M_give 59 = (.iload_n 3, (false, 60), (false, 0), (0, 0, 0), (0, 0, 0), []) ∧
  pw_fnd pp_M_give 60 = (.iadd, (false, 61), (false, 0), (0, 0, 0), (0, 0, 0), []) ∧
  pw_fnd pp_M_give 61 = (.dup2, (false, 62), (false, 0), (0, 0, 0), (0, 0, 0), []) ∧
  pw_fnd pp_M_give 62 = (.iaload, (false, 63), (false, 0), (0, 0, 0), (0, 0, 0), []) ∧
  pw_fnd pp_M_give 63 = (.aload_n 0, (false, 64), (false, 0), (0, 0, 0), (0, 0, 0), []) ∧
  pw_fnd pp_M_give 64 = (.getfield 44, (false, 67), (false, 0), (4, 15, 1), (0, 0, 532), []) ∧
  pw_fnd pp_M_give 67 = (.iload_n 1, (false, 68), (false, 0), (0, 0, 0), (0, 0, 0), []) ∧
  pw_fnd pp_M_give 68 = (.iaload, (false, 69), (false, 0), (0, 0, 0), (0, 0, 0), []) ∧
  pw_fnd pp_M_give 69 = (.isub, (false, 70), (false, 0), (0, 0, 0), (0, 0, 0), []) ∧
  pw_fnd pp_M_give 70 = (.iastore, (false, 71), (false, 0), (0, 0, 0), (0, 0, 0), []) ∧
  pw_fnd pp_M_give 71 = (.aload_n 0, (false, 72), (false, 0), (0, 0, 0), (0, 0, 0), []) ∧
  pw_fnd pp_M_give 72 = (.iload_n 1, (false, 73), (false, 0), (0, 0, 0), (0, 0, 0), []) ∧
  pw_fnd pp_M_give 73 = (.iload_n 2, (false, 74), (false, 0), (0, 0, 0), (0, 0, 0), []) ∧
  pw_fnd pp_M_give 74 = (.invokevirtual 130, (false, 77), (false, 4), (23, 3, 0), (0, 0, 680), []) ∧
  pw_fnd pp_M_give 77 = (.iload_n 3, (false, 78), (false, 0), (0, 0, 0), (0, 0, 0), []) ∧
  pw_fnd pp_M_give 78 = (.ireturn, (false, 79), (false, 0), (0, 0, 0), (0, 0, 0), []) :=
  ⟨rfl, rfl, rfl, rfl, rfl, rfl, rfl, rfl, rfl, rfl, rfl, rfl, rfl, rfl, rfl, rfl, rfl, rfl, rfl, rfl, rfl, rfl, rfl, rfl, rfl, rfl, rfl, rfl, rfl, rfl, rfl, rfl, rfl, rfl, rfl, rfl, rfl, rfl, rfl, rfl, rfl, rfl, rfl, rfl, rfl, rfl, rfl, rfl, rfl, rfl, rfl, rfl, rfl, rfl, rfl⟩
set_option maxRecDepth 100000 in
theorem pk_M_give : pp_M_give.all (fun q => pw_chk pw_jt pm_M_give q.1 q.2) = true := by decide +kernel
def pp_M_come : List (Nat × pw_E) := [(0, (.aload_n 0, (false, 1), (false, 0), (0, 0, 0), (0, 0, 0), [])),
  (1, (.iload_n 1, (false, 2), (false, 0), (0, 0, 0), (0, 0, 0), [])),
  (2, (.invokevirtual 111, (false, 5), (false, 4), (55, 2, 1), (0, 0, 644), [])),
  (5, (.ifCond .eq 11, (false, 8), (false, 16), (0, 0, 0), (0, 0, 0), [])),
  (8, (.aload_n 0, (false, 9), (false, 0), (0, 0, 0), (0, 0, 0), [])),
  (9, (.iload_n 2, (false, 10), (false, 0), (0, 0, 0), (0, 0, 0), [])),
  (10, (.invokevirtual 98, (false, 13), (false, 4), (54, 2, 1), (0, 0, 625), [])),
  (13, (.ifCond .ne 9, (false, 16), (false, 22), (0, 0, 0), (0, 0, 0), [])),
  (16, (.aload_n 0, (false, 17), (false, 0), (0, 0, 0), (0, 0, 0), [])),
  (17, (.iconst (-1), (false, 18), (false, 0), (0, 0, 0), (0, 0, 0), [((-1), (false, 0))])),
  (18, (.invokevirtual 94, (false, 21), (false, 4), (20, 2, 1), (0, 0, 613), [])),
  (21, (.ireturn, (false, 22), (false, 0), (0, 0, 0), (0, 0, 0), [])),
  (22, (.aload_n 0, (false, 23), (false, 0), (0, 0, 0), (0, 0, 0), [])),
  (23, (.getfield 47, (false, 26), (false, 0), (4, 16, 1), (0, 0, 533), [])),
  (26, (.iload_n 1, (false, 27), (false, 0), (0, 0, 0), (0, 0, 0), [])),
  (27, (.iaload, (false, 28), (false, 0), (0, 0, 0), (0, 0, 0), [])),
  (28, (.ifCond .eq 10, (false, 31), (false, 38), (0, 0, 0), (0, 0, 0), [])),
  (31, (.aload_n 0, (false, 32), (false, 0), (0, 0, 0), (0, 0, 0), [])),
  (32, (.bipush (-2), (false, 34), (false, 0), (0, 0, 0), (0, 0, 0), [((-2), (false, 0))])),
  (34, (.invokevirtual 94, (false, 37), (false, 4), (20, 2, 1), (0, 0, 613), [])),
  (37, (.ireturn, (false, 38), (false, 0), (0, 0, 0), (0, 0, 0), [])),
  (38, (.iconst (-1), (false, 39), (false, 0), (0, 0, 0), (0, 0, 0), [((-1), (false, 0))])),
  (39, (.istore_n 3, (false, 40), (false, 0), (0, 0, 0), (0, 0, 0), [])),
  (40, (.aload_n 0, (false, 41), (false, 0), (0, 0, 0), (0, 0, 0), [])),
  (41, (.getfield 59, (false, 44), (false, 0), (4, 21, 1), (0, 0, 538), [])),
  (44, (.iload_n 1, (false, 45), (false, 0), (0, 0, 0), (0, 0, 0), [])),
  (45, (.iaload, (false, 46), (false, 0), (0, 0, 0), (0, 0, 0), [])),
  (46, (.iconst 1, (false, 47), (false, 0), (0, 0, 0), (0, 0, 0), [(1, (false, 0))])),
  (47, (.isub, (false, 48), (false, 0), (0, 0, 0), (0, 0, 0), [])),
  (48, (.istore 4, (true, 50), (false, 0), (0, 0, 0), (0, 0, 0), [])),
  (50, (.iload 4, (false, 52), (false, 0), (0, 0, 0), (0, 0, 0), [])),
  (52, (.ifCond .lt 55, (false, 55), (false, 107), (0, 0, 0), (0, 0, 0), [])),
  (55, (.aload_n 0, (false, 56), (false, 0), (0, 0, 0), (0, 0, 0), [])),
  (56, (.getfield 62, (false, 59), (false, 0), (4, 22, 1), (0, 0, 539), [])),
  (59, (.iconst 2, (false, 60), (false, 0), (0, 0, 0), (0, 0, 0), [(2, (false, 0))])),
  (60, (.iload_n 1, (false, 61), (false, 0), (0, 0, 0), (0, 0, 0), [])),
  (61, (.imul, (false, 62), (false, 0), (0, 0, 0), (0, 0, 0), [])),
  (62, (.iload 4, (false, 64), (false, 0), (0, 0, 0), (0, 0, 0), [])),
  (64, (.iadd, (false, 65), (false, 0), (0, 0, 0), (0, 0, 0), [])),
  (65, (.iaload, (false, 66), (false, 0), (0, 0, 0), (0, 0, 0), [])),
  (66, (.iload_n 2, (false, 67), (false, 0), (0, 0, 0), (0, 0, 0), [])),
  (67, (.if_icmp .ne 32, (false, 70), (false, 99), (0, 0, 0), (0, 0, 0), [])),
  (70, (.aload_n 0, (false, 71), (false, 0), (0, 0, 0), (0, 0, 0), [])),
  (71, (.getfield 65, (false, 74), (false, 0), (4, 23, 1), (0, 0, 540), [])),
  (74, (.iconst 2, (false, 75), (false, 0), (0, 0, 0), (0, 0, 0), [(2, (false, 0))])),
  (75, (.iload_n 1, (false, 76), (false, 0), (0, 0, 0), (0, 0, 0), [])),
  (76, (.imul, (false, 77), (false, 0), (0, 0, 0), (0, 0, 0), [])),
  (77, (.iload 4, (false, 79), (false, 0), (0, 0, 0), (0, 0, 0), [])),
  (79, (.iadd, (false, 80), (false, 0), (0, 0, 0), (0, 0, 0), [])),
  (80, (.iaload, (false, 81), (false, 0), (0, 0, 0), (0, 0, 0), [])),
  (81, (.aload_n 0, (false, 82), (false, 0), (0, 0, 0), (0, 0, 0), [])),
  (82, (.getfield 114, (false, 85), (false, 0), (4, 0, 0), (0, 0, 517), [])),
  (85, (.aload_n 0, (false, 86), (false, 0), (0, 0, 0), (0, 0, 0), [])),
  (86, (.iload_n 2, (false, 87), (false, 0), (0, 0, 0), (0, 0, 0), [])),
  (87, (.invokevirtual 105, (false, 90), (false, 4), (58, 2, 1), (0, 0, 652), [])),
  (90, (.idiv, (false, 91), (false, 0), (0, 0, 0), (0, 0, 0), [])),
  (91, (.if_icmp .ne 8, (false, 94), (false, 99), (0, 0, 0), (0, 0, 0), [])),
  (94, (.iload 4, (false, 96), (false, 0), (0, 0, 0), (0, 0, 0), [])),
  (96, (.goto 4, (false, 99), (false, 100), (0, 0, 0), (0, 0, 0), [])),
  (99, (.iload_n 3, (false, 100), (false, 0), (0, 0, 0), (0, 0, 0), [])),
  (100, (.istore_n 3, (false, 101), (false, 0), (0, 0, 0), (0, 0, 0), [])),
  (101, (.iinc 4 (-1), (false, 104), (false, 0), (0, 0, 0), (0, 0, 0), [((-1), (false, 0))])),
  (104, (.goto (-54), (false, 107), (true, 50), (0, 0, 0), (0, 0, 0), [])),
  (107, (.iload_n 3, (false, 108), (false, 0), (0, 0, 0), (0, 0, 0), [])),
  (108, (.ifCond .ge 19, (false, 111), (false, 127), (0, 0, 0), (0, 0, 0), [])),
  (111, (.aload_n 0, (false, 112), (false, 0), (0, 0, 0), (0, 0, 0), [])),
  (112, (.getfield 68, (false, 115), (false, 0), (4, 24, 1), (0, 0, 541), [])),
  (115, (.iload_n 1, (false, 116), (false, 0), (0, 0, 0), (0, 0, 0), [])),
  (116, (.iaload, (false, 117), (false, 0), (0, 0, 0), (0, 0, 0), [])),
  (117, (.ifCond .ne 10, (false, 120), (false, 127), (0, 0, 0), (0, 0, 0), [])),
  (120, (.aload_n 0, (false, 121), (false, 0), (0, 0, 0), (0, 0, 0), [])),
  (121, (.bipush (-3), (false, 123), (false, 0), (0, 0, 0), (0, 0, 0), [((-3), (false, 0))])),
  (123, (.invokevirtual 94, (false, 126), (false, 4), (20, 2, 1), (0, 0, 613), [])),
  (126, (.ireturn, (false, 127), (false, 0), (0, 0, 0), (0, 0, 0), [])),
  (127, (.iload_n 3, (false, 128), (false, 0), (0, 0, 0), (0, 0, 0), [])),
  (128, (.ifCond .lt 12, (false, 131), (false, 140), (0, 0, 0), (0, 0, 0), [])),
  (131, (.aload_n 0, (false, 132), (false, 0), (0, 0, 0), (0, 0, 0), [])),
  (132, (.iload_n 1, (false, 133), (false, 0), (0, 0, 0), (0, 0, 0), [])),
  (133, (.iload_n 3, (false, 134), (false, 0), (0, 0, 0), (0, 0, 0), [])),
  (134, (.invokevirtual 130, (false, 137), (false, 4), (23, 3, 0), (0, 0, 680), [])),
  (137, (.goto 13, (false, 140), (false, 150), (0, 0, 0), (0, 0, 0), [])),
  (140, (.aload_n 0, (false, 141), (false, 0), (0, 0, 0), (0, 0, 0), [])),
  (141, (.getfield 68, (false, 144), (false, 0), (4, 24, 1), (0, 0, 541), [])),
  (144, (.iload_n 1, (false, 145), (false, 0), (0, 0, 0), (0, 0, 0), [])),
  (145, (.dup2, (false, 146), (false, 0), (0, 0, 0), (0, 0, 0), [])),
  (146, (.iaload, (false, 147), (false, 0), (0, 0, 0), (0, 0, 0), [])),
  (147, (.iconst 1, (false, 148), (false, 0), (0, 0, 0), (0, 0, 0), [(1, (false, 0))])),
  (148, (.isub, (false, 149), (false, 0), (0, 0, 0), (0, 0, 0), [])),
  (149, (.iastore, (false, 150), (false, 0), (0, 0, 0), (0, 0, 0), [])),
  (150, (.aload_n 0, (false, 151), (false, 0), (0, 0, 0), (0, 0, 0), [])),
  (151, (.iload_n 1, (false, 152), (false, 0), (0, 0, 0), (0, 0, 0), [])),
  (152, (.iconst 2, (false, 153), (false, 0), (0, 0, 0), (0, 0, 0), [(2, (false, 0))])),
  (153, (.iload_n 2, (false, 154), (false, 0), (0, 0, 0), (0, 0, 0), [])),
  (154, (.invokevirtual 137, (false, 157), (false, 4), (24, 4, 0), (0, 0, 688), [])),
  (157, (.aload_n 0, (false, 158), (false, 0), (0, 0, 0), (0, 0, 0), [])),
  (158, (.iload_n 1, (false, 159), (false, 0), (0, 0, 0), (0, 0, 0), [])),
  (159, (.invokevirtual 141, (false, 162), (false, 4), (25, 2, 1), (0, 0, 692), [])),
  (162, (.ireturn, (false, 163), (false, 0), (0, 0, 0), (0, 0, 0), []))]
set_option maxRecDepth 100000 in
theorem pe_M_come : pw_fnd pp_M_come 0 = (.aload_n 0, (false, 1), (false, 0), (0, 0, 0), (0, 0, 0), []) ∧
  pw_fnd pp_M_come 1 = (.iload_n 1, (false, 2), (false, 0), (0, 0, 0), (0, 0, 0), []) ∧
  pw_fnd pp_M_come 2 = (.invokevirtual 111, (false, 5), (false, 4), (55, 2, 1), (0, 0, 644), []) ∧
  pw_fnd pp_M_come 5 = (.ifCond .eq 11, (false, 8), (false, 16), (0, 0, 0), (0, 0, 0), []) ∧
  pw_fnd pp_M_come 8 = (.aload_n 0, (false, 9), (false, 0), (0, 0, 0), (0, 0, 0), []) ∧
  pw_fnd pp_M_come 9 = (.iload_n 2, (false, 10), (false, 0), (0, 0, 0), (0, 0, 0), []) ∧
  pw_fnd pp_M_come 10 = (.invokevirtual 98, (false, 13), (false, 4), (54, 2, 1), (0, 0, 625), []) ∧
  pw_fnd pp_M_come 13 = (.ifCond .ne 9, (false, 16), (false, 22), (0, 0, 0), (0, 0, 0), []) ∧
  pw_fnd pp_M_come 16 = (.aload_n 0, (false, 17), (false, 0), (0, 0, 0), (0, 0, 0), []) ∧
  pw_fnd pp_M_come 17 = (.iconst (-1), (false, 18), (false, 0), (0, 0, 0), (0, 0, 0), [((-1), (false, 0))]) ∧
  pw_fnd pp_M_come 18 = (.invokevirtual 94, (false, 21), (false, 4), (20, 2, 1), (0, 0, 613), []) ∧
  pw_fnd pp_M_come 21 = (.ireturn, (false, 22), (false, 0), (0, 0, 0), (0, 0, 0), []) ∧
  pw_fnd pp_M_come 22 = (.aload_n 0, (false, 23), (false, 0), (0, 0, 0), (0, 0, 0), []) ∧
  pw_fnd pp_M_come 23 = (.getfield 47, (false, 26), (false, 0), (4, 16, 1), (0, 0, 533), []) ∧
  pw_fnd pp_M_come 26 = (.iload_n 1, (false, 27), (false, 0), (0, 0, 0), (0, 0, 0), []) ∧
  pw_fnd pp_M_come 27 = (.iaload, (false, 28), (false, 0), (0, 0, 0), (0, 0, 0), []) ∧
  pw_fnd pp_M_come 28 = (.ifCond .eq 10, (false, 31), (false, 38), (0, 0, 0), (0, 0, 0), []) ∧
  pw_fnd pp_M_come 31 = (.aload_n 0, (false, 32), (false, 0), (0, 0, 0), (0, 0, 0), []) ∧
  pw_fnd pp_M_come 32 = (.bipush (-2), (false, 34), (false, 0), (0, 0, 0), (0, 0, 0), [((-2), (false, 0))]) ∧
  pw_fnd pp_M_come 34 = (.invokevirtual 94, (false, 37), (false, 4), (20, 2, 1), (0, 0, 613), []) ∧
  pw_fnd pp_M_come 37 = (.ireturn, (false, 38), (false, 0), (0, 0, 0), (0, 0, 0), []) ∧
  pw_fnd pp_M_come 38 = (.iconst (-1), (false, 39), (false, 0), (0, 0, 0), (0, 0, 0), [((-1), (false, 0))]) ∧
  pw_fnd pp_M_come 39 = (.istore_n 3, (false, 40), (false, 0), (0, 0, 0), (0, 0, 0), []) ∧
  pw_fnd pp_M_come 40 = (.aload_n 0, (false, 41), (false, 0), (0, 0, 0), (0, 0, 0), []) ∧
  pw_fnd pp_M_come 41 = (.getfield 59, (false, 44), (false, 0), (4, 21, 1), (0, 0, 538), []) ∧
  pw_fnd pp_M_come 44 = (.iload_n 1, (false, 45), (false, 0), (0, 0, 0), (0, 0, 0), []) ∧
  pw_fnd pp_M_come 45 = (.iaload, (false, 46), (false, 0), (0, 0, 0), (0, 0, 0), []) ∧
  pw_fnd pp_M_come 46 = (.iconst 1, (false, 47), (false, 0), (0, 0, 0), (0, 0, 0), [(1, (false, 0))]) ∧
  pw_fnd pp_M_come 47 = (.isub, (false, 48), (false, 0), (0, 0, 0), (0, 0, 0), []) ∧
  pw_fnd pp_M_come 48 = (.istore 4, (true, 50), (false, 0), (0, 0, 0), (0, 0, 0), []) ∧
  pw_fnd pp_M_come 50 = (.iload 4, (false, 52), (false, 0), (0, 0, 0), (0, 0, 0), []) ∧
  pw_fnd pp_M_come 52 = (.ifCond .lt 55, (false, 55), (false, 107), (0, 0, 0), (0, 0, 0), []) ∧
  pw_fnd pp_M_come 55 = (.aload_n 0, (false, 56), (false, 0), (0, 0, 0), (0, 0, 0), []) ∧
  pw_fnd pp_M_come 56 = (.getfield 62, (false, 59), (false, 0), (4, 22, 1), (0, 0, 539), []) ∧
  pw_fnd pp_M_come 59 = (.iconst 2, (false, 60), (false, 0), (0, 0, 0), (0, 0, 0), [(2, (false, 0))]) ∧
  pw_fnd pp_M_come 60 = (.iload_n 1, (false, 61), (false, 0), (0, 0, 0), (0, 0, 0), []) ∧
  pw_fnd pp_M_come 61 = (.imul, (false, 62), (false, 0), (0, 0, 0), (0, 0, 0), []) ∧
  pw_fnd pp_M_come 62 = (.iload 4, (false, 64), (false, 0), (0, 0, 0), (0, 0, 0), []) ∧
  pw_fnd pp_M_come 64 = (.iadd, (false, 65), (false, 0), (0, 0, 0), (0, 0, 0), []) ∧
  pw_fnd pp_M_come 65 = (.iaload, (false, 66), (false, 0), (0, 0, 0), (0, 0, 0), []) ∧
  pw_fnd pp_M_come 66 = (.iload_n 2, (false, 67), (false, 0), (0, 0, 0), (0, 0, 0), []) ∧
  pw_fnd pp_M_come 67 = (.if_icmp .ne 32, (false, 70), (false, 99), (0, 0, 0), (0, 0, 0), []) ∧
  pw_fnd pp_M_come 70 = (.aload_n 0, (false, 71), (false, 0), (0, 0, 0), (0, 0, 0), []) ∧
  pw_fnd pp_M_come 71 = (.getfield 65, (false, 74), (false, 0), (4, 23, 1), (0, 0, 540), []) ∧
  pw_fnd pp_M_come 74 = (.iconst 2, (false, 75), (false, 0), (0, 0, 0), (0, 0, 0), [(2, (false, 0))]) ∧
  pw_fnd pp_M_come 75 = (.iload_n 1, (false, 76), (false, 0), (0, 0, 0), (0, 0, 0), []) ∧
  pw_fnd pp_M_come 76 = (.imul, (false, 77), (false, 0), (0, 0, 0), (0, 0, 0), []) ∧
  pw_fnd pp_M_come 77 = (.iload 4, (false, 79), (false, 0), (0, 0, 0), (0, 0, 0), []) ∧
  pw_fnd pp_M_come 79 = (.iadd, (false, 80), (false, 0), (0, 0, 0), (0, 0, 0), []) ∧
  pw_fnd pp_M_come 80 = (.iaload, (false, 81), (false, 0), (0, 0, 0), (0, 0, 0), []) ∧
  pw_fnd pp_M_come 81 = (.aload_n 0, (false, 82), (false, 0), (0, 0, 0), (0, 0, 0), []) ∧
  pw_fnd pp_M_come 82 = (.getfield 114, (false, 85), (false, 0), (4, 0, 0), (0, 0, 517), []) ∧
  pw_fnd pp_M_come 85 = (.aload_n 0, (false, 86), (false, 0), (0, 0, 0), (0, 0, 0), []) ∧
  pw_fnd pp_M_come 86 = (.iload_n 2, (false, 87), (false, 0), (0, 0, 0), (0, 0, 0), []) ∧
  pw_fnd pp_M_come 87 = (.invokevirtual 105, (false, 90), (false, 4), (58, 2, 1), (0, 0, 652), []) ∧
  pw_fnd pp_M_come 90 = (.idiv, (false, 91), (false, 0), (0, 0, 0), (0, 0, 0), []) ∧
  pw_fnd pp_M_come 91 = (.if_icmp .ne 8, (false, 94), (false, 99), (0, 0, 0), (0, 0, 0), []) ∧
  pw_fnd pp_M_come 94 = (.iload 4, (false, 96), (false, 0), (0, 0, 0), (0, 0, 0), []) ∧
  pw_fnd pp_M_come 96 = (.goto 4, (false, 99), (false, 100), (0, 0, 0), (0, 0, 0), []) ∧
  pw_fnd pp_M_come 99 = (.iload_n 3, (false, 100), (false, 0), (0, 0, 0), (0, 0, 0), []) ∧
  pw_fnd pp_M_come 100 = (.istore_n 3, (false, 101), (false, 0), (0, 0, 0), (0, 0, 0), []) ∧
  pw_fnd pp_M_come 101 = (.iinc 4 (-1), (false, 104), (false, 0), (0, 0, 0), (0, 0, 0), [((-1), (false, 0))]) ∧
  pw_fnd pp_M_come 104 = (.goto (-54), (false, 107), (true, 50), (0, 0, 0), (0, 0, 0), []) ∧
  pw_fnd pp_M_come 107 = (.iload_n 3, (false, 108), (false, 0), (0, 0, 0), (0, 0, 0), []) ∧
  pw_fnd pp_M_come 108 = (.ifCond .ge 19, (false, 111), (false, 127), (0, 0, 0), (0, 0, 0), []) ∧
  pw_fnd pp_M_come 111 = (.aload_n 0, (false, 112), (false, 0), (0, 0, 0), (0, 0, 0), []) ∧
  pw_fnd pp_M_come 112 = (.getfield 68, (false, 115), (false, 0), (4, 24, 1), (0, 0, 541), []) ∧
  pw_fnd pp_M_come 115 = (.iload_n 1, (false, 116), (false, 0), (0, 0, 0), (0, 0, 0), []) ∧
  pw_fnd pp_M_come 116 = (.iaload, (false, 117), (false, 0), (0, 0, 0), (0, 0, 0), []) ∧
  pw_fnd pp_M_come 117 = (.ifCond .ne 10, (false, 120), (false, 127), (0, 0, 0), (0, 0, 0), []) ∧
  pw_fnd pp_M_come 120 = (.aload_n 0, (false, 121), (false, 0), (0, 0, 0), (0, 0, 0), []) ∧
  pw_fnd pp_M_come 121 = (.bipush (-3), (false, 123), (false, 0), (0, 0, 0), (0, 0, 0), [((-3), (false, 0))]) ∧
  pw_fnd pp_M_come 123 = (.invokevirtual 94, (false, 126), (false, 4), (20, 2, 1), (0, 0, 613), []) ∧
  pw_fnd pp_M_come 126 = (.ireturn, (false, 127), (false, 0), (0, 0, 0), (0, 0, 0), []) ∧
  pw_fnd pp_M_come 127 = (.iload_n 3, (false, 128), (false, 0), (0, 0, 0), (0, 0, 0), []) ∧
  pw_fnd pp_M_come 128 = (.ifCond .lt 12, (false, 131), (false, 140), (0, 0, 0), (0, 0, 0), []) ∧
  pw_fnd pp_M_come 131 = (.aload_n 0, (false, 132), (false, 0), (0, 0, 0), (0, 0, 0), []) ∧
  pw_fnd pp_M_come 132 = (.iload_n 1, (false, 133), (false, 0), (0, 0, 0), (0, 0, 0), []) ∧
  pw_fnd pp_M_come 133 = (.iload_n 3, (false, 134), (false, 0), (0, 0, 0), (0, 0, 0), []) ∧
  pw_fnd pp_M_come 134 = (.invokevirtual 130, (false, 137), (false, 4), (23, 3, 0), (0, 0, 680), []) ∧
  pw_fnd pp_M_come 137 = (.goto 13, (false, 140), (false, 150), (0, 0, 0), (0, 0, 0), []) ∧
  pw_fnd pp_M_come 140 = (.aload_n 0, (false, 141), (false, 0), (0, 0, 0), (0, 0, 0), []) ∧
  pw_fnd pp_M_come 141 = (.getfield 68, (false, 144), (false, 0), (4, 24, 1), (0, 0, 541), []) ∧
  pw_fnd pp_M_come 144 = (.iload_n 1, (false, 145), (false, 0), (0, 0, 0), (0, 0, 0), []) ∧
  pw_fnd pp_M_come 145 = (.dup2, (false, 146), (false, 0), (0, 0, 0), (0, 0, 0), []) ∧
  pw_fnd pp_M_come 146 = (.iaload, (false, 147), (false, 0), (0, 0, 0), (0, 0, 0), []) ∧
  pw_fnd pp_M_come 147 = (.iconst 1, (false, 148), (false, 0), (0, 0, 0), (0, 0, 0), [(1, (false, 0))]) ∧
  pw_fnd pp_M_come 148 = (.isub, (false, 149), (false, 0), (0, 0, 0), (0, 0, 0), []) ∧
  pw_fnd pp_M_come 149 = (.iastore, (false, 150), (false, 0), (0, 0, 0), (0, 0, 0), []) ∧
  pw_fnd pp_M_come 150 = (.aload_n 0, (false, 151), (false, 0), (0, 0, 0), (0, 0, 0), []) ∧
  pw_fnd pp_M_come 151 = (.iload_n 1, (false, 152), (false, 0), (0, 0, 0), (0, 0, 0), []) ∧
  pw_fnd pp_M_come 152 = (.iconst 2, (false, 153), (false, 0), (0, 0, 0), (0, 0, 0), [(2, (false, 0))]) ∧
  pw_fnd pp_M_come 153 = (.iload_n 2, (false, 154), (false, 0), (0, 0, 0), (0, 0, 0), []) ∧
  pw_fnd pp_M_come 154 = (.invokevirtual 137, (false, 157), (false, 4), (24, 4, 0), (0, 0, 688), []) ∧
  pw_fnd pp_M_come 157 = (.aload_n 0, (false, 158), (false, 0), (0, 0, 0), (0, 0, 0), []) ∧
  pw_fnd pp_M_come 158 = (.iload_n 1, (false, 159), (false, 0), (0, 0, 0), (0, 0, 0), []) ∧
  pw_fnd pp_M_come 159 = (.invokevirtual 141, (false, 162), (false, 4), (25, 2, 1), (0, 0, 692), []) ∧
  pw_fnd pp_M_come 162 = (.ireturn, (false, 163), (false, 0), (0, 0, 0), (0, 0, 0), []) :=
  ⟨rfl, rfl, rfl, rfl, rfl, rfl, rfl, rfl, rfl, rfl, rfl, rfl, rfl, rfl, rfl, rfl, rfl, rfl, rfl, rfl, rfl, rfl, rfl, rfl, rfl, rfl, rfl, rfl, rfl, rfl, rfl, rfl, rfl, rfl, rfl, rfl, rfl, rfl, rfl, rfl, rfl, rfl, rfl, rfl, rfl, rfl, rfl, rfl, rfl, rfl, rfl, rfl, rfl, rfl, rfl, rfl, rfl, rfl, rfl, rfl, rfl, rfl, rfl, rfl, rfl, rfl, rfl, rfl, rfl, rfl, rfl, rfl, rfl, rfl, rfl, rfl, rfl, rfl, rfl, rfl, rfl, rfl, rfl, rfl, rfl, rfl, rfl, rfl, rfl, rfl, rfl, rfl, rfl, rfl, rfl, rfl, rfl, rfl⟩
set_option maxRecDepth 100000 in
theorem pk_M_come : pp_M_come.all (fun q => pw_chk pw_jt pm_M_come q.1 q.2) = true := by decide +kernel
def pp_M_stand : List (Nat × pw_E) := [(0, (.aload_n 0, (false, 1), (false, 0), (0, 0, 0), (0, 0, 0), [])),
  (1, (.iload_n 1, (false, 2), (false, 0), (0, 0, 0), (0, 0, 0), [])),
  (2, (.invokevirtual 111, (false, 5), (false, 4), (55, 2, 1), (0, 0, 644), [])),
  (5, (.ifCond .eq 11, (false, 8), (false, 16), (0, 0, 0), (0, 0, 0), [])),
  (8, (.aload_n 0, (false, 9), (false, 0), (0, 0, 0), (0, 0, 0), [])),
  (9, (.iload_n 2, (false, 10), (false, 0), (0, 0, 0), (0, 0, 0), [])),
  (10, (.invokevirtual 98, (false, 13), (false, 4), (54, 2, 1), (0, 0, 625), [])),
  (13, (.ifCond .ne 9, (false, 16), (false, 22), (0, 0, 0), (0, 0, 0), [])),
  (16, (.aload_n 0, (false, 17), (false, 0), (0, 0, 0), (0, 0, 0), [])),
  (17, (.iconst (-1), (false, 18), (false, 0), (0, 0, 0), (0, 0, 0), [((-1), (false, 0))])),
  (18, (.invokevirtual 94, (false, 21), (false, 4), (20, 2, 1), (0, 0, 613), [])),
  (21, (.ireturn, (false, 22), (false, 0), (0, 0, 0), (0, 0, 0), [])),
  (22, (.aload_n 0, (false, 23), (false, 0), (0, 0, 0), (0, 0, 0), [])),
  (23, (.getfield 47, (false, 26), (false, 0), (4, 16, 1), (0, 0, 533), [])),
  (26, (.iload_n 1, (false, 27), (false, 0), (0, 0, 0), (0, 0, 0), [])),
  (27, (.iaload, (false, 28), (false, 0), (0, 0, 0), (0, 0, 0), [])),
  (28, (.ifCond .eq 10, (false, 31), (false, 38), (0, 0, 0), (0, 0, 0), [])),
  (31, (.aload_n 0, (false, 32), (false, 0), (0, 0, 0), (0, 0, 0), [])),
  (32, (.bipush (-2), (false, 34), (false, 0), (0, 0, 0), (0, 0, 0), [((-2), (false, 0))])),
  (34, (.invokevirtual 94, (false, 37), (false, 4), (20, 2, 1), (0, 0, 613), [])),
  (37, (.ireturn, (false, 38), (false, 0), (0, 0, 0), (0, 0, 0), [])),
  (38, (.aload_n 0, (false, 39), (false, 0), (0, 0, 0), (0, 0, 0), [])),
  (39, (.getfield 44, (false, 42), (false, 0), (4, 15, 1), (0, 0, 532), [])),
  (42, (.iload_n 1, (false, 43), (false, 0), (0, 0, 0), (0, 0, 0), [])),
  (43, (.iaload, (false, 44), (false, 0), (0, 0, 0), (0, 0, 0), [])),
  (44, (.aload_n 0, (false, 45), (false, 0), (0, 0, 0), (0, 0, 0), [])),
  (45, (.getfield 7, (false, 48), (false, 0), (4, 3, 1), (0, 0, 520), [])),
  (48, (.iload_n 2, (false, 49), (false, 0), (0, 0, 0), (0, 0, 0), [])),
  (49, (.iaload, (false, 50), (false, 0), (0, 0, 0), (0, 0, 0), [])),
  (50, (.aload_n 0, (false, 51), (false, 0), (0, 0, 0), (0, 0, 0), [])),
  (51, (.getfield 16, (false, 54), (false, 0), (4, 5, 1), (0, 0, 522), [])),
  (54, (.iload_n 2, (false, 55), (false, 0), (0, 0, 0), (0, 0, 0), [])),
  (55, (.iaload, (false, 56), (false, 0), (0, 0, 0), (0, 0, 0), [])),
  (56, (.isub, (false, 57), (false, 0), (0, 0, 0), (0, 0, 0), [])),
  (57, (.if_icmp .le 10, (false, 60), (false, 67), (0, 0, 0), (0, 0, 0), [])),
  (60, (.aload_n 0, (false, 61), (false, 0), (0, 0, 0), (0, 0, 0), [])),
  (61, (.bipush (-6), (false, 63), (false, 0), (0, 0, 0), (0, 0, 0), [((-6), (false, 0))])),
  (63, (.invokevirtual 94, (false, 66), (false, 4), (20, 2, 1), (0, 0, 613), [])),
  (66, (.ireturn, (false, 67), (false, 0), (0, 0, 0), (0, 0, 0), [])),
  (67, (.aload_n 0, (false, 68), (false, 0), (0, 0, 0), (0, 0, 0), [])),
  (68, (.iload_n 1, (false, 69), (false, 0), (0, 0, 0), (0, 0, 0), [])),
  (69, (.iconst 1, (false, 70), (false, 0), (0, 0, 0), (0, 0, 0), [(1, (false, 0))])),
  (70, (.iload_n 2, (false, 71), (false, 0), (0, 0, 0), (0, 0, 0), [])),
  (71, (.invokevirtual 137, (false, 74), (false, 4), (24, 4, 0), (0, 0, 688), [])),
  (74, (.aload_n 0, (false, 75), (false, 0), (0, 0, 0), (0, 0, 0), [])),
  (75, (.iload_n 1, (false, 76), (false, 0), (0, 0, 0), (0, 0, 0), [])),
  (76, (.invokevirtual 141, (false, 79), (false, 4), (25, 2, 1), (0, 0, 692), [])),
  (79, (.ireturn, (false, 80), (false, 0), (0, 0, 0), (0, 0, 0), []))]
set_option maxRecDepth 100000 in
theorem pe_M_stand : pw_fnd pp_M_stand 0 = (.aload_n 0, (false, 1), (false, 0), (0, 0, 0), (0, 0, 0), []) ∧
  pw_fnd pp_M_stand 1 = (.iload_n 1, (false, 2), (false, 0), (0, 0, 0), (0, 0, 0), []) ∧
  pw_fnd pp_M_stand 2 = (.invokevirtual 111, (false, 5), (false, 4), (55, 2, 1), (0, 0, 644), []) ∧
  pw_fnd pp_M_stand 5 = (.ifCond .eq 11, (false, 8), (false, 16), (0, 0, 0), (0, 0, 0), []) ∧
  pw_fnd pp_M_stand 8 = (.aload_n 0, (false, 9), (false, 0), (0, 0, 0), (0, 0, 0), []) ∧
  pw_fnd pp_M_stand 9 = (.iload_n 2, (false, 10), (false, 0), (0, 0, 0), (0, 0, 0), []) ∧
  pw_fnd pp_M_stand 10 = (.invokevirtual 98, (false, 13), (false, 4), (54, 2, 1), (0, 0, 625), []) ∧
  pw_fnd pp_M_stand 13 = (.ifCond .ne 9, (false, 16), (false, 22), (0, 0, 0), (0, 0, 0), []) ∧
  pw_fnd pp_M_stand 16 = (.aload_n 0, (false, 17), (false, 0), (0, 0, 0), (0, 0, 0), []) ∧
  pw_fnd pp_M_stand 17 = (.iconst (-1), (false, 18), (false, 0), (0, 0, 0), (0, 0, 0), [((-1), (false, 0))]) ∧
  pw_fnd pp_M_stand 18 = (.invokevirtual 94, (false, 21), (false, 4), (20, 2, 1), (0, 0, 613), []) ∧
  pw_fnd pp_M_stand 21 = (.ireturn, (false, 22), (false, 0), (0, 0, 0), (0, 0, 0), []) ∧
  pw_fnd pp_M_stand 22 = (.aload_n 0, (false, 23), (false, 0), (0, 0, 0), (0, 0, 0), []) ∧
  pw_fnd pp_M_stand 23 = (.getfield 47, (false, 26), (false, 0), (4, 16, 1), (0, 0, 533), []) ∧
  pw_fnd pp_M_stand 26 = (.iload_n 1, (false, 27), (false, 0), (0, 0, 0), (0, 0, 0), []) ∧
  pw_fnd pp_M_stand 27 = (.iaload, (false, 28), (false, 0), (0, 0, 0), (0, 0, 0), []) ∧
  pw_fnd pp_M_stand 28 = (.ifCond .eq 10, (false, 31), (false, 38), (0, 0, 0), (0, 0, 0), []) ∧
  pw_fnd pp_M_stand 31 = (.aload_n 0, (false, 32), (false, 0), (0, 0, 0), (0, 0, 0), []) ∧
  pw_fnd pp_M_stand 32 = (.bipush (-2), (false, 34), (false, 0), (0, 0, 0), (0, 0, 0), [((-2), (false, 0))]) ∧
  pw_fnd pp_M_stand 34 = (.invokevirtual 94, (false, 37), (false, 4), (20, 2, 1), (0, 0, 613), []) ∧
  pw_fnd pp_M_stand 37 = (.ireturn, (false, 38), (false, 0), (0, 0, 0), (0, 0, 0), []) ∧
  pw_fnd pp_M_stand 38 = (.aload_n 0, (false, 39), (false, 0), (0, 0, 0), (0, 0, 0), []) ∧
  pw_fnd pp_M_stand 39 = (.getfield 44, (false, 42), (false, 0), (4, 15, 1), (0, 0, 532), []) ∧
  pw_fnd pp_M_stand 42 = (.iload_n 1, (false, 43), (false, 0), (0, 0, 0), (0, 0, 0), []) ∧
  pw_fnd pp_M_stand 43 = (.iaload, (false, 44), (false, 0), (0, 0, 0), (0, 0, 0), []) ∧
  pw_fnd pp_M_stand 44 = (.aload_n 0, (false, 45), (false, 0), (0, 0, 0), (0, 0, 0), []) ∧
  pw_fnd pp_M_stand 45 = (.getfield 7, (false, 48), (false, 0), (4, 3, 1), (0, 0, 520), []) ∧
  pw_fnd pp_M_stand 48 = (.iload_n 2, (false, 49), (false, 0), (0, 0, 0), (0, 0, 0), []) ∧
  pw_fnd pp_M_stand 49 = (.iaload, (false, 50), (false, 0), (0, 0, 0), (0, 0, 0), []) ∧
  pw_fnd pp_M_stand 50 = (.aload_n 0, (false, 51), (false, 0), (0, 0, 0), (0, 0, 0), []) ∧
  pw_fnd pp_M_stand 51 = (.getfield 16, (false, 54), (false, 0), (4, 5, 1), (0, 0, 522), []) ∧
  pw_fnd pp_M_stand 54 = (.iload_n 2, (false, 55), (false, 0), (0, 0, 0), (0, 0, 0), []) ∧
  pw_fnd pp_M_stand 55 = (.iaload, (false, 56), (false, 0), (0, 0, 0), (0, 0, 0), []) ∧
  pw_fnd pp_M_stand 56 = (.isub, (false, 57), (false, 0), (0, 0, 0), (0, 0, 0), []) ∧
  pw_fnd pp_M_stand 57 = (.if_icmp .le 10, (false, 60), (false, 67), (0, 0, 0), (0, 0, 0), []) ∧
  pw_fnd pp_M_stand 60 = (.aload_n 0, (false, 61), (false, 0), (0, 0, 0), (0, 0, 0), []) ∧
  pw_fnd pp_M_stand 61 = (.bipush (-6), (false, 63), (false, 0), (0, 0, 0), (0, 0, 0), [((-6), (false, 0))]) ∧
  pw_fnd pp_M_stand 63 = (.invokevirtual 94, (false, 66), (false, 4), (20, 2, 1), (0, 0, 613), []) ∧
  pw_fnd pp_M_stand 66 = (.ireturn, (false, 67), (false, 0), (0, 0, 0), (0, 0, 0), []) ∧
  pw_fnd pp_M_stand 67 = (.aload_n 0, (false, 68), (false, 0), (0, 0, 0), (0, 0, 0), []) ∧
  pw_fnd pp_M_stand 68 = (.iload_n 1, (false, 69), (false, 0), (0, 0, 0), (0, 0, 0), []) ∧
  pw_fnd pp_M_stand 69 = (.iconst 1, (false, 70), (false, 0), (0, 0, 0), (0, 0, 0), [(1, (false, 0))]) ∧
  pw_fnd pp_M_stand 70 = (.iload_n 2, (false, 71), (false, 0), (0, 0, 0), (0, 0, 0), []) ∧
  pw_fnd pp_M_stand 71 = (.invokevirtual 137, (false, 74), (false, 4), (24, 4, 0), (0, 0, 688), []) ∧
  pw_fnd pp_M_stand 74 = (.aload_n 0, (false, 75), (false, 0), (0, 0, 0), (0, 0, 0), []) ∧
  pw_fnd pp_M_stand 75 = (.iload_n 1, (false, 76), (false, 0), (0, 0, 0), (0, 0, 0), []) ∧
  pw_fnd pp_M_stand 76 = (.invokevirtual 141, (false, 79), (false, 4), (25, 2, 1), (0, 0, 692), []) ∧
  pw_fnd pp_M_stand 79 = (.ireturn, (false, 80), (false, 0), (0, 0, 0), (0, 0, 0), []) :=
  ⟨rfl, rfl, rfl, rfl, rfl, rfl, rfl, rfl, rfl, rfl, rfl, rfl, rfl, rfl, rfl, rfl, rfl, rfl, rfl, rfl, rfl, rfl, rfl, rfl, rfl, rfl, rfl, rfl, rfl, rfl, rfl, rfl, rfl, rfl, rfl, rfl, rfl, rfl, rfl, rfl, rfl, rfl, rfl, rfl, rfl, rfl, rfl, rfl⟩
set_option maxRecDepth 100000 in
theorem pk_M_stand : pp_M_stand.all (fun q => pw_chk pw_jt pm_M_stand q.1 q.2) = true := by decide +kernel
