def pp_P_rain : List (Nat × pw_E) := [(0, (.aload_n 0, (false, 1), (false, 0), (0, 0, 0), (0, 0, 0), [])),
  (1, (.getfield 149, (false, 4), (false, 0), (3, 7, 2), (0, 0, 93), [])),
  (4, (.iload_n 1, (false, 5), (false, 0), (0, 0, 0), (0, 0, 0), [])),
  (5, (.if_icmp .ne 5, (false, 8), (false, 10), (0, 0, 0), (0, 0, 0), [])),
  (8, (.iconst 0, (false, 9), (false, 0), (0, 0, 0), (0, 0, 0), [(0, (false, 0))])),
  (9, (.ireturn, (false, 10), (false, 0), (0, 0, 2), (0, 0, 0), [])),
  (10, (.aload_n 0, (false, 11), (false, 0), (0, 0, 0), (0, 0, 0), [])),
  (11, (.iload_n 1, (false, 12), (false, 0), (0, 0, 0), (0, 0, 0), [])),
  (12, (.putfield 149, (false, 15), (false, 0), (3, 7, 2), (0, 0, 93), [])),
  (15, (.iconst 1, (false, 16), (false, 0), (0, 0, 0), (0, 0, 0), [(1, (false, 0))])),
  (16, (.ireturn, (false, 17), (false, 0), (0, 0, 2), (0, 0, 0), []))]
set_option maxRecDepth 100000 in
theorem pe_P_rain : pw_fnd pp_P_rain 0 = (.aload_n 0, (false, 1), (false, 0), (0, 0, 0), (0, 0, 0), []) ∧
  pw_fnd pp_P_rain 1 = (.getfield 149, (false, 4), (false, 0), (3, 7, 2), (0, 0, 93), []) ∧
  pw_fnd pp_P_rain 4 = (.iload_n 1, (false, 5), (false, 0), (0, 0, 0), (0, 0, 0), []) ∧
  pw_fnd pp_P_rain 5 = (.if_icmp .ne 5, (false, 8), (false, 10), (0, 0, 0), (0, 0, 0), []) ∧
  pw_fnd pp_P_rain 8 = (.iconst 0, (false, 9), (false, 0), (0, 0, 0), (0, 0, 0), [(0, (false, 0))]) ∧
  pw_fnd pp_P_rain 9 = (.ireturn, (false, 10), (false, 0), (0, 0, 2), (0, 0, 0), []) ∧
  pw_fnd pp_P_rain 10 = (.aload_n 0, (false, 11), (false, 0), (0, 0, 0), (0, 0, 0), []) ∧
  pw_fnd pp_P_rain 11 = (.iload_n 1, (false, 12), (false, 0), (0, 0, 0), (0, 0, 0), []) ∧
  pw_fnd pp_P_rain 12 = (.putfield 149, (false, 15), (false, 0), (3, 7, 2), (0, 0, 93), []) ∧
  pw_fnd pp_P_rain 15 = (.iconst 1, (false, 16), (false, 0), (0, 0, 0), (0, 0, 0), [(1, (false, 0))]) ∧
  pw_fnd pp_P_rain 16 = (.ireturn, (false, 17), (false, 0), (0, 0, 2), (0, 0, 0), []) :=
  ⟨rfl, rfl, rfl, rfl, rfl, rfl, rfl, rfl, rfl, rfl, rfl⟩
set_option maxRecDepth 100000 in
theorem pk_P_rain : pp_P_rain.all (fun q => pw_chk pw_jt pm_P_rain q.1 q.2) = true := by decide +kernel
def pp_P_refused : List (Nat × pw_E) := [(0, (.iconst (-1), (false, 1), (false, 0), (0, 0, 0), (0, 0, 0), [((-1), (false, 0))])),
  (1, (.iload_n 1, (false, 2), (false, 0), (0, 0, 0), (0, 0, 0), [])),
  (2, (.isub, (false, 3), (false, 0), (0, 0, 0), (0, 0, 0), [])),
  (3, (.istore_n 2, (false, 4), (false, 0), (0, 0, 0), (0, 0, 0), [])),
  (4, (.iload_n 2, (false, 5), (false, 0), (0, 0, 0), (0, 0, 0), [])),
  (5, (.ifCond .lt 22, (false, 8), (false, 27), (0, 0, 0), (0, 0, 0), [])),
  (8, (.iload_n 2, (false, 9), (false, 0), (0, 0, 0), (0, 0, 0), [])),
  (9, (.aload_n 0, (false, 10), (false, 0), (0, 0, 0), (0, 0, 0), [])),
  (10, (.getfield 25, (false, 13), (false, 0), (3, 3, 1), (0, 0, 89), [])),
  (13, (.arraylength, (false, 14), (false, 0), (0, 0, 0), (0, 0, 0), [])),
  (14, (.if_icmp .ge 13, (false, 17), (false, 27), (0, 0, 0), (0, 0, 0), [])),
  (17, (.aload_n 0, (false, 18), (false, 0), (0, 0, 0), (0, 0, 0), [])),
  (18, (.getfield 25, (false, 21), (false, 0), (3, 3, 1), (0, 0, 89), [])),
  (21, (.iload_n 2, (false, 22), (false, 0), (0, 0, 0), (0, 0, 0), [])),
  (22, (.dup2, (false, 23), (false, 0), (0, 0, 0), (0, 0, 0), [])),
  (23, (.iaload, (false, 24), (false, 0), (0, 0, 0), (0, 0, 0), [])),
  (24, (.iconst 1, (false, 25), (false, 0), (0, 0, 0), (0, 0, 0), [(1, (false, 0))])),
  (25, (.iadd, (false, 26), (false, 0), (0, 0, 0), (0, 0, 0), [])),
  (26, (.iastore, (false, 27), (false, 0), (0, 0, 0), (0, 0, 0), [])),
  (27, (.iload_n 1, (false, 28), (false, 0), (0, 0, 0), (0, 0, 0), [])),
  (28, (.ireturn, (false, 29), (false, 0), (0, 0, 0), (0, 0, 0), []))]
set_option maxRecDepth 100000 in
theorem pe_P_refused : pw_fnd pp_P_refused 0 = (.iconst (-1), (false, 1), (false, 0), (0, 0, 0), (0, 0, 0), [((-1), (false, 0))]) ∧
  pw_fnd pp_P_refused 1 = (.iload_n 1, (false, 2), (false, 0), (0, 0, 0), (0, 0, 0), []) ∧
  pw_fnd pp_P_refused 2 = (.isub, (false, 3), (false, 0), (0, 0, 0), (0, 0, 0), []) ∧
  pw_fnd pp_P_refused 3 = (.istore_n 2, (false, 4), (false, 0), (0, 0, 0), (0, 0, 0), []) ∧
  pw_fnd pp_P_refused 4 = (.iload_n 2, (false, 5), (false, 0), (0, 0, 0), (0, 0, 0), []) ∧
  pw_fnd pp_P_refused 5 = (.ifCond .lt 22, (false, 8), (false, 27), (0, 0, 0), (0, 0, 0), []) ∧
  pw_fnd pp_P_refused 8 = (.iload_n 2, (false, 9), (false, 0), (0, 0, 0), (0, 0, 0), []) ∧
  pw_fnd pp_P_refused 9 = (.aload_n 0, (false, 10), (false, 0), (0, 0, 0), (0, 0, 0), []) ∧
  pw_fnd pp_P_refused 10 = (.getfield 25, (false, 13), (false, 0), (3, 3, 1), (0, 0, 89), []) ∧
  pw_fnd pp_P_refused 13 = (.arraylength, (false, 14), (false, 0), (0, 0, 0), (0, 0, 0), []) ∧
  pw_fnd pp_P_refused 14 = (.if_icmp .ge 13, (false, 17), (false, 27), (0, 0, 0), (0, 0, 0), []) ∧
  pw_fnd pp_P_refused 17 = (.aload_n 0, (false, 18), (false, 0), (0, 0, 0), (0, 0, 0), []) ∧
  pw_fnd pp_P_refused 18 = (.getfield 25, (false, 21), (false, 0), (3, 3, 1), (0, 0, 89), []) ∧
  pw_fnd pp_P_refused 21 = (.iload_n 2, (false, 22), (false, 0), (0, 0, 0), (0, 0, 0), []) ∧
  pw_fnd pp_P_refused 22 = (.dup2, (false, 23), (false, 0), (0, 0, 0), (0, 0, 0), []) ∧
  pw_fnd pp_P_refused 23 = (.iaload, (false, 24), (false, 0), (0, 0, 0), (0, 0, 0), []) ∧
  pw_fnd pp_P_refused 24 = (.iconst 1, (false, 25), (false, 0), (0, 0, 0), (0, 0, 0), [(1, (false, 0))]) ∧
  pw_fnd pp_P_refused 25 = (.iadd, (false, 26), (false, 0), (0, 0, 0), (0, 0, 0), []) ∧
  pw_fnd pp_P_refused 26 = (.iastore, (false, 27), (false, 0), (0, 0, 0), (0, 0, 0), []) ∧
  pw_fnd pp_P_refused 27 = (.iload_n 1, (false, 28), (false, 0), (0, 0, 0), (0, 0, 0), []) ∧
  pw_fnd pp_P_refused 28 = (.ireturn, (false, 29), (false, 0), (0, 0, 0), (0, 0, 0), []) :=
  ⟨rfl, rfl, rfl, rfl, rfl, rfl, rfl, rfl, rfl, rfl, rfl, rfl, rfl, rfl, rfl, rfl, rfl, rfl, rfl, rfl, rfl⟩
set_option maxRecDepth 100000 in
theorem pk_P_refused : pp_P_refused.all (fun q => pw_chk pw_jt pm_P_refused q.1 q.2) = true := by decide +kernel
def pp_P_refusalsAt : List (Nat × pw_E) := [(0, (.iload_n 1, (false, 1), (false, 0), (0, 0, 0), (0, 0, 0), [])),
  (1, (.ifCond .lt 21, (false, 4), (false, 22), (0, 0, 0), (0, 0, 0), [])),
  (4, (.iload_n 1, (false, 5), (false, 0), (0, 0, 0), (0, 0, 0), [])),
  (5, (.aload_n 0, (false, 6), (false, 0), (0, 0, 0), (0, 0, 0), [])),
  (6, (.getfield 25, (false, 9), (false, 0), (3, 3, 1), (0, 0, 89), [])),
  (9, (.arraylength, (false, 10), (false, 0), (0, 0, 0), (0, 0, 0), [])),
  (10, (.if_icmp .ge 12, (false, 13), (false, 22), (0, 0, 0), (0, 0, 0), [])),
  (13, (.aload_n 0, (false, 14), (false, 0), (0, 0, 0), (0, 0, 0), [])),
  (14, (.getfield 25, (false, 17), (false, 0), (3, 3, 1), (0, 0, 89), [])),
  (17, (.iload_n 1, (false, 18), (false, 0), (0, 0, 0), (0, 0, 0), [])),
  (18, (.iaload, (false, 19), (false, 0), (0, 0, 0), (0, 0, 0), [])),
  (19, (.goto 5, (false, 22), (false, 24), (0, 0, 0), (0, 0, 0), [])),
  (22, (.bipush (-9), (false, 24), (false, 0), (0, 0, 0), (0, 0, 0), [((-9), (false, 0))])),
  (24, (.ireturn, (false, 25), (false, 0), (0, 0, 0), (0, 0, 0), []))]
set_option maxRecDepth 100000 in
theorem pe_P_refusalsAt : pw_fnd pp_P_refusalsAt 0 = (.iload_n 1, (false, 1), (false, 0), (0, 0, 0), (0, 0, 0), []) ∧
  pw_fnd pp_P_refusalsAt 1 = (.ifCond .lt 21, (false, 4), (false, 22), (0, 0, 0), (0, 0, 0), []) ∧
  pw_fnd pp_P_refusalsAt 4 = (.iload_n 1, (false, 5), (false, 0), (0, 0, 0), (0, 0, 0), []) ∧
  pw_fnd pp_P_refusalsAt 5 = (.aload_n 0, (false, 6), (false, 0), (0, 0, 0), (0, 0, 0), []) ∧
  pw_fnd pp_P_refusalsAt 6 = (.getfield 25, (false, 9), (false, 0), (3, 3, 1), (0, 0, 89), []) ∧
  pw_fnd pp_P_refusalsAt 9 = (.arraylength, (false, 10), (false, 0), (0, 0, 0), (0, 0, 0), []) ∧
  pw_fnd pp_P_refusalsAt 10 = (.if_icmp .ge 12, (false, 13), (false, 22), (0, 0, 0), (0, 0, 0), []) ∧
  pw_fnd pp_P_refusalsAt 13 = (.aload_n 0, (false, 14), (false, 0), (0, 0, 0), (0, 0, 0), []) ∧
  pw_fnd pp_P_refusalsAt 14 = (.getfield 25, (false, 17), (false, 0), (3, 3, 1), (0, 0, 89), []) ∧
  pw_fnd pp_P_refusalsAt 17 = (.iload_n 1, (false, 18), (false, 0), (0, 0, 0), (0, 0, 0), []) ∧
  pw_fnd pp_P_refusalsAt 18 = (.iaload, (false, 19), (false, 0), (0, 0, 0), (0, 0, 0), []) ∧
  pw_fnd pp_P_refusalsAt 19 = (.goto 5, (false, 22), (false, 24), (0, 0, 0), (0, 0, 0), []) ∧
  pw_fnd pp_P_refusalsAt 22 = (.bipush (-9), (false, 24), (false, 0), (0, 0, 0), (0, 0, 0), [((-9), (false, 0))]) ∧
  pw_fnd pp_P_refusalsAt 24 = (.ireturn, (false, 25), (false, 0), (0, 0, 0), (0, 0, 0), []) :=
  ⟨rfl, rfl, rfl, rfl, rfl, rfl, rfl, rfl, rfl, rfl, rfl, rfl, rfl, rfl⟩
set_option maxRecDepth 100000 in
theorem pk_P_refusalsAt : pp_P_refusalsAt.all (fun q => pw_chk pw_jt pm_P_refusalsAt q.1 q.2) = true := by decide +kernel
def pp_P_rideAt : List (Nat × pw_E) := [(0, (.iload_n 1, (false, 1), (false, 0), (0, 0, 0), (0, 0, 0), [])),
  (1, (.ifCond .lt 29, (false, 4), (false, 30), (0, 0, 0), (0, 0, 0), [])),
  (4, (.iload_n 1, (false, 5), (false, 0), (0, 0, 0), (0, 0, 0), [])),
  (5, (.aload_n 0, (false, 6), (false, 0), (0, 0, 0), (0, 0, 0), [])),
  (6, (.getfield 32, (false, 9), (false, 0), (3, 4, 0), (0, 0, 90), [])),
  (9, (.if_icmp .ge 21, (false, 12), (false, 30), (0, 0, 0), (0, 0, 0), [])),
  (12, (.iload_n 1, (false, 13), (false, 0), (0, 0, 0), (0, 0, 0), [])),
  (13, (.aload_n 0, (false, 14), (false, 0), (0, 0, 0), (0, 0, 0), [])),
  (14, (.getfield 11, (false, 17), (false, 0), (3, 0, 1), (0, 0, 86), [])),
  (17, (.arraylength, (false, 18), (false, 0), (0, 0, 0), (0, 0, 0), [])),
  (18, (.if_icmp .ge 12, (false, 21), (false, 30), (0, 0, 0), (0, 0, 0), [])),
  (21, (.aload_n 0, (false, 22), (false, 0), (0, 0, 0), (0, 0, 0), [])),
  (22, (.getfield 11, (false, 25), (false, 0), (3, 0, 1), (0, 0, 86), [])),
  (25, (.iload_n 1, (false, 26), (false, 0), (0, 0, 0), (0, 0, 0), [])),
  (26, (.aaload, (false, 27), (false, 0), (0, 0, 0), (0, 0, 0), [])),
  (27, (.goto 4, (false, 30), (false, 31), (0, 0, 0), (0, 0, 0), [])),
  (30, (.aconst_null, (false, 31), (false, 0), (0, 0, 0), (0, 0, 0), [])),
  (31, (.areturn, (false, 32), (false, 0), (0, 0, 0), (0, 0, 0), []))]
set_option maxRecDepth 100000 in
theorem pe_P_rideAt : pw_fnd pp_P_rideAt 0 = (.iload_n 1, (false, 1), (false, 0), (0, 0, 0), (0, 0, 0), []) ∧
  pw_fnd pp_P_rideAt 1 = (.ifCond .lt 29, (false, 4), (false, 30), (0, 0, 0), (0, 0, 0), []) ∧
  pw_fnd pp_P_rideAt 4 = (.iload_n 1, (false, 5), (false, 0), (0, 0, 0), (0, 0, 0), []) ∧
  pw_fnd pp_P_rideAt 5 = (.aload_n 0, (false, 6), (false, 0), (0, 0, 0), (0, 0, 0), []) ∧
  pw_fnd pp_P_rideAt 6 = (.getfield 32, (false, 9), (false, 0), (3, 4, 0), (0, 0, 90), []) ∧
  pw_fnd pp_P_rideAt 9 = (.if_icmp .ge 21, (false, 12), (false, 30), (0, 0, 0), (0, 0, 0), []) ∧
  pw_fnd pp_P_rideAt 12 = (.iload_n 1, (false, 13), (false, 0), (0, 0, 0), (0, 0, 0), []) ∧
  pw_fnd pp_P_rideAt 13 = (.aload_n 0, (false, 14), (false, 0), (0, 0, 0), (0, 0, 0), []) ∧
  pw_fnd pp_P_rideAt 14 = (.getfield 11, (false, 17), (false, 0), (3, 0, 1), (0, 0, 86), []) ∧
  pw_fnd pp_P_rideAt 17 = (.arraylength, (false, 18), (false, 0), (0, 0, 0), (0, 0, 0), []) ∧
  pw_fnd pp_P_rideAt 18 = (.if_icmp .ge 12, (false, 21), (false, 30), (0, 0, 0), (0, 0, 0), []) ∧
  pw_fnd pp_P_rideAt 21 = (.aload_n 0, (false, 22), (false, 0), (0, 0, 0), (0, 0, 0), []) ∧
  pw_fnd pp_P_rideAt 22 = (.getfield 11, (false, 25), (false, 0), (3, 0, 1), (0, 0, 86), []) ∧
  pw_fnd pp_P_rideAt 25 = (.iload_n 1, (false, 26), (false, 0), (0, 0, 0), (0, 0, 0), []) ∧
  pw_fnd pp_P_rideAt 26 = (.aaload, (false, 27), (false, 0), (0, 0, 0), (0, 0, 0), []) ∧
  pw_fnd pp_P_rideAt 27 = (.goto 4, (false, 30), (false, 31), (0, 0, 0), (0, 0, 0), []) ∧
  pw_fnd pp_P_rideAt 30 = (.aconst_null, (false, 31), (false, 0), (0, 0, 0), (0, 0, 0), []) ∧
  pw_fnd pp_P_rideAt 31 = (.areturn, (false, 32), (false, 0), (0, 0, 0), (0, 0, 0), []) :=
  ⟨rfl, rfl, rfl, rfl, rfl, rfl, rfl, rfl, rfl, rfl, rfl, rfl, rfl, rfl, rfl, rfl, rfl, rfl⟩
set_option maxRecDepth 100000 in
theorem pk_P_rideAt : pp_P_rideAt.all (fun q => pw_chk pw_jt pm_P_rideAt q.1 q.2) = true := by decide +kernel
def pp_P_groupAt : List (Nat × pw_E) := [(0, (.iload_n 1, (false, 1), (false, 0), (0, 0, 0), (0, 0, 0), [])),
  (1, (.ifCond .lt 29, (false, 4), (false, 30), (0, 0, 0), (0, 0, 0), [])),
  (4, (.iload_n 1, (false, 5), (false, 0), (0, 0, 0), (0, 0, 0), [])),
  (5, (.aload_n 0, (false, 6), (false, 0), (0, 0, 0), (0, 0, 0), [])),
  (6, (.getfield 45, (false, 9), (false, 0), (3, 5, 0), (0, 0, 91), [])),
  (9, (.if_icmp .ge 21, (false, 12), (false, 30), (0, 0, 0), (0, 0, 0), [])),
  (12, (.iload_n 1, (false, 13), (false, 0), (0, 0, 0), (0, 0, 0), [])),
  (13, (.aload_n 0, (false, 14), (false, 0), (0, 0, 0), (0, 0, 0), [])),
  (14, (.getfield 17, (false, 17), (false, 0), (3, 1, 1), (0, 0, 87), [])),
  (17, (.arraylength, (false, 18), (false, 0), (0, 0, 0), (0, 0, 0), [])),
  (18, (.if_icmp .ge 12, (false, 21), (false, 30), (0, 0, 0), (0, 0, 0), [])),
  (21, (.aload_n 0, (false, 22), (false, 0), (0, 0, 0), (0, 0, 0), [])),
  (22, (.getfield 17, (false, 25), (false, 0), (3, 1, 1), (0, 0, 87), [])),
  (25, (.iload_n 1, (false, 26), (false, 0), (0, 0, 0), (0, 0, 0), [])),
  (26, (.aaload, (false, 27), (false, 0), (0, 0, 0), (0, 0, 0), [])),
  (27, (.goto 4, (false, 30), (false, 31), (0, 0, 0), (0, 0, 0), [])),
  (30, (.aconst_null, (false, 31), (false, 0), (0, 0, 0), (0, 0, 0), [])),
  (31, (.areturn, (false, 32), (false, 0), (0, 0, 0), (0, 0, 0), []))]
set_option maxRecDepth 100000 in
theorem pe_P_groupAt : pw_fnd pp_P_groupAt 0 = (.iload_n 1, (false, 1), (false, 0), (0, 0, 0), (0, 0, 0), []) ∧
  pw_fnd pp_P_groupAt 1 = (.ifCond .lt 29, (false, 4), (false, 30), (0, 0, 0), (0, 0, 0), []) ∧
  pw_fnd pp_P_groupAt 4 = (.iload_n 1, (false, 5), (false, 0), (0, 0, 0), (0, 0, 0), []) ∧
  pw_fnd pp_P_groupAt 5 = (.aload_n 0, (false, 6), (false, 0), (0, 0, 0), (0, 0, 0), []) ∧
  pw_fnd pp_P_groupAt 6 = (.getfield 45, (false, 9), (false, 0), (3, 5, 0), (0, 0, 91), []) ∧
  pw_fnd pp_P_groupAt 9 = (.if_icmp .ge 21, (false, 12), (false, 30), (0, 0, 0), (0, 0, 0), []) ∧
  pw_fnd pp_P_groupAt 12 = (.iload_n 1, (false, 13), (false, 0), (0, 0, 0), (0, 0, 0), []) ∧
  pw_fnd pp_P_groupAt 13 = (.aload_n 0, (false, 14), (false, 0), (0, 0, 0), (0, 0, 0), []) ∧
  pw_fnd pp_P_groupAt 14 = (.getfield 17, (false, 17), (false, 0), (3, 1, 1), (0, 0, 87), []) ∧
  pw_fnd pp_P_groupAt 17 = (.arraylength, (false, 18), (false, 0), (0, 0, 0), (0, 0, 0), []) ∧
  pw_fnd pp_P_groupAt 18 = (.if_icmp .ge 12, (false, 21), (false, 30), (0, 0, 0), (0, 0, 0), []) ∧
  pw_fnd pp_P_groupAt 21 = (.aload_n 0, (false, 22), (false, 0), (0, 0, 0), (0, 0, 0), []) ∧
  pw_fnd pp_P_groupAt 22 = (.getfield 17, (false, 25), (false, 0), (3, 1, 1), (0, 0, 87), []) ∧
  pw_fnd pp_P_groupAt 25 = (.iload_n 1, (false, 26), (false, 0), (0, 0, 0), (0, 0, 0), []) ∧
  pw_fnd pp_P_groupAt 26 = (.aaload, (false, 27), (false, 0), (0, 0, 0), (0, 0, 0), []) ∧
  pw_fnd pp_P_groupAt 27 = (.goto 4, (false, 30), (false, 31), (0, 0, 0), (0, 0, 0), []) ∧
  pw_fnd pp_P_groupAt 30 = (.aconst_null, (false, 31), (false, 0), (0, 0, 0), (0, 0, 0), []) ∧
  pw_fnd pp_P_groupAt 31 = (.areturn, (false, 32), (false, 0), (0, 0, 0), (0, 0, 0), []) :=
  ⟨rfl, rfl, rfl, rfl, rfl, rfl, rfl, rfl, rfl, rfl, rfl, rfl, rfl, rfl, rfl, rfl, rfl, rfl⟩
set_option maxRecDepth 100000 in
theorem pk_P_groupAt : pp_P_groupAt.all (fun q => pw_chk pw_jt pm_P_groupAt q.1 q.2) = true := by decide +kernel
def pp_P_walkBetween : List (Nat × pw_E) := [(0, (.iload_n 1, (false, 1), (false, 0), (0, 0, 0), (0, 0, 0), [])),
  (1, (.bipush 8, (false, 3), (false, 0), (0, 0, 0), (0, 0, 0), [(8, (false, 0))])),
  (3, (.imul, (false, 4), (false, 0), (0, 0, 0), (0, 0, 0), [])),
  (4, (.iload_n 2, (false, 5), (false, 0), (0, 0, 0), (0, 0, 0), [])),
  (5, (.iadd, (false, 6), (false, 0), (0, 0, 0), (0, 0, 0), [])),
  (6, (.istore_n 3, (false, 7), (false, 0), (0, 0, 0), (0, 0, 0), [])),
  (7, (.iload_n 3, (false, 8), (false, 0), (0, 0, 0), (0, 0, 0), [])),
  (8, (.ifCond .lt 21, (false, 11), (false, 29), (0, 0, 0), (0, 0, 0), [])),
  (11, (.iload_n 3, (false, 12), (false, 0), (0, 0, 0), (0, 0, 0), [])),
  (12, (.aload_n 0, (false, 13), (false, 0), (0, 0, 0), (0, 0, 0), [])),
  (13, (.getfield 21, (false, 16), (false, 0), (3, 2, 1), (0, 0, 88), [])),
  (16, (.arraylength, (false, 17), (false, 0), (0, 0, 0), (0, 0, 0), [])),
  (17, (.if_icmp .ge 12, (false, 20), (false, 29), (0, 0, 0), (0, 0, 0), [])),
  (20, (.aload_n 0, (false, 21), (false, 0), (0, 0, 0), (0, 0, 0), [])),
  (21, (.getfield 21, (false, 24), (false, 0), (3, 2, 1), (0, 0, 88), [])),
  (24, (.iload_n 3, (false, 25), (false, 0), (0, 0, 0), (0, 0, 0), [])),
  (25, (.iaload, (false, 26), (false, 0), (0, 0, 0), (0, 0, 0), [])),
  (26, (.goto 4, (false, 29), (false, 30), (0, 0, 0), (0, 0, 0), [])),
  (29, (.iconst 0, (false, 30), (false, 0), (0, 0, 0), (0, 0, 0), [(0, (false, 0))])),
  (30, (.ireturn, (false, 31), (false, 0), (0, 0, 0), (0, 0, 0), []))]
set_option maxRecDepth 100000 in
theorem pe_P_walkBetween : pw_fnd pp_P_walkBetween 0 = (.iload_n 1, (false, 1), (false, 0), (0, 0, 0), (0, 0, 0), []) ∧
  pw_fnd pp_P_walkBetween 1 = (.bipush 8, (false, 3), (false, 0), (0, 0, 0), (0, 0, 0), [(8, (false, 0))]) ∧
  pw_fnd pp_P_walkBetween 3 = (.imul, (false, 4), (false, 0), (0, 0, 0), (0, 0, 0), []) ∧
  pw_fnd pp_P_walkBetween 4 = (.iload_n 2, (false, 5), (false, 0), (0, 0, 0), (0, 0, 0), []) ∧
  pw_fnd pp_P_walkBetween 5 = (.iadd, (false, 6), (false, 0), (0, 0, 0), (0, 0, 0), []) ∧
  pw_fnd pp_P_walkBetween 6 = (.istore_n 3, (false, 7), (false, 0), (0, 0, 0), (0, 0, 0), []) ∧
  pw_fnd pp_P_walkBetween 7 = (.iload_n 3, (false, 8), (false, 0), (0, 0, 0), (0, 0, 0), []) ∧
  pw_fnd pp_P_walkBetween 8 = (.ifCond .lt 21, (false, 11), (false, 29), (0, 0, 0), (0, 0, 0), []) ∧
  pw_fnd pp_P_walkBetween 11 = (.iload_n 3, (false, 12), (false, 0), (0, 0, 0), (0, 0, 0), []) ∧
  pw_fnd pp_P_walkBetween 12 = (.aload_n 0, (false, 13), (false, 0), (0, 0, 0), (0, 0, 0), []) ∧
  pw_fnd pp_P_walkBetween 13 = (.getfield 21, (false, 16), (false, 0), (3, 2, 1), (0, 0, 88), []) ∧
  pw_fnd pp_P_walkBetween 16 = (.arraylength, (false, 17), (false, 0), (0, 0, 0), (0, 0, 0), []) ∧
  pw_fnd pp_P_walkBetween 17 = (.if_icmp .ge 12, (false, 20), (false, 29), (0, 0, 0), (0, 0, 0), []) ∧
  pw_fnd pp_P_walkBetween 20 = (.aload_n 0, (false, 21), (false, 0), (0, 0, 0), (0, 0, 0), []) ∧
  pw_fnd pp_P_walkBetween 21 = (.getfield 21, (false, 24), (false, 0), (3, 2, 1), (0, 0, 88), []) ∧
  pw_fnd pp_P_walkBetween 24 = (.iload_n 3, (false, 25), (false, 0), (0, 0, 0), (0, 0, 0), []) ∧
  pw_fnd pp_P_walkBetween 25 = (.iaload, (false, 26), (false, 0), (0, 0, 0), (0, 0, 0), []) ∧
  pw_fnd pp_P_walkBetween 26 = (.goto 4, (false, 29), (false, 30), (0, 0, 0), (0, 0, 0), []) ∧
  pw_fnd pp_P_walkBetween 29 = (.iconst 0, (false, 30), (false, 0), (0, 0, 0), (0, 0, 0), [(0, (false, 0))]) ∧
  pw_fnd pp_P_walkBetween 30 = (.ireturn, (false, 31), (false, 0), (0, 0, 0), (0, 0, 0), []) :=
  ⟨rfl, rfl, rfl, rfl, rfl, rfl, rfl, rfl, rfl, rfl, rfl, rfl, rfl, rfl, rfl, rfl, rfl, rfl, rfl, rfl⟩
set_option maxRecDepth 100000 in
theorem pk_P_walkBetween : pp_P_walkBetween.all (fun q => pw_chk pw_jt pm_P_walkBetween q.1 q.2) = true := by decide +kernel
def pp_P_setWalk : List (Nat × pw_E) := [(0, (.iload_n 1, (false, 1), (false, 0), (0, 0, 0), (0, 0, 0), [])),
  (1, (.bipush 8, (false, 3), (false, 0), (0, 0, 0), (0, 0, 0), [(8, (false, 0))])),
  (3, (.imul, (false, 4), (false, 0), (0, 0, 0), (0, 0, 0), [])),
  (4, (.iload_n 2, (false, 5), (false, 0), (0, 0, 0), (0, 0, 0), [])),
  (5, (.iadd, (false, 6), (false, 0), (0, 0, 0), (0, 0, 0), [])),
  (6, (.istore 4, (false, 8), (false, 0), (0, 0, 0), (0, 0, 0), [])),
  (8, (.iload 4, (false, 10), (false, 0), (0, 0, 0), (0, 0, 0), [])),
  (10, (.ifCond .lt 21, (false, 13), (false, 31), (0, 0, 0), (0, 0, 0), [])),
  (13, (.iload 4, (false, 15), (false, 0), (0, 0, 0), (0, 0, 0), [])),
  (15, (.aload_n 0, (false, 16), (false, 0), (0, 0, 0), (0, 0, 0), [])),
  (16, (.getfield 21, (false, 19), (false, 0), (3, 2, 1), (0, 0, 88), [])),
  (19, (.arraylength, (false, 20), (false, 0), (0, 0, 0), (0, 0, 0), [])),
  (20, (.if_icmp .ge 11, (false, 23), (false, 31), (0, 0, 0), (0, 0, 0), [])),
  (23, (.aload_n 0, (false, 24), (false, 0), (0, 0, 0), (0, 0, 0), [])),
  (24, (.getfield 21, (false, 27), (false, 0), (3, 2, 1), (0, 0, 88), [])),
  (27, (.iload 4, (false, 29), (false, 0), (0, 0, 0), (0, 0, 0), [])),
  (29, (.iload_n 3, (false, 30), (false, 0), (0, 0, 0), (0, 0, 0), [])),
  (30, (.iastore, (false, 31), (false, 0), (0, 0, 0), (0, 0, 0), [])),
  (31, (.return_, (false, 32), (false, 0), (0, 0, 0), (0, 0, 0), []))]
set_option maxRecDepth 100000 in
theorem pe_P_setWalk : pw_fnd pp_P_setWalk 0 = (.iload_n 1, (false, 1), (false, 0), (0, 0, 0), (0, 0, 0), []) ∧
  pw_fnd pp_P_setWalk 1 = (.bipush 8, (false, 3), (false, 0), (0, 0, 0), (0, 0, 0), [(8, (false, 0))]) ∧
  pw_fnd pp_P_setWalk 3 = (.imul, (false, 4), (false, 0), (0, 0, 0), (0, 0, 0), []) ∧
  pw_fnd pp_P_setWalk 4 = (.iload_n 2, (false, 5), (false, 0), (0, 0, 0), (0, 0, 0), []) ∧
  pw_fnd pp_P_setWalk 5 = (.iadd, (false, 6), (false, 0), (0, 0, 0), (0, 0, 0), []) ∧
  pw_fnd pp_P_setWalk 6 = (.istore 4, (false, 8), (false, 0), (0, 0, 0), (0, 0, 0), []) ∧
  pw_fnd pp_P_setWalk 8 = (.iload 4, (false, 10), (false, 0), (0, 0, 0), (0, 0, 0), []) ∧
  pw_fnd pp_P_setWalk 10 = (.ifCond .lt 21, (false, 13), (false, 31), (0, 0, 0), (0, 0, 0), []) ∧
  pw_fnd pp_P_setWalk 13 = (.iload 4, (false, 15), (false, 0), (0, 0, 0), (0, 0, 0), []) ∧
  pw_fnd pp_P_setWalk 15 = (.aload_n 0, (false, 16), (false, 0), (0, 0, 0), (0, 0, 0), []) ∧
  pw_fnd pp_P_setWalk 16 = (.getfield 21, (false, 19), (false, 0), (3, 2, 1), (0, 0, 88), []) ∧
  pw_fnd pp_P_setWalk 19 = (.arraylength, (false, 20), (false, 0), (0, 0, 0), (0, 0, 0), []) ∧
  pw_fnd pp_P_setWalk 20 = (.if_icmp .ge 11, (false, 23), (false, 31), (0, 0, 0), (0, 0, 0), []) ∧
  pw_fnd pp_P_setWalk 23 = (.aload_n 0, (false, 24), (false, 0), (0, 0, 0), (0, 0, 0), []) ∧
  pw_fnd pp_P_setWalk 24 = (.getfield 21, (false, 27), (false, 0), (3, 2, 1), (0, 0, 88), []) ∧
  pw_fnd pp_P_setWalk 27 = (.iload 4, (false, 29), (false, 0), (0, 0, 0), (0, 0, 0), []) ∧
  pw_fnd pp_P_setWalk 29 = (.iload_n 3, (false, 30), (false, 0), (0, 0, 0), (0, 0, 0), []) ∧
  pw_fnd pp_P_setWalk 30 = (.iastore, (false, 31), (false, 0), (0, 0, 0), (0, 0, 0), []) ∧
  pw_fnd pp_P_setWalk 31 = (.return_, (false, 32), (false, 0), (0, 0, 0), (0, 0, 0), []) :=
  ⟨rfl, rfl, rfl, rfl, rfl, rfl, rfl, rfl, rfl, rfl, rfl, rfl, rfl, rfl, rfl, rfl, rfl, rfl, rfl⟩
set_option maxRecDepth 100000 in
theorem pk_P_setWalk : pp_P_setWalk.all (fun q => pw_chk pw_jt pm_P_setWalk q.1 q.2) = true := by decide +kernel
def pp_P_init : List (Nat × pw_E) := [(0, (.aload_n 0, (false, 1), (false, 0), (0, 0, 0), (0, 0, 0), [])),
  (1, (.invokespecial 1, (false, 4), (false, 0), (1001, 0, 0), (80, 81, 79), [])),
  (4, (.aload_n 0, (false, 5), (false, 0), (0, 0, 0), (0, 0, 0), [])),
  (5, (.bipush 8, (false, 7), (false, 0), (0, 0, 0), (0, 0, 0), [(8, (false, 0))])),
  (7, (.anewarray 9, (false, 10), (false, 0), (3, 83, 0), (0, 0, 82), [])),
  (10, (.putfield 11, (false, 13), (false, 0), (3, 0, 1), (0, 0, 86), [])),
  (13, (.aload_n 0, (false, 14), (false, 0), (0, 0, 0), (0, 0, 0), [])),
  (14, (.bipush 60, (false, 16), (false, 0), (0, 0, 0), (0, 0, 0), [(60, (false, 0))])),
  (16, (.anewarray 15, (false, 19), (false, 0), (4, 85, 0), (0, 0, 84), [])),
  (19, (.putfield 17, (false, 22), (false, 0), (3, 1, 1), (0, 0, 87), [])),
  (22, (.aload_n 0, (false, 23), (false, 0), (0, 0, 0), (0, 0, 0), [])),
  (23, (.bipush 64, (false, 25), (false, 0), (0, 0, 0), (0, 0, 0), [(64, (false, 0))])),
  (25, (.newarray .int, (false, 27), (false, 0), (1, 0, 0), (0, 0, 111), [])),
  (27, (.putfield 21, (false, 30), (false, 0), (3, 2, 1), (0, 0, 88), [])),
  (30, (.aload_n 0, (false, 31), (false, 0), (0, 0, 0), (0, 0, 0), [])),
  (31, (.bipush 6, (false, 33), (false, 0), (0, 0, 0), (0, 0, 0), [(6, (false, 0))])),
  (33, (.newarray .int, (false, 35), (false, 0), (1, 0, 0), (0, 0, 111), [])),
  (35, (.putfield 25, (false, 38), (false, 0), (3, 3, 1), (0, 0, 89), [])),
  (38, (.return_, (false, 39), (false, 0), (0, 0, 0), (0, 0, 0), []))]
set_option maxRecDepth 100000 in
theorem pe_P_init : pw_fnd pp_P_init 0 = (.aload_n 0, (false, 1), (false, 0), (0, 0, 0), (0, 0, 0), []) ∧
  pw_fnd pp_P_init 1 = (.invokespecial 1, (false, 4), (false, 0), (1001, 0, 0), (80, 81, 79), []) ∧
  pw_fnd pp_P_init 4 = (.aload_n 0, (false, 5), (false, 0), (0, 0, 0), (0, 0, 0), []) ∧
  pw_fnd pp_P_init 5 = (.bipush 8, (false, 7), (false, 0), (0, 0, 0), (0, 0, 0), [(8, (false, 0))]) ∧
  pw_fnd pp_P_init 7 = (.anewarray 9, (false, 10), (false, 0), (3, 83, 0), (0, 0, 82), []) ∧
  pw_fnd pp_P_init 10 = (.putfield 11, (false, 13), (false, 0), (3, 0, 1), (0, 0, 86), []) ∧
  pw_fnd pp_P_init 13 = (.aload_n 0, (false, 14), (false, 0), (0, 0, 0), (0, 0, 0), []) ∧
  pw_fnd pp_P_init 14 = (.bipush 60, (false, 16), (false, 0), (0, 0, 0), (0, 0, 0), [(60, (false, 0))]) ∧
  pw_fnd pp_P_init 16 = (.anewarray 15, (false, 19), (false, 0), (4, 85, 0), (0, 0, 84), []) ∧
  pw_fnd pp_P_init 19 = (.putfield 17, (false, 22), (false, 0), (3, 1, 1), (0, 0, 87), []) ∧
  pw_fnd pp_P_init 22 = (.aload_n 0, (false, 23), (false, 0), (0, 0, 0), (0, 0, 0), []) ∧
  pw_fnd pp_P_init 23 = (.bipush 64, (false, 25), (false, 0), (0, 0, 0), (0, 0, 0), [(64, (false, 0))]) ∧
  pw_fnd pp_P_init 25 = (.newarray .int, (false, 27), (false, 0), (1, 0, 0), (0, 0, 111), []) ∧
  pw_fnd pp_P_init 27 = (.putfield 21, (false, 30), (false, 0), (3, 2, 1), (0, 0, 88), []) ∧
  pw_fnd pp_P_init 30 = (.aload_n 0, (false, 31), (false, 0), (0, 0, 0), (0, 0, 0), []) ∧
  pw_fnd pp_P_init 31 = (.bipush 6, (false, 33), (false, 0), (0, 0, 0), (0, 0, 0), [(6, (false, 0))]) ∧
  pw_fnd pp_P_init 33 = (.newarray .int, (false, 35), (false, 0), (1, 0, 0), (0, 0, 111), []) ∧
  pw_fnd pp_P_init 35 = (.putfield 25, (false, 38), (false, 0), (3, 3, 1), (0, 0, 89), []) ∧
  pw_fnd pp_P_init 38 = (.return_, (false, 39), (false, 0), (0, 0, 0), (0, 0, 0), []) :=
  ⟨rfl, rfl, rfl, rfl, rfl, rfl, rfl, rfl, rfl, rfl, rfl, rfl, rfl, rfl, rfl, rfl, rfl, rfl, rfl⟩
set_option maxRecDepth 100000 in
theorem pk_P_init : pp_P_init.all (fun q => pw_chk pw_jt pm_P_init q.1 q.2) = true := by decide +kernel
def pp_P_walk : List (Nat × pw_E) := [(0, (.aload_n 0, (false, 1), (false, 0), (0, 0, 0), (0, 0, 0), [])),
  (1, (.iload_n 1, (false, 2), (false, 0), (0, 0, 0), (0, 0, 0), [])),
  (2, (.invokevirtual 51, (false, 5), (false, 3), (15, 2, 2), (0, 0, 255), [])),
  (5, (.ifnull 16, (false, 8), (false, 21), (0, 0, 0), (0, 0, 0), [])),
  (8, (.aload_n 0, (false, 9), (false, 0), (0, 0, 0), (0, 0, 0), [])),
  (9, (.iload_n 2, (false, 10), (false, 0), (0, 0, 0), (0, 0, 0), [])),
  (10, (.invokevirtual 51, (false, 13), (false, 3), (15, 2, 2), (0, 0, 255), [])),
  (13, (.ifnull 8, (false, 16), (false, 21), (0, 0, 0), (0, 0, 0), [])),
  (16, (.iload_n 1, (false, 17), (false, 0), (0, 0, 0), (0, 0, 0), [])),
  (17, (.iload_n 2, (false, 18), (false, 0), (0, 0, 0), (0, 0, 0), [])),
  (18, (.if_icmp .ne 9, (false, 21), (false, 27), (0, 0, 0), (0, 0, 0), [])),
  (21, (.aload_n 0, (false, 22), (false, 0), (0, 0, 0), (0, 0, 0), [])),
  (22, (.iconst (-1), (false, 23), (false, 0), (0, 0, 0), (0, 0, 0), [((-1), (false, 0))])),
  (23, (.invokevirtual 28, (false, 26), (false, 3), (13, 2, 1), (0, 0, 116), [])),
  (26, (.ireturn, (false, 27), (false, 0), (0, 0, 0), (0, 0, 0), [])),
  (27, (.iload_n 3, (false, 28), (false, 0), (0, 0, 0), (0, 0, 0), [])),
  (28, (.ifCond .ge 10, (false, 31), (false, 38), (0, 0, 0), (0, 0, 0), [])),
  (31, (.aload_n 0, (false, 32), (false, 0), (0, 0, 0), (0, 0, 0), [])),
  (32, (.bipush (-4), (false, 34), (false, 0), (0, 0, 0), (0, 0, 0), [((-4), (false, 0))])),
  (34, (.invokevirtual 28, (false, 37), (false, 3), (13, 2, 1), (0, 0, 116), [])),
  (37, (.ireturn, (false, 38), (false, 0), (0, 0, 0), (0, 0, 0), [])),
  (38, (.iload_n 3, (false, 39), (false, 0), (0, 0, 0), (0, 0, 0), [])),
  (39, (.bipush 50, (false, 41), (false, 0), (0, 0, 0), (0, 0, 0), [(50, (false, 0))])),
  (41, (.if_icmp .le 10, (false, 44), (false, 51), (0, 0, 0), (0, 0, 0), [])),
  (44, (.aload_n 0, (false, 45), (false, 0), (0, 0, 0), (0, 0, 0), [])),
  (45, (.bipush (-6), (false, 47), (false, 0), (0, 0, 0), (0, 0, 0), [((-6), (false, 0))])),
  (47, (.invokevirtual 28, (false, 50), (false, 3), (13, 2, 1), (0, 0, 116), [])),
  (50, (.ireturn, (false, 51), (false, 0), (0, 0, 0), (0, 0, 0), [])),
  (51, (.aload_n 0, (false, 52), (false, 0), (0, 0, 0), (0, 0, 0), [])),
  (52, (.iload_n 1, (false, 53), (false, 0), (0, 0, 0), (0, 0, 0), [])),
  (53, (.iload_n 2, (false, 54), (false, 0), (0, 0, 0), (0, 0, 0), [])),
  (54, (.invokevirtual 55, (false, 57), (false, 3), (17, 3, 1), (0, 0, 259), [])),
  (57, (.istore 4, (false, 59), (false, 0), (0, 0, 0), (0, 0, 0), [])),
  (59, (.aload_n 0, (false, 60), (false, 0), (0, 0, 0), (0, 0, 0), [])),
  (60, (.iload_n 1, (false, 61), (false, 0), (0, 0, 0), (0, 0, 0), [])),
  (61, (.iload_n 2, (false, 62), (false, 0), (0, 0, 0), (0, 0, 0), [])),
  (62, (.iload_n 3, (false, 63), (false, 0), (0, 0, 0), (0, 0, 0), [])),
  (63, (.invokevirtual 59, (false, 66), (false, 3), (18, 4, 0), (0, 0, 263), [])),
  (66, (.aload_n 0, (false, 67), (false, 0), (0, 0, 0), (0, 0, 0), [])),
  (67, (.iload_n 2, (false, 68), (false, 0), (0, 0, 0), (0, 0, 0), [])),
  (68, (.iload_n 1, (false, 69), (false, 0), (0, 0, 0), (0, 0, 0), [])),
  (69, (.iload_n 3, (false, 70), (false, 0), (0, 0, 0), (0, 0, 0), [])),
  (70, (.invokevirtual 59, (false, 73), (false, 3), (18, 4, 0), (0, 0, 263), [])),
  (73, (.iload 4, (false, 75), (false, 0), (0, 0, 0), (0, 0, 0), [])),
  (75, (.ireturn, (false, 76), (false, 0), (0, 0, 0), (0, 0, 0), []))]
set_option maxRecDepth 100000 in
theorem pe_P_walk : pw_fnd pp_P_walk 0 = (.aload_n 0, (false, 1), (false, 0), (0, 0, 0), (0, 0, 0), []) ∧
  pw_fnd pp_P_walk 1 = (.iload_n 1, (false, 2), (false, 0), (0, 0, 0), (0, 0, 0), []) ∧
  pw_fnd pp_P_walk 2 = (.invokevirtual 51, (false, 5), (false, 3), (15, 2, 2), (0, 0, 255), []) ∧
  pw_fnd pp_P_walk 5 = (.ifnull 16, (false, 8), (false, 21), (0, 0, 0), (0, 0, 0), []) ∧
  pw_fnd pp_P_walk 8 = (.aload_n 0, (false, 9), (false, 0), (0, 0, 0), (0, 0, 0), []) ∧
  pw_fnd pp_P_walk 9 = (.iload_n 2, (false, 10), (false, 0), (0, 0, 0), (0, 0, 0), []) ∧
  pw_fnd pp_P_walk 10 = (.invokevirtual 51, (false, 13), (false, 3), (15, 2, 2), (0, 0, 255), []) ∧
  pw_fnd pp_P_walk 13 = (.ifnull 8, (false, 16), (false, 21), (0, 0, 0), (0, 0, 0), []) ∧
  pw_fnd pp_P_walk 16 = (.iload_n 1, (false, 17), (false, 0), (0, 0, 0), (0, 0, 0), []) ∧
  pw_fnd pp_P_walk 17 = (.iload_n 2, (false, 18), (false, 0), (0, 0, 0), (0, 0, 0), []) ∧
  pw_fnd pp_P_walk 18 = (.if_icmp .ne 9, (false, 21), (false, 27), (0, 0, 0), (0, 0, 0), []) ∧
  pw_fnd pp_P_walk 21 = (.aload_n 0, (false, 22), (false, 0), (0, 0, 0), (0, 0, 0), []) ∧
  pw_fnd pp_P_walk 22 = (.iconst (-1), (false, 23), (false, 0), (0, 0, 0), (0, 0, 0), [((-1), (false, 0))]) ∧
  pw_fnd pp_P_walk 23 = (.invokevirtual 28, (false, 26), (false, 3), (13, 2, 1), (0, 0, 116), []) ∧
  pw_fnd pp_P_walk 26 = (.ireturn, (false, 27), (false, 0), (0, 0, 0), (0, 0, 0), []) ∧
  pw_fnd pp_P_walk 27 = (.iload_n 3, (false, 28), (false, 0), (0, 0, 0), (0, 0, 0), []) ∧
  pw_fnd pp_P_walk 28 = (.ifCond .ge 10, (false, 31), (false, 38), (0, 0, 0), (0, 0, 0), []) ∧
  pw_fnd pp_P_walk 31 = (.aload_n 0, (false, 32), (false, 0), (0, 0, 0), (0, 0, 0), []) ∧
  pw_fnd pp_P_walk 32 = (.bipush (-4), (false, 34), (false, 0), (0, 0, 0), (0, 0, 0), [((-4), (false, 0))]) ∧
  pw_fnd pp_P_walk 34 = (.invokevirtual 28, (false, 37), (false, 3), (13, 2, 1), (0, 0, 116), []) ∧
  pw_fnd pp_P_walk 37 = (.ireturn, (false, 38), (false, 0), (0, 0, 0), (0, 0, 0), []) ∧
  pw_fnd pp_P_walk 38 = (.iload_n 3, (false, 39), (false, 0), (0, 0, 0), (0, 0, 0), []) ∧
  pw_fnd pp_P_walk 39 = (.bipush 50, (false, 41), (false, 0), (0, 0, 0), (0, 0, 0), [(50, (false, 0))]) ∧
  pw_fnd pp_P_walk 41 = (.if_icmp .le 10, (false, 44), (false, 51), (0, 0, 0), (0, 0, 0), []) ∧
  pw_fnd pp_P_walk 44 = (.aload_n 0, (false, 45), (false, 0), (0, 0, 0), (0, 0, 0), []) ∧
  pw_fnd pp_P_walk 45 = (.bipush (-6), (false, 47), (false, 0), (0, 0, 0), (0, 0, 0), [((-6), (false, 0))]) ∧
  pw_fnd pp_P_walk 47 = (.invokevirtual 28, (false, 50), (false, 3), (13, 2, 1), (0, 0, 116), []) ∧
  pw_fnd pp_P_walk 50 = (.ireturn, (false, 51), (false, 0), (0, 0, 0), (0, 0, 0), []) ∧
  pw_fnd pp_P_walk 51 = (.aload_n 0, (false, 52), (false, 0), (0, 0, 0), (0, 0, 0), []) ∧
  pw_fnd pp_P_walk 52 = (.iload_n 1, (false, 53), (false, 0), (0, 0, 0), (0, 0, 0), []) ∧
  pw_fnd pp_P_walk 53 = (.iload_n 2, (false, 54), (false, 0), (0, 0, 0), (0, 0, 0), []) ∧
  pw_fnd pp_P_walk 54 = (.invokevirtual 55, (false, 57), (false, 3), (17, 3, 1), (0, 0, 259), []) ∧
  pw_fnd pp_P_walk 57 = (.istore 4, (false, 59), (false, 0), (0, 0, 0), (0, 0, 0), []) ∧
  pw_fnd pp_P_walk 59 = (.aload_n 0, (false, 60), (false, 0), (0, 0, 0), (0, 0, 0), []) ∧
  pw_fnd pp_P_walk 60 = (.iload_n 1, (false, 61), (false, 0), (0, 0, 0), (0, 0, 0), []) ∧
  pw_fnd pp_P_walk 61 = (.iload_n 2, (false, 62), (false, 0), (0, 0, 0), (0, 0, 0), []) ∧
  pw_fnd pp_P_walk 62 = (.iload_n 3, (false, 63), (false, 0), (0, 0, 0), (0, 0, 0), []) ∧
  pw_fnd pp_P_walk 63 = (.invokevirtual 59, (false, 66), (false, 3), (18, 4, 0), (0, 0, 263), []) ∧
  pw_fnd pp_P_walk 66 = (.aload_n 0, (false, 67), (false, 0), (0, 0, 0), (0, 0, 0), []) ∧
  pw_fnd pp_P_walk 67 = (.iload_n 2, (false, 68), (false, 0), (0, 0, 0), (0, 0, 0), []) ∧
  pw_fnd pp_P_walk 68 = (.iload_n 1, (false, 69), (false, 0), (0, 0, 0), (0, 0, 0), []) ∧
  pw_fnd pp_P_walk 69 = (.iload_n 3, (false, 70), (false, 0), (0, 0, 0), (0, 0, 0), []) ∧
  pw_fnd pp_P_walk 70 = (.invokevirtual 59, (false, 73), (false, 3), (18, 4, 0), (0, 0, 263), []) ∧
  pw_fnd pp_P_walk 73 = (.iload 4, (false, 75), (false, 0), (0, 0, 0), (0, 0, 0), []) ∧
  pw_fnd pp_P_walk 75 = (.ireturn, (false, 76), (false, 0), (0, 0, 0), (0, 0, 0), []) :=
  ⟨rfl, rfl, rfl, rfl, rfl, rfl, rfl, rfl, rfl, rfl, rfl, rfl, rfl, rfl, rfl, rfl, rfl, rfl, rfl, rfl, rfl, rfl, rfl, rfl, rfl, rfl, rfl, rfl, rfl, rfl, rfl, rfl, rfl, rfl, rfl, rfl, rfl, rfl, rfl, rfl, rfl, rfl, rfl, rfl, rfl⟩
set_option maxRecDepth 100000 in
theorem pk_P_walk : pp_P_walk.all (fun q => pw_chk pw_jt pm_P_walk q.1 q.2) = true := by decide +kernel
def pp_P_part : List (Nat × pw_E) := [(0, (.aload_n 0, (false, 1), (false, 0), (0, 0, 0), (0, 0, 0), [])),
  (1, (.iload_n 1, (false, 2), (false, 0), (0, 0, 0), (0, 0, 0), [])),
  (2, (.invokevirtual 51, (false, 5), (false, 3), (15, 2, 2), (0, 0, 255), [])),
  (5, (.astore 4, (false, 7), (false, 0), (0, 0, 0), (0, 0, 0), [])),
  (7, (.aload 4, (false, 9), (false, 0), (0, 0, 0), (0, 0, 0), [])),
  (9, (.ifnonnull 9, (false, 12), (false, 18), (0, 0, 0), (0, 0, 0), [])),
  (12, (.aload_n 0, (false, 13), (false, 0), (0, 0, 0), (0, 0, 0), [])),
  (13, (.iconst (-1), (false, 14), (false, 0), (0, 0, 0), (0, 0, 0), [((-1), (false, 0))])),
  (14, (.invokevirtual 28, (false, 17), (false, 3), (13, 2, 1), (0, 0, 116), [])),
  (17, (.ireturn, (false, 18), (false, 0), (0, 0, 0), (0, 0, 0), [])),
  (18, (.iload_n 2, (false, 19), (false, 0), (0, 0, 0), (0, 0, 0), [])),
  (19, (.ifCond .lt 7, (false, 22), (false, 26), (0, 0, 0), (0, 0, 0), [])),
  (22, (.iload_n 3, (false, 23), (false, 0), (0, 0, 0), (0, 0, 0), [])),
  (23, (.ifCond .ge 10, (false, 26), (false, 33), (0, 0, 0), (0, 0, 0), [])),
  (26, (.aload_n 0, (false, 27), (false, 0), (0, 0, 0), (0, 0, 0), [])),
  (27, (.bipush (-4), (false, 29), (false, 0), (0, 0, 0), (0, 0, 0), [((-4), (false, 0))])),
  (29, (.invokevirtual 28, (false, 32), (false, 3), (13, 2, 1), (0, 0, 116), [])),
  (32, (.ireturn, (false, 33), (false, 0), (0, 0, 0), (0, 0, 0), [])),
  (33, (.iload_n 2, (false, 34), (false, 0), (0, 0, 0), (0, 0, 0), [])),
  (34, (.aload 4, (false, 36), (false, 0), (0, 0, 0), (0, 0, 0), [])),
  (36, (.getfield 63, (false, 39), (false, 0), (1, 1, 0), (0, 0, 145), [])),
  (39, (.if_icmp .gt 9, (false, 42), (false, 48), (0, 0, 0), (0, 0, 0), [])),
  (42, (.iload_n 3, (false, 43), (false, 0), (0, 0, 0), (0, 0, 0), [])),
  (43, (.bipush 99, (false, 45), (false, 0), (0, 0, 0), (0, 0, 0), [(99, (false, 0))])),
  (45, (.if_icmp .le 10, (false, 48), (false, 55), (0, 0, 0), (0, 0, 0), [])),
  (48, (.aload_n 0, (false, 49), (false, 0), (0, 0, 0), (0, 0, 0), [])),
  (49, (.bipush (-6), (false, 51), (false, 0), (0, 0, 0), (0, 0, 0), [((-6), (false, 0))])),
  (51, (.invokevirtual 28, (false, 54), (false, 3), (13, 2, 1), (0, 0, 116), [])),
  (54, (.ireturn, (false, 55), (false, 0), (0, 0, 0), (0, 0, 0), [])),
  (55, (.aload 4, (false, 57), (false, 0), (0, 0, 0), (0, 0, 0), [])),
  (57, (.iload_n 2, (false, 58), (false, 0), (0, 0, 0), (0, 0, 0), [])),
  (58, (.putfield 39, (false, 61), (false, 0), (1, 9, 0), (0, 0, 157), [])),
  (61, (.aload 4, (false, 63), (false, 0), (0, 0, 0), (0, 0, 0), [])),
  (63, (.iload_n 3, (false, 64), (false, 0), (0, 0, 0), (0, 0, 0), [])),
  (64, (.putfield 42, (false, 67), (false, 0), (1, 10, 0), (0, 0, 159), [])),
  (67, (.iconst 1, (false, 68), (false, 0), (0, 0, 0), (0, 0, 0), [(1, (false, 0))])),
  (68, (.ireturn, (false, 69), (false, 0), (0, 0, 0), (0, 0, 0), []))]
set_option maxRecDepth 100000 in
theorem pe_P_part : pw_fnd pp_P_part 0 = (.aload_n 0, (false, 1), (false, 0), (0, 0, 0), (0, 0, 0), []) ∧
  pw_fnd pp_P_part 1 = (.iload_n 1, (false, 2), (false, 0), (0, 0, 0), (0, 0, 0), []) ∧
  pw_fnd pp_P_part 2 = (.invokevirtual 51, (false, 5), (false, 3), (15, 2, 2), (0, 0, 255), []) ∧
  pw_fnd pp_P_part 5 = (.astore 4, (false, 7), (false, 0), (0, 0, 0), (0, 0, 0), []) ∧
  pw_fnd pp_P_part 7 = (.aload 4, (false, 9), (false, 0), (0, 0, 0), (0, 0, 0), []) ∧
  pw_fnd pp_P_part 9 = (.ifnonnull 9, (false, 12), (false, 18), (0, 0, 0), (0, 0, 0), []) ∧
  pw_fnd pp_P_part 12 = (.aload_n 0, (false, 13), (false, 0), (0, 0, 0), (0, 0, 0), []) ∧
  pw_fnd pp_P_part 13 = (.iconst (-1), (false, 14), (false, 0), (0, 0, 0), (0, 0, 0), [((-1), (false, 0))]) ∧
  pw_fnd pp_P_part 14 = (.invokevirtual 28, (false, 17), (false, 3), (13, 2, 1), (0, 0, 116), []) ∧
  pw_fnd pp_P_part 17 = (.ireturn, (false, 18), (false, 0), (0, 0, 0), (0, 0, 0), []) ∧
  pw_fnd pp_P_part 18 = (.iload_n 2, (false, 19), (false, 0), (0, 0, 0), (0, 0, 0), []) ∧
  pw_fnd pp_P_part 19 = (.ifCond .lt 7, (false, 22), (false, 26), (0, 0, 0), (0, 0, 0), []) ∧
  pw_fnd pp_P_part 22 = (.iload_n 3, (false, 23), (false, 0), (0, 0, 0), (0, 0, 0), []) ∧
  pw_fnd pp_P_part 23 = (.ifCond .ge 10, (false, 26), (false, 33), (0, 0, 0), (0, 0, 0), []) ∧
  pw_fnd pp_P_part 26 = (.aload_n 0, (false, 27), (false, 0), (0, 0, 0), (0, 0, 0), []) ∧
  pw_fnd pp_P_part 27 = (.bipush (-4), (false, 29), (false, 0), (0, 0, 0), (0, 0, 0), [((-4), (false, 0))]) ∧
  pw_fnd pp_P_part 29 = (.invokevirtual 28, (false, 32), (false, 3), (13, 2, 1), (0, 0, 116), []) ∧
  pw_fnd pp_P_part 32 = (.ireturn, (false, 33), (false, 0), (0, 0, 0), (0, 0, 0), []) ∧
  pw_fnd pp_P_part 33 = (.iload_n 2, (false, 34), (false, 0), (0, 0, 0), (0, 0, 0), []) ∧
  pw_fnd pp_P_part 34 = (.aload 4, (false, 36), (false, 0), (0, 0, 0), (0, 0, 0), []) ∧
  pw_fnd pp_P_part 36 = (.getfield 63, (false, 39), (false, 0), (1, 1, 0), (0, 0, 145), []) ∧
  pw_fnd pp_P_part 39 = (.if_icmp .gt 9, (false, 42), (false, 48), (0, 0, 0), (0, 0, 0), []) ∧
  pw_fnd pp_P_part 42 = (.iload_n 3, (false, 43), (false, 0), (0, 0, 0), (0, 0, 0), []) ∧
  pw_fnd pp_P_part 43 = (.bipush 99, (false, 45), (false, 0), (0, 0, 0), (0, 0, 0), [(99, (false, 0))]) ∧
  pw_fnd pp_P_part 45 = (.if_icmp .le 10, (false, 48), (false, 55), (0, 0, 0), (0, 0, 0), []) ∧
  pw_fnd pp_P_part 48 = (.aload_n 0, (false, 49), (false, 0), (0, 0, 0), (0, 0, 0), []) ∧
  pw_fnd pp_P_part 49 = (.bipush (-6), (false, 51), (false, 0), (0, 0, 0), (0, 0, 0), [((-6), (false, 0))]) ∧
  pw_fnd pp_P_part 51 = (.invokevirtual 28, (false, 54), (false, 3), (13, 2, 1), (0, 0, 116), []) ∧
  pw_fnd pp_P_part 54 = (.ireturn, (false, 55), (false, 0), (0, 0, 0), (0, 0, 0), []) ∧
  pw_fnd pp_P_part 55 = (.aload 4, (false, 57), (false, 0), (0, 0, 0), (0, 0, 0), []) ∧
  pw_fnd pp_P_part 57 = (.iload_n 2, (false, 58), (false, 0), (0, 0, 0), (0, 0, 0), []) ∧
  pw_fnd pp_P_part 58 = (.putfield 39, (false, 61), (false, 0), (1, 9, 0), (0, 0, 157), []) ∧
  pw_fnd pp_P_part 61 = (.aload 4, (false, 63), (false, 0), (0, 0, 0), (0, 0, 0), []) ∧
  pw_fnd pp_P_part 63 = (.iload_n 3, (false, 64), (false, 0), (0, 0, 0), (0, 0, 0), []) ∧
  pw_fnd pp_P_part 64 = (.putfield 42, (false, 67), (false, 0), (1, 10, 0), (0, 0, 159), []) ∧
  pw_fnd pp_P_part 67 = (.iconst 1, (false, 68), (false, 0), (0, 0, 0), (0, 0, 0), [(1, (false, 0))]) ∧
  pw_fnd pp_P_part 68 = (.ireturn, (false, 69), (false, 0), (0, 0, 0), (0, 0, 0), []) :=
  ⟨rfl, rfl, rfl, rfl, rfl, rfl, rfl, rfl, rfl, rfl, rfl, rfl, rfl, rfl, rfl, rfl, rfl, rfl, rfl, rfl, rfl, rfl, rfl, rfl, rfl, rfl, rfl, rfl, rfl, rfl, rfl, rfl, rfl, rfl, rfl, rfl, rfl⟩
set_option maxRecDepth 100000 in
theorem pk_P_part : pp_P_part.all (fun q => pw_chk pw_jt pm_P_part q.1 q.2) = true := by decide +kernel
def pp_P_stand : List (Nat × pw_E) := [(0, (.aload_n 0, (false, 1), (false, 0), (0, 0, 0), (0, 0, 0), [])),
  (1, (.iload_n 1, (false, 2), (false, 0), (0, 0, 0), (0, 0, 0), [])),
  (2, (.invokevirtual 66, (false, 5), (false, 3), (16, 2, 2), (0, 0, 275), [])),
  (5, (.astore_n 3, (false, 6), (false, 0), (0, 0, 0), (0, 0, 0), [])),
  (6, (.aload_n 0, (false, 7), (false, 0), (0, 0, 0), (0, 0, 0), [])),
  (7, (.iload_n 2, (false, 8), (false, 0), (0, 0, 0), (0, 0, 0), [])),
  (8, (.invokevirtual 51, (false, 11), (false, 3), (15, 2, 2), (0, 0, 255), [])),
  (11, (.astore 4, (false, 13), (false, 0), (0, 0, 0), (0, 0, 0), [])),
  (13, (.aload_n 3, (false, 14), (false, 0), (0, 0, 0), (0, 0, 0), [])),
  (14, (.ifnull 8, (false, 17), (false, 22), (0, 0, 0), (0, 0, 0), [])),
  (17, (.aload 4, (false, 19), (false, 0), (0, 0, 0), (0, 0, 0), [])),
  (19, (.ifnonnull 9, (false, 22), (false, 28), (0, 0, 0), (0, 0, 0), [])),
  (22, (.aload_n 0, (false, 23), (false, 0), (0, 0, 0), (0, 0, 0), [])),
  (23, (.iconst (-1), (false, 24), (false, 0), (0, 0, 0), (0, 0, 0), [((-1), (false, 0))])),
  (24, (.invokevirtual 28, (false, 27), (false, 3), (13, 2, 1), (0, 0, 116), [])),
  (27, (.ireturn, (false, 28), (false, 0), (0, 0, 0), (0, 0, 0), [])),
  (28, (.aload_n 3, (false, 29), (false, 0), (0, 0, 0), (0, 0, 0), [])),
  (29, (.getfield 94, (false, 32), (false, 0), (0, 5, 0), (0, 0, 218), [])),
  (32, (.ifCond .eq 10, (false, 35), (false, 42), (0, 0, 0), (0, 0, 0), [])),
  (35, (.aload_n 0, (false, 36), (false, 0), (0, 0, 0), (0, 0, 0), [])),
  (36, (.bipush (-2), (false, 38), (false, 0), (0, 0, 0), (0, 0, 0), [((-2), (false, 0))])),
  (38, (.invokevirtual 28, (false, 41), (false, 3), (13, 2, 1), (0, 0, 116), [])),
  (41, (.ireturn, (false, 42), (false, 0), (0, 0, 0), (0, 0, 0), [])),
  (42, (.aload_n 3, (false, 43), (false, 0), (0, 0, 0), (0, 0, 0), [])),
  (43, (.getfield 74, (false, 46), (false, 0), (0, 1, 0), (0, 0, 212), [])),
  (46, (.aload 4, (false, 48), (false, 0), (0, 0, 0), (0, 0, 0), [])),
  (48, (.getfield 63, (false, 51), (false, 0), (1, 1, 0), (0, 0, 145), [])),
  (51, (.aload 4, (false, 53), (false, 0), (0, 0, 0), (0, 0, 0), [])),
  (53, (.getfield 39, (false, 56), (false, 0), (1, 9, 0), (0, 0, 157), [])),
  (56, (.isub, (false, 57), (false, 0), (0, 0, 0), (0, 0, 0), [])),
  (57, (.if_icmp .le 10, (false, 60), (false, 67), (0, 0, 0), (0, 0, 0), [])),
  (60, (.aload_n 0, (false, 61), (false, 0), (0, 0, 0), (0, 0, 0), [])),
  (61, (.bipush (-6), (false, 63), (false, 0), (0, 0, 0), (0, 0, 0), [((-6), (false, 0))])),
  (63, (.invokevirtual 28, (false, 66), (false, 3), (13, 2, 1), (0, 0, 116), [])),
  (66, (.ireturn, (false, 67), (false, 0), (0, 0, 0), (0, 0, 0), [])),
  (67, (.aload_n 3, (false, 68), (false, 0), (0, 0, 0), (0, 0, 0), [])),
  (68, (.iconst 1, (false, 69), (false, 0), (0, 0, 0), (0, 0, 0), [(1, (false, 0))])),
  (69, (.aload 4, (false, 71), (false, 0), (0, 0, 0), (0, 0, 0), [])),
  (71, (.getfield 80, (false, 74), (false, 0), (1, 0, 0), (0, 0, 143), [])),
  (74, (.invokevirtual 113, (false, 77), (false, 0), (0, 3, 0), (0, 0, 359), [])),
  (77, (.aload 4, (false, 79), (false, 0), (0, 0, 0), (0, 0, 0), [])),
  (79, (.getfield 126, (false, 82), (false, 0), (1, 6, 1), (0, 0, 153), [])),
  (82, (.aload_n 3, (false, 83), (false, 0), (0, 0, 0), (0, 0, 0), [])),
  (83, (.getfield 120, (false, 86), (false, 0), (0, 0, 0), (0, 0, 210), [])),
  (86, (.invokevirtual 121, (false, 89), (false, 2), (10, 2, 1), (0, 0, 363), [])),
  (89, (.ireturn, (false, 90), (false, 0), (0, 0, 0), (0, 0, 0), []))]
set_option maxRecDepth 100000 in
theorem pe_P_stand : pw_fnd pp_P_stand 0 = (.aload_n 0, (false, 1), (false, 0), (0, 0, 0), (0, 0, 0), []) ∧
  pw_fnd pp_P_stand 1 = (.iload_n 1, (false, 2), (false, 0), (0, 0, 0), (0, 0, 0), []) ∧
  pw_fnd pp_P_stand 2 = (.invokevirtual 66, (false, 5), (false, 3), (16, 2, 2), (0, 0, 275), []) ∧
  pw_fnd pp_P_stand 5 = (.astore_n 3, (false, 6), (false, 0), (0, 0, 0), (0, 0, 0), []) ∧
  pw_fnd pp_P_stand 6 = (.aload_n 0, (false, 7), (false, 0), (0, 0, 0), (0, 0, 0), []) ∧
  pw_fnd pp_P_stand 7 = (.iload_n 2, (false, 8), (false, 0), (0, 0, 0), (0, 0, 0), []) ∧
  pw_fnd pp_P_stand 8 = (.invokevirtual 51, (false, 11), (false, 3), (15, 2, 2), (0, 0, 255), []) ∧
  pw_fnd pp_P_stand 11 = (.astore 4, (false, 13), (false, 0), (0, 0, 0), (0, 0, 0), []) ∧
  pw_fnd pp_P_stand 13 = (.aload_n 3, (false, 14), (false, 0), (0, 0, 0), (0, 0, 0), []) ∧
  pw_fnd pp_P_stand 14 = (.ifnull 8, (false, 17), (false, 22), (0, 0, 0), (0, 0, 0), []) ∧
  pw_fnd pp_P_stand 17 = (.aload 4, (false, 19), (false, 0), (0, 0, 0), (0, 0, 0), []) ∧
  pw_fnd pp_P_stand 19 = (.ifnonnull 9, (false, 22), (false, 28), (0, 0, 0), (0, 0, 0), []) ∧
  pw_fnd pp_P_stand 22 = (.aload_n 0, (false, 23), (false, 0), (0, 0, 0), (0, 0, 0), []) ∧
  pw_fnd pp_P_stand 23 = (.iconst (-1), (false, 24), (false, 0), (0, 0, 0), (0, 0, 0), [((-1), (false, 0))]) ∧
  pw_fnd pp_P_stand 24 = (.invokevirtual 28, (false, 27), (false, 3), (13, 2, 1), (0, 0, 116), []) ∧
  pw_fnd pp_P_stand 27 = (.ireturn, (false, 28), (false, 0), (0, 0, 0), (0, 0, 0), []) ∧
  pw_fnd pp_P_stand 28 = (.aload_n 3, (false, 29), (false, 0), (0, 0, 0), (0, 0, 0), []) ∧
  pw_fnd pp_P_stand 29 = (.getfield 94, (false, 32), (false, 0), (0, 5, 0), (0, 0, 218), []) ∧
  pw_fnd pp_P_stand 32 = (.ifCond .eq 10, (false, 35), (false, 42), (0, 0, 0), (0, 0, 0), []) ∧
  pw_fnd pp_P_stand 35 = (.aload_n 0, (false, 36), (false, 0), (0, 0, 0), (0, 0, 0), []) ∧
  pw_fnd pp_P_stand 36 = (.bipush (-2), (false, 38), (false, 0), (0, 0, 0), (0, 0, 0), [((-2), (false, 0))]) ∧
  pw_fnd pp_P_stand 38 = (.invokevirtual 28, (false, 41), (false, 3), (13, 2, 1), (0, 0, 116), []) ∧
  pw_fnd pp_P_stand 41 = (.ireturn, (false, 42), (false, 0), (0, 0, 0), (0, 0, 0), []) ∧
  pw_fnd pp_P_stand 42 = (.aload_n 3, (false, 43), (false, 0), (0, 0, 0), (0, 0, 0), []) ∧
  pw_fnd pp_P_stand 43 = (.getfield 74, (false, 46), (false, 0), (0, 1, 0), (0, 0, 212), []) ∧
  pw_fnd pp_P_stand 46 = (.aload 4, (false, 48), (false, 0), (0, 0, 0), (0, 0, 0), []) ∧
  pw_fnd pp_P_stand 48 = (.getfield 63, (false, 51), (false, 0), (1, 1, 0), (0, 0, 145), []) ∧
  pw_fnd pp_P_stand 51 = (.aload 4, (false, 53), (false, 0), (0, 0, 0), (0, 0, 0), []) ∧
  pw_fnd pp_P_stand 53 = (.getfield 39, (false, 56), (false, 0), (1, 9, 0), (0, 0, 157), []) ∧
  pw_fnd pp_P_stand 56 = (.isub, (false, 57), (false, 0), (0, 0, 0), (0, 0, 0), []) ∧
  pw_fnd pp_P_stand 57 = (.if_icmp .le 10, (false, 60), (false, 67), (0, 0, 0), (0, 0, 0), []) ∧
  pw_fnd pp_P_stand 60 = (.aload_n 0, (false, 61), (false, 0), (0, 0, 0), (0, 0, 0), []) ∧
  pw_fnd pp_P_stand 61 = (.bipush (-6), (false, 63), (false, 0), (0, 0, 0), (0, 0, 0), [((-6), (false, 0))]) ∧
  pw_fnd pp_P_stand 63 = (.invokevirtual 28, (false, 66), (false, 3), (13, 2, 1), (0, 0, 116), []) ∧
  pw_fnd pp_P_stand 66 = (.ireturn, (false, 67), (false, 0), (0, 0, 0), (0, 0, 0), []) ∧
  pw_fnd pp_P_stand 67 = (.aload_n 3, (false, 68), (false, 0), (0, 0, 0), (0, 0, 0), []) ∧
  pw_fnd pp_P_stand 68 = (.iconst 1, (false, 69), (false, 0), (0, 0, 0), (0, 0, 0), [(1, (false, 0))]) ∧
  pw_fnd pp_P_stand 69 = (.aload 4, (false, 71), (false, 0), (0, 0, 0), (0, 0, 0), []) ∧
  pw_fnd pp_P_stand 71 = (.getfield 80, (false, 74), (false, 0), (1, 0, 0), (0, 0, 143), []) ∧
  pw_fnd pp_P_stand 74 = (.invokevirtual 113, (false, 77), (false, 0), (0, 3, 0), (0, 0, 359), []) ∧
  pw_fnd pp_P_stand 77 = (.aload 4, (false, 79), (false, 0), (0, 0, 0), (0, 0, 0), []) ∧
  pw_fnd pp_P_stand 79 = (.getfield 126, (false, 82), (false, 0), (1, 6, 1), (0, 0, 153), []) ∧
  pw_fnd pp_P_stand 82 = (.aload_n 3, (false, 83), (false, 0), (0, 0, 0), (0, 0, 0), []) ∧
  pw_fnd pp_P_stand 83 = (.getfield 120, (false, 86), (false, 0), (0, 0, 0), (0, 0, 210), []) ∧
  pw_fnd pp_P_stand 86 = (.invokevirtual 121, (false, 89), (false, 2), (10, 2, 1), (0, 0, 363), []) ∧
  pw_fnd pp_P_stand 89 = (.ireturn, (false, 90), (false, 0), (0, 0, 0), (0, 0, 0), []) :=
  ⟨rfl, rfl, rfl, rfl, rfl, rfl, rfl, rfl, rfl, rfl, rfl, rfl, rfl, rfl, rfl, rfl, rfl, rfl, rfl, rfl, rfl, rfl, rfl, rfl, rfl, rfl, rfl, rfl, rfl, rfl, rfl, rfl, rfl, rfl, rfl, rfl, rfl, rfl, rfl, rfl, rfl, rfl, rfl, rfl, rfl, rfl⟩
set_option maxRecDepth 100000 in
theorem pk_P_stand : pp_P_stand.all (fun q => pw_chk pw_jt pm_P_stand q.1 q.2) = true := by decide +kernel
def pp_P_stop : List (Nat × pw_E) := [(0, (.aload_n 0, (false, 1), (false, 0), (0, 0, 0), (0, 0, 0), [])),
  (1, (.iload_n 1, (false, 2), (false, 0), (0, 0, 0), (0, 0, 0), [])),
  (2, (.invokevirtual 51, (false, 5), (false, 3), (15, 2, 2), (0, 0, 255), [])),
  (5, (.astore_n 3, (false, 6), (false, 0), (0, 0, 0), (0, 0, 0), [])),
  (6, (.aload_n 3, (false, 7), (false, 0), (0, 0, 0), (0, 0, 0), [])),
  (7, (.ifnull 11, (false, 10), (false, 18), (0, 0, 0), (0, 0, 0), [])),
  (10, (.aload_n 3, (false, 11), (false, 0), (0, 0, 0), (0, 0, 0), [])),
  (11, (.getfield 145, (false, 14), (false, 0), (1, 11, 2), (0, 0, 162), [])),
  (14, (.iload_n 2, (false, 15), (false, 0), (0, 0, 0), (0, 0, 0), [])),
  (15, (.if_icmp .ne 5, (false, 18), (false, 20), (0, 0, 0), (0, 0, 0), [])),
  (18, (.iconst 0, (false, 19), (false, 0), (0, 0, 0), (0, 0, 0), [(0, (false, 0))])),
  (19, (.ireturn, (false, 20), (false, 0), (0, 0, 2), (0, 0, 0), [])),
  (20, (.aload_n 3, (false, 21), (false, 0), (0, 0, 0), (0, 0, 0), [])),
  (21, (.iload_n 2, (false, 22), (false, 0), (0, 0, 0), (0, 0, 0), [])),
  (22, (.putfield 145, (false, 25), (false, 0), (1, 11, 2), (0, 0, 162), [])),
  (25, (.iconst 1, (false, 26), (false, 0), (0, 0, 0), (0, 0, 0), [(1, (false, 0))])),
  (26, (.ireturn, (false, 27), (false, 0), (0, 0, 2), (0, 0, 0), []))]
set_option maxRecDepth 100000 in
theorem pe_P_stop : pw_fnd pp_P_stop 0 = (.aload_n 0, (false, 1), (false, 0), (0, 0, 0), (0, 0, 0), []) ∧
  pw_fnd pp_P_stop 1 = (.iload_n 1, (false, 2), (false, 0), (0, 0, 0), (0, 0, 0), []) ∧
  pw_fnd pp_P_stop 2 = (.invokevirtual 51, (false, 5), (false, 3), (15, 2, 2), (0, 0, 255), []) ∧
  pw_fnd pp_P_stop 5 = (.astore_n 3, (false, 6), (false, 0), (0, 0, 0), (0, 0, 0), []) ∧
  pw_fnd pp_P_stop 6 = (.aload_n 3, (false, 7), (false, 0), (0, 0, 0), (0, 0, 0), []) ∧
  pw_fnd pp_P_stop 7 = (.ifnull 11, (false, 10), (false, 18), (0, 0, 0), (0, 0, 0), []) ∧
  pw_fnd pp_P_stop 10 = (.aload_n 3, (false, 11), (false, 0), (0, 0, 0), (0, 0, 0), []) ∧
  pw_fnd pp_P_stop 11 = (.getfield 145, (false, 14), (false, 0), (1, 11, 2), (0, 0, 162), []) ∧
  pw_fnd pp_P_stop 14 = (.iload_n 2, (false, 15), (false, 0), (0, 0, 0), (0, 0, 0), []) ∧
  pw_fnd pp_P_stop 15 = (.if_icmp .ne 5, (false, 18), (false, 20), (0, 0, 0), (0, 0, 0), []) ∧
  pw_fnd pp_P_stop 18 = (.iconst 0, (false, 19), (false, 0), (0, 0, 0), (0, 0, 0), [(0, (false, 0))]) ∧
  pw_fnd pp_P_stop 19 = (.ireturn, (false, 20), (false, 0), (0, 0, 2), (0, 0, 0), []) ∧
  pw_fnd pp_P_stop 20 = (.aload_n 3, (false, 21), (false, 0), (0, 0, 0), (0, 0, 0), []) ∧
  pw_fnd pp_P_stop 21 = (.iload_n 2, (false, 22), (false, 0), (0, 0, 0), (0, 0, 0), []) ∧
  pw_fnd pp_P_stop 22 = (.putfield 145, (false, 25), (false, 0), (1, 11, 2), (0, 0, 162), []) ∧
  pw_fnd pp_P_stop 25 = (.iconst 1, (false, 26), (false, 0), (0, 0, 0), (0, 0, 0), [(1, (false, 0))]) ∧
  pw_fnd pp_P_stop 26 = (.ireturn, (false, 27), (false, 0), (0, 0, 2), (0, 0, 0), []) :=
  ⟨rfl, rfl, rfl, rfl, rfl, rfl, rfl, rfl, rfl, rfl, rfl, rfl, rfl, rfl, rfl, rfl, rfl⟩
set_option maxRecDepth 100000 in
theorem pk_P_stop : pp_P_stop.all (fun q => pw_chk pw_jt pm_P_stop q.1 q.2) = true := by decide +kernel
def pp_P_rideOf : List (Nat × pw_E) := [(0, (.aload_n 0, (false, 1), (false, 0), (0, 0, 0), (0, 0, 0), [])),
  (1, (.iload_n 1, (false, 2), (false, 0), (0, 0, 0), (0, 0, 0), [])),
  (2, (.invokevirtual 51, (false, 5), (false, 3), (15, 2, 2), (0, 0, 255), [])),
  (5, (.astore_n 3, (false, 6), (false, 0), (0, 0, 0), (0, 0, 0), [])),
  (6, (.aload_n 3, (false, 7), (false, 0), (0, 0, 0), (0, 0, 0), [])),
  (7, (.ifnonnull 9, (false, 10), (false, 16), (0, 0, 0), (0, 0, 0), [])),
  (10, (.aload_n 0, (false, 11), (false, 0), (0, 0, 0), (0, 0, 0), [])),
  (11, (.iconst (-1), (false, 12), (false, 0), (0, 0, 0), (0, 0, 0), [((-1), (false, 0))])),
  (12, (.invokevirtual 28, (false, 15), (false, 3), (13, 2, 1), (0, 0, 116), [])),
  (15, (.ireturn, (false, 16), (false, 0), (0, 0, 0), (0, 0, 0), [])),
  (16, (.iload_n 2, (false, 17), (false, 0), (0, 0, 0), (0, 0, 0), [])),
  (17, (.tableswitch 154 0 12 #[67, 72, 77, 82, 87, 92, 109, 117, 125, 130, 135, 140, 149], (false, 84), (false, 171), (0, 0, 0), (0, 0, 0), [(0, (false, 84)), (1, (false, 89)), (2, (false, 94)), (3, (false, 99)), (4, (false, 104)), (5, (false, 109)), (6, (false, 126)), (7, (false, 134)), (8, (false, 142)), (9, (false, 147)), (10, (false, 152)), (11, (false, 157)), (12, (false, 166))])),
  (84, (.aload_n 3, (false, 85), (false, 0), (0, 0, 0), (0, 0, 0), [])),
  (85, (.getfield 63, (false, 88), (false, 0), (1, 1, 0), (0, 0, 145), [])),
  (88, (.ireturn, (false, 89), (false, 0), (0, 0, 0), (0, 0, 0), [])),
  (89, (.aload_n 3, (false, 90), (false, 0), (0, 0, 0), (0, 0, 0), [])),
  (90, (.getfield 179, (false, 93), (false, 0), (1, 2, 0), (0, 0, 147), [])),
  (93, (.ireturn, (false, 94), (false, 0), (0, 0, 0), (0, 0, 0), [])),
  (94, (.aload_n 3, (false, 95), (false, 0), (0, 0, 0), (0, 0, 0), [])),
  (95, (.getfield 39, (false, 98), (false, 0), (1, 9, 0), (0, 0, 157), [])),
  (98, (.ireturn, (false, 99), (false, 0), (0, 0, 0), (0, 0, 0), [])),
  (99, (.aload_n 3, (false, 100), (false, 0), (0, 0, 0), (0, 0, 0), [])),
  (100, (.getfield 42, (false, 103), (false, 0), (1, 10, 0), (0, 0, 159), [])),
  (103, (.ireturn, (false, 104), (false, 0), (0, 0, 0), (0, 0, 0), [])),
  (104, (.aload_n 3, (false, 105), (false, 0), (0, 0, 0), (0, 0, 0), [])),
  (105, (.getfield 182, (false, 108), (false, 0), (1, 3, 0), (0, 0, 149), [])),
  (108, (.ireturn, (false, 109), (false, 0), (0, 0, 0), (0, 0, 0), [])),
  (109, (.aload_n 3, (false, 110), (false, 0), (0, 0, 0), (0, 0, 0), [])),
  (110, (.aload_n 0, (false, 111), (false, 0), (0, 0, 0), (0, 0, 0), [])),
  (111, (.getfield 149, (false, 114), (false, 0), (3, 7, 2), (0, 0, 93), [])),
  (114, (.invokevirtual 185, (false, 117), (false, 1), (3, 2, 1), (0, 0, 448), [])),
  (117, (.ifCond .eq 7, (false, 120), (false, 124), (0, 0, 0), (0, 0, 0), [])),
  (120, (.iconst 1, (false, 121), (false, 0), (0, 0, 0), (0, 0, 0), [(1, (false, 0))])),
  (121, (.goto 4, (false, 124), (false, 125), (0, 0, 0), (0, 0, 0), [])),
  (124, (.iconst 0, (false, 125), (false, 0), (0, 0, 0), (0, 0, 0), [(0, (false, 0))])),
  (125, (.ireturn, (false, 126), (false, 0), (0, 0, 0), (0, 0, 0), [])),
  (126, (.aload_n 3, (false, 127), (false, 0), (0, 0, 0), (0, 0, 0), [])),
  (127, (.getfield 126, (false, 130), (false, 0), (1, 6, 1), (0, 0, 153), [])),
  (130, (.getfield 189, (false, 133), (false, 0), (2, 1, 0), (0, 0, 136), [])),
  (133, (.ireturn, (false, 134), (false, 0), (0, 0, 0), (0, 0, 0), [])),
  (134, (.aload_n 3, (false, 135), (false, 0), (0, 0, 0), (0, 0, 0), [])),
  (135, (.getfield 116, (false, 138), (false, 0), (1, 7, 1), (0, 0, 155), [])),
  (138, (.getfield 189, (false, 141), (false, 0), (2, 1, 0), (0, 0, 136), [])),
  (141, (.ireturn, (false, 142), (false, 0), (0, 0, 0), (0, 0, 0), [])),
  (142, (.aload_n 3, (false, 143), (false, 0), (0, 0, 0), (0, 0, 0), [])),
  (143, (.getfield 192, (false, 146), (false, 0), (1, 12, 0), (0, 0, 163), [])),
  (146, (.ireturn, (false, 147), (false, 0), (0, 0, 0), (0, 0, 0), [])),
  (147, (.aload_n 3, (false, 148), (false, 0), (0, 0, 0), (0, 0, 0), [])),
  (148, (.getfield 195, (false, 151), (false, 0), (1, 13, 0), (0, 0, 164), [])),
  (151, (.ireturn, (false, 152), (false, 0), (0, 0, 0), (0, 0, 0), [])),
  (152, (.aload_n 3, (false, 153), (false, 0), (0, 0, 0), (0, 0, 0), [])),
  (153, (.getfield 198, (false, 156), (false, 0), (1, 14, 0), (0, 0, 165), [])),
  (156, (.ireturn, (false, 157), (false, 0), (0, 0, 0), (0, 0, 0), [])),
  (157, (.aload_n 3, (false, 158), (false, 0), (0, 0, 0), (0, 0, 0), [])),
  (158, (.aload_n 0, (false, 159), (false, 0), (0, 0, 0), (0, 0, 0), [])),
  (159, (.getfield 97, (false, 162), (false, 0), (3, 6, 0), (0, 0, 92), [])),
  (162, (.invokevirtual 100, (false, 165), (false, 1), (5, 2, 1), (0, 0, 283), [])),
  (165, (.ireturn, (false, 166), (false, 0), (0, 0, 0), (0, 0, 0), [])),
  (166, (.aload_n 3, (false, 167), (false, 0), (0, 0, 0), (0, 0, 0), [])),
  (167, (.getfield 201, (false, 170), (false, 0), (1, 15, 0), (0, 0, 166), [])),
  (170, (.ireturn, (false, 171), (false, 0), (0, 0, 0), (0, 0, 0), [])),
  (171, (.bipush (-9), (false, 173), (false, 0), (0, 0, 0), (0, 0, 0), [((-9), (false, 0))])),
  (173, (.ireturn, (false, 174), (false, 0), (0, 0, 0), (0, 0, 0), []))]
set_option maxRecDepth 100000 in
theorem pe_P_rideOf : pw_fnd pp_P_rideOf 0 = (.aload_n 0, (false, 1), (false, 0), (0, 0, 0), (0, 0, 0), []) ∧
  pw_fnd pp_P_rideOf 1 = (.iload_n 1, (false, 2), (false, 0), (0, 0, 0), (0, 0, 0), []) ∧
  pw_fnd pp_P_rideOf 2 = (.invokevirtual 51, (false, 5), (false, 3), (15, 2, 2), (0, 0, 255), []) ∧
  pw_fnd pp_P_rideOf 5 = (.astore_n 3, (false, 6), (false, 0), (0, 0, 0), (0, 0, 0), []) ∧
  pw_fnd pp_P_rideOf 6 = (.aload_n 3, (false, 7), (false, 0), (0, 0, 0), (0, 0, 0), []) ∧
  pw_fnd pp_P_rideOf 7 = (.ifnonnull 9, (false, 10), (false, 16), (0, 0, 0), (0, 0, 0), []) ∧
  pw_fnd pp_P_rideOf 10 = (.aload_n 0, (false, 11), (false, 0), (0, 0, 0), (0, 0, 0), []) ∧
  pw_fnd pp_P_rideOf 11 = (.iconst (-1), (false, 12), (false, 0), (0, 0, 0), (0, 0, 0), [((-1), (false, 0))]) ∧
  pw_fnd pp_P_rideOf 12 = (.invokevirtual 28, (false, 15), (false, 3), (13, 2, 1), (0, 0, 116), []) ∧
  pw_fnd pp_P_rideOf 15 = (.ireturn, (false, 16), (false, 0), (0, 0, 0), (0, 0, 0), []) ∧
  pw_fnd pp_P_rideOf 16 = (.iload_n 2, (false, 17), (false, 0), (0, 0, 0), (0, 0, 0), []) ∧
  pw_fnd pp_P_rideOf 17 = (.tableswitch 154 0 12 #[67, 72, 77, 82, 87, 92, 109, 117, 125, 130, 135, 140, 149], (false, 84), (false, 171), (0, 0, 0), (0, 0, 0), [(0, (false, 84)), (1, (false, 89)), (2, (false, 94)), (3, (false, 99)), (4, (false, 104)), (5, (false, 109)), (6, (false, 126)), (7, (false, 134)), (8, (false, 142)), (9, (false, 147)), (10, (false, 152)), (11, (false, 157)), (12, (false, 166))]) ∧
  pw_fnd pp_P_rideOf 84 = (.aload_n 3, (false, 85), (false, 0), (0, 0, 0), (0, 0, 0), []) ∧
  pw_fnd pp_P_rideOf 85 = (.getfield 63, (false, 88), (false, 0), (1, 1, 0), (0, 0, 145), []) ∧
  pw_fnd pp_P_rideOf 88 = (.ireturn, (false, 89), (false, 0), (0, 0, 0), (0, 0, 0), []) ∧
  pw_fnd pp_P_rideOf 89 = (.aload_n 3, (false, 90), (false, 0), (0, 0, 0), (0, 0, 0), []) ∧
  pw_fnd pp_P_rideOf 90 = (.getfield 179, (false, 93), (false, 0), (1, 2, 0), (0, 0, 147), []) ∧
  pw_fnd pp_P_rideOf 93 = (.ireturn, (false, 94), (false, 0), (0, 0, 0), (0, 0, 0), []) ∧
  pw_fnd pp_P_rideOf 94 = (.aload_n 3, (false, 95), (false, 0), (0, 0, 0), (0, 0, 0), []) ∧
  pw_fnd pp_P_rideOf 95 = (.getfield 39, (false, 98), (false, 0), (1, 9, 0), (0, 0, 157), []) ∧
  pw_fnd pp_P_rideOf 98 = (.ireturn, (false, 99), (false, 0), (0, 0, 0), (0, 0, 0), []) ∧
  pw_fnd pp_P_rideOf 99 = (.aload_n 3, (false, 100), (false, 0), (0, 0, 0), (0, 0, 0), []) ∧
  pw_fnd pp_P_rideOf 100 = (.getfield 42, (false, 103), (false, 0), (1, 10, 0), (0, 0, 159), []) ∧
  pw_fnd pp_P_rideOf 103 = (.ireturn, (false, 104), (false, 0), (0, 0, 0), (0, 0, 0), []) ∧
  pw_fnd pp_P_rideOf 104 = (.aload_n 3, (false, 105), (false, 0), (0, 0, 0), (0, 0, 0), []) ∧
  pw_fnd pp_P_rideOf 105 = (.getfield 182, (false, 108), (false, 0), (1, 3, 0), (0, 0, 149), []) ∧
  pw_fnd pp_P_rideOf 108 = (.ireturn, (false, 109), (false, 0), (0, 0, 0), (0, 0, 0), []) ∧
  pw_fnd pp_P_rideOf 109 = (.aload_n 3, (false, 110), (false, 0), (0, 0, 0), (0, 0, 0), []) ∧
  pw_fnd pp_P_rideOf 110 = (.aload_n 0, (false, 111), (false, 0), (0, 0, 0), (0, 0, 0), []) ∧
  pw_fnd pp_P_rideOf 111 = (.getfield 149, (false, 114), (false, 0), (3, 7, 2), (0, 0, 93), []) ∧
  pw_fnd pp_P_rideOf 114 = (.invokevirtual 185, (false, 117), (false, 1), (3, 2, 1), (0, 0, 448), []) ∧
  pw_fnd pp_P_rideOf 117 = (.ifCond .eq 7, (false, 120), (false, 124), (0, 0, 0), (0, 0, 0), []) ∧
  pw_fnd pp_P_rideOf 120 = (.iconst 1, (false, 121), (false, 0), (0, 0, 0), (0, 0, 0), [(1, (false, 0))]) ∧
  pw_fnd pp_P_rideOf 121 = (.goto 4, (false, 124), (false, 125), (0, 0, 0), (0, 0, 0), []) ∧
  pw_fnd pp_P_rideOf 124 = (.iconst 0, (false, 125), (false, 0), (0, 0, 0), (0, 0, 0), [(0, (false, 0))]) ∧
  pw_fnd pp_P_rideOf 125 = (.ireturn, (false, 126), (false, 0), (0, 0, 0), (0, 0, 0), []) ∧
  pw_fnd pp_P_rideOf 126 = (.aload_n 3, (false, 127), (false, 0), (0, 0, 0), (0, 0, 0), []) ∧
  pw_fnd pp_P_rideOf 127 = (.getfield 126, (false, 130), (false, 0), (1, 6, 1), (0, 0, 153), []) ∧
  pw_fnd pp_P_rideOf 130 = (.getfield 189, (false, 133), (false, 0), (2, 1, 0), (0, 0, 136), []) ∧
  pw_fnd pp_P_rideOf 133 = (.ireturn, (false, 134), (false, 0), (0, 0, 0), (0, 0, 0), []) ∧
  pw_fnd pp_P_rideOf 134 = (.aload_n 3, (false, 135), (false, 0), (0, 0, 0), (0, 0, 0), []) ∧
  pw_fnd pp_P_rideOf 135 = (.getfield 116, (false, 138), (false, 0), (1, 7, 1), (0, 0, 155), []) ∧
  pw_fnd pp_P_rideOf 138 = (.getfield 189, (false, 141), (false, 0), (2, 1, 0), (0, 0, 136), []) ∧
  pw_fnd pp_P_rideOf 141 = (.ireturn, (false, 142), (false, 0), (0, 0, 0), (0, 0, 0), []) ∧
  pw_fnd pp_P_rideOf 142 = (.aload_n 3, (false, 143), (false, 0), (0, 0, 0), (0, 0, 0), []) ∧
  pw_fnd pp_P_rideOf 143 = (.getfield 192, (false, 146), (false, 0), (1, 12, 0), (0, 0, 163), []) ∧
  pw_fnd pp_P_rideOf 146 = (.ireturn, (false, 147), (false, 0), (0, 0, 0), (0, 0, 0), []) ∧
  pw_fnd pp_P_rideOf 147 = (.aload_n 3, (false, 148), (false, 0), (0, 0, 0), (0, 0, 0), []) ∧
  pw_fnd pp_P_rideOf 148 = (.getfield 195, (false, 151), (false, 0), (1, 13, 0), (0, 0, 164), []) ∧
  pw_fnd pp_P_rideOf 151 = (.ireturn, (false, 152), (false, 0), (0, 0, 0), (0, 0, 0), []) ∧
  pw_fnd pp_P_rideOf 152 = (.aload_n 3, (false, 153), (false, 0), (0, 0, 0), (0, 0, 0), []) ∧
  pw_fnd pp_P_rideOf 153 = (.getfield 198, (false, 156), (false, 0), (1, 14, 0), (0, 0, 165), []) ∧
  pw_fnd pp_P_rideOf 156 = (.ireturn, (false, 157), (false, 0), (0, 0, 0), (0, 0, 0), []) ∧
  pw_fnd pp_P_rideOf 157 = (.aload_n 3, (false, 158), (false, 0), (0, 0, 0), (0, 0, 0), []) ∧
  pw_fnd pp_P_rideOf 158 = (.aload_n 0, (false, 159), (false, 0), (0, 0, 0), (0, 0, 0), []) ∧
  pw_fnd pp_P_rideOf 159 = (.getfield 97, (false, 162), (false, 0), (3, 6, 0), (0, 0, 92), []) ∧
  pw_fnd pp_P_rideOf 162 = (.invokevirtual 100, (false, 165), (false, 1), (5, 2, 1), (0, 0, 283), []) ∧
  pw_fnd pp_P_rideOf 165 = (.ireturn, (false, 166), (false, 0), (0, 0, 0), (0, 0, 0), []) ∧
  pw_fnd pp_P_rideOf 166 = (.aload_n 3, (false, 167), (false, 0), (0, 0, 0), (0, 0, 0), []) ∧
  pw_fnd pp_P_rideOf 167 = (.getfield 201, (false, 170), (false, 0), (1, 15, 0), (0, 0, 166), []) ∧
  pw_fnd pp_P_rideOf 170 = (.ireturn, (false, 171), (false, 0), (0, 0, 0), (0, 0, 0), []) ∧
  pw_fnd pp_P_rideOf 171 = (.bipush (-9), (false, 173), (false, 0), (0, 0, 0), (0, 0, 0), [((-9), (false, 0))]) ∧
  pw_fnd pp_P_rideOf 173 = (.ireturn, (false, 174), (false, 0), (0, 0, 0), (0, 0, 0), []) :=
  ⟨rfl, rfl, rfl, rfl, rfl, rfl, rfl, rfl, rfl, rfl, rfl, rfl, rfl, rfl, rfl, rfl, rfl, rfl, rfl, rfl, rfl, rfl, rfl, rfl, rfl, rfl, rfl, rfl, rfl, rfl, rfl, rfl, rfl, rfl, rfl, rfl, rfl, rfl, rfl, rfl, rfl, rfl, rfl, rfl, rfl, rfl, rfl, rfl, rfl, rfl, rfl, rfl, rfl, rfl, rfl, rfl, rfl, rfl, rfl, rfl, rfl, rfl, rfl⟩
set_option maxRecDepth 100000 in
theorem pk_P_rideOf : pp_P_rideOf.all (fun q => pw_chk pw_jt pm_P_rideOf q.1 q.2) = true := by decide +kernel
def pp_P_row : List (Nat × pw_E) := [(0, (.aload_n 0, (false, 1), (false, 0), (0, 0, 0), (0, 0, 0), [])),
  (1, (.iload_n 1, (false, 2), (false, 0), (0, 0, 0), (0, 0, 0), [])),
  (2, (.invokevirtual 51, (false, 5), (false, 3), (15, 2, 2), (0, 0, 255), [])),
  (5, (.astore 4, (false, 7), (false, 0), (0, 0, 0), (0, 0, 0), [])),
  (7, (.aload 4, (false, 9), (false, 0), (0, 0, 0), (0, 0, 0), [])),
  (9, (.ifnonnull 9, (false, 12), (false, 18), (0, 0, 0), (0, 0, 0), [])),
  (12, (.aload_n 0, (false, 13), (false, 0), (0, 0, 0), (0, 0, 0), [])),
  (13, (.iconst (-1), (false, 14), (false, 0), (0, 0, 0), (0, 0, 0), [((-1), (false, 0))])),
  (14, (.invokevirtual 28, (false, 17), (false, 3), (13, 2, 1), (0, 0, 116), [])),
  (17, (.ireturn, (false, 18), (false, 0), (0, 0, 0), (0, 0, 0), [])),
  (18, (.iload_n 2, (false, 19), (false, 0), (0, 0, 0), (0, 0, 0), [])),
  (19, (.ifCond .eq 11, (false, 22), (false, 30), (0, 0, 0), (0, 0, 0), [])),
  (22, (.aload 4, (false, 24), (false, 0), (0, 0, 0), (0, 0, 0), [])),
  (24, (.getfield 116, (false, 27), (false, 0), (1, 7, 1), (0, 0, 155), [])),
  (27, (.goto 8, (false, 30), (false, 35), (0, 0, 0), (0, 0, 0), [])),
  (30, (.aload 4, (false, 32), (false, 0), (0, 0, 0), (0, 0, 0), [])),
  (32, (.getfield 126, (false, 35), (false, 0), (1, 6, 1), (0, 0, 153), [])),
  (35, (.astore 5, (false, 37), (false, 0), (0, 0, 0), (0, 0, 0), [])),
  (37, (.aload 5, (false, 39), (false, 0), (0, 0, 0), (0, 0, 0), [])),
  (39, (.iload_n 3, (false, 40), (false, 0), (0, 0, 0), (0, 0, 0), [])),
  (40, (.invokevirtual 208, (false, 43), (false, 2), (9, 2, 1), (0, 0, 431), [])),
  (43, (.ireturn, (false, 44), (false, 0), (0, 0, 0), (0, 0, 0), []))]
set_option maxRecDepth 100000 in
theorem pe_P_row : pw_fnd pp_P_row 0 = (.aload_n 0, (false, 1), (false, 0), (0, 0, 0), (0, 0, 0), []) ∧
  pw_fnd pp_P_row 1 = (.iload_n 1, (false, 2), (false, 0), (0, 0, 0), (0, 0, 0), []) ∧
  pw_fnd pp_P_row 2 = (.invokevirtual 51, (false, 5), (false, 3), (15, 2, 2), (0, 0, 255), []) ∧
  pw_fnd pp_P_row 5 = (.astore 4, (false, 7), (false, 0), (0, 0, 0), (0, 0, 0), []) ∧
  pw_fnd pp_P_row 7 = (.aload 4, (false, 9), (false, 0), (0, 0, 0), (0, 0, 0), []) ∧
  pw_fnd pp_P_row 9 = (.ifnonnull 9, (false, 12), (false, 18), (0, 0, 0), (0, 0, 0), []) ∧
  pw_fnd pp_P_row 12 = (.aload_n 0, (false, 13), (false, 0), (0, 0, 0), (0, 0, 0), []) ∧
  pw_fnd pp_P_row 13 = (.iconst (-1), (false, 14), (false, 0), (0, 0, 0), (0, 0, 0), [((-1), (false, 0))]) ∧
  pw_fnd pp_P_row 14 = (.invokevirtual 28, (false, 17), (false, 3), (13, 2, 1), (0, 0, 116), []) ∧
  pw_fnd pp_P_row 17 = (.ireturn, (false, 18), (false, 0), (0, 0, 0), (0, 0, 0), []) ∧
  pw_fnd pp_P_row 18 = (.iload_n 2, (false, 19), (false, 0), (0, 0, 0), (0, 0, 0), []) ∧
  pw_fnd pp_P_row 19 = (.ifCond .eq 11, (false, 22), (false, 30), (0, 0, 0), (0, 0, 0), []) ∧
  pw_fnd pp_P_row 22 = (.aload 4, (false, 24), (false, 0), (0, 0, 0), (0, 0, 0), []) ∧
  pw_fnd pp_P_row 24 = (.getfield 116, (false, 27), (false, 0), (1, 7, 1), (0, 0, 155), []) ∧
  pw_fnd pp_P_row 27 = (.goto 8, (false, 30), (false, 35), (0, 0, 0), (0, 0, 0), []) ∧
  pw_fnd pp_P_row 30 = (.aload 4, (false, 32), (false, 0), (0, 0, 0), (0, 0, 0), []) ∧
  pw_fnd pp_P_row 32 = (.getfield 126, (false, 35), (false, 0), (1, 6, 1), (0, 0, 153), []) ∧
  pw_fnd pp_P_row 35 = (.astore 5, (false, 37), (false, 0), (0, 0, 0), (0, 0, 0), []) ∧
  pw_fnd pp_P_row 37 = (.aload 5, (false, 39), (false, 0), (0, 0, 0), (0, 0, 0), []) ∧
  pw_fnd pp_P_row 39 = (.iload_n 3, (false, 40), (false, 0), (0, 0, 0), (0, 0, 0), []) ∧
  pw_fnd pp_P_row 40 = (.invokevirtual 208, (false, 43), (false, 2), (9, 2, 1), (0, 0, 431), []) ∧
  pw_fnd pp_P_row 43 = (.ireturn, (false, 44), (false, 0), (0, 0, 0), (0, 0, 0), []) :=
  ⟨rfl, rfl, rfl, rfl, rfl, rfl, rfl, rfl, rfl, rfl, rfl, rfl, rfl, rfl, rfl, rfl, rfl, rfl, rfl, rfl, rfl, rfl⟩
set_option maxRecDepth 100000 in
theorem pk_P_row : pp_P_row.all (fun q => pw_chk pw_jt pm_P_row q.1 q.2) = true := by decide +kernel
def pp_P_rowOf : List (Nat × pw_E) := [(0, (.aload_n 0, (false, 1), (false, 0), (0, 0, 0), (0, 0, 0), [])),
  (1, (.aload_n 1, (false, 2), (false, 0), (0, 0, 0), (0, 0, 0), [])),
  (2, (.getfield 133, (false, 5), (false, 0), (0, 6, 0), (0, 0, 220), [])),
  (5, (.invokevirtual 51, (false, 8), (false, 3), (15, 2, 2), (0, 0, 255), [])),
  (8, (.astore_n 2, (false, 9), (false, 0), (0, 0, 0), (0, 0, 0), [])),
  (9, (.aload_n 2, (false, 10), (false, 0), (0, 0, 0), (0, 0, 0), [])),
  (10, (.ifnonnull 5, (false, 13), (false, 15), (0, 0, 0), (0, 0, 0), [])),
  (13, (.aconst_null, (false, 14), (false, 0), (0, 0, 0), (0, 0, 0), [])),
  (14, (.areturn, (false, 15), (false, 0), (0, 0, 0), (0, 0, 0), [])),
  (15, (.aload_n 1, (false, 16), (false, 0), (0, 0, 0), (0, 0, 0), [])),
  (16, (.getfield 94, (false, 19), (false, 0), (0, 5, 0), (0, 0, 218), [])),
  (19, (.iconst 1, (false, 20), (false, 0), (0, 0, 0), (0, 0, 0), [(1, (false, 0))])),
  (20, (.if_icmp .ne 8, (false, 23), (false, 28), (0, 0, 0), (0, 0, 0), [])),
  (23, (.aload_n 2, (false, 24), (false, 0), (0, 0, 0), (0, 0, 0), [])),
  (24, (.getfield 126, (false, 27), (false, 0), (1, 6, 1), (0, 0, 153), [])),
  (27, (.areturn, (false, 28), (false, 0), (0, 0, 0), (0, 0, 0), [])),
  (28, (.aload_n 1, (false, 29), (false, 0), (0, 0, 0), (0, 0, 0), [])),
  (29, (.getfield 94, (false, 32), (false, 0), (0, 5, 0), (0, 0, 218), [])),
  (32, (.iconst 2, (false, 33), (false, 0), (0, 0, 0), (0, 0, 0), [(2, (false, 0))])),
  (33, (.if_icmp .ne 10, (false, 36), (false, 43), (0, 0, 0), (0, 0, 0), [])),
  (36, (.aload_n 2, (false, 37), (false, 0), (0, 0, 0), (0, 0, 0), [])),
  (37, (.getfield 116, (false, 40), (false, 0), (1, 7, 1), (0, 0, 155), [])),
  (40, (.goto 4, (false, 43), (false, 44), (0, 0, 0), (0, 0, 0), [])),
  (43, (.aconst_null, (false, 44), (false, 0), (0, 0, 0), (0, 0, 0), [])),
  (44, (.areturn, (false, 45), (false, 0), (0, 0, 0), (0, 0, 0), []))]
set_option maxRecDepth 100000 in
theorem pe_P_rowOf : pw_fnd pp_P_rowOf 0 = (.aload_n 0, (false, 1), (false, 0), (0, 0, 0), (0, 0, 0), []) ∧
  pw_fnd pp_P_rowOf 1 = (.aload_n 1, (false, 2), (false, 0), (0, 0, 0), (0, 0, 0), []) ∧
  pw_fnd pp_P_rowOf 2 = (.getfield 133, (false, 5), (false, 0), (0, 6, 0), (0, 0, 220), []) ∧
  pw_fnd pp_P_rowOf 5 = (.invokevirtual 51, (false, 8), (false, 3), (15, 2, 2), (0, 0, 255), []) ∧
  pw_fnd pp_P_rowOf 8 = (.astore_n 2, (false, 9), (false, 0), (0, 0, 0), (0, 0, 0), []) ∧
  pw_fnd pp_P_rowOf 9 = (.aload_n 2, (false, 10), (false, 0), (0, 0, 0), (0, 0, 0), []) ∧
  pw_fnd pp_P_rowOf 10 = (.ifnonnull 5, (false, 13), (false, 15), (0, 0, 0), (0, 0, 0), []) ∧
  pw_fnd pp_P_rowOf 13 = (.aconst_null, (false, 14), (false, 0), (0, 0, 0), (0, 0, 0), []) ∧
  pw_fnd pp_P_rowOf 14 = (.areturn, (false, 15), (false, 0), (0, 0, 0), (0, 0, 0), []) ∧
  pw_fnd pp_P_rowOf 15 = (.aload_n 1, (false, 16), (false, 0), (0, 0, 0), (0, 0, 0), []) ∧
  pw_fnd pp_P_rowOf 16 = (.getfield 94, (false, 19), (false, 0), (0, 5, 0), (0, 0, 218), []) ∧
  pw_fnd pp_P_rowOf 19 = (.iconst 1, (false, 20), (false, 0), (0, 0, 0), (0, 0, 0), [(1, (false, 0))]) ∧
  pw_fnd pp_P_rowOf 20 = (.if_icmp .ne 8, (false, 23), (false, 28), (0, 0, 0), (0, 0, 0), []) ∧
  pw_fnd pp_P_rowOf 23 = (.aload_n 2, (false, 24), (false, 0), (0, 0, 0), (0, 0, 0), []) ∧
  pw_fnd pp_P_rowOf 24 = (.getfield 126, (false, 27), (false, 0), (1, 6, 1), (0, 0, 153), []) ∧
  pw_fnd pp_P_rowOf 27 = (.areturn, (false, 28), (false, 0), (0, 0, 0), (0, 0, 0), []) ∧
  pw_fnd pp_P_rowOf 28 = (.aload_n 1, (false, 29), (false, 0), (0, 0, 0), (0, 0, 0), []) ∧
  pw_fnd pp_P_rowOf 29 = (.getfield 94, (false, 32), (false, 0), (0, 5, 0), (0, 0, 218), []) ∧
  pw_fnd pp_P_rowOf 32 = (.iconst 2, (false, 33), (false, 0), (0, 0, 0), (0, 0, 0), [(2, (false, 0))]) ∧
  pw_fnd pp_P_rowOf 33 = (.if_icmp .ne 10, (false, 36), (false, 43), (0, 0, 0), (0, 0, 0), []) ∧
  pw_fnd pp_P_rowOf 36 = (.aload_n 2, (false, 37), (false, 0), (0, 0, 0), (0, 0, 0), []) ∧
  pw_fnd pp_P_rowOf 37 = (.getfield 116, (false, 40), (false, 0), (1, 7, 1), (0, 0, 155), []) ∧
  pw_fnd pp_P_rowOf 40 = (.goto 4, (false, 43), (false, 44), (0, 0, 0), (0, 0, 0), []) ∧
  pw_fnd pp_P_rowOf 43 = (.aconst_null, (false, 44), (false, 0), (0, 0, 0), (0, 0, 0), []) ∧
  pw_fnd pp_P_rowOf 44 = (.areturn, (false, 45), (false, 0), (0, 0, 0), (0, 0, 0), []) :=
  ⟨rfl, rfl, rfl, rfl, rfl, rfl, rfl, rfl, rfl, rfl, rfl, rfl, rfl, rfl, rfl, rfl, rfl, rfl, rfl, rfl, rfl, rfl, rfl, rfl, rfl⟩
set_option maxRecDepth 100000 in
theorem pk_P_rowOf : pp_P_rowOf.all (fun q => pw_chk pw_jt pm_P_rowOf q.1 q.2) = true := by decide +kernel
def pp_P_peopleDoing : List (Nat × pw_E) := [(0, (.iconst 0, (false, 1), (false, 0), (0, 0, 0), (0, 0, 0), [(0, (false, 0))])),
  (1, (.istore_n 3, (false, 2), (false, 0), (0, 0, 0), (0, 0, 0), [])),
  (2, (.iconst 0, (false, 3), (false, 0), (0, 0, 0), (0, 0, 0), [(0, (false, 0))])),
  (3, (.istore 4, (true, 5), (false, 0), (0, 0, 0), (0, 0, 0), [])),
  (5, (.iload 4, (false, 7), (false, 0), (0, 0, 0), (0, 0, 0), [])),
  (7, (.aload_n 0, (false, 8), (false, 0), (0, 0, 0), (0, 0, 0), [])),
  (8, (.getfield 45, (false, 11), (false, 0), (3, 5, 0), (0, 0, 91), [])),
  (11, (.if_icmp .ge 48, (false, 14), (false, 59), (0, 0, 0), (0, 0, 0), [])),
  (14, (.aload_n 0, (false, 15), (false, 0), (0, 0, 0), (0, 0, 0), [])),
  (15, (.iload 4, (false, 17), (false, 0), (0, 0, 0), (0, 0, 0), [])),
  (17, (.invokevirtual 66, (false, 20), (false, 3), (16, 2, 2), (0, 0, 275), [])),
  (20, (.astore 5, (false, 22), (false, 0), (0, 0, 0), (0, 0, 0), [])),
  (22, (.aload 5, (false, 24), (false, 0), (0, 0, 0), (0, 0, 0), [])),
  (24, (.ifnull 29, (false, 27), (false, 53), (0, 0, 0), (0, 0, 0), [])),
  (27, (.aload 5, (false, 29), (false, 0), (0, 0, 0), (0, 0, 0), [])),
  (29, (.getfield 94, (false, 32), (false, 0), (0, 5, 0), (0, 0, 218), [])),
  (32, (.iload_n 1, (false, 33), (false, 0), (0, 0, 0), (0, 0, 0), [])),
  (33, (.if_icmp .lt 20, (false, 36), (false, 53), (0, 0, 0), (0, 0, 0), [])),
  (36, (.aload 5, (false, 38), (false, 0), (0, 0, 0), (0, 0, 0), [])),
  (38, (.getfield 94, (false, 41), (false, 0), (0, 5, 0), (0, 0, 218), [])),
  (41, (.iload_n 2, (false, 42), (false, 0), (0, 0, 0), (0, 0, 0), [])),
  (42, (.if_icmp .gt 11, (false, 45), (false, 53), (0, 0, 0), (0, 0, 0), [])),
  (45, (.iload_n 3, (false, 46), (false, 0), (0, 0, 0), (0, 0, 0), [])),
  (46, (.aload 5, (false, 48), (false, 0), (0, 0, 0), (0, 0, 0), [])),
  (48, (.getfield 74, (false, 51), (false, 0), (0, 1, 0), (0, 0, 212), [])),
  (51, (.iadd, (false, 52), (false, 0), (0, 0, 0), (0, 0, 0), [])),
  (52, (.istore_n 3, (false, 53), (false, 0), (0, 0, 0), (0, 0, 0), [])),
  (53, (.iinc 4 1, (false, 56), (false, 0), (0, 0, 0), (0, 0, 0), [(1, (false, 0))])),
  (56, (.goto (-51), (false, 59), (true, 5), (0, 0, 0), (0, 0, 0), [])),
  (59, (.iload_n 3, (false, 60), (false, 0), (0, 0, 0), (0, 0, 0), [])),
  (60, (.ireturn, (false, 61), (false, 0), (0, 0, 0), (0, 0, 0), []))]
set_option maxRecDepth 100000 in
theorem pe_P_peopleDoing : pw_fnd pp_P_peopleDoing 0 = (.iconst 0, (false, 1), (false, 0), (0, 0, 0), (0, 0, 0), [(0, (false, 0))]) ∧
  pw_fnd pp_P_peopleDoing 1 = (.istore_n 3, (false, 2), (false, 0), (0, 0, 0), (0, 0, 0), []) ∧
  pw_fnd pp_P_peopleDoing 2 = (.iconst 0, (false, 3), (false, 0), (0, 0, 0), (0, 0, 0), [(0, (false, 0))]) ∧
  pw_fnd pp_P_peopleDoing 3 = (.istore 4, (true, 5), (false, 0), (0, 0, 0), (0, 0, 0), []) ∧
  pw_fnd pp_P_peopleDoing 5 = (.iload 4, (false, 7), (false, 0), (0, 0, 0), (0, 0, 0), []) ∧
  pw_fnd pp_P_peopleDoing 7 = (.aload_n 0, (false, 8), (false, 0), (0, 0, 0), (0, 0, 0), []) ∧
  pw_fnd pp_P_peopleDoing 8 = (.getfield 45, (false, 11), (false, 0), (3, 5, 0), (0, 0, 91), []) ∧
  pw_fnd pp_P_peopleDoing 11 = (.if_icmp .ge 48, (false, 14), (false, 59), (0, 0, 0), (0, 0, 0), []) ∧
  pw_fnd pp_P_peopleDoing 14 = (.aload_n 0, (false, 15), (false, 0), (0, 0, 0), (0, 0, 0), []) ∧
  pw_fnd pp_P_peopleDoing 15 = (.iload 4, (false, 17), (false, 0), (0, 0, 0), (0, 0, 0), []) ∧
  pw_fnd pp_P_peopleDoing 17 = (.invokevirtual 66, (false, 20), (false, 3), (16, 2, 2), (0, 0, 275), []) ∧
  pw_fnd pp_P_peopleDoing 20 = (.astore 5, (false, 22), (false, 0), (0, 0, 0), (0, 0, 0), []) ∧
  pw_fnd pp_P_peopleDoing 22 = (.aload 5, (false, 24), (false, 0), (0, 0, 0), (0, 0, 0), []) ∧
  pw_fnd pp_P_peopleDoing 24 = (.ifnull 29, (false, 27), (false, 53), (0, 0, 0), (0, 0, 0), []) ∧
  pw_fnd pp_P_peopleDoing 27 = (.aload 5, (false, 29), (false, 0), (0, 0, 0), (0, 0, 0), []) ∧
  pw_fnd pp_P_peopleDoing 29 = (.getfield 94, (false, 32), (false, 0), (0, 5, 0), (0, 0, 218), []) ∧
  pw_fnd pp_P_peopleDoing 32 = (.iload_n 1, (false, 33), (false, 0), (0, 0, 0), (0, 0, 0), []) ∧
  pw_fnd pp_P_peopleDoing 33 = (.if_icmp .lt 20, (false, 36), (false, 53), (0, 0, 0), (0, 0, 0), []) ∧
  pw_fnd pp_P_peopleDoing 36 = (.aload 5, (false, 38), (false, 0), (0, 0, 0), (0, 0, 0), []) ∧
  pw_fnd pp_P_peopleDoing 38 = (.getfield 94, (false, 41), (false, 0), (0, 5, 0), (0, 0, 218), []) ∧
  pw_fnd pp_P_peopleDoing 41 = (.iload_n 2, (false, 42), (false, 0), (0, 0, 0), (0, 0, 0), []) ∧
  pw_fnd pp_P_peopleDoing 42 = (.if_icmp .gt 11, (false, 45), (false, 53), (0, 0, 0), (0, 0, 0), []) ∧
  pw_fnd pp_P_peopleDoing 45 = (.iload_n 3, (false, 46), (false, 0), (0, 0, 0), (0, 0, 0), []) ∧
  pw_fnd pp_P_peopleDoing 46 = (.aload 5, (false, 48), (false, 0), (0, 0, 0), (0, 0, 0), []) ∧
  pw_fnd pp_P_peopleDoing 48 = (.getfield 74, (false, 51), (false, 0), (0, 1, 0), (0, 0, 212), []) ∧
  pw_fnd pp_P_peopleDoing 51 = (.iadd, (false, 52), (false, 0), (0, 0, 0), (0, 0, 0), []) ∧
  pw_fnd pp_P_peopleDoing 52 = (.istore_n 3, (false, 53), (false, 0), (0, 0, 0), (0, 0, 0), []) ∧
  pw_fnd pp_P_peopleDoing 53 = (.iinc 4 1, (false, 56), (false, 0), (0, 0, 0), (0, 0, 0), [(1, (false, 0))]) ∧
  pw_fnd pp_P_peopleDoing 56 = (.goto (-51), (false, 59), (true, 5), (0, 0, 0), (0, 0, 0), []) ∧
  pw_fnd pp_P_peopleDoing 59 = (.iload_n 3, (false, 60), (false, 0), (0, 0, 0), (0, 0, 0), []) ∧
  pw_fnd pp_P_peopleDoing 60 = (.ireturn, (false, 61), (false, 0), (0, 0, 0), (0, 0, 0), []) :=
  ⟨rfl, rfl, rfl, rfl, rfl, rfl, rfl, rfl, rfl, rfl, rfl, rfl, rfl, rfl, rfl, rfl, rfl, rfl, rfl, rfl, rfl, rfl, rfl, rfl, rfl, rfl, rfl, rfl, rfl, rfl, rfl⟩
set_option maxRecDepth 100000 in
theorem pk_P_peopleDoing : pp_P_peopleDoing.all (fun q => pw_chk pw_jt pm_P_peopleDoing q.1 q.2) = true := by decide +kernel
def pp_P_roundsTillOn : List (Nat × pw_E) := [(0, (.aload_n 1, (false, 1), (false, 0), (0, 0, 0), (0, 0, 0), [])),
  (1, (.getfield 63, (false, 4), (false, 0), (1, 1, 0), (0, 0, 145), [])),
  (4, (.aload_n 1, (false, 5), (false, 0), (0, 0, 0), (0, 0, 0), [])),
  (5, (.getfield 39, (false, 8), (false, 0), (1, 9, 0), (0, 0, 157), [])),
  (8, (.isub, (false, 9), (false, 0), (0, 0, 0), (0, 0, 0), [])),
  (9, (.istore_n 3, (false, 10), (false, 0), (0, 0, 0), (0, 0, 0), [])),
  (10, (.iload_n 3, (false, 11), (false, 0), (0, 0, 0), (0, 0, 0), [])),
  (11, (.istore 4, (false, 13), (false, 0), (0, 0, 0), (0, 0, 0), [])),
  (13, (.iconst 1, (false, 14), (false, 0), (0, 0, 0), (0, 0, 0), [(1, (false, 0))])),
  (14, (.istore 5, (false, 16), (false, 0), (0, 0, 0), (0, 0, 0), [])),
  (16, (.iconst 0, (false, 17), (false, 0), (0, 0, 0), (0, 0, 0), [(0, (false, 0))])),
  (17, (.istore 6, (true, 19), (false, 0), (0, 0, 0), (0, 0, 0), [])),
  (19, (.iload 6, (false, 21), (false, 0), (0, 0, 0), (0, 0, 0), [])),
  (21, (.iload_n 2, (false, 22), (false, 0), (0, 0, 0), (0, 0, 0), [])),
  (22, (.if_icmp .gt 67, (false, 25), (false, 89), (0, 0, 0), (0, 0, 0), [])),
  (25, (.aload_n 0, (false, 26), (false, 0), (0, 0, 0), (0, 0, 0), [])),
  (26, (.aload_n 1, (false, 27), (false, 0), (0, 0, 0), (0, 0, 0), [])),
  (27, (.getfield 126, (false, 30), (false, 0), (1, 6, 1), (0, 0, 153), [])),
  (30, (.iload 6, (false, 32), (false, 0), (0, 0, 0), (0, 0, 0), [])),
  (32, (.invokevirtual 208, (false, 35), (false, 2), (9, 2, 1), (0, 0, 431), [])),
  (35, (.invokevirtual 66, (false, 38), (false, 3), (16, 2, 2), (0, 0, 275), [])),
  (38, (.astore 7, (false, 40), (false, 0), (0, 0, 0), (0, 0, 0), [])),
  (40, (.aload 7, (false, 42), (false, 0), (0, 0, 0), (0, 0, 0), [])),
  (42, (.ifnull 12, (false, 45), (false, 54), (0, 0, 0), (0, 0, 0), [])),
  (45, (.aload 7, (false, 47), (false, 0), (0, 0, 0), (0, 0, 0), [])),
  (47, (.getfield 74, (false, 50), (false, 0), (0, 1, 0), (0, 0, 212), [])),
  (50, (.iload_n 3, (false, 51), (false, 0), (0, 0, 0), (0, 0, 0), [])),
  (51, (.if_icmp .le 6, (false, 54), (false, 57), (0, 0, 0), (0, 0, 0), [])),
  (54, (.bipush (-3), (false, 56), (false, 0), (0, 0, 0), (0, 0, 0), [((-3), (false, 0))])),
  (56, (.ireturn, (false, 57), (false, 0), (0, 0, 0), (0, 0, 0), [])),
  (57, (.aload 7, (false, 59), (false, 0), (0, 0, 0), (0, 0, 0), [])),
  (59, (.getfield 74, (false, 62), (false, 0), (0, 1, 0), (0, 0, 212), [])),
  (62, (.iload 4, (false, 64), (false, 0), (0, 0, 0), (0, 0, 0), [])),
  (64, (.if_icmp .le 9, (false, 67), (false, 73), (0, 0, 0), (0, 0, 0), [])),
  (67, (.iinc 5 1, (false, 70), (false, 0), (0, 0, 0), (0, 0, 0), [(1, (false, 0))])),
  (70, (.iload_n 3, (false, 71), (false, 0), (0, 0, 0), (0, 0, 0), [])),
  (71, (.istore 4, (false, 73), (false, 0), (0, 0, 0), (0, 0, 0), [])),
  (73, (.iload 4, (false, 75), (false, 0), (0, 0, 0), (0, 0, 0), [])),
  (75, (.aload 7, (false, 77), (false, 0), (0, 0, 0), (0, 0, 0), [])),
  (77, (.getfield 74, (false, 80), (false, 0), (0, 1, 0), (0, 0, 212), [])),
  (80, (.isub, (false, 81), (false, 0), (0, 0, 0), (0, 0, 0), [])),
  (81, (.istore 4, (false, 83), (false, 0), (0, 0, 0), (0, 0, 0), [])),
  (83, (.iinc 6 1, (false, 86), (false, 0), (0, 0, 0), (0, 0, 0), [(1, (false, 0))])),
  (86, (.goto (-67), (false, 89), (true, 19), (0, 0, 0), (0, 0, 0), [])),
  (89, (.iload 5, (false, 91), (false, 0), (0, 0, 0), (0, 0, 0), [])),
  (91, (.ireturn, (false, 92), (false, 0), (0, 0, 0), (0, 0, 0), []))]
set_option maxRecDepth 100000 in
theorem pe_P_roundsTillOn : pw_fnd pp_P_roundsTillOn 0 = (.aload_n 1, (false, 1), (false, 0), (0, 0, 0), (0, 0, 0), []) ∧
  pw_fnd pp_P_roundsTillOn 1 = (.getfield 63, (false, 4), (false, 0), (1, 1, 0), (0, 0, 145), []) ∧
  pw_fnd pp_P_roundsTillOn 4 = (.aload_n 1, (false, 5), (false, 0), (0, 0, 0), (0, 0, 0), []) ∧
  pw_fnd pp_P_roundsTillOn 5 = (.getfield 39, (false, 8), (false, 0), (1, 9, 0), (0, 0, 157), []) ∧
  pw_fnd pp_P_roundsTillOn 8 = (.isub, (false, 9), (false, 0), (0, 0, 0), (0, 0, 0), []) ∧
  pw_fnd pp_P_roundsTillOn 9 = (.istore_n 3, (false, 10), (false, 0), (0, 0, 0), (0, 0, 0), []) ∧
  pw_fnd pp_P_roundsTillOn 10 = (.iload_n 3, (false, 11), (false, 0), (0, 0, 0), (0, 0, 0), []) ∧
  pw_fnd pp_P_roundsTillOn 11 = (.istore 4, (false, 13), (false, 0), (0, 0, 0), (0, 0, 0), []) ∧
  pw_fnd pp_P_roundsTillOn 13 = (.iconst 1, (false, 14), (false, 0), (0, 0, 0), (0, 0, 0), [(1, (false, 0))]) ∧
  pw_fnd pp_P_roundsTillOn 14 = (.istore 5, (false, 16), (false, 0), (0, 0, 0), (0, 0, 0), []) ∧
  pw_fnd pp_P_roundsTillOn 16 = (.iconst 0, (false, 17), (false, 0), (0, 0, 0), (0, 0, 0), [(0, (false, 0))]) ∧
  pw_fnd pp_P_roundsTillOn 17 = (.istore 6, (true, 19), (false, 0), (0, 0, 0), (0, 0, 0), []) ∧
  pw_fnd pp_P_roundsTillOn 19 = (.iload 6, (false, 21), (false, 0), (0, 0, 0), (0, 0, 0), []) ∧
  pw_fnd pp_P_roundsTillOn 21 = (.iload_n 2, (false, 22), (false, 0), (0, 0, 0), (0, 0, 0), []) ∧
  pw_fnd pp_P_roundsTillOn 22 = (.if_icmp .gt 67, (false, 25), (false, 89), (0, 0, 0), (0, 0, 0), []) ∧
  pw_fnd pp_P_roundsTillOn 25 = (.aload_n 0, (false, 26), (false, 0), (0, 0, 0), (0, 0, 0), []) ∧
  pw_fnd pp_P_roundsTillOn 26 = (.aload_n 1, (false, 27), (false, 0), (0, 0, 0), (0, 0, 0), []) ∧
  pw_fnd pp_P_roundsTillOn 27 = (.getfield 126, (false, 30), (false, 0), (1, 6, 1), (0, 0, 153), []) ∧
  pw_fnd pp_P_roundsTillOn 30 = (.iload 6, (false, 32), (false, 0), (0, 0, 0), (0, 0, 0), []) ∧
  pw_fnd pp_P_roundsTillOn 32 = (.invokevirtual 208, (false, 35), (false, 2), (9, 2, 1), (0, 0, 431), []) ∧
  pw_fnd pp_P_roundsTillOn 35 = (.invokevirtual 66, (false, 38), (false, 3), (16, 2, 2), (0, 0, 275), []) ∧
  pw_fnd pp_P_roundsTillOn 38 = (.astore 7, (false, 40), (false, 0), (0, 0, 0), (0, 0, 0), []) ∧
  pw_fnd pp_P_roundsTillOn 40 = (.aload 7, (false, 42), (false, 0), (0, 0, 0), (0, 0, 0), []) ∧
  pw_fnd pp_P_roundsTillOn 42 = (.ifnull 12, (false, 45), (false, 54), (0, 0, 0), (0, 0, 0), []) ∧
  pw_fnd pp_P_roundsTillOn 45 = (.aload 7, (false, 47), (false, 0), (0, 0, 0), (0, 0, 0), []) ∧
  pw_fnd pp_P_roundsTillOn 47 = (.getfield 74, (false, 50), (false, 0), (0, 1, 0), (0, 0, 212), []) ∧
  pw_fnd pp_P_roundsTillOn 50 = (.iload_n 3, (false, 51), (false, 0), (0, 0, 0), (0, 0, 0), []) ∧
  pw_fnd pp_P_roundsTillOn 51 = (.if_icmp .le 6, (false, 54), (false, 57), (0, 0, 0), (0, 0, 0), []) ∧
  pw_fnd pp_P_roundsTillOn 54 = (.bipush (-3), (false, 56), (false, 0), (0, 0, 0), (0, 0, 0), [((-3), (false, 0))]) ∧
  pw_fnd pp_P_roundsTillOn 56 = (.ireturn, (false, 57), (false, 0), (0, 0, 0), (0, 0, 0), []) ∧
  pw_fnd pp_P_roundsTillOn 57 = (.aload 7, (false, 59), (false, 0), (0, 0, 0), (0, 0, 0), []) ∧
  pw_fnd pp_P_roundsTillOn 59 = (.getfield 74, (false, 62), (false, 0), (0, 1, 0), (0, 0, 212), []) ∧
  pw_fnd pp_P_roundsTillOn 62 = (.iload 4, (false, 64), (false, 0), (0, 0, 0), (0, 0, 0), []) ∧
  pw_fnd pp_P_roundsTillOn 64 = (.if_icmp .le 9, (false, 67), (false, 73), (0, 0, 0), (0, 0, 0), []) ∧
  pw_fnd pp_P_roundsTillOn 67 = (.iinc 5 1, (false, 70), (false, 0), (0, 0, 0), (0, 0, 0), [(1, (false, 0))]) ∧
  pw_fnd pp_P_roundsTillOn 70 = (.iload_n 3, (false, 71), (false, 0), (0, 0, 0), (0, 0, 0), []) ∧
  pw_fnd pp_P_roundsTillOn 71 = (.istore 4, (false, 73), (false, 0), (0, 0, 0), (0, 0, 0), []) ∧
  pw_fnd pp_P_roundsTillOn 73 = (.iload 4, (false, 75), (false, 0), (0, 0, 0), (0, 0, 0), []) ∧
  pw_fnd pp_P_roundsTillOn 75 = (.aload 7, (false, 77), (false, 0), (0, 0, 0), (0, 0, 0), []) ∧
  pw_fnd pp_P_roundsTillOn 77 = (.getfield 74, (false, 80), (false, 0), (0, 1, 0), (0, 0, 212), []) ∧
  pw_fnd pp_P_roundsTillOn 80 = (.isub, (false, 81), (false, 0), (0, 0, 0), (0, 0, 0), []) ∧
  pw_fnd pp_P_roundsTillOn 81 = (.istore 4, (false, 83), (false, 0), (0, 0, 0), (0, 0, 0), []) ∧
  pw_fnd pp_P_roundsTillOn 83 = (.iinc 6 1, (false, 86), (false, 0), (0, 0, 0), (0, 0, 0), [(1, (false, 0))]) ∧
  pw_fnd pp_P_roundsTillOn 86 = (.goto (-67), (false, 89), (true, 19), (0, 0, 0), (0, 0, 0), []) ∧
  pw_fnd pp_P_roundsTillOn 89 = (.iload 5, (false, 91), (false, 0), (0, 0, 0), (0, 0, 0), []) ∧
  pw_fnd pp_P_roundsTillOn 91 = (.ireturn, (false, 92), (false, 0), (0, 0, 0), (0, 0, 0), []) :=
  ⟨rfl, rfl, rfl, rfl, rfl, rfl, rfl, rfl, rfl, rfl, rfl, rfl, rfl, rfl, rfl, rfl, rfl, rfl, rfl, rfl, rfl, rfl, rfl, rfl, rfl, rfl, rfl, rfl, rfl, rfl, rfl, rfl, rfl, rfl, rfl, rfl, rfl, rfl, rfl, rfl, rfl, rfl, rfl, rfl, rfl, rfl⟩
set_option maxRecDepth 100000 in
theorem pk_P_roundsTillOn : pp_P_roundsTillOn.all (fun q => pw_chk pw_jt pm_P_roundsTillOn q.1 q.2) = true := by decide +kernel
def pp_P_endRound : List (Nat × pw_E) := [(0, (.aload_n 1, (false, 1), (false, 0), (0, 0, 0), (0, 0, 0), [])),
  (1, (.getfield 192, (false, 4), (false, 0), (1, 12, 0), (0, 0, 163), [])),
  (4, (.ifCond .ne 4, (false, 7), (false, 8), (0, 0, 0), (0, 0, 0), [])),
  (7, (.return_, (false, 8), (false, 0), (0, 0, 0), (0, 0, 0), [])),
  (8, (.iconst 0, (false, 9), (false, 0), (0, 0, 0), (0, 0, 0), [(0, (false, 0))])),
  (9, (.istore_n 2, (true, 10), (false, 0), (0, 0, 0), (0, 0, 0), [])),
  (10, (.iload_n 2, (false, 11), (false, 0), (0, 0, 0), (0, 0, 0), [])),
  (11, (.aload_n 0, (false, 12), (false, 0), (0, 0, 0), (0, 0, 0), [])),
  (12, (.getfield 45, (false, 15), (false, 0), (3, 5, 0), (0, 0, 91), [])),
  (15, (.if_icmp .ge 74, (false, 18), (false, 89), (0, 0, 0), (0, 0, 0), [])),
  (18, (.aload_n 0, (false, 19), (false, 0), (0, 0, 0), (0, 0, 0), [])),
  (19, (.iload_n 2, (false, 20), (false, 0), (0, 0, 0), (0, 0, 0), [])),
  (20, (.invokevirtual 66, (false, 23), (false, 3), (16, 2, 2), (0, 0, 275), [])),
  (23, (.astore_n 3, (false, 24), (false, 0), (0, 0, 0), (0, 0, 0), [])),
  (24, (.aload_n 3, (false, 25), (false, 0), (0, 0, 0), (0, 0, 0), [])),
  (25, (.ifnull 58, (false, 28), (false, 83), (0, 0, 0), (0, 0, 0), [])),
  (28, (.aload_n 3, (false, 29), (false, 0), (0, 0, 0), (0, 0, 0), [])),
  (29, (.getfield 94, (false, 32), (false, 0), (0, 5, 0), (0, 0, 218), [])),
  (32, (.iconst 3, (false, 33), (false, 0), (0, 0, 0), (0, 0, 0), [(3, (false, 0))])),
  (33, (.if_icmp .ne 50, (false, 36), (false, 83), (0, 0, 0), (0, 0, 0), [])),
  (36, (.aload_n 3, (false, 37), (false, 0), (0, 0, 0), (0, 0, 0), [])),
  (37, (.getfield 133, (false, 40), (false, 0), (0, 6, 0), (0, 0, 220), [])),
  (40, (.aload_n 1, (false, 41), (false, 0), (0, 0, 0), (0, 0, 0), [])),
  (41, (.getfield 80, (false, 44), (false, 0), (1, 0, 0), (0, 0, 143), [])),
  (44, (.if_icmp .ne 39, (false, 47), (false, 83), (0, 0, 0), (0, 0, 0), [])),
  (47, (.aload_n 3, (false, 48), (false, 0), (0, 0, 0), (0, 0, 0), [])),
  (48, (.getfield 254, (false, 51), (false, 0), (0, 7, 0), (0, 0, 221), [])),
  (51, (.aload_n 0, (false, 52), (false, 0), (0, 0, 0), (0, 0, 0), [])),
  (52, (.getfield 97, (false, 55), (false, 0), (3, 6, 0), (0, 0, 92), [])),
  (55, (.aload_n 1, (false, 56), (false, 0), (0, 0, 0), (0, 0, 0), [])),
  (56, (.getfield 179, (false, 59), (false, 0), (1, 2, 0), (0, 0, 147), [])),
  (59, (.isub, (false, 60), (false, 0), (0, 0, 0), (0, 0, 0), [])),
  (60, (.if_icmp .gt 23, (false, 63), (false, 83), (0, 0, 0), (0, 0, 0), [])),
  (63, (.aload_n 1, (false, 64), (false, 0), (0, 0, 0), (0, 0, 0), [])),
  (64, (.dup, (false, 65), (false, 0), (0, 0, 0), (0, 0, 0), [])),
  (65, (.getfield 192, (false, 68), (false, 0), (1, 12, 0), (0, 0, 163), [])),
  (68, (.aload_n 3, (false, 69), (false, 0), (0, 0, 0), (0, 0, 0), [])),
  (69, (.getfield 74, (false, 72), (false, 0), (0, 1, 0), (0, 0, 212), [])),
  (72, (.isub, (false, 73), (false, 0), (0, 0, 0), (0, 0, 0), [])),
  (73, (.putfield 192, (false, 76), (false, 0), (1, 12, 0), (0, 0, 163), [])),
  (76, (.aload_n 3, (false, 77), (false, 0), (0, 0, 0), (0, 0, 0), [])),
  (77, (.iconst 0, (false, 78), (false, 0), (0, 0, 0), (0, 0, 0), [(0, (false, 0))])),
  (78, (.bipush (-9), (false, 80), (false, 0), (0, 0, 0), (0, 0, 0), [((-9), (false, 0))])),
  (80, (.invokevirtual 113, (false, 83), (false, 0), (0, 3, 0), (0, 0, 359), [])),
  (83, (.iinc 2 1, (false, 86), (false, 0), (0, 0, 0), (0, 0, 0), [(1, (false, 0))])),
  (86, (.goto (-76), (false, 89), (true, 10), (0, 0, 0), (0, 0, 0), [])),
  (89, (.return_, (false, 90), (false, 0), (0, 0, 0), (0, 0, 0), []))]
set_option maxRecDepth 100000 in
theorem pe_P_endRound : pw_fnd pp_P_endRound 0 = (.aload_n 1, (false, 1), (false, 0), (0, 0, 0), (0, 0, 0), []) ∧
  pw_fnd pp_P_endRound 1 = (.getfield 192, (false, 4), (false, 0), (1, 12, 0), (0, 0, 163), []) ∧
  pw_fnd pp_P_endRound 4 = (.ifCond .ne 4, (false, 7), (false, 8), (0, 0, 0), (0, 0, 0), []) ∧
  pw_fnd pp_P_endRound 7 = (.return_, (false, 8), (false, 0), (0, 0, 0), (0, 0, 0), []) ∧
  pw_fnd pp_P_endRound 8 = (.iconst 0, (false, 9), (false, 0), (0, 0, 0), (0, 0, 0), [(0, (false, 0))]) ∧
  pw_fnd pp_P_endRound 9 = (.istore_n 2, (true, 10), (false, 0), (0, 0, 0), (0, 0, 0), []) ∧
  pw_fnd pp_P_endRound 10 = (.iload_n 2, (false, 11), (false, 0), (0, 0, 0), (0, 0, 0), []) ∧
  pw_fnd pp_P_endRound 11 = (.aload_n 0, (false, 12), (false, 0), (0, 0, 0), (0, 0, 0), []) ∧
  pw_fnd pp_P_endRound 12 = (.getfield 45, (false, 15), (false, 0), (3, 5, 0), (0, 0, 91), []) ∧
  pw_fnd pp_P_endRound 15 = (.if_icmp .ge 74, (false, 18), (false, 89), (0, 0, 0), (0, 0, 0), []) ∧
  pw_fnd pp_P_endRound 18 = (.aload_n 0, (false, 19), (false, 0), (0, 0, 0), (0, 0, 0), []) ∧
  pw_fnd pp_P_endRound 19 = (.iload_n 2, (false, 20), (false, 0), (0, 0, 0), (0, 0, 0), []) ∧
  pw_fnd pp_P_endRound 20 = (.invokevirtual 66, (false, 23), (false, 3), (16, 2, 2), (0, 0, 275), []) ∧
  pw_fnd pp_P_endRound 23 = (.astore_n 3, (false, 24), (false, 0), (0, 0, 0), (0, 0, 0), []) ∧
  pw_fnd pp_P_endRound 24 = (.aload_n 3, (false, 25), (false, 0), (0, 0, 0), (0, 0, 0), []) ∧
  pw_fnd pp_P_endRound 25 = (.ifnull 58, (false, 28), (false, 83), (0, 0, 0), (0, 0, 0), []) ∧
  pw_fnd pp_P_endRound 28 = (.aload_n 3, (false, 29), (false, 0), (0, 0, 0), (0, 0, 0), []) ∧
  pw_fnd pp_P_endRound 29 = (.getfield 94, (false, 32), (false, 0), (0, 5, 0), (0, 0, 218), []) ∧
  pw_fnd pp_P_endRound 32 = (.iconst 3, (false, 33), (false, 0), (0, 0, 0), (0, 0, 0), [(3, (false, 0))]) ∧
  pw_fnd pp_P_endRound 33 = (.if_icmp .ne 50, (false, 36), (false, 83), (0, 0, 0), (0, 0, 0), []) ∧
  pw_fnd pp_P_endRound 36 = (.aload_n 3, (false, 37), (false, 0), (0, 0, 0), (0, 0, 0), []) ∧
  pw_fnd pp_P_endRound 37 = (.getfield 133, (false, 40), (false, 0), (0, 6, 0), (0, 0, 220), []) ∧
  pw_fnd pp_P_endRound 40 = (.aload_n 1, (false, 41), (false, 0), (0, 0, 0), (0, 0, 0), []) ∧
  pw_fnd pp_P_endRound 41 = (.getfield 80, (false, 44), (false, 0), (1, 0, 0), (0, 0, 143), []) ∧
  pw_fnd pp_P_endRound 44 = (.if_icmp .ne 39, (false, 47), (false, 83), (0, 0, 0), (0, 0, 0), []) ∧
  pw_fnd pp_P_endRound 47 = (.aload_n 3, (false, 48), (false, 0), (0, 0, 0), (0, 0, 0), []) ∧
  pw_fnd pp_P_endRound 48 = (.getfield 254, (false, 51), (false, 0), (0, 7, 0), (0, 0, 221), []) ∧
  pw_fnd pp_P_endRound 51 = (.aload_n 0, (false, 52), (false, 0), (0, 0, 0), (0, 0, 0), []) ∧
  pw_fnd pp_P_endRound 52 = (.getfield 97, (false, 55), (false, 0), (3, 6, 0), (0, 0, 92), []) ∧
  pw_fnd pp_P_endRound 55 = (.aload_n 1, (false, 56), (false, 0), (0, 0, 0), (0, 0, 0), []) ∧
  pw_fnd pp_P_endRound 56 = (.getfield 179, (false, 59), (false, 0), (1, 2, 0), (0, 0, 147), []) ∧
  pw_fnd pp_P_endRound 59 = (.isub, (false, 60), (false, 0), (0, 0, 0), (0, 0, 0), []) ∧
  pw_fnd pp_P_endRound 60 = (.if_icmp .gt 23, (false, 63), (false, 83), (0, 0, 0), (0, 0, 0), []) ∧
  pw_fnd pp_P_endRound 63 = (.aload_n 1, (false, 64), (false, 0), (0, 0, 0), (0, 0, 0), []) ∧
  pw_fnd pp_P_endRound 64 = (.dup, (false, 65), (false, 0), (0, 0, 0), (0, 0, 0), []) ∧
  pw_fnd pp_P_endRound 65 = (.getfield 192, (false, 68), (false, 0), (1, 12, 0), (0, 0, 163), []) ∧
  pw_fnd pp_P_endRound 68 = (.aload_n 3, (false, 69), (false, 0), (0, 0, 0), (0, 0, 0), []) ∧
  pw_fnd pp_P_endRound 69 = (.getfield 74, (false, 72), (false, 0), (0, 1, 0), (0, 0, 212), []) ∧
  pw_fnd pp_P_endRound 72 = (.isub, (false, 73), (false, 0), (0, 0, 0), (0, 0, 0), []) ∧
  pw_fnd pp_P_endRound 73 = (.putfield 192, (false, 76), (false, 0), (1, 12, 0), (0, 0, 163), []) ∧
  pw_fnd pp_P_endRound 76 = (.aload_n 3, (false, 77), (false, 0), (0, 0, 0), (0, 0, 0), []) ∧
  pw_fnd pp_P_endRound 77 = (.iconst 0, (false, 78), (false, 0), (0, 0, 0), (0, 0, 0), [(0, (false, 0))]) ∧
  pw_fnd pp_P_endRound 78 = (.bipush (-9), (false, 80), (false, 0), (0, 0, 0), (0, 0, 0), [((-9), (false, 0))]) ∧
  pw_fnd pp_P_endRound 80 = (.invokevirtual 113, (false, 83), (false, 0), (0, 3, 0), (0, 0, 359), []) ∧
  pw_fnd pp_P_endRound 83 = (.iinc 2 1, (false, 86), (false, 0), (0, 0, 0), (0, 0, 0), [(1, (false, 0))]) ∧
  pw_fnd pp_P_endRound 86 = (.goto (-76), (false, 89), (true, 10), (0, 0, 0), (0, 0, 0), []) ∧
  pw_fnd pp_P_endRound 89 = (.return_, (false, 90), (false, 0), (0, 0, 0), (0, 0, 0), []) :=
  ⟨rfl, rfl, rfl, rfl, rfl, rfl, rfl, rfl, rfl, rfl, rfl, rfl, rfl, rfl, rfl, rfl, rfl, rfl, rfl, rfl, rfl, rfl, rfl, rfl, rfl, rfl, rfl, rfl, rfl, rfl, rfl, rfl, rfl, rfl, rfl, rfl, rfl, rfl, rfl, rfl, rfl, rfl, rfl, rfl, rfl, rfl, rfl⟩
set_option maxRecDepth 100000 in
theorem pk_P_endRound : pp_P_endRound.all (fun q => pw_chk pw_jt pm_P_endRound q.1 q.2) = true := by decide +kernel
def pp_P_board : List (Nat × pw_E) := [(0, (.aload_n 2, (false, 1), (false, 0), (0, 0, 0), (0, 0, 0), [])),
  (1, (.iload_n 3, (false, 2), (false, 0), (0, 0, 0), (0, 0, 0), [])),
  (2, (.invokevirtual 139, (false, 5), (false, 2), (11, 2, 0), (0, 0, 387), [])),
  (5, (.aload 4, (false, 7), (false, 0), (0, 0, 0), (0, 0, 0), [])),
  (7, (.iconst 3, (false, 8), (false, 0), (0, 0, 0), (0, 0, 0), [(3, (false, 0))])),
  (8, (.aload_n 1, (false, 9), (false, 0), (0, 0, 0), (0, 0, 0), [])),
  (9, (.getfield 80, (false, 12), (false, 0), (1, 0, 0), (0, 0, 143), [])),
  (12, (.invokevirtual 113, (false, 15), (false, 0), (0, 3, 0), (0, 0, 359), [])),
  (15, (.aload 4, (false, 17), (false, 0), (0, 0, 0), (0, 0, 0), [])),
  (17, (.aload_n 0, (false, 18), (false, 0), (0, 0, 0), (0, 0, 0), [])),
  (18, (.getfield 97, (false, 21), (false, 0), (3, 6, 0), (0, 0, 92), [])),
  (21, (.putfield 254, (false, 24), (false, 0), (0, 7, 0), (0, 0, 221), [])),
  (24, (.aload 4, (false, 26), (false, 0), (0, 0, 0), (0, 0, 0), [])),
  (26, (.dup, (false, 27), (false, 0), (0, 0, 0), (0, 0, 0), [])),
  (27, (.getfield 164, (false, 30), (false, 0), (0, 9, 0), (0, 0, 223), [])),
  (30, (.iconst 1, (false, 31), (false, 0), (0, 0, 0), (0, 0, 0), [(1, (false, 0))])),
  (31, (.iadd, (false, 32), (false, 0), (0, 0, 0), (0, 0, 0), [])),
  (32, (.putfield 164, (false, 35), (false, 0), (0, 9, 0), (0, 0, 223), [])),
  (35, (.aload_n 1, (false, 36), (false, 0), (0, 0, 0), (0, 0, 0), [])),
  (36, (.dup, (false, 37), (false, 0), (0, 0, 0), (0, 0, 0), [])),
  (37, (.getfield 192, (false, 40), (false, 0), (1, 12, 0), (0, 0, 163), [])),
  (40, (.aload 4, (false, 42), (false, 0), (0, 0, 0), (0, 0, 0), [])),
  (42, (.getfield 74, (false, 45), (false, 0), (0, 1, 0), (0, 0, 212), [])),
  (45, (.iadd, (false, 46), (false, 0), (0, 0, 0), (0, 0, 0), [])),
  (46, (.putfield 192, (false, 49), (false, 0), (1, 12, 0), (0, 0, 163), [])),
  (49, (.aload_n 1, (false, 50), (false, 0), (0, 0, 0), (0, 0, 0), [])),
  (50, (.dup, (false, 51), (false, 0), (0, 0, 0), (0, 0, 0), [])),
  (51, (.getfield 195, (false, 54), (false, 0), (1, 13, 0), (0, 0, 164), [])),
  (54, (.aload 4, (false, 56), (false, 0), (0, 0, 0), (0, 0, 0), [])),
  (56, (.getfield 74, (false, 59), (false, 0), (0, 1, 0), (0, 0, 212), [])),
  (59, (.iadd, (false, 60), (false, 0), (0, 0, 0), (0, 0, 0), [])),
  (60, (.putfield 195, (false, 63), (false, 0), (1, 13, 0), (0, 0, 164), [])),
  (63, (.aload 4, (false, 65), (false, 0), (0, 0, 0), (0, 0, 0), [])),
  (65, (.getfield 74, (false, 68), (false, 0), (0, 1, 0), (0, 0, 212), [])),
  (68, (.ireturn, (false, 69), (false, 0), (0, 0, 0), (0, 0, 0), []))]
set_option maxRecDepth 100000 in
theorem pe_P_board : pw_fnd pp_P_board 0 = (.aload_n 2, (false, 1), (false, 0), (0, 0, 0), (0, 0, 0), []) ∧
  pw_fnd pp_P_board 1 = (.iload_n 3, (false, 2), (false, 0), (0, 0, 0), (0, 0, 0), []) ∧
  pw_fnd pp_P_board 2 = (.invokevirtual 139, (false, 5), (false, 2), (11, 2, 0), (0, 0, 387), []) ∧
  pw_fnd pp_P_board 5 = (.aload 4, (false, 7), (false, 0), (0, 0, 0), (0, 0, 0), []) ∧
  pw_fnd pp_P_board 7 = (.iconst 3, (false, 8), (false, 0), (0, 0, 0), (0, 0, 0), [(3, (false, 0))]) ∧
  pw_fnd pp_P_board 8 = (.aload_n 1, (false, 9), (false, 0), (0, 0, 0), (0, 0, 0), []) ∧
  pw_fnd pp_P_board 9 = (.getfield 80, (false, 12), (false, 0), (1, 0, 0), (0, 0, 143), []) ∧
  pw_fnd pp_P_board 12 = (.invokevirtual 113, (false, 15), (false, 0), (0, 3, 0), (0, 0, 359), []) ∧
  pw_fnd pp_P_board 15 = (.aload 4, (false, 17), (false, 0), (0, 0, 0), (0, 0, 0), []) ∧
  pw_fnd pp_P_board 17 = (.aload_n 0, (false, 18), (false, 0), (0, 0, 0), (0, 0, 0), []) ∧
  pw_fnd pp_P_board 18 = (.getfield 97, (false, 21), (false, 0), (3, 6, 0), (0, 0, 92), []) ∧
  pw_fnd pp_P_board 21 = (.putfield 254, (false, 24), (false, 0), (0, 7, 0), (0, 0, 221), []) ∧
  pw_fnd pp_P_board 24 = (.aload 4, (false, 26), (false, 0), (0, 0, 0), (0, 0, 0), []) ∧
  pw_fnd pp_P_board 26 = (.dup, (false, 27), (false, 0), (0, 0, 0), (0, 0, 0), []) ∧
  pw_fnd pp_P_board 27 = (.getfield 164, (false, 30), (false, 0), (0, 9, 0), (0, 0, 223), []) ∧
  pw_fnd pp_P_board 30 = (.iconst 1, (false, 31), (false, 0), (0, 0, 0), (0, 0, 0), [(1, (false, 0))]) ∧
  pw_fnd pp_P_board 31 = (.iadd, (false, 32), (false, 0), (0, 0, 0), (0, 0, 0), []) ∧
  pw_fnd pp_P_board 32 = (.putfield 164, (false, 35), (false, 0), (0, 9, 0), (0, 0, 223), []) ∧
  pw_fnd pp_P_board 35 = (.aload_n 1, (false, 36), (false, 0), (0, 0, 0), (0, 0, 0), []) ∧
  pw_fnd pp_P_board 36 = (.dup, (false, 37), (false, 0), (0, 0, 0), (0, 0, 0), []) ∧
  pw_fnd pp_P_board 37 = (.getfield 192, (false, 40), (false, 0), (1, 12, 0), (0, 0, 163), []) ∧
  pw_fnd pp_P_board 40 = (.aload 4, (false, 42), (false, 0), (0, 0, 0), (0, 0, 0), []) ∧
  pw_fnd pp_P_board 42 = (.getfield 74, (false, 45), (false, 0), (0, 1, 0), (0, 0, 212), []) ∧
  pw_fnd pp_P_board 45 = (.iadd, (false, 46), (false, 0), (0, 0, 0), (0, 0, 0), []) ∧
  pw_fnd pp_P_board 46 = (.putfield 192, (false, 49), (false, 0), (1, 12, 0), (0, 0, 163), []) ∧
  pw_fnd pp_P_board 49 = (.aload_n 1, (false, 50), (false, 0), (0, 0, 0), (0, 0, 0), []) ∧
  pw_fnd pp_P_board 50 = (.dup, (false, 51), (false, 0), (0, 0, 0), (0, 0, 0), []) ∧
  pw_fnd pp_P_board 51 = (.getfield 195, (false, 54), (false, 0), (1, 13, 0), (0, 0, 164), []) ∧
  pw_fnd pp_P_board 54 = (.aload 4, (false, 56), (false, 0), (0, 0, 0), (0, 0, 0), []) ∧
  pw_fnd pp_P_board 56 = (.getfield 74, (false, 59), (false, 0), (0, 1, 0), (0, 0, 212), []) ∧
  pw_fnd pp_P_board 59 = (.iadd, (false, 60), (false, 0), (0, 0, 0), (0, 0, 0), []) ∧
  pw_fnd pp_P_board 60 = (.putfield 195, (false, 63), (false, 0), (1, 13, 0), (0, 0, 164), []) ∧
  pw_fnd pp_P_board 63 = (.aload 4, (false, 65), (false, 0), (0, 0, 0), (0, 0, 0), []) ∧
  pw_fnd pp_P_board 65 = (.getfield 74, (false, 68), (false, 0), (0, 1, 0), (0, 0, 212), []) ∧
  pw_fnd pp_P_board 68 = (.ireturn, (false, 69), (false, 0), (0, 0, 0), (0, 0, 0), []) :=
  ⟨rfl, rfl, rfl, rfl, rfl, rfl, rfl, rfl, rfl, rfl, rfl, rfl, rfl, rfl, rfl, rfl, rfl, rfl, rfl, rfl, rfl, rfl, rfl, rfl, rfl, rfl, rfl, rfl, rfl, rfl, rfl, rfl, rfl, rfl, rfl⟩
set_option maxRecDepth 100000 in
theorem pk_P_board : pp_P_board.all (fun q => pw_chk pw_jt pm_P_board q.1 q.2) = true := by decide +kernel
def pp_P_group : List (Nat × pw_E) := [(0, (.iload_n 1, (false, 1), (false, 0), (0, 0, 0), (0, 0, 0), [])),
  (1, (.iconst 1, (false, 2), (false, 0), (0, 0, 0), (0, 0, 0), [(1, (false, 0))])),
  (2, (.if_icmp .ge 10, (false, 5), (false, 12), (0, 0, 0), (0, 0, 0), [])),
  (5, (.aload_n 0, (false, 6), (false, 0), (0, 0, 0), (0, 0, 0), [])),
  (6, (.bipush (-4), (false, 8), (false, 0), (0, 0, 0), (0, 0, 0), [((-4), (false, 0))])),
  (8, (.invokevirtual 28, (false, 11), (false, 3), (13, 2, 1), (0, 0, 116), [])),
  (11, (.ireturn, (false, 12), (false, 0), (0, 0, 0), (0, 0, 0), [])),
  (12, (.iload_n 1, (false, 13), (false, 0), (0, 0, 0), (0, 0, 0), [])),
  (13, (.bipush 8, (false, 15), (false, 0), (0, 0, 0), (0, 0, 0), [(8, (false, 0))])),
  (15, (.if_icmp .gt 22, (false, 18), (false, 37), (0, 0, 0), (0, 0, 0), [])),
  (18, (.aload_n 0, (false, 19), (false, 0), (0, 0, 0), (0, 0, 0), [])),
  (19, (.getfield 45, (false, 22), (false, 0), (3, 5, 0), (0, 0, 91), [])),
  (22, (.ifCond .lt 15, (false, 25), (false, 37), (0, 0, 0), (0, 0, 0), [])),
  (25, (.aload_n 0, (false, 26), (false, 0), (0, 0, 0), (0, 0, 0), [])),
  (26, (.getfield 45, (false, 29), (false, 0), (3, 5, 0), (0, 0, 91), [])),
  (29, (.aload_n 0, (false, 30), (false, 0), (0, 0, 0), (0, 0, 0), [])),
  (30, (.getfield 17, (false, 33), (false, 0), (3, 1, 1), (0, 0, 87), [])),
  (33, (.arraylength, (false, 34), (false, 0), (0, 0, 0), (0, 0, 0), [])),
  (34, (.if_icmp .lt 10, (false, 37), (false, 44), (0, 0, 0), (0, 0, 0), [])),
  (37, (.aload_n 0, (false, 38), (false, 0), (0, 0, 0), (0, 0, 0), [])),
  (38, (.bipush (-6), (false, 40), (false, 0), (0, 0, 0), (0, 0, 0), [((-6), (false, 0))])),
  (40, (.invokevirtual 28, (false, 43), (false, 3), (13, 2, 1), (0, 0, 116), [])),
  (43, (.ireturn, (false, 44), (false, 0), (0, 0, 0), (0, 0, 0), [])),
  (44, (.aload_n 0, (false, 45), (false, 0), (0, 0, 0), (0, 0, 0), [])),
  (45, (.getfield 45, (false, 48), (false, 0), (3, 5, 0), (0, 0, 91), [])),
  (48, (.istore_n 2, (false, 49), (false, 0), (0, 0, 0), (0, 0, 0), [])),
  (49, (.aload_n 0, (false, 50), (false, 0), (0, 0, 0), (0, 0, 0), [])),
  (50, (.getfield 17, (false, 53), (false, 0), (3, 1, 1), (0, 0, 87), [])),
  (53, (.iload_n 2, (false, 54), (false, 0), (0, 0, 0), (0, 0, 0), [])),
  (54, (.new 15, (false, 57), (false, 0), (0, 12, 0), (204, 73, 84), [])),
  (57, (.dup, (false, 58), (false, 0), (0, 0, 0), (0, 0, 0), [])),
  (58, (.iload_n 2, (false, 59), (false, 0), (0, 0, 0), (0, 0, 0), [])),
  (59, (.iload_n 1, (false, 60), (false, 0), (0, 0, 0), (0, 0, 0), [])),
  (60, (.invokespecial 48, (false, 63), (false, 0), (31, 3, 0), (2, 4, 205), [])),
  (63, (.aastore, (false, 64), (false, 0), (0, 0, 0), (0, 0, 0), [])),
  (64, (.aload_n 0, (false, 65), (false, 0), (0, 0, 0), (0, 0, 0), [])),
  (65, (.dup, (false, 66), (false, 0), (0, 0, 0), (0, 0, 0), [])),
  (66, (.getfield 45, (false, 69), (false, 0), (3, 5, 0), (0, 0, 91), [])),
  (69, (.iconst 1, (false, 70), (false, 0), (0, 0, 0), (0, 0, 0), [(1, (false, 0))])),
  (70, (.iadd, (false, 71), (false, 0), (0, 0, 0), (0, 0, 0), [])),
  (71, (.putfield 45, (false, 74), (false, 0), (3, 5, 0), (0, 0, 91), [])),
  (74, (.iload_n 2, (false, 75), (false, 0), (0, 0, 0), (0, 0, 0), [])),
  (75, (.ireturn, (false, 76), (false, 0), (0, 0, 0), (0, 0, 0), []))]
set_option maxRecDepth 100000 in
theorem pe_P_group : pw_fnd pp_P_group 0 = (.iload_n 1, (false, 1), (false, 0), (0, 0, 0), (0, 0, 0), []) ∧
  pw_fnd pp_P_group 1 = (.iconst 1, (false, 2), (false, 0), (0, 0, 0), (0, 0, 0), [(1, (false, 0))]) ∧
  pw_fnd pp_P_group 2 = (.if_icmp .ge 10, (false, 5), (false, 12), (0, 0, 0), (0, 0, 0), []) ∧
  pw_fnd pp_P_group 5 = (.aload_n 0, (false, 6), (false, 0), (0, 0, 0), (0, 0, 0), []) ∧
  pw_fnd pp_P_group 6 = (.bipush (-4), (false, 8), (false, 0), (0, 0, 0), (0, 0, 0), [((-4), (false, 0))]) ∧
  pw_fnd pp_P_group 8 = (.invokevirtual 28, (false, 11), (false, 3), (13, 2, 1), (0, 0, 116), []) ∧
  pw_fnd pp_P_group 11 = (.ireturn, (false, 12), (false, 0), (0, 0, 0), (0, 0, 0), []) ∧
  pw_fnd pp_P_group 12 = (.iload_n 1, (false, 13), (false, 0), (0, 0, 0), (0, 0, 0), []) ∧
  pw_fnd pp_P_group 13 = (.bipush 8, (false, 15), (false, 0), (0, 0, 0), (0, 0, 0), [(8, (false, 0))]) ∧
  pw_fnd pp_P_group 15 = (.if_icmp .gt 22, (false, 18), (false, 37), (0, 0, 0), (0, 0, 0), []) ∧
  pw_fnd pp_P_group 18 = (.aload_n 0, (false, 19), (false, 0), (0, 0, 0), (0, 0, 0), []) ∧
  pw_fnd pp_P_group 19 = (.getfield 45, (false, 22), (false, 0), (3, 5, 0), (0, 0, 91), []) ∧
  pw_fnd pp_P_group 22 = (.ifCond .lt 15, (false, 25), (false, 37), (0, 0, 0), (0, 0, 0), []) ∧
  pw_fnd pp_P_group 25 = (.aload_n 0, (false, 26), (false, 0), (0, 0, 0), (0, 0, 0), []) ∧
  pw_fnd pp_P_group 26 = (.getfield 45, (false, 29), (false, 0), (3, 5, 0), (0, 0, 91), []) ∧
  pw_fnd pp_P_group 29 = (.aload_n 0, (false, 30), (false, 0), (0, 0, 0), (0, 0, 0), []) ∧
  pw_fnd pp_P_group 30 = (.getfield 17, (false, 33), (false, 0), (3, 1, 1), (0, 0, 87), []) ∧
  pw_fnd pp_P_group 33 = (.arraylength, (false, 34), (false, 0), (0, 0, 0), (0, 0, 0), []) ∧
  pw_fnd pp_P_group 34 = (.if_icmp .lt 10, (false, 37), (false, 44), (0, 0, 0), (0, 0, 0), []) ∧
  pw_fnd pp_P_group 37 = (.aload_n 0, (false, 38), (false, 0), (0, 0, 0), (0, 0, 0), []) ∧
  pw_fnd pp_P_group 38 = (.bipush (-6), (false, 40), (false, 0), (0, 0, 0), (0, 0, 0), [((-6), (false, 0))]) ∧
  pw_fnd pp_P_group 40 = (.invokevirtual 28, (false, 43), (false, 3), (13, 2, 1), (0, 0, 116), []) ∧
  pw_fnd pp_P_group 43 = (.ireturn, (false, 44), (false, 0), (0, 0, 0), (0, 0, 0), []) ∧
  pw_fnd pp_P_group 44 = (.aload_n 0, (false, 45), (false, 0), (0, 0, 0), (0, 0, 0), []) ∧
  pw_fnd pp_P_group 45 = (.getfield 45, (false, 48), (false, 0), (3, 5, 0), (0, 0, 91), []) ∧
  pw_fnd pp_P_group 48 = (.istore_n 2, (false, 49), (false, 0), (0, 0, 0), (0, 0, 0), []) ∧
  pw_fnd pp_P_group 49 = (.aload_n 0, (false, 50), (false, 0), (0, 0, 0), (0, 0, 0), []) ∧
  pw_fnd pp_P_group 50 = (.getfield 17, (false, 53), (false, 0), (3, 1, 1), (0, 0, 87), []) ∧
  pw_fnd pp_P_group 53 = (.iload_n 2, (false, 54), (false, 0), (0, 0, 0), (0, 0, 0), []) ∧
  pw_fnd pp_P_group 54 = (.new 15, (false, 57), (false, 0), (0, 12, 0), (204, 73, 84), []) ∧
  pw_fnd pp_P_group 57 = (.dup, (false, 58), (false, 0), (0, 0, 0), (0, 0, 0), []) ∧
  pw_fnd pp_P_group 58 = (.iload_n 2, (false, 59), (false, 0), (0, 0, 0), (0, 0, 0), []) ∧
  pw_fnd pp_P_group 59 = (.iload_n 1, (false, 60), (false, 0), (0, 0, 0), (0, 0, 0), []) ∧
  pw_fnd pp_P_group 60 = (.invokespecial 48, (false, 63), (false, 0), (31, 3, 0), (2, 4, 205), []) ∧
  pw_fnd pp_P_group 63 = (.aastore, (false, 64), (false, 0), (0, 0, 0), (0, 0, 0), []) ∧
  pw_fnd pp_P_group 64 = (.aload_n 0, (false, 65), (false, 0), (0, 0, 0), (0, 0, 0), []) ∧
  pw_fnd pp_P_group 65 = (.dup, (false, 66), (false, 0), (0, 0, 0), (0, 0, 0), []) ∧
  pw_fnd pp_P_group 66 = (.getfield 45, (false, 69), (false, 0), (3, 5, 0), (0, 0, 91), []) ∧
  pw_fnd pp_P_group 69 = (.iconst 1, (false, 70), (false, 0), (0, 0, 0), (0, 0, 0), [(1, (false, 0))]) ∧
  pw_fnd pp_P_group 70 = (.iadd, (false, 71), (false, 0), (0, 0, 0), (0, 0, 0), []) ∧
  pw_fnd pp_P_group 71 = (.putfield 45, (false, 74), (false, 0), (3, 5, 0), (0, 0, 91), []) ∧
  pw_fnd pp_P_group 74 = (.iload_n 2, (false, 75), (false, 0), (0, 0, 0), (0, 0, 0), []) ∧
  pw_fnd pp_P_group 75 = (.ireturn, (false, 76), (false, 0), (0, 0, 0), (0, 0, 0), []) :=
  ⟨rfl, rfl, rfl, rfl, rfl, rfl, rfl, rfl, rfl, rfl, rfl, rfl, rfl, rfl, rfl, rfl, rfl, rfl, rfl, rfl, rfl, rfl, rfl, rfl, rfl, rfl, rfl, rfl, rfl, rfl, rfl, rfl, rfl, rfl, rfl, rfl, rfl, rfl, rfl, rfl, rfl, rfl, rfl⟩
set_option maxRecDepth 100000 in
theorem pk_P_group : pp_P_group.all (fun q => pw_chk pw_jt pm_P_group q.1 q.2) = true := by decide +kernel
def pp_P_leave : List (Nat × pw_E) := [(0, (.aload_n 0, (false, 1), (false, 0), (0, 0, 0), (0, 0, 0), [])),
  (1, (.iload_n 1, (false, 2), (false, 0), (0, 0, 0), (0, 0, 0), [])),
  (2, (.invokevirtual 66, (false, 5), (false, 3), (16, 2, 2), (0, 0, 275), [])),
  (5, (.astore_n 2, (false, 6), (false, 0), (0, 0, 0), (0, 0, 0), [])),
  (6, (.aload_n 2, (false, 7), (false, 0), (0, 0, 0), (0, 0, 0), [])),
  (7, (.ifnonnull 9, (false, 10), (false, 16), (0, 0, 0), (0, 0, 0), [])),
  (10, (.aload_n 0, (false, 11), (false, 0), (0, 0, 0), (0, 0, 0), [])),
  (11, (.iconst (-1), (false, 12), (false, 0), (0, 0, 0), (0, 0, 0), [((-1), (false, 0))])),
  (12, (.invokevirtual 28, (false, 15), (false, 3), (13, 2, 1), (0, 0, 116), [])),
  (15, (.ireturn, (false, 16), (false, 0), (0, 0, 0), (0, 0, 0), [])),
  (16, (.aload_n 0, (false, 17), (false, 0), (0, 0, 0), (0, 0, 0), [])),
  (17, (.aload_n 2, (false, 18), (false, 0), (0, 0, 0), (0, 0, 0), [])),
  (18, (.invokevirtual 129, (false, 21), (false, 3), (48, 2, 2), (0, 0, 375), [])),
  (21, (.astore_n 3, (false, 22), (false, 0), (0, 0, 0), (0, 0, 0), [])),
  (22, (.aload_n 3, (false, 23), (false, 0), (0, 0, 0), (0, 0, 0), [])),
  (23, (.ifnonnull 10, (false, 26), (false, 33), (0, 0, 0), (0, 0, 0), [])),
  (26, (.aload_n 0, (false, 27), (false, 0), (0, 0, 0), (0, 0, 0), [])),
  (27, (.bipush (-2), (false, 29), (false, 0), (0, 0, 0), (0, 0, 0), [((-2), (false, 0))])),
  (29, (.invokevirtual 28, (false, 32), (false, 3), (13, 2, 1), (0, 0, 116), [])),
  (32, (.ireturn, (false, 33), (false, 0), (0, 0, 0), (0, 0, 0), [])),
  (33, (.aload_n 2, (false, 34), (false, 0), (0, 0, 0), (0, 0, 0), [])),
  (34, (.getfield 133, (false, 37), (false, 0), (0, 6, 0), (0, 0, 220), [])),
  (37, (.istore 4, (false, 39), (false, 0), (0, 0, 0), (0, 0, 0), [])),
  (39, (.aload_n 3, (false, 40), (false, 0), (0, 0, 0), (0, 0, 0), [])),
  (40, (.aload_n 3, (false, 41), (false, 0), (0, 0, 0), (0, 0, 0), [])),
  (41, (.aload_n 2, (false, 42), (false, 0), (0, 0, 0), (0, 0, 0), [])),
  (42, (.getfield 120, (false, 45), (false, 0), (0, 0, 0), (0, 0, 210), [])),
  (45, (.invokevirtual 136, (false, 48), (false, 2), (40, 2, 1), (0, 0, 379), [])),
  (48, (.invokevirtual 139, (false, 51), (false, 2), (11, 2, 0), (0, 0, 387), [])),
  (51, (.aload_n 2, (false, 52), (false, 0), (0, 0, 0), (0, 0, 0), [])),
  (52, (.iconst 0, (false, 53), (false, 0), (0, 0, 0), (0, 0, 0), [(0, (false, 0))])),
  (53, (.bipush (-9), (false, 55), (false, 0), (0, 0, 0), (0, 0, 0), [((-9), (false, 0))])),
  (55, (.invokevirtual 113, (false, 58), (false, 0), (0, 3, 0), (0, 0, 359), [])),
  (58, (.iload 4, (false, 60), (false, 0), (0, 0, 0), (0, 0, 0), [])),
  (60, (.ireturn, (false, 61), (false, 0), (0, 0, 0), (0, 0, 0), []))]
set_option maxRecDepth 100000 in
theorem pe_P_leave : pw_fnd pp_P_leave 0 = (.aload_n 0, (false, 1), (false, 0), (0, 0, 0), (0, 0, 0), []) ∧
  pw_fnd pp_P_leave 1 = (.iload_n 1, (false, 2), (false, 0), (0, 0, 0), (0, 0, 0), []) ∧
  pw_fnd pp_P_leave 2 = (.invokevirtual 66, (false, 5), (false, 3), (16, 2, 2), (0, 0, 275), []) ∧
  pw_fnd pp_P_leave 5 = (.astore_n 2, (false, 6), (false, 0), (0, 0, 0), (0, 0, 0), []) ∧
  pw_fnd pp_P_leave 6 = (.aload_n 2, (false, 7), (false, 0), (0, 0, 0), (0, 0, 0), []) ∧
  pw_fnd pp_P_leave 7 = (.ifnonnull 9, (false, 10), (false, 16), (0, 0, 0), (0, 0, 0), []) ∧
  pw_fnd pp_P_leave 10 = (.aload_n 0, (false, 11), (false, 0), (0, 0, 0), (0, 0, 0), []) ∧
  pw_fnd pp_P_leave 11 = (.iconst (-1), (false, 12), (false, 0), (0, 0, 0), (0, 0, 0), [((-1), (false, 0))]) ∧
  pw_fnd pp_P_leave 12 = (.invokevirtual 28, (false, 15), (false, 3), (13, 2, 1), (0, 0, 116), []) ∧
  pw_fnd pp_P_leave 15 = (.ireturn, (false, 16), (false, 0), (0, 0, 0), (0, 0, 0), []) ∧
  pw_fnd pp_P_leave 16 = (.aload_n 0, (false, 17), (false, 0), (0, 0, 0), (0, 0, 0), []) ∧
  pw_fnd pp_P_leave 17 = (.aload_n 2, (false, 18), (false, 0), (0, 0, 0), (0, 0, 0), []) ∧
  pw_fnd pp_P_leave 18 = (.invokevirtual 129, (false, 21), (false, 3), (48, 2, 2), (0, 0, 375), []) ∧
  pw_fnd pp_P_leave 21 = (.astore_n 3, (false, 22), (false, 0), (0, 0, 0), (0, 0, 0), []) ∧
  pw_fnd pp_P_leave 22 = (.aload_n 3, (false, 23), (false, 0), (0, 0, 0), (0, 0, 0), []) ∧
  pw_fnd pp_P_leave 23 = (.ifnonnull 10, (false, 26), (false, 33), (0, 0, 0), (0, 0, 0), []) ∧
  pw_fnd pp_P_leave 26 = (.aload_n 0, (false, 27), (false, 0), (0, 0, 0), (0, 0, 0), []) ∧
  pw_fnd pp_P_leave 27 = (.bipush (-2), (false, 29), (false, 0), (0, 0, 0), (0, 0, 0), [((-2), (false, 0))]) ∧
  pw_fnd pp_P_leave 29 = (.invokevirtual 28, (false, 32), (false, 3), (13, 2, 1), (0, 0, 116), []) ∧
  pw_fnd pp_P_leave 32 = (.ireturn, (false, 33), (false, 0), (0, 0, 0), (0, 0, 0), []) ∧
  pw_fnd pp_P_leave 33 = (.aload_n 2, (false, 34), (false, 0), (0, 0, 0), (0, 0, 0), []) ∧
  pw_fnd pp_P_leave 34 = (.getfield 133, (false, 37), (false, 0), (0, 6, 0), (0, 0, 220), []) ∧
  pw_fnd pp_P_leave 37 = (.istore 4, (false, 39), (false, 0), (0, 0, 0), (0, 0, 0), []) ∧
  pw_fnd pp_P_leave 39 = (.aload_n 3, (false, 40), (false, 0), (0, 0, 0), (0, 0, 0), []) ∧
  pw_fnd pp_P_leave 40 = (.aload_n 3, (false, 41), (false, 0), (0, 0, 0), (0, 0, 0), []) ∧
  pw_fnd pp_P_leave 41 = (.aload_n 2, (false, 42), (false, 0), (0, 0, 0), (0, 0, 0), []) ∧
  pw_fnd pp_P_leave 42 = (.getfield 120, (false, 45), (false, 0), (0, 0, 0), (0, 0, 210), []) ∧
  pw_fnd pp_P_leave 45 = (.invokevirtual 136, (false, 48), (false, 2), (40, 2, 1), (0, 0, 379), []) ∧
  pw_fnd pp_P_leave 48 = (.invokevirtual 139, (false, 51), (false, 2), (11, 2, 0), (0, 0, 387), []) ∧
  pw_fnd pp_P_leave 51 = (.aload_n 2, (false, 52), (false, 0), (0, 0, 0), (0, 0, 0), []) ∧
  pw_fnd pp_P_leave 52 = (.iconst 0, (false, 53), (false, 0), (0, 0, 0), (0, 0, 0), [(0, (false, 0))]) ∧
  pw_fnd pp_P_leave 53 = (.bipush (-9), (false, 55), (false, 0), (0, 0, 0), (0, 0, 0), [((-9), (false, 0))]) ∧
  pw_fnd pp_P_leave 55 = (.invokevirtual 113, (false, 58), (false, 0), (0, 3, 0), (0, 0, 359), []) ∧
  pw_fnd pp_P_leave 58 = (.iload 4, (false, 60), (false, 0), (0, 0, 0), (0, 0, 0), []) ∧
  pw_fnd pp_P_leave 60 = (.ireturn, (false, 61), (false, 0), (0, 0, 0), (0, 0, 0), []) :=
  ⟨rfl, rfl, rfl, rfl, rfl, rfl, rfl, rfl, rfl, rfl, rfl, rfl, rfl, rfl, rfl, rfl, rfl, rfl, rfl, rfl, rfl, rfl, rfl, rfl, rfl, rfl, rfl, rfl, rfl, rfl, rfl, rfl, rfl, rfl, rfl⟩
set_option maxRecDepth 100000 in
theorem pk_P_leave : pp_P_leave.all (fun q => pw_chk pw_jt pm_P_leave q.1 q.2) = true := by decide +kernel
def pp_P_wait : List (Nat × pw_E) := [(0, (.aload_n 0, (false, 1), (false, 0), (0, 0, 0), (0, 0, 0), [])),
  (1, (.iload_n 1, (false, 2), (false, 0), (0, 0, 0), (0, 0, 0), [])),
  (2, (.invokevirtual 66, (false, 5), (false, 3), (16, 2, 2), (0, 0, 275), [])),
  (5, (.astore_n 2, (false, 6), (false, 0), (0, 0, 0), (0, 0, 0), [])),
  (6, (.aload_n 2, (false, 7), (false, 0), (0, 0, 0), (0, 0, 0), [])),
  (7, (.ifnonnull 9, (false, 10), (false, 16), (0, 0, 0), (0, 0, 0), [])),
  (10, (.aload_n 0, (false, 11), (false, 0), (0, 0, 0), (0, 0, 0), [])),
  (11, (.iconst (-1), (false, 12), (false, 0), (0, 0, 0), (0, 0, 0), [((-1), (false, 0))])),
  (12, (.invokevirtual 28, (false, 15), (false, 3), (13, 2, 1), (0, 0, 116), [])),
  (15, (.ireturn, (false, 16), (false, 0), (0, 0, 0), (0, 0, 0), [])),
  (16, (.aload_n 0, (false, 17), (false, 0), (0, 0, 0), (0, 0, 0), [])),
  (17, (.aload_n 2, (false, 18), (false, 0), (0, 0, 0), (0, 0, 0), [])),
  (18, (.getfield 133, (false, 21), (false, 0), (0, 6, 0), (0, 0, 220), [])),
  (21, (.invokevirtual 51, (false, 24), (false, 3), (15, 2, 2), (0, 0, 255), [])),
  (24, (.astore_n 3, (false, 25), (false, 0), (0, 0, 0), (0, 0, 0), [])),
  (25, (.aload_n 2, (false, 26), (false, 0), (0, 0, 0), (0, 0, 0), [])),
  (26, (.getfield 94, (false, 29), (false, 0), (0, 5, 0), (0, 0, 218), [])),
  (29, (.iconst 1, (false, 30), (false, 0), (0, 0, 0), (0, 0, 0), [(1, (false, 0))])),
  (30, (.if_icmp .ne 7, (false, 33), (false, 37), (0, 0, 0), (0, 0, 0), [])),
  (33, (.aload_n 3, (false, 34), (false, 0), (0, 0, 0), (0, 0, 0), [])),
  (34, (.ifnonnull 10, (false, 37), (false, 44), (0, 0, 0), (0, 0, 0), [])),
  (37, (.aload_n 0, (false, 38), (false, 0), (0, 0, 0), (0, 0, 0), [])),
  (38, (.bipush (-2), (false, 40), (false, 0), (0, 0, 0), (0, 0, 0), [((-2), (false, 0))])),
  (40, (.invokevirtual 28, (false, 43), (false, 3), (13, 2, 1), (0, 0, 116), [])),
  (43, (.ireturn, (false, 44), (false, 0), (0, 0, 0), (0, 0, 0), [])),
  (44, (.aload_n 0, (false, 45), (false, 0), (0, 0, 0), (0, 0, 0), [])),
  (45, (.aload_n 3, (false, 46), (false, 0), (0, 0, 0), (0, 0, 0), [])),
  (46, (.aload_n 3, (false, 47), (false, 0), (0, 0, 0), (0, 0, 0), [])),
  (47, (.getfield 126, (false, 50), (false, 0), (1, 6, 1), (0, 0, 153), [])),
  (50, (.aload_n 2, (false, 51), (false, 0), (0, 0, 0), (0, 0, 0), [])),
  (51, (.getfield 120, (false, 54), (false, 0), (0, 0, 0), (0, 0, 210), [])),
  (54, (.invokevirtual 136, (false, 57), (false, 2), (40, 2, 1), (0, 0, 379), [])),
  (57, (.invokevirtual 156, (false, 60), (false, 3), (50, 3, 1), (0, 0, 465), [])),
  (60, (.istore 4, (false, 62), (false, 0), (0, 0, 0), (0, 0, 0), [])),
  (62, (.iload 4, (false, 64), (false, 0), (0, 0, 0), (0, 0, 0), [])),
  (64, (.ifCond .ge 12, (false, 67), (false, 76), (0, 0, 0), (0, 0, 0), [])),
  (67, (.aload_n 0, (false, 68), (false, 0), (0, 0, 0), (0, 0, 0), [])),
  (68, (.iload 4, (false, 70), (false, 0), (0, 0, 0), (0, 0, 0), [])),
  (70, (.invokevirtual 28, (false, 73), (false, 3), (13, 2, 1), (0, 0, 116), [])),
  (73, (.goto 5, (false, 76), (false, 78), (0, 0, 0), (0, 0, 0), [])),
  (76, (.iload 4, (false, 78), (false, 0), (0, 0, 0), (0, 0, 0), [])),
  (78, (.ireturn, (false, 79), (false, 0), (0, 0, 0), (0, 0, 0), []))]
set_option maxRecDepth 100000 in
theorem pe_P_wait : pw_fnd pp_P_wait 0 = (.aload_n 0, (false, 1), (false, 0), (0, 0, 0), (0, 0, 0), []) ∧
  pw_fnd pp_P_wait 1 = (.iload_n 1, (false, 2), (false, 0), (0, 0, 0), (0, 0, 0), []) ∧
  pw_fnd pp_P_wait 2 = (.invokevirtual 66, (false, 5), (false, 3), (16, 2, 2), (0, 0, 275), []) ∧
  pw_fnd pp_P_wait 5 = (.astore_n 2, (false, 6), (false, 0), (0, 0, 0), (0, 0, 0), []) ∧
  pw_fnd pp_P_wait 6 = (.aload_n 2, (false, 7), (false, 0), (0, 0, 0), (0, 0, 0), []) ∧
  pw_fnd pp_P_wait 7 = (.ifnonnull 9, (false, 10), (false, 16), (0, 0, 0), (0, 0, 0), []) ∧
  pw_fnd pp_P_wait 10 = (.aload_n 0, (false, 11), (false, 0), (0, 0, 0), (0, 0, 0), []) ∧
  pw_fnd pp_P_wait 11 = (.iconst (-1), (false, 12), (false, 0), (0, 0, 0), (0, 0, 0), [((-1), (false, 0))]) ∧
  pw_fnd pp_P_wait 12 = (.invokevirtual 28, (false, 15), (false, 3), (13, 2, 1), (0, 0, 116), []) ∧
  pw_fnd pp_P_wait 15 = (.ireturn, (false, 16), (false, 0), (0, 0, 0), (0, 0, 0), []) ∧
  pw_fnd pp_P_wait 16 = (.aload_n 0, (false, 17), (false, 0), (0, 0, 0), (0, 0, 0), []) ∧
  pw_fnd pp_P_wait 17 = (.aload_n 2, (false, 18), (false, 0), (0, 0, 0), (0, 0, 0), []) ∧
  pw_fnd pp_P_wait 18 = (.getfield 133, (false, 21), (false, 0), (0, 6, 0), (0, 0, 220), []) ∧
  pw_fnd pp_P_wait 21 = (.invokevirtual 51, (false, 24), (false, 3), (15, 2, 2), (0, 0, 255), []) ∧
  pw_fnd pp_P_wait 24 = (.astore_n 3, (false, 25), (false, 0), (0, 0, 0), (0, 0, 0), []) ∧
  pw_fnd pp_P_wait 25 = (.aload_n 2, (false, 26), (false, 0), (0, 0, 0), (0, 0, 0), []) ∧
  pw_fnd pp_P_wait 26 = (.getfield 94, (false, 29), (false, 0), (0, 5, 0), (0, 0, 218), []) ∧
  pw_fnd pp_P_wait 29 = (.iconst 1, (false, 30), (false, 0), (0, 0, 0), (0, 0, 0), [(1, (false, 0))]) ∧
  pw_fnd pp_P_wait 30 = (.if_icmp .ne 7, (false, 33), (false, 37), (0, 0, 0), (0, 0, 0), []) ∧
  pw_fnd pp_P_wait 33 = (.aload_n 3, (false, 34), (false, 0), (0, 0, 0), (0, 0, 0), []) ∧
  pw_fnd pp_P_wait 34 = (.ifnonnull 10, (false, 37), (false, 44), (0, 0, 0), (0, 0, 0), []) ∧
  pw_fnd pp_P_wait 37 = (.aload_n 0, (false, 38), (false, 0), (0, 0, 0), (0, 0, 0), []) ∧
  pw_fnd pp_P_wait 38 = (.bipush (-2), (false, 40), (false, 0), (0, 0, 0), (0, 0, 0), [((-2), (false, 0))]) ∧
  pw_fnd pp_P_wait 40 = (.invokevirtual 28, (false, 43), (false, 3), (13, 2, 1), (0, 0, 116), []) ∧
  pw_fnd pp_P_wait 43 = (.ireturn, (false, 44), (false, 0), (0, 0, 0), (0, 0, 0), []) ∧
  pw_fnd pp_P_wait 44 = (.aload_n 0, (false, 45), (false, 0), (0, 0, 0), (0, 0, 0), []) ∧
  pw_fnd pp_P_wait 45 = (.aload_n 3, (false, 46), (false, 0), (0, 0, 0), (0, 0, 0), []) ∧
  pw_fnd pp_P_wait 46 = (.aload_n 3, (false, 47), (false, 0), (0, 0, 0), (0, 0, 0), []) ∧
  pw_fnd pp_P_wait 47 = (.getfield 126, (false, 50), (false, 0), (1, 6, 1), (0, 0, 153), []) ∧
  pw_fnd pp_P_wait 50 = (.aload_n 2, (false, 51), (false, 0), (0, 0, 0), (0, 0, 0), []) ∧
  pw_fnd pp_P_wait 51 = (.getfield 120, (false, 54), (false, 0), (0, 0, 0), (0, 0, 210), []) ∧
  pw_fnd pp_P_wait 54 = (.invokevirtual 136, (false, 57), (false, 2), (40, 2, 1), (0, 0, 379), []) ∧
  pw_fnd pp_P_wait 57 = (.invokevirtual 156, (false, 60), (false, 3), (50, 3, 1), (0, 0, 465), []) ∧
  pw_fnd pp_P_wait 60 = (.istore 4, (false, 62), (false, 0), (0, 0, 0), (0, 0, 0), []) ∧
  pw_fnd pp_P_wait 62 = (.iload 4, (false, 64), (false, 0), (0, 0, 0), (0, 0, 0), []) ∧
  pw_fnd pp_P_wait 64 = (.ifCond .ge 12, (false, 67), (false, 76), (0, 0, 0), (0, 0, 0), []) ∧
  pw_fnd pp_P_wait 67 = (.aload_n 0, (false, 68), (false, 0), (0, 0, 0), (0, 0, 0), []) ∧
  pw_fnd pp_P_wait 68 = (.iload 4, (false, 70), (false, 0), (0, 0, 0), (0, 0, 0), []) ∧
  pw_fnd pp_P_wait 70 = (.invokevirtual 28, (false, 73), (false, 3), (13, 2, 1), (0, 0, 116), []) ∧
  pw_fnd pp_P_wait 73 = (.goto 5, (false, 76), (false, 78), (0, 0, 0), (0, 0, 0), []) ∧
  pw_fnd pp_P_wait 76 = (.iload 4, (false, 78), (false, 0), (0, 0, 0), (0, 0, 0), []) ∧
  pw_fnd pp_P_wait 78 = (.ireturn, (false, 79), (false, 0), (0, 0, 0), (0, 0, 0), []) :=
  ⟨rfl, rfl, rfl, rfl, rfl, rfl, rfl, rfl, rfl, rfl, rfl, rfl, rfl, rfl, rfl, rfl, rfl, rfl, rfl, rfl, rfl, rfl, rfl, rfl, rfl, rfl, rfl, rfl, rfl, rfl, rfl, rfl, rfl, rfl, rfl, rfl, rfl, rfl, rfl, rfl, rfl, rfl⟩
set_option maxRecDepth 100000 in
theorem pk_P_wait : pp_P_wait.all (fun q => pw_chk pw_jt pm_P_wait q.1 q.2) = true := by decide +kernel
def pp_P_time : List (Nat × pw_E) := [(0, (.aload_n 0, (false, 1), (false, 0), (0, 0, 0), (0, 0, 0), [])),
  (1, (.iload_n 1, (false, 2), (false, 0), (0, 0, 0), (0, 0, 0), [])),
  (2, (.invokevirtual 66, (false, 5), (false, 3), (16, 2, 2), (0, 0, 275), [])),
  (5, (.astore 4, (false, 7), (false, 0), (0, 0, 0), (0, 0, 0), [])),
  (7, (.aload 4, (false, 9), (false, 0), (0, 0, 0), (0, 0, 0), [])),
  (9, (.ifnull 12, (false, 12), (false, 21), (0, 0, 0), (0, 0, 0), [])),
  (12, (.aload 4, (false, 14), (false, 0), (0, 0, 0), (0, 0, 0), [])),
  (14, (.iload_n 2, (false, 15), (false, 0), (0, 0, 0), (0, 0, 0), [])),
  (15, (.invokevirtual 86, (false, 18), (false, 0), (1, 2, 1), (0, 0, 340), [])),
  (18, (.ifCond .ne 9, (false, 21), (false, 27), (0, 0, 0), (0, 0, 0), [])),
  (21, (.aload_n 0, (false, 22), (false, 0), (0, 0, 0), (0, 0, 0), [])),
  (22, (.iconst (-1), (false, 23), (false, 0), (0, 0, 0), (0, 0, 0), [((-1), (false, 0))])),
  (23, (.invokevirtual 28, (false, 26), (false, 3), (13, 2, 1), (0, 0, 116), [])),
  (26, (.ireturn, (false, 27), (false, 0), (0, 0, 0), (0, 0, 0), [])),
  (27, (.iload_n 3, (false, 28), (false, 0), (0, 0, 0), (0, 0, 0), [])),
  (28, (.lookupswitch 42 #[(0, 28), (1, 35)], (false, 56), (false, 70), (0, 0, 0), (0, 0, 0), [(0, (false, 56)), (1, (false, 63))])),
  (56, (.aload 4, (false, 58), (false, 0), (0, 0, 0), (0, 0, 0), [])),
  (58, (.iload_n 2, (false, 59), (false, 0), (0, 0, 0), (0, 0, 0), [])),
  (59, (.invokevirtual 173, (false, 62), (false, 0), (32, 2, 1), (0, 0, 303), [])),
  (62, (.ireturn, (false, 63), (false, 0), (0, 0, 0), (0, 0, 0), [])),
  (63, (.aload 4, (false, 65), (false, 0), (0, 0, 0), (0, 0, 0), [])),
  (65, (.iload_n 2, (false, 66), (false, 0), (0, 0, 0), (0, 0, 0), [])),
  (66, (.invokevirtual 176, (false, 69), (false, 0), (33, 2, 1), (0, 0, 311), [])),
  (69, (.ireturn, (false, 70), (false, 0), (0, 0, 0), (0, 0, 0), [])),
  (70, (.bipush (-9), (false, 72), (false, 0), (0, 0, 0), (0, 0, 0), [((-9), (false, 0))])),
  (72, (.ireturn, (false, 73), (false, 0), (0, 0, 0), (0, 0, 0), []))]
set_option maxRecDepth 100000 in
theorem pe_P_time : pw_fnd pp_P_time 0 = (.aload_n 0, (false, 1), (false, 0), (0, 0, 0), (0, 0, 0), []) ∧
  pw_fnd pp_P_time 1 = (.iload_n 1, (false, 2), (false, 0), (0, 0, 0), (0, 0, 0), []) ∧
  pw_fnd pp_P_time 2 = (.invokevirtual 66, (false, 5), (false, 3), (16, 2, 2), (0, 0, 275), []) ∧
  pw_fnd pp_P_time 5 = (.astore 4, (false, 7), (false, 0), (0, 0, 0), (0, 0, 0), []) ∧
  pw_fnd pp_P_time 7 = (.aload 4, (false, 9), (false, 0), (0, 0, 0), (0, 0, 0), []) ∧
  pw_fnd pp_P_time 9 = (.ifnull 12, (false, 12), (false, 21), (0, 0, 0), (0, 0, 0), []) ∧
  pw_fnd pp_P_time 12 = (.aload 4, (false, 14), (false, 0), (0, 0, 0), (0, 0, 0), []) ∧
  pw_fnd pp_P_time 14 = (.iload_n 2, (false, 15), (false, 0), (0, 0, 0), (0, 0, 0), []) ∧
  pw_fnd pp_P_time 15 = (.invokevirtual 86, (false, 18), (false, 0), (1, 2, 1), (0, 0, 340), []) ∧
  pw_fnd pp_P_time 18 = (.ifCond .ne 9, (false, 21), (false, 27), (0, 0, 0), (0, 0, 0), []) ∧
  pw_fnd pp_P_time 21 = (.aload_n 0, (false, 22), (false, 0), (0, 0, 0), (0, 0, 0), []) ∧
  pw_fnd pp_P_time 22 = (.iconst (-1), (false, 23), (false, 0), (0, 0, 0), (0, 0, 0), [((-1), (false, 0))]) ∧
  pw_fnd pp_P_time 23 = (.invokevirtual 28, (false, 26), (false, 3), (13, 2, 1), (0, 0, 116), []) ∧
  pw_fnd pp_P_time 26 = (.ireturn, (false, 27), (false, 0), (0, 0, 0), (0, 0, 0), []) ∧
  pw_fnd pp_P_time 27 = (.iload_n 3, (false, 28), (false, 0), (0, 0, 0), (0, 0, 0), []) ∧
  pw_fnd pp_P_time 28 = (.lookupswitch 42 #[(0, 28), (1, 35)], (false, 56), (false, 70), (0, 0, 0), (0, 0, 0), [(0, (false, 56)), (1, (false, 63))]) ∧
  pw_fnd pp_P_time 56 = (.aload 4, (false, 58), (false, 0), (0, 0, 0), (0, 0, 0), []) ∧
  pw_fnd pp_P_time 58 = (.iload_n 2, (false, 59), (false, 0), (0, 0, 0), (0, 0, 0), []) ∧
  pw_fnd pp_P_time 59 = (.invokevirtual 173, (false, 62), (false, 0), (32, 2, 1), (0, 0, 303), []) ∧
  pw_fnd pp_P_time 62 = (.ireturn, (false, 63), (false, 0), (0, 0, 0), (0, 0, 0), []) ∧
  pw_fnd pp_P_time 63 = (.aload 4, (false, 65), (false, 0), (0, 0, 0), (0, 0, 0), []) ∧
  pw_fnd pp_P_time 65 = (.iload_n 2, (false, 66), (false, 0), (0, 0, 0), (0, 0, 0), []) ∧
  pw_fnd pp_P_time 66 = (.invokevirtual 176, (false, 69), (false, 0), (33, 2, 1), (0, 0, 311), []) ∧
  pw_fnd pp_P_time 69 = (.ireturn, (false, 70), (false, 0), (0, 0, 0), (0, 0, 0), []) ∧
  pw_fnd pp_P_time 70 = (.bipush (-9), (false, 72), (false, 0), (0, 0, 0), (0, 0, 0), [((-9), (false, 0))]) ∧
  pw_fnd pp_P_time 72 = (.ireturn, (false, 73), (false, 0), (0, 0, 0), (0, 0, 0), []) :=
  ⟨rfl, rfl, rfl, rfl, rfl, rfl, rfl, rfl, rfl, rfl, rfl, rfl, rfl, rfl, rfl, rfl, rfl, rfl, rfl, rfl, rfl, rfl, rfl, rfl, rfl, rfl⟩
set_option maxRecDepth 100000 in
theorem pk_P_time : pp_P_time.all (fun q => pw_chk pw_jt pm_P_time q.1 q.2) = true := by decide +kernel
def pp_P_window : List (Nat × pw_E) := [(0, (.aload_n 0, (false, 1), (false, 0), (0, 0, 0), (0, 0, 0), [])),
  (1, (.iload_n 1, (false, 2), (false, 0), (0, 0, 0), (0, 0, 0), [])),
  (2, (.invokevirtual 51, (false, 5), (false, 3), (15, 2, 2), (0, 0, 255), [])),
  (5, (.astore 4, (false, 7), (false, 0), (0, 0, 0), (0, 0, 0), [])),
  (7, (.aload 4, (false, 9), (false, 0), (0, 0, 0), (0, 0, 0), [])),
  (9, (.ifnull 7, (false, 12), (false, 16), (0, 0, 0), (0, 0, 0), [])),
  (12, (.iload_n 2, (false, 13), (false, 0), (0, 0, 0), (0, 0, 0), [])),
  (13, (.ifCond .ge 9, (false, 16), (false, 22), (0, 0, 0), (0, 0, 0), [])),
  (16, (.aload_n 0, (false, 17), (false, 0), (0, 0, 0), (0, 0, 0), [])),
  (17, (.iconst (-1), (false, 18), (false, 0), (0, 0, 0), (0, 0, 0), [((-1), (false, 0))])),
  (18, (.invokevirtual 28, (false, 21), (false, 3), (13, 2, 1), (0, 0, 116), [])),
  (21, (.ireturn, (false, 22), (false, 0), (0, 0, 0), (0, 0, 0), [])),
  (22, (.iload_n 3, (false, 23), (false, 0), (0, 0, 0), (0, 0, 0), [])),
  (23, (.lookupswitch 38 #[(0, 25), (1, 32)], (false, 48), (false, 61), (0, 0, 0), (0, 0, 0), [(0, (false, 48)), (1, (false, 55))])),
  (48, (.aload 4, (false, 50), (false, 0), (0, 0, 0), (0, 0, 0), [])),
  (50, (.iload_n 2, (false, 51), (false, 0), (0, 0, 0), (0, 0, 0), [])),
  (51, (.invokevirtual 202, (false, 54), (false, 1), (7, 2, 1), (0, 0, 493), [])),
  (54, (.ireturn, (false, 55), (false, 0), (0, 0, 0), (0, 0, 0), [])),
  (55, (.aload 4, (false, 57), (false, 0), (0, 0, 0), (0, 0, 0), [])),
  (57, (.invokevirtual 205, (false, 60), (false, 1), (38, 1, 1), (0, 0, 494), [])),
  (60, (.ireturn, (false, 61), (false, 0), (0, 0, 0), (0, 0, 0), [])),
  (61, (.bipush (-9), (false, 63), (false, 0), (0, 0, 0), (0, 0, 0), [((-9), (false, 0))])),
  (63, (.ireturn, (false, 64), (false, 0), (0, 0, 0), (0, 0, 0), []))]
set_option maxRecDepth 100000 in
theorem pe_P_window : pw_fnd pp_P_window 0 = (.aload_n 0, (false, 1), (false, 0), (0, 0, 0), (0, 0, 0), []) ∧
  pw_fnd pp_P_window 1 = (.iload_n 1, (false, 2), (false, 0), (0, 0, 0), (0, 0, 0), []) ∧
  pw_fnd pp_P_window 2 = (.invokevirtual 51, (false, 5), (false, 3), (15, 2, 2), (0, 0, 255), []) ∧
  pw_fnd pp_P_window 5 = (.astore 4, (false, 7), (false, 0), (0, 0, 0), (0, 0, 0), []) ∧
  pw_fnd pp_P_window 7 = (.aload 4, (false, 9), (false, 0), (0, 0, 0), (0, 0, 0), []) ∧
  pw_fnd pp_P_window 9 = (.ifnull 7, (false, 12), (false, 16), (0, 0, 0), (0, 0, 0), []) ∧
  pw_fnd pp_P_window 12 = (.iload_n 2, (false, 13), (false, 0), (0, 0, 0), (0, 0, 0), []) ∧
  pw_fnd pp_P_window 13 = (.ifCond .ge 9, (false, 16), (false, 22), (0, 0, 0), (0, 0, 0), []) ∧
  pw_fnd pp_P_window 16 = (.aload_n 0, (false, 17), (false, 0), (0, 0, 0), (0, 0, 0), []) ∧
  pw_fnd pp_P_window 17 = (.iconst (-1), (false, 18), (false, 0), (0, 0, 0), (0, 0, 0), [((-1), (false, 0))]) ∧
  pw_fnd pp_P_window 18 = (.invokevirtual 28, (false, 21), (false, 3), (13, 2, 1), (0, 0, 116), []) ∧
  pw_fnd pp_P_window 21 = (.ireturn, (false, 22), (false, 0), (0, 0, 0), (0, 0, 0), []) ∧
  pw_fnd pp_P_window 22 = (.iload_n 3, (false, 23), (false, 0), (0, 0, 0), (0, 0, 0), []) ∧
  pw_fnd pp_P_window 23 = (.lookupswitch 38 #[(0, 25), (1, 32)], (false, 48), (false, 61), (0, 0, 0), (0, 0, 0), [(0, (false, 48)), (1, (false, 55))]) ∧
  pw_fnd pp_P_window 48 = (.aload 4, (false, 50), (false, 0), (0, 0, 0), (0, 0, 0), []) ∧
  pw_fnd pp_P_window 50 = (.iload_n 2, (false, 51), (false, 0), (0, 0, 0), (0, 0, 0), []) ∧
  pw_fnd pp_P_window 51 = (.invokevirtual 202, (false, 54), (false, 1), (7, 2, 1), (0, 0, 493), []) ∧
  pw_fnd pp_P_window 54 = (.ireturn, (false, 55), (false, 0), (0, 0, 0), (0, 0, 0), []) ∧
  pw_fnd pp_P_window 55 = (.aload 4, (false, 57), (false, 0), (0, 0, 0), (0, 0, 0), []) ∧
  pw_fnd pp_P_window 57 = (.invokevirtual 205, (false, 60), (false, 1), (38, 1, 1), (0, 0, 494), []) ∧
  pw_fnd pp_P_window 60 = (.ireturn, (false, 61), (false, 0), (0, 0, 0), (0, 0, 0), []) ∧
  pw_fnd pp_P_window 61 = (.bipush (-9), (false, 63), (false, 0), (0, 0, 0), (0, 0, 0), [((-9), (false, 0))]) ∧
  pw_fnd pp_P_window 63 = (.ireturn, (false, 64), (false, 0), (0, 0, 0), (0, 0, 0), []) :=
  ⟨rfl, rfl, rfl, rfl, rfl, rfl, rfl, rfl, rfl, rfl, rfl, rfl, rfl, rfl, rfl, rfl, rfl, rfl, rfl, rfl, rfl, rfl, rfl⟩
set_option maxRecDepth 100000 in
theorem pk_P_window : pp_P_window.all (fun q => pw_chk pw_jt pm_P_window q.1 q.2) = true := by decide +kernel
def pp_P_count : List (Nat × pw_E) := [(0, (.iload_n 1, (false, 1), (false, 0), (0, 0, 0), (0, 0, 0), [])),
  (1, (.bipush 11, (false, 3), (false, 0), (0, 0, 0), (0, 0, 0), [(11, (false, 0))])),
  (3, (.if_icmp .lt 18, (false, 6), (false, 21), (0, 0, 0), (0, 0, 0), [])),
  (6, (.iload_n 1, (false, 7), (false, 0), (0, 0, 0), (0, 0, 0), [])),
  (7, (.bipush 16, (false, 9), (false, 0), (0, 0, 0), (0, 0, 0), [(16, (false, 0))])),
  (9, (.if_icmp .gt 12, (false, 12), (false, 21), (0, 0, 0), (0, 0, 0), [])),
  (12, (.aload_n 0, (false, 13), (false, 0), (0, 0, 0), (0, 0, 0), [])),
  (13, (.iload_n 1, (false, 14), (false, 0), (0, 0, 0), (0, 0, 0), [])),
  (14, (.bipush 11, (false, 16), (false, 0), (0, 0, 0), (0, 0, 0), [(11, (false, 0))])),
  (16, (.isub, (false, 17), (false, 0), (0, 0, 0), (0, 0, 0), [])),
  (17, (.invokevirtual 211, (false, 20), (false, 3), (14, 2, 1), (0, 0, 503), [])),
  (20, (.ireturn, (false, 21), (false, 0), (0, 0, 0), (0, 0, 0), [])),
  (21, (.iload_n 1, (false, 22), (false, 0), (0, 0, 0), (0, 0, 0), [])),
  (22, (.tableswitch 85 0 6 #[42, 47, 52, 57, 64, 71, 78], (false, 64), (false, 107), (0, 0, 0), (0, 0, 0), [(0, (false, 64)), (1, (false, 69)), (2, (false, 74)), (3, (false, 79)), (4, (false, 86)), (5, (false, 93)), (6, (false, 100))])),
  (64, (.aload_n 0, (false, 65), (false, 0), (0, 0, 0), (0, 0, 0), [])),
  (65, (.getfield 97, (false, 68), (false, 0), (3, 6, 0), (0, 0, 92), [])),
  (68, (.ireturn, (false, 69), (false, 0), (0, 0, 0), (0, 0, 0), [])),
  (69, (.aload_n 0, (false, 70), (false, 0), (0, 0, 0), (0, 0, 0), [])),
  (70, (.getfield 32, (false, 73), (false, 0), (3, 4, 0), (0, 0, 90), [])),
  (73, (.ireturn, (false, 74), (false, 0), (0, 0, 0), (0, 0, 0), [])),
  (74, (.aload_n 0, (false, 75), (false, 0), (0, 0, 0), (0, 0, 0), [])),
  (75, (.getfield 45, (false, 78), (false, 0), (3, 5, 0), (0, 0, 91), [])),
  (78, (.ireturn, (false, 79), (false, 0), (0, 0, 0), (0, 0, 0), [])),
  (79, (.aload_n 0, (false, 80), (false, 0), (0, 0, 0), (0, 0, 0), [])),
  (80, (.iconst 0, (false, 81), (false, 0), (0, 0, 0), (0, 0, 0), [(0, (false, 0))])),
  (81, (.iconst 4, (false, 82), (false, 0), (0, 0, 0), (0, 0, 0), [(4, (false, 0))])),
  (82, (.invokevirtual 214, (false, 85), (false, 3), (49, 3, 1), (0, 0, 507), [])),
  (85, (.ireturn, (false, 86), (false, 0), (0, 0, 0), (0, 0, 0), [])),
  (86, (.aload_n 0, (false, 87), (false, 0), (0, 0, 0), (0, 0, 0), [])),
  (87, (.iconst 3, (false, 88), (false, 0), (0, 0, 0), (0, 0, 0), [(3, (false, 0))])),
  (88, (.iconst 3, (false, 89), (false, 0), (0, 0, 0), (0, 0, 0), [(3, (false, 0))])),
  (89, (.invokevirtual 214, (false, 92), (false, 3), (49, 3, 1), (0, 0, 507), [])),
  (92, (.ireturn, (false, 93), (false, 0), (0, 0, 0), (0, 0, 0), [])),
  (93, (.aload_n 0, (false, 94), (false, 0), (0, 0, 0), (0, 0, 0), [])),
  (94, (.iconst 1, (false, 95), (false, 0), (0, 0, 0), (0, 0, 0), [(1, (false, 0))])),
  (95, (.iconst 2, (false, 96), (false, 0), (0, 0, 0), (0, 0, 0), [(2, (false, 0))])),
  (96, (.invokevirtual 214, (false, 99), (false, 3), (49, 3, 1), (0, 0, 507), [])),
  (99, (.ireturn, (false, 100), (false, 0), (0, 0, 0), (0, 0, 0), [])),
  (100, (.aload_n 0, (false, 101), (false, 0), (0, 0, 0), (0, 0, 0), [])),
  (101, (.iconst 4, (false, 102), (false, 0), (0, 0, 0), (0, 0, 0), [(4, (false, 0))])),
  (102, (.iconst 4, (false, 103), (false, 0), (0, 0, 0), (0, 0, 0), [(4, (false, 0))])),
  (103, (.invokevirtual 214, (false, 106), (false, 3), (49, 3, 1), (0, 0, 507), [])),
  (106, (.ireturn, (false, 107), (false, 0), (0, 0, 0), (0, 0, 0), [])),
  (107, (.bipush (-9), (false, 109), (false, 0), (0, 0, 0), (0, 0, 0), [((-9), (false, 0))])),
  (109, (.ireturn, (false, 110), (false, 0), (0, 0, 0), (0, 0, 0), []))]
set_option maxRecDepth 100000 in
theorem pe_P_count : pw_fnd pp_P_count 0 = (.iload_n 1, (false, 1), (false, 0), (0, 0, 0), (0, 0, 0), []) ∧
  pw_fnd pp_P_count 1 = (.bipush 11, (false, 3), (false, 0), (0, 0, 0), (0, 0, 0), [(11, (false, 0))]) ∧
  pw_fnd pp_P_count 3 = (.if_icmp .lt 18, (false, 6), (false, 21), (0, 0, 0), (0, 0, 0), []) ∧
  pw_fnd pp_P_count 6 = (.iload_n 1, (false, 7), (false, 0), (0, 0, 0), (0, 0, 0), []) ∧
  pw_fnd pp_P_count 7 = (.bipush 16, (false, 9), (false, 0), (0, 0, 0), (0, 0, 0), [(16, (false, 0))]) ∧
  pw_fnd pp_P_count 9 = (.if_icmp .gt 12, (false, 12), (false, 21), (0, 0, 0), (0, 0, 0), []) ∧
  pw_fnd pp_P_count 12 = (.aload_n 0, (false, 13), (false, 0), (0, 0, 0), (0, 0, 0), []) ∧
  pw_fnd pp_P_count 13 = (.iload_n 1, (false, 14), (false, 0), (0, 0, 0), (0, 0, 0), []) ∧
  pw_fnd pp_P_count 14 = (.bipush 11, (false, 16), (false, 0), (0, 0, 0), (0, 0, 0), [(11, (false, 0))]) ∧
  pw_fnd pp_P_count 16 = (.isub, (false, 17), (false, 0), (0, 0, 0), (0, 0, 0), []) ∧
  pw_fnd pp_P_count 17 = (.invokevirtual 211, (false, 20), (false, 3), (14, 2, 1), (0, 0, 503), []) ∧
  pw_fnd pp_P_count 20 = (.ireturn, (false, 21), (false, 0), (0, 0, 0), (0, 0, 0), []) ∧
  pw_fnd pp_P_count 21 = (.iload_n 1, (false, 22), (false, 0), (0, 0, 0), (0, 0, 0), []) ∧
  pw_fnd pp_P_count 22 = (.tableswitch 85 0 6 #[42, 47, 52, 57, 64, 71, 78], (false, 64), (false, 107), (0, 0, 0), (0, 0, 0), [(0, (false, 64)), (1, (false, 69)), (2, (false, 74)), (3, (false, 79)), (4, (false, 86)), (5, (false, 93)), (6, (false, 100))]) ∧
  pw_fnd pp_P_count 64 = (.aload_n 0, (false, 65), (false, 0), (0, 0, 0), (0, 0, 0), []) ∧
  pw_fnd pp_P_count 65 = (.getfield 97, (false, 68), (false, 0), (3, 6, 0), (0, 0, 92), []) ∧
  pw_fnd pp_P_count 68 = (.ireturn, (false, 69), (false, 0), (0, 0, 0), (0, 0, 0), []) ∧
  pw_fnd pp_P_count 69 = (.aload_n 0, (false, 70), (false, 0), (0, 0, 0), (0, 0, 0), []) ∧
  pw_fnd pp_P_count 70 = (.getfield 32, (false, 73), (false, 0), (3, 4, 0), (0, 0, 90), []) ∧
  pw_fnd pp_P_count 73 = (.ireturn, (false, 74), (false, 0), (0, 0, 0), (0, 0, 0), []) ∧
  pw_fnd pp_P_count 74 = (.aload_n 0, (false, 75), (false, 0), (0, 0, 0), (0, 0, 0), []) ∧
  pw_fnd pp_P_count 75 = (.getfield 45, (false, 78), (false, 0), (3, 5, 0), (0, 0, 91), []) ∧
  pw_fnd pp_P_count 78 = (.ireturn, (false, 79), (false, 0), (0, 0, 0), (0, 0, 0), []) ∧
  pw_fnd pp_P_count 79 = (.aload_n 0, (false, 80), (false, 0), (0, 0, 0), (0, 0, 0), []) ∧
  pw_fnd pp_P_count 80 = (.iconst 0, (false, 81), (false, 0), (0, 0, 0), (0, 0, 0), [(0, (false, 0))]) ∧
  pw_fnd pp_P_count 81 = (.iconst 4, (false, 82), (false, 0), (0, 0, 0), (0, 0, 0), [(4, (false, 0))]) ∧
  pw_fnd pp_P_count 82 = (.invokevirtual 214, (false, 85), (false, 3), (49, 3, 1), (0, 0, 507), []) ∧
  pw_fnd pp_P_count 85 = (.ireturn, (false, 86), (false, 0), (0, 0, 0), (0, 0, 0), []) ∧
  pw_fnd pp_P_count 86 = (.aload_n 0, (false, 87), (false, 0), (0, 0, 0), (0, 0, 0), []) ∧
  pw_fnd pp_P_count 87 = (.iconst 3, (false, 88), (false, 0), (0, 0, 0), (0, 0, 0), [(3, (false, 0))]) ∧
  pw_fnd pp_P_count 88 = (.iconst 3, (false, 89), (false, 0), (0, 0, 0), (0, 0, 0), [(3, (false, 0))]) ∧
  pw_fnd pp_P_count 89 = (.invokevirtual 214, (false, 92), (false, 3), (49, 3, 1), (0, 0, 507), []) ∧
  pw_fnd pp_P_count 92 = (.ireturn, (false, 93), (false, 0), (0, 0, 0), (0, 0, 0), []) ∧
  pw_fnd pp_P_count 93 = (.aload_n 0, (false, 94), (false, 0), (0, 0, 0), (0, 0, 0), []) ∧
  pw_fnd pp_P_count 94 = (.iconst 1, (false, 95), (false, 0), (0, 0, 0), (0, 0, 0), [(1, (false, 0))]) ∧
  pw_fnd pp_P_count 95 = (.iconst 2, (false, 96), (false, 0), (0, 0, 0), (0, 0, 0), [(2, (false, 0))]) ∧
  pw_fnd pp_P_count 96 = (.invokevirtual 214, (false, 99), (false, 3), (49, 3, 1), (0, 0, 507), []) ∧
  pw_fnd pp_P_count 99 = (.ireturn, (false, 100), (false, 0), (0, 0, 0), (0, 0, 0), []) ∧
  pw_fnd pp_P_count 100 = (.aload_n 0, (false, 101), (false, 0), (0, 0, 0), (0, 0, 0), []) ∧
  pw_fnd pp_P_count 101 = (.iconst 4, (false, 102), (false, 0), (0, 0, 0), (0, 0, 0), [(4, (false, 0))]) ∧
  pw_fnd pp_P_count 102 = (.iconst 4, (false, 103), (false, 0), (0, 0, 0), (0, 0, 0), [(4, (false, 0))]) ∧
  pw_fnd pp_P_count 103 = (.invokevirtual 214, (false, 106), (false, 3), (49, 3, 1), (0, 0, 507), []) ∧
  pw_fnd pp_P_count 106 = (.ireturn, (false, 107), (false, 0), (0, 0, 0), (0, 0, 0), []) ∧
  pw_fnd pp_P_count 107 = (.bipush (-9), (false, 109), (false, 0), (0, 0, 0), (0, 0, 0), [((-9), (false, 0))]) ∧
  pw_fnd pp_P_count 109 = (.ireturn, (false, 110), (false, 0), (0, 0, 0), (0, 0, 0), []) :=
  ⟨rfl, rfl, rfl, rfl, rfl, rfl, rfl, rfl, rfl, rfl, rfl, rfl, rfl, rfl, rfl, rfl, rfl, rfl, rfl, rfl, rfl, rfl, rfl, rfl, rfl, rfl, rfl, rfl, rfl, rfl, rfl, rfl, rfl, rfl, rfl, rfl, rfl, rfl, rfl, rfl, rfl, rfl, rfl, rfl, rfl⟩
set_option maxRecDepth 100000 in
theorem pk_P_count : pp_P_count.all (fun q => pw_chk pw_jt pm_P_count q.1 q.2) = true := by decide +kernel
def pp_P_placeInRow : List (Nat × pw_E) := [(0, (.aload_n 0, (false, 1), (false, 0), (0, 0, 0), (0, 0, 0), [])),
  (1, (.aload_n 1, (false, 2), (false, 0), (0, 0, 0), (0, 0, 0), [])),
  (2, (.invokevirtual 129, (false, 5), (false, 3), (48, 2, 2), (0, 0, 375), [])),
  (5, (.astore_n 2, (false, 6), (false, 0), (0, 0, 0), (0, 0, 0), [])),
  (6, (.aload_n 2, (false, 7), (false, 0), (0, 0, 0), (0, 0, 0), [])),
  (7, (.ifnonnull 8, (false, 10), (false, 15), (0, 0, 0), (0, 0, 0), [])),
  (10, (.bipush (-9), (false, 12), (false, 0), (0, 0, 0), (0, 0, 0), [((-9), (false, 0))])),
  (12, (.goto 11, (false, 15), (false, 23), (0, 0, 0), (0, 0, 0), [])),
  (15, (.aload_n 2, (false, 16), (false, 0), (0, 0, 0), (0, 0, 0), [])),
  (16, (.aload_n 1, (false, 17), (false, 0), (0, 0, 0), (0, 0, 0), [])),
  (17, (.getfield 120, (false, 20), (false, 0), (0, 0, 0), (0, 0, 210), [])),
  (20, (.invokevirtual 136, (false, 23), (false, 2), (40, 2, 1), (0, 0, 379), [])),
  (23, (.ireturn, (false, 24), (false, 0), (0, 0, 0), (0, 0, 0), []))]
set_option maxRecDepth 100000 in
theorem pe_P_placeInRow : pw_fnd pp_P_placeInRow 0 = (.aload_n 0, (false, 1), (false, 0), (0, 0, 0), (0, 0, 0), []) ∧
  pw_fnd pp_P_placeInRow 1 = (.aload_n 1, (false, 2), (false, 0), (0, 0, 0), (0, 0, 0), []) ∧
  pw_fnd pp_P_placeInRow 2 = (.invokevirtual 129, (false, 5), (false, 3), (48, 2, 2), (0, 0, 375), []) ∧
  pw_fnd pp_P_placeInRow 5 = (.astore_n 2, (false, 6), (false, 0), (0, 0, 0), (0, 0, 0), []) ∧
  pw_fnd pp_P_placeInRow 6 = (.aload_n 2, (false, 7), (false, 0), (0, 0, 0), (0, 0, 0), []) ∧
  pw_fnd pp_P_placeInRow 7 = (.ifnonnull 8, (false, 10), (false, 15), (0, 0, 0), (0, 0, 0), []) ∧
  pw_fnd pp_P_placeInRow 10 = (.bipush (-9), (false, 12), (false, 0), (0, 0, 0), (0, 0, 0), [((-9), (false, 0))]) ∧
  pw_fnd pp_P_placeInRow 12 = (.goto 11, (false, 15), (false, 23), (0, 0, 0), (0, 0, 0), []) ∧
  pw_fnd pp_P_placeInRow 15 = (.aload_n 2, (false, 16), (false, 0), (0, 0, 0), (0, 0, 0), []) ∧
  pw_fnd pp_P_placeInRow 16 = (.aload_n 1, (false, 17), (false, 0), (0, 0, 0), (0, 0, 0), []) ∧
  pw_fnd pp_P_placeInRow 17 = (.getfield 120, (false, 20), (false, 0), (0, 0, 0), (0, 0, 210), []) ∧
  pw_fnd pp_P_placeInRow 20 = (.invokevirtual 136, (false, 23), (false, 2), (40, 2, 1), (0, 0, 379), []) ∧
  pw_fnd pp_P_placeInRow 23 = (.ireturn, (false, 24), (false, 0), (0, 0, 0), (0, 0, 0), []) :=
  ⟨rfl, rfl, rfl, rfl, rfl, rfl, rfl, rfl, rfl, rfl, rfl, rfl, rfl⟩
set_option maxRecDepth 100000 in
theorem pk_P_placeInRow : pp_P_placeInRow.all (fun q => pw_chk pw_jt pm_P_placeInRow q.1 q.2) = true := by decide +kernel
def pp_P_overlaps : List (Nat × pw_E) := [(0, (.aload_n 0, (false, 1), (false, 0), (0, 0, 0), (0, 0, 0), [])),
  (1, (.aload_n 1, (false, 2), (false, 0), (0, 0, 0), (0, 0, 0), [])),
  (2, (.getfield 80, (false, 5), (false, 0), (1, 0, 0), (0, 0, 143), [])),
  (5, (.aload_n 3, (false, 6), (false, 0), (0, 0, 0), (0, 0, 0), [])),
  (6, (.getfield 80, (false, 9), (false, 0), (1, 0, 0), (0, 0, 143), [])),
  (9, (.invokevirtual 55, (false, 12), (false, 3), (17, 3, 1), (0, 0, 259), [])),
  (12, (.istore 5, (false, 14), (false, 0), (0, 0, 0), (0, 0, 0), [])),
  (14, (.aload_n 1, (false, 15), (false, 0), (0, 0, 0), (0, 0, 0), [])),
  (15, (.iload_n 2, (false, 16), (false, 0), (0, 0, 0), (0, 0, 0), [])),
  (16, (.invokevirtual 229, (false, 19), (false, 1), (37, 2, 1), (0, 0, 319), [])),
  (19, (.iload 5, (false, 21), (false, 0), (0, 0, 0), (0, 0, 0), [])),
  (21, (.iadd, (false, 22), (false, 0), (0, 0, 0), (0, 0, 0), [])),
  (22, (.aload_n 3, (false, 23), (false, 0), (0, 0, 0), (0, 0, 0), [])),
  (23, (.iload 4, (false, 25), (false, 0), (0, 0, 0), (0, 0, 0), [])),
  (25, (.invokevirtual 232, (false, 28), (false, 1), (6, 2, 1), (0, 0, 327), [])),
  (28, (.if_icmp .lt 24, (false, 31), (false, 52), (0, 0, 0), (0, 0, 0), [])),
  (31, (.aload_n 3, (false, 32), (false, 0), (0, 0, 0), (0, 0, 0), [])),
  (32, (.iload 4, (false, 34), (false, 0), (0, 0, 0), (0, 0, 0), [])),
  (34, (.invokevirtual 229, (false, 37), (false, 1), (37, 2, 1), (0, 0, 319), [])),
  (37, (.iload 5, (false, 39), (false, 0), (0, 0, 0), (0, 0, 0), [])),
  (39, (.iadd, (false, 40), (false, 0), (0, 0, 0), (0, 0, 0), [])),
  (40, (.aload_n 1, (false, 41), (false, 0), (0, 0, 0), (0, 0, 0), [])),
  (41, (.iload_n 2, (false, 42), (false, 0), (0, 0, 0), (0, 0, 0), [])),
  (42, (.invokevirtual 232, (false, 45), (false, 1), (6, 2, 1), (0, 0, 327), [])),
  (45, (.if_icmp .lt 7, (false, 48), (false, 52), (0, 0, 0), (0, 0, 0), [])),
  (48, (.iconst 1, (false, 49), (false, 0), (0, 0, 0), (0, 0, 0), [(1, (false, 0))])),
  (49, (.goto 4, (false, 52), (false, 53), (0, 0, 0), (0, 0, 0), [])),
  (52, (.iconst 0, (false, 53), (false, 0), (0, 0, 0), (0, 0, 0), [(0, (false, 0))])),
  (53, (.ireturn, (false, 54), (false, 0), (0, 0, 2), (0, 0, 0), []))]
set_option maxRecDepth 100000 in
theorem pe_P_overlaps : pw_fnd pp_P_overlaps 0 = (.aload_n 0, (false, 1), (false, 0), (0, 0, 0), (0, 0, 0), []) ∧
  pw_fnd pp_P_overlaps 1 = (.aload_n 1, (false, 2), (false, 0), (0, 0, 0), (0, 0, 0), []) ∧
  pw_fnd pp_P_overlaps 2 = (.getfield 80, (false, 5), (false, 0), (1, 0, 0), (0, 0, 143), []) ∧
  pw_fnd pp_P_overlaps 5 = (.aload_n 3, (false, 6), (false, 0), (0, 0, 0), (0, 0, 0), []) ∧
  pw_fnd pp_P_overlaps 6 = (.getfield 80, (false, 9), (false, 0), (1, 0, 0), (0, 0, 143), []) ∧
  pw_fnd pp_P_overlaps 9 = (.invokevirtual 55, (false, 12), (false, 3), (17, 3, 1), (0, 0, 259), []) ∧
  pw_fnd pp_P_overlaps 12 = (.istore 5, (false, 14), (false, 0), (0, 0, 0), (0, 0, 0), []) ∧
  pw_fnd pp_P_overlaps 14 = (.aload_n 1, (false, 15), (false, 0), (0, 0, 0), (0, 0, 0), []) ∧
  pw_fnd pp_P_overlaps 15 = (.iload_n 2, (false, 16), (false, 0), (0, 0, 0), (0, 0, 0), []) ∧
  pw_fnd pp_P_overlaps 16 = (.invokevirtual 229, (false, 19), (false, 1), (37, 2, 1), (0, 0, 319), []) ∧
  pw_fnd pp_P_overlaps 19 = (.iload 5, (false, 21), (false, 0), (0, 0, 0), (0, 0, 0), []) ∧
  pw_fnd pp_P_overlaps 21 = (.iadd, (false, 22), (false, 0), (0, 0, 0), (0, 0, 0), []) ∧
  pw_fnd pp_P_overlaps 22 = (.aload_n 3, (false, 23), (false, 0), (0, 0, 0), (0, 0, 0), []) ∧
  pw_fnd pp_P_overlaps 23 = (.iload 4, (false, 25), (false, 0), (0, 0, 0), (0, 0, 0), []) ∧
  pw_fnd pp_P_overlaps 25 = (.invokevirtual 232, (false, 28), (false, 1), (6, 2, 1), (0, 0, 327), []) ∧
  pw_fnd pp_P_overlaps 28 = (.if_icmp .lt 24, (false, 31), (false, 52), (0, 0, 0), (0, 0, 0), []) ∧
  pw_fnd pp_P_overlaps 31 = (.aload_n 3, (false, 32), (false, 0), (0, 0, 0), (0, 0, 0), []) ∧
  pw_fnd pp_P_overlaps 32 = (.iload 4, (false, 34), (false, 0), (0, 0, 0), (0, 0, 0), []) ∧
  pw_fnd pp_P_overlaps 34 = (.invokevirtual 229, (false, 37), (false, 1), (37, 2, 1), (0, 0, 319), []) ∧
  pw_fnd pp_P_overlaps 37 = (.iload 5, (false, 39), (false, 0), (0, 0, 0), (0, 0, 0), []) ∧
  pw_fnd pp_P_overlaps 39 = (.iadd, (false, 40), (false, 0), (0, 0, 0), (0, 0, 0), []) ∧
  pw_fnd pp_P_overlaps 40 = (.aload_n 1, (false, 41), (false, 0), (0, 0, 0), (0, 0, 0), []) ∧
  pw_fnd pp_P_overlaps 41 = (.iload_n 2, (false, 42), (false, 0), (0, 0, 0), (0, 0, 0), []) ∧
  pw_fnd pp_P_overlaps 42 = (.invokevirtual 232, (false, 45), (false, 1), (6, 2, 1), (0, 0, 327), []) ∧
  pw_fnd pp_P_overlaps 45 = (.if_icmp .lt 7, (false, 48), (false, 52), (0, 0, 0), (0, 0, 0), []) ∧
  pw_fnd pp_P_overlaps 48 = (.iconst 1, (false, 49), (false, 0), (0, 0, 0), (0, 0, 0), [(1, (false, 0))]) ∧
  pw_fnd pp_P_overlaps 49 = (.goto 4, (false, 52), (false, 53), (0, 0, 0), (0, 0, 0), []) ∧
  pw_fnd pp_P_overlaps 52 = (.iconst 0, (false, 53), (false, 0), (0, 0, 0), (0, 0, 0), [(0, (false, 0))]) ∧
  pw_fnd pp_P_overlaps 53 = (.ireturn, (false, 54), (false, 0), (0, 0, 2), (0, 0, 0), []) :=
  ⟨rfl, rfl, rfl, rfl, rfl, rfl, rfl, rfl, rfl, rfl, rfl, rfl, rfl, rfl, rfl, rfl, rfl, rfl, rfl, rfl, rfl, rfl, rfl, rfl, rfl, rfl, rfl, rfl, rfl⟩
set_option maxRecDepth 100000 in
theorem pk_P_overlaps : pp_P_overlaps.all (fun q => pw_chk pw_jt pm_P_overlaps q.1 q.2) = true := by decide +kernel
