def pp_L_c7 : List (Nat × pw_E) := [(403, (.aload_n 1, (false, 404), (false, 0), (0, 0, 0), (0, 0, 0), [])),
  (404, (.aload_n 0, (false, 405), (false, 0), (0, 0, 0), (0, 0, 0), [])),
  (405, (.iload_n 3, (false, 406), (false, 0), (0, 0, 0), (0, 0, 0), [])),
  (406, (.iconst 1, (false, 407), (false, 0), (0, 0, 0), (0, 0, 0), [(1, (false, 0))])),
  (407, (.iadd, (false, 408), (false, 0), (0, 0, 0), (0, 0, 0), [])),
  (408, (.iaload, (false, 409), (false, 0), (0, 0, 0), (0, 0, 0), [])),
  (409, (.aload_n 0, (false, 410), (false, 0), (0, 0, 0), (0, 0, 0), [])),
  (410, (.iload_n 3, (false, 411), (false, 0), (0, 0, 0), (0, 0, 0), [])),
  (411, (.iconst 2, (false, 412), (false, 0), (0, 0, 0), (0, 0, 0), [(2, (false, 0))])),
  (412, (.iadd, (false, 413), (false, 0), (0, 0, 0), (0, 0, 0), [])),
  (413, (.iaload, (false, 414), (false, 0), (0, 0, 0), (0, 0, 0), [])),
  (414, (.invokevirtual 45, (false, 417), (false, 3), (44, 3, 1), (0, 0, 367), [])),
  (417, (.aload_n 2, (false, 418), (false, 0), (0, 0, 0), (0, 0, 0), [])),
  (418, (.aload_n 0, (false, 419), (false, 0), (0, 0, 0), (0, 0, 0), [])),
  (419, (.iload_n 3, (false, 420), (false, 0), (0, 0, 0), (0, 0, 0), [])),
  (420, (.iconst 1, (false, 421), (false, 0), (0, 0, 0), (0, 0, 0), [(1, (false, 0))])),
  (421, (.iadd, (false, 422), (false, 0), (0, 0, 0), (0, 0, 0), [])),
  (422, (.iaload, (false, 423), (false, 0), (0, 0, 0), (0, 0, 0), [])),
  (423, (.aload_n 0, (false, 424), (false, 0), (0, 0, 0), (0, 0, 0), [])),
  (424, (.iload_n 3, (false, 425), (false, 0), (0, 0, 0), (0, 0, 0), [])),
  (425, (.iconst 2, (false, 426), (false, 0), (0, 0, 0), (0, 0, 0), [(2, (false, 0))])),
  (426, (.iadd, (false, 427), (false, 0), (0, 0, 0), (0, 0, 0), [])),
  (427, (.iaload, (false, 428), (false, 0), (0, 0, 0), (0, 0, 0), [])),
  (428, (.invokevirtual 48, (false, 431), (false, 4), (82, 3, 1), (0, 0, 696), [])),
  (431, (.if_icmp .eq 452, (false, 434), (true, 883), (0, 0, 0), (0, 0, 0), [])),
  (434, (.iconst 0, (false, 435), (false, 0), (0, 0, 0), (0, 0, 0), [(0, (false, 0))])),
  (435, (.ireturn, (true, 436), (false, 0), (0, 0, 2), (0, 0, 0), []))]
set_option maxRecDepth 100000 in
theorem pe_L_c7 : pw_fnd pp_L_c7 403 = (.aload_n 1, (false, 404), (false, 0), (0, 0, 0), (0, 0, 0), []) ∧
  pw_fnd pp_L_c7 404 = (.aload_n 0, (false, 405), (false, 0), (0, 0, 0), (0, 0, 0), []) ∧
  pw_fnd pp_L_c7 405 = (.iload_n 3, (false, 406), (false, 0), (0, 0, 0), (0, 0, 0), []) ∧
  pw_fnd pp_L_c7 406 = (.iconst 1, (false, 407), (false, 0), (0, 0, 0), (0, 0, 0), [(1, (false, 0))]) ∧
  pw_fnd pp_L_c7 407 = (.iadd, (false, 408), (false, 0), (0, 0, 0), (0, 0, 0), []) ∧
  pw_fnd pp_L_c7 408 = (.iaload, (false, 409), (false, 0), (0, 0, 0), (0, 0, 0), []) ∧
  pw_fnd pp_L_c7 409 = (.aload_n 0, (false, 410), (false, 0), (0, 0, 0), (0, 0, 0), []) ∧
  pw_fnd pp_L_c7 410 = (.iload_n 3, (false, 411), (false, 0), (0, 0, 0), (0, 0, 0), []) ∧
  pw_fnd pp_L_c7 411 = (.iconst 2, (false, 412), (false, 0), (0, 0, 0), (0, 0, 0), [(2, (false, 0))]) ∧
  pw_fnd pp_L_c7 412 = (.iadd, (false, 413), (false, 0), (0, 0, 0), (0, 0, 0), []) ∧
  pw_fnd pp_L_c7 413 = (.iaload, (false, 414), (false, 0), (0, 0, 0), (0, 0, 0), []) ∧
  pw_fnd pp_L_c7 414 = (.invokevirtual 45, (false, 417), (false, 3), (44, 3, 1), (0, 0, 367), []) ∧
  pw_fnd pp_L_c7 417 = (.aload_n 2, (false, 418), (false, 0), (0, 0, 0), (0, 0, 0), []) ∧
  pw_fnd pp_L_c7 418 = (.aload_n 0, (false, 419), (false, 0), (0, 0, 0), (0, 0, 0), []) ∧
  pw_fnd pp_L_c7 419 = (.iload_n 3, (false, 420), (false, 0), (0, 0, 0), (0, 0, 0), []) ∧
  pw_fnd pp_L_c7 420 = (.iconst 1, (false, 421), (false, 0), (0, 0, 0), (0, 0, 0), [(1, (false, 0))]) ∧
  pw_fnd pp_L_c7 421 = (.iadd, (false, 422), (false, 0), (0, 0, 0), (0, 0, 0), []) ∧
  pw_fnd pp_L_c7 422 = (.iaload, (false, 423), (false, 0), (0, 0, 0), (0, 0, 0), []) ∧
  pw_fnd pp_L_c7 423 = (.aload_n 0, (false, 424), (false, 0), (0, 0, 0), (0, 0, 0), []) ∧
  pw_fnd pp_L_c7 424 = (.iload_n 3, (false, 425), (false, 0), (0, 0, 0), (0, 0, 0), []) ∧
  pw_fnd pp_L_c7 425 = (.iconst 2, (false, 426), (false, 0), (0, 0, 0), (0, 0, 0), [(2, (false, 0))]) ∧
  pw_fnd pp_L_c7 426 = (.iadd, (false, 427), (false, 0), (0, 0, 0), (0, 0, 0), []) ∧
  pw_fnd pp_L_c7 427 = (.iaload, (false, 428), (false, 0), (0, 0, 0), (0, 0, 0), []) ∧
  pw_fnd pp_L_c7 428 = (.invokevirtual 48, (false, 431), (false, 4), (82, 3, 1), (0, 0, 696), []) ∧
  pw_fnd pp_L_c7 431 = (.if_icmp .eq 452, (false, 434), (true, 883), (0, 0, 0), (0, 0, 0), []) ∧
  pw_fnd pp_L_c7 434 = (.iconst 0, (false, 435), (false, 0), (0, 0, 0), (0, 0, 0), [(0, (false, 0))]) ∧
  pw_fnd pp_L_c7 435 = (.ireturn, (true, 436), (false, 0), (0, 0, 2), (0, 0, 0), []) :=
  ⟨rfl, rfl, rfl, rfl, rfl, rfl, rfl, rfl, rfl, rfl, rfl, rfl, rfl, rfl, rfl, rfl, rfl, rfl, rfl, rfl, rfl, rfl, rfl, rfl, rfl, rfl, rfl⟩
set_option maxRecDepth 100000 in
theorem pk_L_c7 : pp_L_c7.all (fun q => pw_chk pw_jt pm_L_law q.1 q.2) = true := by decide +kernel
def pp_L_c8 : List (Nat × pw_E) := [(436, (.aload_n 1, (false, 437), (false, 0), (0, 0, 0), (0, 0, 0), [])),
  (437, (.aload_n 0, (false, 438), (false, 0), (0, 0, 0), (0, 0, 0), [])),
  (438, (.iload_n 3, (false, 439), (false, 0), (0, 0, 0), (0, 0, 0), [])),
  (439, (.iconst 1, (false, 440), (false, 0), (0, 0, 0), (0, 0, 0), [(1, (false, 0))])),
  (440, (.iadd, (false, 441), (false, 0), (0, 0, 0), (0, 0, 0), [])),
  (441, (.iaload, (false, 442), (false, 0), (0, 0, 0), (0, 0, 0), [])),
  (442, (.invokevirtual 49, (false, 445), (false, 3), (66, 2, 1), (0, 0, 371), [])),
  (445, (.aload_n 2, (false, 446), (false, 0), (0, 0, 0), (0, 0, 0), [])),
  (446, (.aload_n 0, (false, 447), (false, 0), (0, 0, 0), (0, 0, 0), [])),
  (447, (.iload_n 3, (false, 448), (false, 0), (0, 0, 0), (0, 0, 0), [])),
  (448, (.iconst 1, (false, 449), (false, 0), (0, 0, 0), (0, 0, 0), [(1, (false, 0))])),
  (449, (.iadd, (false, 450), (false, 0), (0, 0, 0), (0, 0, 0), [])),
  (450, (.iaload, (false, 451), (false, 0), (0, 0, 0), (0, 0, 0), [])),
  (451, (.invokevirtual 52, (false, 454), (false, 4), (83, 2, 1), (0, 0, 700), [])),
  (454, (.if_icmp .eq 429, (false, 457), (true, 883), (0, 0, 0), (0, 0, 0), [])),
  (457, (.iconst 0, (false, 458), (false, 0), (0, 0, 0), (0, 0, 0), [(0, (false, 0))])),
  (458, (.ireturn, (true, 459), (false, 0), (0, 0, 2), (0, 0, 0), []))]
set_option maxRecDepth 100000 in
theorem pe_L_c8 : pw_fnd pp_L_c8 436 = (.aload_n 1, (false, 437), (false, 0), (0, 0, 0), (0, 0, 0), []) ∧
  pw_fnd pp_L_c8 437 = (.aload_n 0, (false, 438), (false, 0), (0, 0, 0), (0, 0, 0), []) ∧
  pw_fnd pp_L_c8 438 = (.iload_n 3, (false, 439), (false, 0), (0, 0, 0), (0, 0, 0), []) ∧
  pw_fnd pp_L_c8 439 = (.iconst 1, (false, 440), (false, 0), (0, 0, 0), (0, 0, 0), [(1, (false, 0))]) ∧
  pw_fnd pp_L_c8 440 = (.iadd, (false, 441), (false, 0), (0, 0, 0), (0, 0, 0), []) ∧
  pw_fnd pp_L_c8 441 = (.iaload, (false, 442), (false, 0), (0, 0, 0), (0, 0, 0), []) ∧
  pw_fnd pp_L_c8 442 = (.invokevirtual 49, (false, 445), (false, 3), (66, 2, 1), (0, 0, 371), []) ∧
  pw_fnd pp_L_c8 445 = (.aload_n 2, (false, 446), (false, 0), (0, 0, 0), (0, 0, 0), []) ∧
  pw_fnd pp_L_c8 446 = (.aload_n 0, (false, 447), (false, 0), (0, 0, 0), (0, 0, 0), []) ∧
  pw_fnd pp_L_c8 447 = (.iload_n 3, (false, 448), (false, 0), (0, 0, 0), (0, 0, 0), []) ∧
  pw_fnd pp_L_c8 448 = (.iconst 1, (false, 449), (false, 0), (0, 0, 0), (0, 0, 0), [(1, (false, 0))]) ∧
  pw_fnd pp_L_c8 449 = (.iadd, (false, 450), (false, 0), (0, 0, 0), (0, 0, 0), []) ∧
  pw_fnd pp_L_c8 450 = (.iaload, (false, 451), (false, 0), (0, 0, 0), (0, 0, 0), []) ∧
  pw_fnd pp_L_c8 451 = (.invokevirtual 52, (false, 454), (false, 4), (83, 2, 1), (0, 0, 700), []) ∧
  pw_fnd pp_L_c8 454 = (.if_icmp .eq 429, (false, 457), (true, 883), (0, 0, 0), (0, 0, 0), []) ∧
  pw_fnd pp_L_c8 457 = (.iconst 0, (false, 458), (false, 0), (0, 0, 0), (0, 0, 0), [(0, (false, 0))]) ∧
  pw_fnd pp_L_c8 458 = (.ireturn, (true, 459), (false, 0), (0, 0, 2), (0, 0, 0), []) :=
  ⟨rfl, rfl, rfl, rfl, rfl, rfl, rfl, rfl, rfl, rfl, rfl, rfl, rfl, rfl, rfl, rfl, rfl⟩
set_option maxRecDepth 100000 in
theorem pk_L_c8 : pp_L_c8.all (fun q => pw_chk pw_jt pm_L_law q.1 q.2) = true := by decide +kernel
def pp_L_c9 : List (Nat × pw_E) := [(459, (.aload_n 1, (false, 460), (false, 0), (0, 0, 0), (0, 0, 0), [])),
  (460, (.aload_n 0, (false, 461), (false, 0), (0, 0, 0), (0, 0, 0), [])),
  (461, (.iload_n 3, (false, 462), (false, 0), (0, 0, 0), (0, 0, 0), [])),
  (462, (.iconst 1, (false, 463), (false, 0), (0, 0, 0), (0, 0, 0), [(1, (false, 0))])),
  (463, (.iadd, (false, 464), (false, 0), (0, 0, 0), (0, 0, 0), [])),
  (464, (.iaload, (false, 465), (false, 0), (0, 0, 0), (0, 0, 0), [])),
  (465, (.invokevirtual 53, (false, 468), (false, 3), (97, 2, 1), (0, 0, 391), [])),
  (468, (.aload_n 2, (false, 469), (false, 0), (0, 0, 0), (0, 0, 0), [])),
  (469, (.aload_n 0, (false, 470), (false, 0), (0, 0, 0), (0, 0, 0), [])),
  (470, (.iload_n 3, (false, 471), (false, 0), (0, 0, 0), (0, 0, 0), [])),
  (471, (.iconst 1, (false, 472), (false, 0), (0, 0, 0), (0, 0, 0), [(1, (false, 0))])),
  (472, (.iadd, (false, 473), (false, 0), (0, 0, 0), (0, 0, 0), [])),
  (473, (.iaload, (false, 474), (false, 0), (0, 0, 0), (0, 0, 0), [])),
  (474, (.invokevirtual 56, (false, 477), (false, 4), (84, 2, 1), (0, 0, 704), [])),
  (477, (.if_icmp .eq 406, (false, 480), (true, 883), (0, 0, 0), (0, 0, 0), [])),
  (480, (.iconst 0, (false, 481), (false, 0), (0, 0, 0), (0, 0, 0), [(0, (false, 0))])),
  (481, (.ireturn, (true, 482), (false, 0), (0, 0, 2), (0, 0, 0), []))]
set_option maxRecDepth 100000 in
theorem pe_L_c9 : pw_fnd pp_L_c9 459 = (.aload_n 1, (false, 460), (false, 0), (0, 0, 0), (0, 0, 0), []) ∧
  pw_fnd pp_L_c9 460 = (.aload_n 0, (false, 461), (false, 0), (0, 0, 0), (0, 0, 0), []) ∧
  pw_fnd pp_L_c9 461 = (.iload_n 3, (false, 462), (false, 0), (0, 0, 0), (0, 0, 0), []) ∧
  pw_fnd pp_L_c9 462 = (.iconst 1, (false, 463), (false, 0), (0, 0, 0), (0, 0, 0), [(1, (false, 0))]) ∧
  pw_fnd pp_L_c9 463 = (.iadd, (false, 464), (false, 0), (0, 0, 0), (0, 0, 0), []) ∧
  pw_fnd pp_L_c9 464 = (.iaload, (false, 465), (false, 0), (0, 0, 0), (0, 0, 0), []) ∧
  pw_fnd pp_L_c9 465 = (.invokevirtual 53, (false, 468), (false, 3), (97, 2, 1), (0, 0, 391), []) ∧
  pw_fnd pp_L_c9 468 = (.aload_n 2, (false, 469), (false, 0), (0, 0, 0), (0, 0, 0), []) ∧
  pw_fnd pp_L_c9 469 = (.aload_n 0, (false, 470), (false, 0), (0, 0, 0), (0, 0, 0), []) ∧
  pw_fnd pp_L_c9 470 = (.iload_n 3, (false, 471), (false, 0), (0, 0, 0), (0, 0, 0), []) ∧
  pw_fnd pp_L_c9 471 = (.iconst 1, (false, 472), (false, 0), (0, 0, 0), (0, 0, 0), [(1, (false, 0))]) ∧
  pw_fnd pp_L_c9 472 = (.iadd, (false, 473), (false, 0), (0, 0, 0), (0, 0, 0), []) ∧
  pw_fnd pp_L_c9 473 = (.iaload, (false, 474), (false, 0), (0, 0, 0), (0, 0, 0), []) ∧
  pw_fnd pp_L_c9 474 = (.invokevirtual 56, (false, 477), (false, 4), (84, 2, 1), (0, 0, 704), []) ∧
  pw_fnd pp_L_c9 477 = (.if_icmp .eq 406, (false, 480), (true, 883), (0, 0, 0), (0, 0, 0), []) ∧
  pw_fnd pp_L_c9 480 = (.iconst 0, (false, 481), (false, 0), (0, 0, 0), (0, 0, 0), [(0, (false, 0))]) ∧
  pw_fnd pp_L_c9 481 = (.ireturn, (true, 482), (false, 0), (0, 0, 2), (0, 0, 0), []) :=
  ⟨rfl, rfl, rfl, rfl, rfl, rfl, rfl, rfl, rfl, rfl, rfl, rfl, rfl, rfl, rfl, rfl, rfl⟩
set_option maxRecDepth 100000 in
theorem pk_L_c9 : pp_L_c9.all (fun q => pw_chk pw_jt pm_L_law q.1 q.2) = true := by decide +kernel
def pp_L_c10 : List (Nat × pw_E) := [(482, (.aload_n 1, (false, 483), (false, 0), (0, 0, 0), (0, 0, 0), [])),
  (483, (.aload_n 0, (false, 484), (false, 0), (0, 0, 0), (0, 0, 0), [])),
  (484, (.iload_n 3, (false, 485), (false, 0), (0, 0, 0), (0, 0, 0), [])),
  (485, (.iconst 1, (false, 486), (false, 0), (0, 0, 0), (0, 0, 0), [(1, (false, 0))])),
  (486, (.iadd, (false, 487), (false, 0), (0, 0, 0), (0, 0, 0), [])),
  (487, (.iaload, (false, 488), (false, 0), (0, 0, 0), (0, 0, 0), [])),
  (488, (.aload_n 0, (false, 489), (false, 0), (0, 0, 0), (0, 0, 0), [])),
  (489, (.iload_n 3, (false, 490), (false, 0), (0, 0, 0), (0, 0, 0), [])),
  (490, (.iconst 2, (false, 491), (false, 0), (0, 0, 0), (0, 0, 0), [(2, (false, 0))])),
  (491, (.iadd, (false, 492), (false, 0), (0, 0, 0), (0, 0, 0), [])),
  (492, (.iaload, (false, 493), (false, 0), (0, 0, 0), (0, 0, 0), [])),
  (493, (.ifCond .eq 7, (false, 496), (false, 500), (0, 0, 0), (0, 0, 0), [])),
  (496, (.iconst 1, (false, 497), (false, 0), (0, 0, 0), (0, 0, 0), [(1, (false, 0))])),
  (497, (.goto 4, (false, 500), (false, 501), (0, 0, 0), (0, 0, 0), [])),
  (500, (.iconst 0, (false, 501), (false, 0), (0, 0, 0), (0, 0, 0), [(0, (false, 0))])),
  (501, (.invokevirtual 57, (false, 504), (false, 3), (45, 3, 1), (0, 0, 395), [])),
  (504, (.aload_n 2, (false, 505), (false, 0), (0, 0, 0), (0, 0, 0), [])),
  (505, (.aload_n 0, (false, 506), (false, 0), (0, 0, 0), (0, 0, 0), [])),
  (506, (.iload_n 3, (false, 507), (false, 0), (0, 0, 0), (0, 0, 0), [])),
  (507, (.iconst 1, (false, 508), (false, 0), (0, 0, 0), (0, 0, 0), [(1, (false, 0))])),
  (508, (.iadd, (false, 509), (false, 0), (0, 0, 0), (0, 0, 0), [])),
  (509, (.iaload, (false, 510), (false, 0), (0, 0, 0), (0, 0, 0), [])),
  (510, (.aload_n 0, (false, 511), (false, 0), (0, 0, 0), (0, 0, 0), [])),
  (511, (.iload_n 3, (false, 512), (false, 0), (0, 0, 0), (0, 0, 0), [])),
  (512, (.iconst 2, (false, 513), (false, 0), (0, 0, 0), (0, 0, 0), [(2, (false, 0))])),
  (513, (.iadd, (false, 514), (false, 0), (0, 0, 0), (0, 0, 0), [])),
  (514, (.iaload, (false, 515), (false, 0), (0, 0, 0), (0, 0, 0), [])),
  (515, (.ifCond .eq 7, (false, 518), (false, 522), (0, 0, 0), (0, 0, 0), [])),
  (518, (.iconst 1, (false, 519), (false, 0), (0, 0, 0), (0, 0, 0), [(1, (false, 0))])),
  (519, (.goto 4, (false, 522), (false, 523), (0, 0, 0), (0, 0, 0), [])),
  (522, (.iconst 0, (false, 523), (false, 0), (0, 0, 0), (0, 0, 0), [(0, (false, 0))])),
  (523, (.invokevirtual 61, (false, 526), (false, 4), (85, 3, 1), (0, 0, 708), [])),
  (526, (.if_icmp .eq 357, (false, 529), (true, 883), (0, 0, 0), (0, 0, 0), [])),
  (529, (.iconst 0, (false, 530), (false, 0), (0, 0, 0), (0, 0, 0), [(0, (false, 0))])),
  (530, (.ireturn, (true, 531), (false, 0), (0, 0, 2), (0, 0, 0), []))]
set_option maxRecDepth 100000 in
theorem pe_L_c10 : pw_fnd pp_L_c10 482 = (.aload_n 1, (false, 483), (false, 0), (0, 0, 0), (0, 0, 0), []) ∧
  pw_fnd pp_L_c10 483 = (.aload_n 0, (false, 484), (false, 0), (0, 0, 0), (0, 0, 0), []) ∧
  pw_fnd pp_L_c10 484 = (.iload_n 3, (false, 485), (false, 0), (0, 0, 0), (0, 0, 0), []) ∧
  pw_fnd pp_L_c10 485 = (.iconst 1, (false, 486), (false, 0), (0, 0, 0), (0, 0, 0), [(1, (false, 0))]) ∧
  pw_fnd pp_L_c10 486 = (.iadd, (false, 487), (false, 0), (0, 0, 0), (0, 0, 0), []) ∧
  pw_fnd pp_L_c10 487 = (.iaload, (false, 488), (false, 0), (0, 0, 0), (0, 0, 0), []) ∧
  pw_fnd pp_L_c10 488 = (.aload_n 0, (false, 489), (false, 0), (0, 0, 0), (0, 0, 0), []) ∧
  pw_fnd pp_L_c10 489 = (.iload_n 3, (false, 490), (false, 0), (0, 0, 0), (0, 0, 0), []) ∧
  pw_fnd pp_L_c10 490 = (.iconst 2, (false, 491), (false, 0), (0, 0, 0), (0, 0, 0), [(2, (false, 0))]) ∧
  pw_fnd pp_L_c10 491 = (.iadd, (false, 492), (false, 0), (0, 0, 0), (0, 0, 0), []) ∧
  pw_fnd pp_L_c10 492 = (.iaload, (false, 493), (false, 0), (0, 0, 0), (0, 0, 0), []) ∧
  pw_fnd pp_L_c10 493 = (.ifCond .eq 7, (false, 496), (false, 500), (0, 0, 0), (0, 0, 0), []) ∧
  pw_fnd pp_L_c10 496 = (.iconst 1, (false, 497), (false, 0), (0, 0, 0), (0, 0, 0), [(1, (false, 0))]) ∧
  pw_fnd pp_L_c10 497 = (.goto 4, (false, 500), (false, 501), (0, 0, 0), (0, 0, 0), []) ∧
  pw_fnd pp_L_c10 500 = (.iconst 0, (false, 501), (false, 0), (0, 0, 0), (0, 0, 0), [(0, (false, 0))]) ∧
  pw_fnd pp_L_c10 501 = (.invokevirtual 57, (false, 504), (false, 3), (45, 3, 1), (0, 0, 395), []) ∧
  pw_fnd pp_L_c10 504 = (.aload_n 2, (false, 505), (false, 0), (0, 0, 0), (0, 0, 0), []) ∧
  pw_fnd pp_L_c10 505 = (.aload_n 0, (false, 506), (false, 0), (0, 0, 0), (0, 0, 0), []) ∧
  pw_fnd pp_L_c10 506 = (.iload_n 3, (false, 507), (false, 0), (0, 0, 0), (0, 0, 0), []) ∧
  pw_fnd pp_L_c10 507 = (.iconst 1, (false, 508), (false, 0), (0, 0, 0), (0, 0, 0), [(1, (false, 0))]) ∧
  pw_fnd pp_L_c10 508 = (.iadd, (false, 509), (false, 0), (0, 0, 0), (0, 0, 0), []) ∧
  pw_fnd pp_L_c10 509 = (.iaload, (false, 510), (false, 0), (0, 0, 0), (0, 0, 0), []) ∧
  pw_fnd pp_L_c10 510 = (.aload_n 0, (false, 511), (false, 0), (0, 0, 0), (0, 0, 0), []) ∧
  pw_fnd pp_L_c10 511 = (.iload_n 3, (false, 512), (false, 0), (0, 0, 0), (0, 0, 0), []) ∧
  pw_fnd pp_L_c10 512 = (.iconst 2, (false, 513), (false, 0), (0, 0, 0), (0, 0, 0), [(2, (false, 0))]) ∧
  pw_fnd pp_L_c10 513 = (.iadd, (false, 514), (false, 0), (0, 0, 0), (0, 0, 0), []) ∧
  pw_fnd pp_L_c10 514 = (.iaload, (false, 515), (false, 0), (0, 0, 0), (0, 0, 0), []) ∧
  pw_fnd pp_L_c10 515 = (.ifCond .eq 7, (false, 518), (false, 522), (0, 0, 0), (0, 0, 0), []) ∧
  pw_fnd pp_L_c10 518 = (.iconst 1, (false, 519), (false, 0), (0, 0, 0), (0, 0, 0), [(1, (false, 0))]) ∧
  pw_fnd pp_L_c10 519 = (.goto 4, (false, 522), (false, 523), (0, 0, 0), (0, 0, 0), []) ∧
  pw_fnd pp_L_c10 522 = (.iconst 0, (false, 523), (false, 0), (0, 0, 0), (0, 0, 0), [(0, (false, 0))]) ∧
  pw_fnd pp_L_c10 523 = (.invokevirtual 61, (false, 526), (false, 4), (85, 3, 1), (0, 0, 708), []) ∧
  pw_fnd pp_L_c10 526 = (.if_icmp .eq 357, (false, 529), (true, 883), (0, 0, 0), (0, 0, 0), []) ∧
  pw_fnd pp_L_c10 529 = (.iconst 0, (false, 530), (false, 0), (0, 0, 0), (0, 0, 0), [(0, (false, 0))]) ∧
  pw_fnd pp_L_c10 530 = (.ireturn, (true, 531), (false, 0), (0, 0, 2), (0, 0, 0), []) :=
  ⟨rfl, rfl, rfl, rfl, rfl, rfl, rfl, rfl, rfl, rfl, rfl, rfl, rfl, rfl, rfl, rfl, rfl, rfl, rfl, rfl, rfl, rfl, rfl, rfl, rfl, rfl, rfl, rfl, rfl, rfl, rfl, rfl, rfl, rfl, rfl⟩
set_option maxRecDepth 100000 in
theorem pk_L_c10 : pp_L_c10.all (fun q => pw_chk pw_jt pm_L_law q.1 q.2) = true := by decide +kernel
def pp_L_c11 : List (Nat × pw_E) := [(531, (.aload_n 1, (false, 532), (false, 0), (0, 0, 0), (0, 0, 0), [])),
  (532, (.aload_n 0, (false, 533), (false, 0), (0, 0, 0), (0, 0, 0), [])),
  (533, (.iload_n 3, (false, 534), (false, 0), (0, 0, 0), (0, 0, 0), [])),
  (534, (.iconst 1, (false, 535), (false, 0), (0, 0, 0), (0, 0, 0), [(1, (false, 0))])),
  (535, (.iadd, (false, 536), (false, 0), (0, 0, 0), (0, 0, 0), [])),
  (536, (.iaload, (false, 537), (false, 0), (0, 0, 0), (0, 0, 0), [])),
  (537, (.ifCond .eq 7, (false, 540), (false, 544), (0, 0, 0), (0, 0, 0), [])),
  (540, (.iconst 1, (false, 541), (false, 0), (0, 0, 0), (0, 0, 0), [(1, (false, 0))])),
  (541, (.goto 4, (false, 544), (false, 545), (0, 0, 0), (0, 0, 0), [])),
  (544, (.iconst 0, (false, 545), (false, 0), (0, 0, 0), (0, 0, 0), [(0, (false, 0))])),
  (545, (.invokevirtual 62, (false, 548), (false, 3), (12, 2, 1), (0, 0, 399), [])),
  (548, (.aload_n 2, (false, 549), (false, 0), (0, 0, 0), (0, 0, 0), [])),
  (549, (.aload_n 0, (false, 550), (false, 0), (0, 0, 0), (0, 0, 0), [])),
  (550, (.iload_n 3, (false, 551), (false, 0), (0, 0, 0), (0, 0, 0), [])),
  (551, (.iconst 1, (false, 552), (false, 0), (0, 0, 0), (0, 0, 0), [(1, (false, 0))])),
  (552, (.iadd, (false, 553), (false, 0), (0, 0, 0), (0, 0, 0), [])),
  (553, (.iaload, (false, 554), (false, 0), (0, 0, 0), (0, 0, 0), [])),
  (554, (.ifCond .eq 7, (false, 557), (false, 561), (0, 0, 0), (0, 0, 0), [])),
  (557, (.iconst 1, (false, 558), (false, 0), (0, 0, 0), (0, 0, 0), [(1, (false, 0))])),
  (558, (.goto 4, (false, 561), (false, 562), (0, 0, 0), (0, 0, 0), [])),
  (561, (.iconst 0, (false, 562), (false, 0), (0, 0, 0), (0, 0, 0), [(0, (false, 0))])),
  (562, (.invokevirtual 66, (false, 565), (false, 4), (27, 2, 1), (0, 0, 712), [])),
  (565, (.if_icmp .eq 318, (false, 568), (true, 883), (0, 0, 0), (0, 0, 0), [])),
  (568, (.iconst 0, (false, 569), (false, 0), (0, 0, 0), (0, 0, 0), [(0, (false, 0))])),
  (569, (.ireturn, (true, 570), (false, 0), (0, 0, 2), (0, 0, 0), []))]
set_option maxRecDepth 100000 in
theorem pe_L_c11 : pw_fnd pp_L_c11 531 = (.aload_n 1, (false, 532), (false, 0), (0, 0, 0), (0, 0, 0), []) ∧
  pw_fnd pp_L_c11 532 = (.aload_n 0, (false, 533), (false, 0), (0, 0, 0), (0, 0, 0), []) ∧
  pw_fnd pp_L_c11 533 = (.iload_n 3, (false, 534), (false, 0), (0, 0, 0), (0, 0, 0), []) ∧
  pw_fnd pp_L_c11 534 = (.iconst 1, (false, 535), (false, 0), (0, 0, 0), (0, 0, 0), [(1, (false, 0))]) ∧
  pw_fnd pp_L_c11 535 = (.iadd, (false, 536), (false, 0), (0, 0, 0), (0, 0, 0), []) ∧
  pw_fnd pp_L_c11 536 = (.iaload, (false, 537), (false, 0), (0, 0, 0), (0, 0, 0), []) ∧
  pw_fnd pp_L_c11 537 = (.ifCond .eq 7, (false, 540), (false, 544), (0, 0, 0), (0, 0, 0), []) ∧
  pw_fnd pp_L_c11 540 = (.iconst 1, (false, 541), (false, 0), (0, 0, 0), (0, 0, 0), [(1, (false, 0))]) ∧
  pw_fnd pp_L_c11 541 = (.goto 4, (false, 544), (false, 545), (0, 0, 0), (0, 0, 0), []) ∧
  pw_fnd pp_L_c11 544 = (.iconst 0, (false, 545), (false, 0), (0, 0, 0), (0, 0, 0), [(0, (false, 0))]) ∧
  pw_fnd pp_L_c11 545 = (.invokevirtual 62, (false, 548), (false, 3), (12, 2, 1), (0, 0, 399), []) ∧
  pw_fnd pp_L_c11 548 = (.aload_n 2, (false, 549), (false, 0), (0, 0, 0), (0, 0, 0), []) ∧
  pw_fnd pp_L_c11 549 = (.aload_n 0, (false, 550), (false, 0), (0, 0, 0), (0, 0, 0), []) ∧
  pw_fnd pp_L_c11 550 = (.iload_n 3, (false, 551), (false, 0), (0, 0, 0), (0, 0, 0), []) ∧
  pw_fnd pp_L_c11 551 = (.iconst 1, (false, 552), (false, 0), (0, 0, 0), (0, 0, 0), [(1, (false, 0))]) ∧
  pw_fnd pp_L_c11 552 = (.iadd, (false, 553), (false, 0), (0, 0, 0), (0, 0, 0), []) ∧
  pw_fnd pp_L_c11 553 = (.iaload, (false, 554), (false, 0), (0, 0, 0), (0, 0, 0), []) ∧
  pw_fnd pp_L_c11 554 = (.ifCond .eq 7, (false, 557), (false, 561), (0, 0, 0), (0, 0, 0), []) ∧
  pw_fnd pp_L_c11 557 = (.iconst 1, (false, 558), (false, 0), (0, 0, 0), (0, 0, 0), [(1, (false, 0))]) ∧
  pw_fnd pp_L_c11 558 = (.goto 4, (false, 561), (false, 562), (0, 0, 0), (0, 0, 0), []) ∧
  pw_fnd pp_L_c11 561 = (.iconst 0, (false, 562), (false, 0), (0, 0, 0), (0, 0, 0), [(0, (false, 0))]) ∧
  pw_fnd pp_L_c11 562 = (.invokevirtual 66, (false, 565), (false, 4), (27, 2, 1), (0, 0, 712), []) ∧
  pw_fnd pp_L_c11 565 = (.if_icmp .eq 318, (false, 568), (true, 883), (0, 0, 0), (0, 0, 0), []) ∧
  pw_fnd pp_L_c11 568 = (.iconst 0, (false, 569), (false, 0), (0, 0, 0), (0, 0, 0), [(0, (false, 0))]) ∧
  pw_fnd pp_L_c11 569 = (.ireturn, (true, 570), (false, 0), (0, 0, 2), (0, 0, 0), []) :=
  ⟨rfl, rfl, rfl, rfl, rfl, rfl, rfl, rfl, rfl, rfl, rfl, rfl, rfl, rfl, rfl, rfl, rfl, rfl, rfl, rfl, rfl, rfl, rfl, rfl, rfl⟩
set_option maxRecDepth 100000 in
theorem pk_L_c11 : pp_L_c11.all (fun q => pw_chk pw_jt pm_L_law q.1 q.2) = true := by decide +kernel
def pp_L_c12 : List (Nat × pw_E) := [(570, (.aload_n 1, (false, 571), (false, 0), (0, 0, 0), (0, 0, 0), [])),
  (571, (.aload_n 0, (false, 572), (false, 0), (0, 0, 0), (0, 0, 0), [])),
  (572, (.iload_n 3, (false, 573), (false, 0), (0, 0, 0), (0, 0, 0), [])),
  (573, (.iconst 1, (false, 574), (false, 0), (0, 0, 0), (0, 0, 0), [(1, (false, 0))])),
  (574, (.iadd, (false, 575), (false, 0), (0, 0, 0), (0, 0, 0), [])),
  (575, (.iaload, (false, 576), (false, 0), (0, 0, 0), (0, 0, 0), [])),
  (576, (.invokevirtual 67, (false, 579), (false, 3), (114, 2, 1), (0, 0, 403), [])),
  (579, (.aload_n 2, (false, 580), (false, 0), (0, 0, 0), (0, 0, 0), [])),
  (580, (.aload_n 0, (false, 581), (false, 0), (0, 0, 0), (0, 0, 0), [])),
  (581, (.iload_n 3, (false, 582), (false, 0), (0, 0, 0), (0, 0, 0), [])),
  (582, (.iconst 1, (false, 583), (false, 0), (0, 0, 0), (0, 0, 0), [(1, (false, 0))])),
  (583, (.iadd, (false, 584), (false, 0), (0, 0, 0), (0, 0, 0), [])),
  (584, (.iaload, (false, 585), (false, 0), (0, 0, 0), (0, 0, 0), [])),
  (585, (.invokevirtual 70, (false, 588), (false, 4), (112, 2, 1), (0, 0, 716), [])),
  (588, (.if_icmp .eq 295, (false, 591), (true, 883), (0, 0, 0), (0, 0, 0), [])),
  (591, (.iconst 0, (false, 592), (false, 0), (0, 0, 0), (0, 0, 0), [(0, (false, 0))])),
  (592, (.ireturn, (true, 593), (false, 0), (0, 0, 2), (0, 0, 0), []))]
set_option maxRecDepth 100000 in
theorem pe_L_c12 : pw_fnd pp_L_c12 570 = (.aload_n 1, (false, 571), (false, 0), (0, 0, 0), (0, 0, 0), []) ∧
  pw_fnd pp_L_c12 571 = (.aload_n 0, (false, 572), (false, 0), (0, 0, 0), (0, 0, 0), []) ∧
  pw_fnd pp_L_c12 572 = (.iload_n 3, (false, 573), (false, 0), (0, 0, 0), (0, 0, 0), []) ∧
  pw_fnd pp_L_c12 573 = (.iconst 1, (false, 574), (false, 0), (0, 0, 0), (0, 0, 0), [(1, (false, 0))]) ∧
  pw_fnd pp_L_c12 574 = (.iadd, (false, 575), (false, 0), (0, 0, 0), (0, 0, 0), []) ∧
  pw_fnd pp_L_c12 575 = (.iaload, (false, 576), (false, 0), (0, 0, 0), (0, 0, 0), []) ∧
  pw_fnd pp_L_c12 576 = (.invokevirtual 67, (false, 579), (false, 3), (114, 2, 1), (0, 0, 403), []) ∧
  pw_fnd pp_L_c12 579 = (.aload_n 2, (false, 580), (false, 0), (0, 0, 0), (0, 0, 0), []) ∧
  pw_fnd pp_L_c12 580 = (.aload_n 0, (false, 581), (false, 0), (0, 0, 0), (0, 0, 0), []) ∧
  pw_fnd pp_L_c12 581 = (.iload_n 3, (false, 582), (false, 0), (0, 0, 0), (0, 0, 0), []) ∧
  pw_fnd pp_L_c12 582 = (.iconst 1, (false, 583), (false, 0), (0, 0, 0), (0, 0, 0), [(1, (false, 0))]) ∧
  pw_fnd pp_L_c12 583 = (.iadd, (false, 584), (false, 0), (0, 0, 0), (0, 0, 0), []) ∧
  pw_fnd pp_L_c12 584 = (.iaload, (false, 585), (false, 0), (0, 0, 0), (0, 0, 0), []) ∧
  pw_fnd pp_L_c12 585 = (.invokevirtual 70, (false, 588), (false, 4), (112, 2, 1), (0, 0, 716), []) ∧
  pw_fnd pp_L_c12 588 = (.if_icmp .eq 295, (false, 591), (true, 883), (0, 0, 0), (0, 0, 0), []) ∧
  pw_fnd pp_L_c12 591 = (.iconst 0, (false, 592), (false, 0), (0, 0, 0), (0, 0, 0), [(0, (false, 0))]) ∧
  pw_fnd pp_L_c12 592 = (.ireturn, (true, 593), (false, 0), (0, 0, 2), (0, 0, 0), []) :=
  ⟨rfl, rfl, rfl, rfl, rfl, rfl, rfl, rfl, rfl, rfl, rfl, rfl, rfl, rfl, rfl, rfl, rfl⟩
set_option maxRecDepth 100000 in
theorem pk_L_c12 : pp_L_c12.all (fun q => pw_chk pw_jt pm_L_law q.1 q.2) = true := by decide +kernel
def pp_L_c13 : List (Nat × pw_E) := [(593, (.aload_n 1, (false, 594), (false, 0), (0, 0, 0), (0, 0, 0), [])),
  (594, (.aload_n 0, (false, 595), (false, 0), (0, 0, 0), (0, 0, 0), [])),
  (595, (.iload_n 3, (false, 596), (false, 0), (0, 0, 0), (0, 0, 0), [])),
  (596, (.iconst 1, (false, 597), (false, 0), (0, 0, 0), (0, 0, 0), [(1, (false, 0))])),
  (597, (.iadd, (false, 598), (false, 0), (0, 0, 0), (0, 0, 0), [])),
  (598, (.iaload, (false, 599), (false, 0), (0, 0, 0), (0, 0, 0), [])),
  (599, (.invokevirtual 71, (false, 602), (false, 3), (67, 2, 1), (0, 0, 461), [])),
  (602, (.aload_n 2, (false, 603), (false, 0), (0, 0, 0), (0, 0, 0), [])),
  (603, (.aload_n 0, (false, 604), (false, 0), (0, 0, 0), (0, 0, 0), [])),
  (604, (.iload_n 3, (false, 605), (false, 0), (0, 0, 0), (0, 0, 0), [])),
  (605, (.iconst 1, (false, 606), (false, 0), (0, 0, 0), (0, 0, 0), [(1, (false, 0))])),
  (606, (.iadd, (false, 607), (false, 0), (0, 0, 0), (0, 0, 0), [])),
  (607, (.iaload, (false, 608), (false, 0), (0, 0, 0), (0, 0, 0), [])),
  (608, (.invokevirtual 74, (false, 611), (false, 4), (88, 2, 1), (0, 0, 752), [])),
  (611, (.if_icmp .eq 272, (false, 614), (true, 883), (0, 0, 0), (0, 0, 0), [])),
  (614, (.iconst 0, (false, 615), (false, 0), (0, 0, 0), (0, 0, 0), [(0, (false, 0))])),
  (615, (.ireturn, (true, 616), (false, 0), (0, 0, 2), (0, 0, 0), []))]
set_option maxRecDepth 100000 in
theorem pe_L_c13 : pw_fnd pp_L_c13 593 = (.aload_n 1, (false, 594), (false, 0), (0, 0, 0), (0, 0, 0), []) ∧
  pw_fnd pp_L_c13 594 = (.aload_n 0, (false, 595), (false, 0), (0, 0, 0), (0, 0, 0), []) ∧
  pw_fnd pp_L_c13 595 = (.iload_n 3, (false, 596), (false, 0), (0, 0, 0), (0, 0, 0), []) ∧
  pw_fnd pp_L_c13 596 = (.iconst 1, (false, 597), (false, 0), (0, 0, 0), (0, 0, 0), [(1, (false, 0))]) ∧
  pw_fnd pp_L_c13 597 = (.iadd, (false, 598), (false, 0), (0, 0, 0), (0, 0, 0), []) ∧
  pw_fnd pp_L_c13 598 = (.iaload, (false, 599), (false, 0), (0, 0, 0), (0, 0, 0), []) ∧
  pw_fnd pp_L_c13 599 = (.invokevirtual 71, (false, 602), (false, 3), (67, 2, 1), (0, 0, 461), []) ∧
  pw_fnd pp_L_c13 602 = (.aload_n 2, (false, 603), (false, 0), (0, 0, 0), (0, 0, 0), []) ∧
  pw_fnd pp_L_c13 603 = (.aload_n 0, (false, 604), (false, 0), (0, 0, 0), (0, 0, 0), []) ∧
  pw_fnd pp_L_c13 604 = (.iload_n 3, (false, 605), (false, 0), (0, 0, 0), (0, 0, 0), []) ∧
  pw_fnd pp_L_c13 605 = (.iconst 1, (false, 606), (false, 0), (0, 0, 0), (0, 0, 0), [(1, (false, 0))]) ∧
  pw_fnd pp_L_c13 606 = (.iadd, (false, 607), (false, 0), (0, 0, 0), (0, 0, 0), []) ∧
  pw_fnd pp_L_c13 607 = (.iaload, (false, 608), (false, 0), (0, 0, 0), (0, 0, 0), []) ∧
  pw_fnd pp_L_c13 608 = (.invokevirtual 74, (false, 611), (false, 4), (88, 2, 1), (0, 0, 752), []) ∧
  pw_fnd pp_L_c13 611 = (.if_icmp .eq 272, (false, 614), (true, 883), (0, 0, 0), (0, 0, 0), []) ∧
  pw_fnd pp_L_c13 614 = (.iconst 0, (false, 615), (false, 0), (0, 0, 0), (0, 0, 0), [(0, (false, 0))]) ∧
  pw_fnd pp_L_c13 615 = (.ireturn, (true, 616), (false, 0), (0, 0, 2), (0, 0, 0), []) :=
  ⟨rfl, rfl, rfl, rfl, rfl, rfl, rfl, rfl, rfl, rfl, rfl, rfl, rfl, rfl, rfl, rfl, rfl⟩
set_option maxRecDepth 100000 in
theorem pk_L_c13 : pp_L_c13.all (fun q => pw_chk pw_jt pm_L_law q.1 q.2) = true := by decide +kernel
