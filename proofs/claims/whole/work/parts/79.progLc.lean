def pp_L_c14 : List (Nat × pw_E) := [(616, (.aload_n 1, (false, 617), (false, 0), (0, 0, 0), (0, 0, 0), [])),
  (617, (.aload_n 0, (false, 618), (false, 0), (0, 0, 0), (0, 0, 0), [])),
  (618, (.iload_n 3, (false, 619), (false, 0), (0, 0, 0), (0, 0, 0), [])),
  (619, (.iconst 1, (false, 620), (false, 0), (0, 0, 0), (0, 0, 0), [(1, (false, 0))])),
  (620, (.iadd, (false, 621), (false, 0), (0, 0, 0), (0, 0, 0), [])),
  (621, (.iaload, (false, 622), (false, 0), (0, 0, 0), (0, 0, 0), [])),
  (622, (.aload_n 0, (false, 623), (false, 0), (0, 0, 0), (0, 0, 0), [])),
  (623, (.iload_n 3, (false, 624), (false, 0), (0, 0, 0), (0, 0, 0), [])),
  (624, (.iconst 2, (false, 625), (false, 0), (0, 0, 0), (0, 0, 0), [(2, (false, 0))])),
  (625, (.iadd, (false, 626), (false, 0), (0, 0, 0), (0, 0, 0), [])),
  (626, (.iaload, (false, 627), (false, 0), (0, 0, 0), (0, 0, 0), [])),
  (627, (.invokevirtual 75, (false, 630), (false, 3), (110, 3, 1), (0, 0, 469), [])),
  (630, (.aload_n 2, (false, 631), (false, 0), (0, 0, 0), (0, 0, 0), [])),
  (631, (.aload_n 0, (false, 632), (false, 0), (0, 0, 0), (0, 0, 0), [])),
  (632, (.iload_n 3, (false, 633), (false, 0), (0, 0, 0), (0, 0, 0), [])),
  (633, (.iconst 1, (false, 634), (false, 0), (0, 0, 0), (0, 0, 0), [(1, (false, 0))])),
  (634, (.iadd, (false, 635), (false, 0), (0, 0, 0), (0, 0, 0), [])),
  (635, (.iaload, (false, 636), (false, 0), (0, 0, 0), (0, 0, 0), [])),
  (636, (.aload_n 0, (false, 637), (false, 0), (0, 0, 0), (0, 0, 0), [])),
  (637, (.iload_n 3, (false, 638), (false, 0), (0, 0, 0), (0, 0, 0), [])),
  (638, (.iconst 2, (false, 639), (false, 0), (0, 0, 0), (0, 0, 0), [(2, (false, 0))])),
  (639, (.iadd, (false, 640), (false, 0), (0, 0, 0), (0, 0, 0), [])),
  (640, (.iaload, (false, 641), (false, 0), (0, 0, 0), (0, 0, 0), [])),
  (641, (.invokevirtual 78, (false, 644), (false, 4), (106, 3, 1), (0, 0, 636), [])),
  (644, (.if_icmp .eq 239, (false, 647), (true, 883), (0, 0, 0), (0, 0, 0), [])),
  (647, (.iconst 0, (false, 648), (false, 0), (0, 0, 0), (0, 0, 0), [(0, (false, 0))])),
  (648, (.ireturn, (true, 649), (false, 0), (0, 0, 2), (0, 0, 0), []))]
set_option maxRecDepth 100000 in
theorem pe_L_c14 : pw_fnd pp_L_c14 616 = (.aload_n 1, (false, 617), (false, 0), (0, 0, 0), (0, 0, 0), []) ∧
  pw_fnd pp_L_c14 617 = (.aload_n 0, (false, 618), (false, 0), (0, 0, 0), (0, 0, 0), []) ∧
  pw_fnd pp_L_c14 618 = (.iload_n 3, (false, 619), (false, 0), (0, 0, 0), (0, 0, 0), []) ∧
  pw_fnd pp_L_c14 619 = (.iconst 1, (false, 620), (false, 0), (0, 0, 0), (0, 0, 0), [(1, (false, 0))]) ∧
  pw_fnd pp_L_c14 620 = (.iadd, (false, 621), (false, 0), (0, 0, 0), (0, 0, 0), []) ∧
  pw_fnd pp_L_c14 621 = (.iaload, (false, 622), (false, 0), (0, 0, 0), (0, 0, 0), []) ∧
  pw_fnd pp_L_c14 622 = (.aload_n 0, (false, 623), (false, 0), (0, 0, 0), (0, 0, 0), []) ∧
  pw_fnd pp_L_c14 623 = (.iload_n 3, (false, 624), (false, 0), (0, 0, 0), (0, 0, 0), []) ∧
  pw_fnd pp_L_c14 624 = (.iconst 2, (false, 625), (false, 0), (0, 0, 0), (0, 0, 0), [(2, (false, 0))]) ∧
  pw_fnd pp_L_c14 625 = (.iadd, (false, 626), (false, 0), (0, 0, 0), (0, 0, 0), []) ∧
  pw_fnd pp_L_c14 626 = (.iaload, (false, 627), (false, 0), (0, 0, 0), (0, 0, 0), []) ∧
  pw_fnd pp_L_c14 627 = (.invokevirtual 75, (false, 630), (false, 3), (110, 3, 1), (0, 0, 469), []) ∧
  pw_fnd pp_L_c14 630 = (.aload_n 2, (false, 631), (false, 0), (0, 0, 0), (0, 0, 0), []) ∧
  pw_fnd pp_L_c14 631 = (.aload_n 0, (false, 632), (false, 0), (0, 0, 0), (0, 0, 0), []) ∧
  pw_fnd pp_L_c14 632 = (.iload_n 3, (false, 633), (false, 0), (0, 0, 0), (0, 0, 0), []) ∧
  pw_fnd pp_L_c14 633 = (.iconst 1, (false, 634), (false, 0), (0, 0, 0), (0, 0, 0), [(1, (false, 0))]) ∧
  pw_fnd pp_L_c14 634 = (.iadd, (false, 635), (false, 0), (0, 0, 0), (0, 0, 0), []) ∧
  pw_fnd pp_L_c14 635 = (.iaload, (false, 636), (false, 0), (0, 0, 0), (0, 0, 0), []) ∧
  pw_fnd pp_L_c14 636 = (.aload_n 0, (false, 637), (false, 0), (0, 0, 0), (0, 0, 0), []) ∧
  pw_fnd pp_L_c14 637 = (.iload_n 3, (false, 638), (false, 0), (0, 0, 0), (0, 0, 0), []) ∧
  pw_fnd pp_L_c14 638 = (.iconst 2, (false, 639), (false, 0), (0, 0, 0), (0, 0, 0), [(2, (false, 0))]) ∧
  pw_fnd pp_L_c14 639 = (.iadd, (false, 640), (false, 0), (0, 0, 0), (0, 0, 0), []) ∧
  pw_fnd pp_L_c14 640 = (.iaload, (false, 641), (false, 0), (0, 0, 0), (0, 0, 0), []) ∧
  pw_fnd pp_L_c14 641 = (.invokevirtual 78, (false, 644), (false, 4), (106, 3, 1), (0, 0, 636), []) ∧
  pw_fnd pp_L_c14 644 = (.if_icmp .eq 239, (false, 647), (true, 883), (0, 0, 0), (0, 0, 0), []) ∧
  pw_fnd pp_L_c14 647 = (.iconst 0, (false, 648), (false, 0), (0, 0, 0), (0, 0, 0), [(0, (false, 0))]) ∧
  pw_fnd pp_L_c14 648 = (.ireturn, (true, 649), (false, 0), (0, 0, 2), (0, 0, 0), []) :=
  ⟨rfl, rfl, rfl, rfl, rfl, rfl, rfl, rfl, rfl, rfl, rfl, rfl, rfl, rfl, rfl, rfl, rfl, rfl, rfl, rfl, rfl, rfl, rfl, rfl, rfl, rfl, rfl⟩
set_option maxRecDepth 100000 in
theorem pk_L_c14 : pp_L_c14.all (fun q => pw_chk pw_jt pm_L_law q.1 q.2) = true := by decide +kernel
def pp_L_c15 : List (Nat × pw_E) := [(649, (.aload_n 1, (false, 650), (false, 0), (0, 0, 0), (0, 0, 0), [])),
  (650, (.aload_n 0, (false, 651), (false, 0), (0, 0, 0), (0, 0, 0), [])),
  (651, (.iload_n 3, (false, 652), (false, 0), (0, 0, 0), (0, 0, 0), [])),
  (652, (.iconst 1, (false, 653), (false, 0), (0, 0, 0), (0, 0, 0), [(1, (false, 0))])),
  (653, (.iadd, (false, 654), (false, 0), (0, 0, 0), (0, 0, 0), [])),
  (654, (.iaload, (false, 655), (false, 0), (0, 0, 0), (0, 0, 0), [])),
  (655, (.aload_n 0, (false, 656), (false, 0), (0, 0, 0), (0, 0, 0), [])),
  (656, (.iload_n 3, (false, 657), (false, 0), (0, 0, 0), (0, 0, 0), [])),
  (657, (.iconst 2, (false, 658), (false, 0), (0, 0, 0), (0, 0, 0), [(2, (false, 0))])),
  (658, (.iadd, (false, 659), (false, 0), (0, 0, 0), (0, 0, 0), [])),
  (659, (.iaload, (false, 660), (false, 0), (0, 0, 0), (0, 0, 0), [])),
  (660, (.invokevirtual 79, (false, 663), (false, 3), (98, 3, 1), (0, 0, 473), [])),
  (663, (.aload_n 2, (false, 664), (false, 0), (0, 0, 0), (0, 0, 0), [])),
  (664, (.aload_n 0, (false, 665), (false, 0), (0, 0, 0), (0, 0, 0), [])),
  (665, (.iload_n 3, (false, 666), (false, 0), (0, 0, 0), (0, 0, 0), [])),
  (666, (.iconst 1, (false, 667), (false, 0), (0, 0, 0), (0, 0, 0), [(1, (false, 0))])),
  (667, (.iadd, (false, 668), (false, 0), (0, 0, 0), (0, 0, 0), [])),
  (668, (.iaload, (false, 669), (false, 0), (0, 0, 0), (0, 0, 0), [])),
  (669, (.aload_n 0, (false, 670), (false, 0), (0, 0, 0), (0, 0, 0), [])),
  (670, (.iload_n 3, (false, 671), (false, 0), (0, 0, 0), (0, 0, 0), [])),
  (671, (.iconst 2, (false, 672), (false, 0), (0, 0, 0), (0, 0, 0), [(2, (false, 0))])),
  (672, (.iadd, (false, 673), (false, 0), (0, 0, 0), (0, 0, 0), [])),
  (673, (.iaload, (false, 674), (false, 0), (0, 0, 0), (0, 0, 0), [])),
  (674, (.invokevirtual 82, (false, 677), (false, 4), (89, 3, 1), (0, 0, 756), [])),
  (677, (.if_icmp .eq 206, (false, 680), (true, 883), (0, 0, 0), (0, 0, 0), [])),
  (680, (.iconst 0, (false, 681), (false, 0), (0, 0, 0), (0, 0, 0), [(0, (false, 0))])),
  (681, (.ireturn, (true, 682), (false, 0), (0, 0, 2), (0, 0, 0), []))]
set_option maxRecDepth 100000 in
theorem pe_L_c15 : pw_fnd pp_L_c15 649 = (.aload_n 1, (false, 650), (false, 0), (0, 0, 0), (0, 0, 0), []) ∧
  pw_fnd pp_L_c15 650 = (.aload_n 0, (false, 651), (false, 0), (0, 0, 0), (0, 0, 0), []) ∧
  pw_fnd pp_L_c15 651 = (.iload_n 3, (false, 652), (false, 0), (0, 0, 0), (0, 0, 0), []) ∧
  pw_fnd pp_L_c15 652 = (.iconst 1, (false, 653), (false, 0), (0, 0, 0), (0, 0, 0), [(1, (false, 0))]) ∧
  pw_fnd pp_L_c15 653 = (.iadd, (false, 654), (false, 0), (0, 0, 0), (0, 0, 0), []) ∧
  pw_fnd pp_L_c15 654 = (.iaload, (false, 655), (false, 0), (0, 0, 0), (0, 0, 0), []) ∧
  pw_fnd pp_L_c15 655 = (.aload_n 0, (false, 656), (false, 0), (0, 0, 0), (0, 0, 0), []) ∧
  pw_fnd pp_L_c15 656 = (.iload_n 3, (false, 657), (false, 0), (0, 0, 0), (0, 0, 0), []) ∧
  pw_fnd pp_L_c15 657 = (.iconst 2, (false, 658), (false, 0), (0, 0, 0), (0, 0, 0), [(2, (false, 0))]) ∧
  pw_fnd pp_L_c15 658 = (.iadd, (false, 659), (false, 0), (0, 0, 0), (0, 0, 0), []) ∧
  pw_fnd pp_L_c15 659 = (.iaload, (false, 660), (false, 0), (0, 0, 0), (0, 0, 0), []) ∧
  pw_fnd pp_L_c15 660 = (.invokevirtual 79, (false, 663), (false, 3), (98, 3, 1), (0, 0, 473), []) ∧
  pw_fnd pp_L_c15 663 = (.aload_n 2, (false, 664), (false, 0), (0, 0, 0), (0, 0, 0), []) ∧
  pw_fnd pp_L_c15 664 = (.aload_n 0, (false, 665), (false, 0), (0, 0, 0), (0, 0, 0), []) ∧
  pw_fnd pp_L_c15 665 = (.iload_n 3, (false, 666), (false, 0), (0, 0, 0), (0, 0, 0), []) ∧
  pw_fnd pp_L_c15 666 = (.iconst 1, (false, 667), (false, 0), (0, 0, 0), (0, 0, 0), [(1, (false, 0))]) ∧
  pw_fnd pp_L_c15 667 = (.iadd, (false, 668), (false, 0), (0, 0, 0), (0, 0, 0), []) ∧
  pw_fnd pp_L_c15 668 = (.iaload, (false, 669), (false, 0), (0, 0, 0), (0, 0, 0), []) ∧
  pw_fnd pp_L_c15 669 = (.aload_n 0, (false, 670), (false, 0), (0, 0, 0), (0, 0, 0), []) ∧
  pw_fnd pp_L_c15 670 = (.iload_n 3, (false, 671), (false, 0), (0, 0, 0), (0, 0, 0), []) ∧
  pw_fnd pp_L_c15 671 = (.iconst 2, (false, 672), (false, 0), (0, 0, 0), (0, 0, 0), [(2, (false, 0))]) ∧
  pw_fnd pp_L_c15 672 = (.iadd, (false, 673), (false, 0), (0, 0, 0), (0, 0, 0), []) ∧
  pw_fnd pp_L_c15 673 = (.iaload, (false, 674), (false, 0), (0, 0, 0), (0, 0, 0), []) ∧
  pw_fnd pp_L_c15 674 = (.invokevirtual 82, (false, 677), (false, 4), (89, 3, 1), (0, 0, 756), []) ∧
  pw_fnd pp_L_c15 677 = (.if_icmp .eq 206, (false, 680), (true, 883), (0, 0, 0), (0, 0, 0), []) ∧
  pw_fnd pp_L_c15 680 = (.iconst 0, (false, 681), (false, 0), (0, 0, 0), (0, 0, 0), [(0, (false, 0))]) ∧
  pw_fnd pp_L_c15 681 = (.ireturn, (true, 682), (false, 0), (0, 0, 2), (0, 0, 0), []) :=
  ⟨rfl, rfl, rfl, rfl, rfl, rfl, rfl, rfl, rfl, rfl, rfl, rfl, rfl, rfl, rfl, rfl, rfl, rfl, rfl, rfl, rfl, rfl, rfl, rfl, rfl, rfl, rfl⟩
set_option maxRecDepth 100000 in
theorem pk_L_c15 : pp_L_c15.all (fun q => pw_chk pw_jt pm_L_law q.1 q.2) = true := by decide +kernel
def pp_L_c16 : List (Nat × pw_E) := [(682, (.aload_n 1, (false, 683), (false, 0), (0, 0, 0), (0, 0, 0), [])),
  (683, (.aload_n 0, (false, 684), (false, 0), (0, 0, 0), (0, 0, 0), [])),
  (684, (.iload_n 3, (false, 685), (false, 0), (0, 0, 0), (0, 0, 0), [])),
  (685, (.iconst 1, (false, 686), (false, 0), (0, 0, 0), (0, 0, 0), [(1, (false, 0))])),
  (686, (.iadd, (false, 687), (false, 0), (0, 0, 0), (0, 0, 0), [])),
  (687, (.iaload, (false, 688), (false, 0), (0, 0, 0), (0, 0, 0), [])),
  (688, (.aload_n 0, (false, 689), (false, 0), (0, 0, 0), (0, 0, 0), [])),
  (689, (.iload_n 3, (false, 690), (false, 0), (0, 0, 0), (0, 0, 0), [])),
  (690, (.iconst 2, (false, 691), (false, 0), (0, 0, 0), (0, 0, 0), [(2, (false, 0))])),
  (691, (.iadd, (false, 692), (false, 0), (0, 0, 0), (0, 0, 0), [])),
  (692, (.iaload, (false, 693), (false, 0), (0, 0, 0), (0, 0, 0), [])),
  (693, (.aload_n 0, (false, 694), (false, 0), (0, 0, 0), (0, 0, 0), [])),
  (694, (.iload_n 3, (false, 695), (false, 0), (0, 0, 0), (0, 0, 0), [])),
  (695, (.iconst 3, (false, 696), (false, 0), (0, 0, 0), (0, 0, 0), [(3, (false, 0))])),
  (696, (.iadd, (false, 697), (false, 0), (0, 0, 0), (0, 0, 0), [])),
  (697, (.iaload, (false, 698), (false, 0), (0, 0, 0), (0, 0, 0), [])),
  (698, (.invokevirtual 83, (false, 701), (false, 3), (68, 4, 1), (0, 0, 481), [])),
  (701, (.aload_n 2, (false, 702), (false, 0), (0, 0, 0), (0, 0, 0), [])),
  (702, (.aload_n 0, (false, 703), (false, 0), (0, 0, 0), (0, 0, 0), [])),
  (703, (.iload_n 3, (false, 704), (false, 0), (0, 0, 0), (0, 0, 0), [])),
  (704, (.iconst 1, (false, 705), (false, 0), (0, 0, 0), (0, 0, 0), [(1, (false, 0))])),
  (705, (.iadd, (false, 706), (false, 0), (0, 0, 0), (0, 0, 0), [])),
  (706, (.iaload, (false, 707), (false, 0), (0, 0, 0), (0, 0, 0), [])),
  (707, (.aload_n 0, (false, 708), (false, 0), (0, 0, 0), (0, 0, 0), [])),
  (708, (.iload_n 3, (false, 709), (false, 0), (0, 0, 0), (0, 0, 0), [])),
  (709, (.iconst 2, (false, 710), (false, 0), (0, 0, 0), (0, 0, 0), [(2, (false, 0))])),
  (710, (.iadd, (false, 711), (false, 0), (0, 0, 0), (0, 0, 0), [])),
  (711, (.iaload, (false, 712), (false, 0), (0, 0, 0), (0, 0, 0), [])),
  (712, (.aload_n 0, (false, 713), (false, 0), (0, 0, 0), (0, 0, 0), [])),
  (713, (.iload_n 3, (false, 714), (false, 0), (0, 0, 0), (0, 0, 0), [])),
  (714, (.iconst 3, (false, 715), (false, 0), (0, 0, 0), (0, 0, 0), [(3, (false, 0))])),
  (715, (.iadd, (false, 716), (false, 0), (0, 0, 0), (0, 0, 0), [])),
  (716, (.iaload, (false, 717), (false, 0), (0, 0, 0), (0, 0, 0), [])),
  (717, (.invokevirtual 86, (false, 720), (false, 4), (90, 4, 1), (0, 0, 760), [])),
  (720, (.if_icmp .eq 163, (false, 723), (true, 883), (0, 0, 0), (0, 0, 0), [])),
  (723, (.iconst 0, (false, 724), (false, 0), (0, 0, 0), (0, 0, 0), [(0, (false, 0))])),
  (724, (.ireturn, (true, 725), (false, 0), (0, 0, 2), (0, 0, 0), []))]
set_option maxRecDepth 100000 in
theorem pe_L_c16 : pw_fnd pp_L_c16 682 = (.aload_n 1, (false, 683), (false, 0), (0, 0, 0), (0, 0, 0), []) ∧
  pw_fnd pp_L_c16 683 = (.aload_n 0, (false, 684), (false, 0), (0, 0, 0), (0, 0, 0), []) ∧
  pw_fnd pp_L_c16 684 = (.iload_n 3, (false, 685), (false, 0), (0, 0, 0), (0, 0, 0), []) ∧
  pw_fnd pp_L_c16 685 = (.iconst 1, (false, 686), (false, 0), (0, 0, 0), (0, 0, 0), [(1, (false, 0))]) ∧
  pw_fnd pp_L_c16 686 = (.iadd, (false, 687), (false, 0), (0, 0, 0), (0, 0, 0), []) ∧
  pw_fnd pp_L_c16 687 = (.iaload, (false, 688), (false, 0), (0, 0, 0), (0, 0, 0), []) ∧
  pw_fnd pp_L_c16 688 = (.aload_n 0, (false, 689), (false, 0), (0, 0, 0), (0, 0, 0), []) ∧
  pw_fnd pp_L_c16 689 = (.iload_n 3, (false, 690), (false, 0), (0, 0, 0), (0, 0, 0), []) ∧
  pw_fnd pp_L_c16 690 = (.iconst 2, (false, 691), (false, 0), (0, 0, 0), (0, 0, 0), [(2, (false, 0))]) ∧
  pw_fnd pp_L_c16 691 = (.iadd, (false, 692), (false, 0), (0, 0, 0), (0, 0, 0), []) ∧
  pw_fnd pp_L_c16 692 = (.iaload, (false, 693), (false, 0), (0, 0, 0), (0, 0, 0), []) ∧
  pw_fnd pp_L_c16 693 = (.aload_n 0, (false, 694), (false, 0), (0, 0, 0), (0, 0, 0), []) ∧
  pw_fnd pp_L_c16 694 = (.iload_n 3, (false, 695), (false, 0), (0, 0, 0), (0, 0, 0), []) ∧
  pw_fnd pp_L_c16 695 = (.iconst 3, (false, 696), (false, 0), (0, 0, 0), (0, 0, 0), [(3, (false, 0))]) ∧
  pw_fnd pp_L_c16 696 = (.iadd, (false, 697), (false, 0), (0, 0, 0), (0, 0, 0), []) ∧
  pw_fnd pp_L_c16 697 = (.iaload, (false, 698), (false, 0), (0, 0, 0), (0, 0, 0), []) ∧
  pw_fnd pp_L_c16 698 = (.invokevirtual 83, (false, 701), (false, 3), (68, 4, 1), (0, 0, 481), []) ∧
  pw_fnd pp_L_c16 701 = (.aload_n 2, (false, 702), (false, 0), (0, 0, 0), (0, 0, 0), []) ∧
  pw_fnd pp_L_c16 702 = (.aload_n 0, (false, 703), (false, 0), (0, 0, 0), (0, 0, 0), []) ∧
  pw_fnd pp_L_c16 703 = (.iload_n 3, (false, 704), (false, 0), (0, 0, 0), (0, 0, 0), []) ∧
  pw_fnd pp_L_c16 704 = (.iconst 1, (false, 705), (false, 0), (0, 0, 0), (0, 0, 0), [(1, (false, 0))]) ∧
  pw_fnd pp_L_c16 705 = (.iadd, (false, 706), (false, 0), (0, 0, 0), (0, 0, 0), []) ∧
  pw_fnd pp_L_c16 706 = (.iaload, (false, 707), (false, 0), (0, 0, 0), (0, 0, 0), []) ∧
  pw_fnd pp_L_c16 707 = (.aload_n 0, (false, 708), (false, 0), (0, 0, 0), (0, 0, 0), []) ∧
  pw_fnd pp_L_c16 708 = (.iload_n 3, (false, 709), (false, 0), (0, 0, 0), (0, 0, 0), []) ∧
  pw_fnd pp_L_c16 709 = (.iconst 2, (false, 710), (false, 0), (0, 0, 0), (0, 0, 0), [(2, (false, 0))]) ∧
  pw_fnd pp_L_c16 710 = (.iadd, (false, 711), (false, 0), (0, 0, 0), (0, 0, 0), []) ∧
  pw_fnd pp_L_c16 711 = (.iaload, (false, 712), (false, 0), (0, 0, 0), (0, 0, 0), []) ∧
  pw_fnd pp_L_c16 712 = (.aload_n 0, (false, 713), (false, 0), (0, 0, 0), (0, 0, 0), []) ∧
  pw_fnd pp_L_c16 713 = (.iload_n 3, (false, 714), (false, 0), (0, 0, 0), (0, 0, 0), []) ∧
  pw_fnd pp_L_c16 714 = (.iconst 3, (false, 715), (false, 0), (0, 0, 0), (0, 0, 0), [(3, (false, 0))]) ∧
  pw_fnd pp_L_c16 715 = (.iadd, (false, 716), (false, 0), (0, 0, 0), (0, 0, 0), []) ∧
  pw_fnd pp_L_c16 716 = (.iaload, (false, 717), (false, 0), (0, 0, 0), (0, 0, 0), []) ∧
  pw_fnd pp_L_c16 717 = (.invokevirtual 86, (false, 720), (false, 4), (90, 4, 1), (0, 0, 760), []) ∧
  pw_fnd pp_L_c16 720 = (.if_icmp .eq 163, (false, 723), (true, 883), (0, 0, 0), (0, 0, 0), []) ∧
  pw_fnd pp_L_c16 723 = (.iconst 0, (false, 724), (false, 0), (0, 0, 0), (0, 0, 0), [(0, (false, 0))]) ∧
  pw_fnd pp_L_c16 724 = (.ireturn, (true, 725), (false, 0), (0, 0, 2), (0, 0, 0), []) :=
  ⟨rfl, rfl, rfl, rfl, rfl, rfl, rfl, rfl, rfl, rfl, rfl, rfl, rfl, rfl, rfl, rfl, rfl, rfl, rfl, rfl, rfl, rfl, rfl, rfl, rfl, rfl, rfl, rfl, rfl, rfl, rfl, rfl, rfl, rfl, rfl, rfl, rfl⟩
set_option maxRecDepth 100000 in
theorem pk_L_c16 : pp_L_c16.all (fun q => pw_chk pw_jt pm_L_law q.1 q.2) = true := by decide +kernel
def pp_L_c17 : List (Nat × pw_E) := [(725, (.aload_n 1, (false, 726), (false, 0), (0, 0, 0), (0, 0, 0), [])),
  (726, (.aload_n 0, (false, 727), (false, 0), (0, 0, 0), (0, 0, 0), [])),
  (727, (.iload_n 3, (false, 728), (false, 0), (0, 0, 0), (0, 0, 0), [])),
  (728, (.iconst 1, (false, 729), (false, 0), (0, 0, 0), (0, 0, 0), [(1, (false, 0))])),
  (729, (.iadd, (false, 730), (false, 0), (0, 0, 0), (0, 0, 0), [])),
  (730, (.iaload, (false, 731), (false, 0), (0, 0, 0), (0, 0, 0), [])),
  (731, (.aload_n 0, (false, 732), (false, 0), (0, 0, 0), (0, 0, 0), [])),
  (732, (.iload_n 3, (false, 733), (false, 0), (0, 0, 0), (0, 0, 0), [])),
  (733, (.iconst 2, (false, 734), (false, 0), (0, 0, 0), (0, 0, 0), [(2, (false, 0))])),
  (734, (.iadd, (false, 735), (false, 0), (0, 0, 0), (0, 0, 0), [])),
  (735, (.iaload, (false, 736), (false, 0), (0, 0, 0), (0, 0, 0), [])),
  (736, (.invokevirtual 87, (false, 739), (false, 3), (46, 3, 1), (0, 0, 485), [])),
  (739, (.aload_n 2, (false, 740), (false, 0), (0, 0, 0), (0, 0, 0), [])),
  (740, (.aload_n 0, (false, 741), (false, 0), (0, 0, 0), (0, 0, 0), [])),
  (741, (.iload_n 3, (false, 742), (false, 0), (0, 0, 0), (0, 0, 0), [])),
  (742, (.iconst 1, (false, 743), (false, 0), (0, 0, 0), (0, 0, 0), [(1, (false, 0))])),
  (743, (.iadd, (false, 744), (false, 0), (0, 0, 0), (0, 0, 0), [])),
  (744, (.iaload, (false, 745), (false, 0), (0, 0, 0), (0, 0, 0), [])),
  (745, (.aload_n 0, (false, 746), (false, 0), (0, 0, 0), (0, 0, 0), [])),
  (746, (.iload_n 3, (false, 747), (false, 0), (0, 0, 0), (0, 0, 0), [])),
  (747, (.iconst 2, (false, 748), (false, 0), (0, 0, 0), (0, 0, 0), [(2, (false, 0))])),
  (748, (.iadd, (false, 749), (false, 0), (0, 0, 0), (0, 0, 0), [])),
  (749, (.iaload, (false, 750), (false, 0), (0, 0, 0), (0, 0, 0), [])),
  (750, (.invokevirtual 90, (false, 753), (false, 4), (91, 3, 1), (0, 0, 764), [])),
  (753, (.if_icmp .eq 130, (false, 756), (true, 883), (0, 0, 0), (0, 0, 0), [])),
  (756, (.iconst 0, (false, 757), (false, 0), (0, 0, 0), (0, 0, 0), [(0, (false, 0))])),
  (757, (.ireturn, (true, 758), (false, 0), (0, 0, 2), (0, 0, 0), []))]
set_option maxRecDepth 100000 in
theorem pe_L_c17 : pw_fnd pp_L_c17 725 = (.aload_n 1, (false, 726), (false, 0), (0, 0, 0), (0, 0, 0), []) ∧
  pw_fnd pp_L_c17 726 = (.aload_n 0, (false, 727), (false, 0), (0, 0, 0), (0, 0, 0), []) ∧
  pw_fnd pp_L_c17 727 = (.iload_n 3, (false, 728), (false, 0), (0, 0, 0), (0, 0, 0), []) ∧
  pw_fnd pp_L_c17 728 = (.iconst 1, (false, 729), (false, 0), (0, 0, 0), (0, 0, 0), [(1, (false, 0))]) ∧
  pw_fnd pp_L_c17 729 = (.iadd, (false, 730), (false, 0), (0, 0, 0), (0, 0, 0), []) ∧
  pw_fnd pp_L_c17 730 = (.iaload, (false, 731), (false, 0), (0, 0, 0), (0, 0, 0), []) ∧
  pw_fnd pp_L_c17 731 = (.aload_n 0, (false, 732), (false, 0), (0, 0, 0), (0, 0, 0), []) ∧
  pw_fnd pp_L_c17 732 = (.iload_n 3, (false, 733), (false, 0), (0, 0, 0), (0, 0, 0), []) ∧
  pw_fnd pp_L_c17 733 = (.iconst 2, (false, 734), (false, 0), (0, 0, 0), (0, 0, 0), [(2, (false, 0))]) ∧
  pw_fnd pp_L_c17 734 = (.iadd, (false, 735), (false, 0), (0, 0, 0), (0, 0, 0), []) ∧
  pw_fnd pp_L_c17 735 = (.iaload, (false, 736), (false, 0), (0, 0, 0), (0, 0, 0), []) ∧
  pw_fnd pp_L_c17 736 = (.invokevirtual 87, (false, 739), (false, 3), (46, 3, 1), (0, 0, 485), []) ∧
  pw_fnd pp_L_c17 739 = (.aload_n 2, (false, 740), (false, 0), (0, 0, 0), (0, 0, 0), []) ∧
  pw_fnd pp_L_c17 740 = (.aload_n 0, (false, 741), (false, 0), (0, 0, 0), (0, 0, 0), []) ∧
  pw_fnd pp_L_c17 741 = (.iload_n 3, (false, 742), (false, 0), (0, 0, 0), (0, 0, 0), []) ∧
  pw_fnd pp_L_c17 742 = (.iconst 1, (false, 743), (false, 0), (0, 0, 0), (0, 0, 0), [(1, (false, 0))]) ∧
  pw_fnd pp_L_c17 743 = (.iadd, (false, 744), (false, 0), (0, 0, 0), (0, 0, 0), []) ∧
  pw_fnd pp_L_c17 744 = (.iaload, (false, 745), (false, 0), (0, 0, 0), (0, 0, 0), []) ∧
  pw_fnd pp_L_c17 745 = (.aload_n 0, (false, 746), (false, 0), (0, 0, 0), (0, 0, 0), []) ∧
  pw_fnd pp_L_c17 746 = (.iload_n 3, (false, 747), (false, 0), (0, 0, 0), (0, 0, 0), []) ∧
  pw_fnd pp_L_c17 747 = (.iconst 2, (false, 748), (false, 0), (0, 0, 0), (0, 0, 0), [(2, (false, 0))]) ∧
  pw_fnd pp_L_c17 748 = (.iadd, (false, 749), (false, 0), (0, 0, 0), (0, 0, 0), []) ∧
  pw_fnd pp_L_c17 749 = (.iaload, (false, 750), (false, 0), (0, 0, 0), (0, 0, 0), []) ∧
  pw_fnd pp_L_c17 750 = (.invokevirtual 90, (false, 753), (false, 4), (91, 3, 1), (0, 0, 764), []) ∧
  pw_fnd pp_L_c17 753 = (.if_icmp .eq 130, (false, 756), (true, 883), (0, 0, 0), (0, 0, 0), []) ∧
  pw_fnd pp_L_c17 756 = (.iconst 0, (false, 757), (false, 0), (0, 0, 0), (0, 0, 0), [(0, (false, 0))]) ∧
  pw_fnd pp_L_c17 757 = (.ireturn, (true, 758), (false, 0), (0, 0, 2), (0, 0, 0), []) :=
  ⟨rfl, rfl, rfl, rfl, rfl, rfl, rfl, rfl, rfl, rfl, rfl, rfl, rfl, rfl, rfl, rfl, rfl, rfl, rfl, rfl, rfl, rfl, rfl, rfl, rfl, rfl, rfl⟩
set_option maxRecDepth 100000 in
theorem pk_L_c17 : pp_L_c17.all (fun q => pw_chk pw_jt pm_L_law q.1 q.2) = true := by decide +kernel
def pp_L_c18 : List (Nat × pw_E) := [(758, (.aload_n 1, (false, 759), (false, 0), (0, 0, 0), (0, 0, 0), [])),
  (759, (.aload_n 0, (false, 760), (false, 0), (0, 0, 0), (0, 0, 0), [])),
  (760, (.iload_n 3, (false, 761), (false, 0), (0, 0, 0), (0, 0, 0), [])),
  (761, (.iconst 1, (false, 762), (false, 0), (0, 0, 0), (0, 0, 0), [(1, (false, 0))])),
  (762, (.iadd, (false, 763), (false, 0), (0, 0, 0), (0, 0, 0), [])),
  (763, (.iaload, (false, 764), (false, 0), (0, 0, 0), (0, 0, 0), [])),
  (764, (.aload_n 0, (false, 765), (false, 0), (0, 0, 0), (0, 0, 0), [])),
  (765, (.iload_n 3, (false, 766), (false, 0), (0, 0, 0), (0, 0, 0), [])),
  (766, (.iconst 2, (false, 767), (false, 0), (0, 0, 0), (0, 0, 0), [(2, (false, 0))])),
  (767, (.iadd, (false, 768), (false, 0), (0, 0, 0), (0, 0, 0), [])),
  (768, (.iaload, (false, 769), (false, 0), (0, 0, 0), (0, 0, 0), [])),
  (769, (.aload_n 0, (false, 770), (false, 0), (0, 0, 0), (0, 0, 0), [])),
  (770, (.iload_n 3, (false, 771), (false, 0), (0, 0, 0), (0, 0, 0), [])),
  (771, (.iconst 3, (false, 772), (false, 0), (0, 0, 0), (0, 0, 0), [(3, (false, 0))])),
  (772, (.iadd, (false, 773), (false, 0), (0, 0, 0), (0, 0, 0), [])),
  (773, (.iaload, (false, 774), (false, 0), (0, 0, 0), (0, 0, 0), [])),
  (774, (.invokevirtual 91, (false, 777), (false, 3), (69, 4, 1), (0, 0, 489), [])),
  (777, (.aload_n 2, (false, 778), (false, 0), (0, 0, 0), (0, 0, 0), [])),
  (778, (.aload_n 0, (false, 779), (false, 0), (0, 0, 0), (0, 0, 0), [])),
  (779, (.iload_n 3, (false, 780), (false, 0), (0, 0, 0), (0, 0, 0), [])),
  (780, (.iconst 1, (false, 781), (false, 0), (0, 0, 0), (0, 0, 0), [(1, (false, 0))])),
  (781, (.iadd, (false, 782), (false, 0), (0, 0, 0), (0, 0, 0), [])),
  (782, (.iaload, (false, 783), (false, 0), (0, 0, 0), (0, 0, 0), [])),
  (783, (.aload_n 0, (false, 784), (false, 0), (0, 0, 0), (0, 0, 0), [])),
  (784, (.iload_n 3, (false, 785), (false, 0), (0, 0, 0), (0, 0, 0), [])),
  (785, (.iconst 2, (false, 786), (false, 0), (0, 0, 0), (0, 0, 0), [(2, (false, 0))])),
  (786, (.iadd, (false, 787), (false, 0), (0, 0, 0), (0, 0, 0), [])),
  (787, (.iaload, (false, 788), (false, 0), (0, 0, 0), (0, 0, 0), [])),
  (788, (.aload_n 0, (false, 789), (false, 0), (0, 0, 0), (0, 0, 0), [])),
  (789, (.iload_n 3, (false, 790), (false, 0), (0, 0, 0), (0, 0, 0), [])),
  (790, (.iconst 3, (false, 791), (false, 0), (0, 0, 0), (0, 0, 0), [(3, (false, 0))])),
  (791, (.iadd, (false, 792), (false, 0), (0, 0, 0), (0, 0, 0), [])),
  (792, (.iaload, (false, 793), (false, 0), (0, 0, 0), (0, 0, 0), [])),
  (793, (.invokevirtual 94, (false, 796), (false, 4), (92, 4, 1), (0, 0, 772), [])),
  (796, (.if_icmp .eq 87, (false, 799), (true, 883), (0, 0, 0), (0, 0, 0), [])),
  (799, (.iconst 0, (false, 800), (false, 0), (0, 0, 0), (0, 0, 0), [(0, (false, 0))])),
  (800, (.ireturn, (true, 801), (false, 0), (0, 0, 2), (0, 0, 0), []))]
set_option maxRecDepth 100000 in
theorem pe_L_c18 : pw_fnd pp_L_c18 758 = (.aload_n 1, (false, 759), (false, 0), (0, 0, 0), (0, 0, 0), []) ∧
  pw_fnd pp_L_c18 759 = (.aload_n 0, (false, 760), (false, 0), (0, 0, 0), (0, 0, 0), []) ∧
  pw_fnd pp_L_c18 760 = (.iload_n 3, (false, 761), (false, 0), (0, 0, 0), (0, 0, 0), []) ∧
  pw_fnd pp_L_c18 761 = (.iconst 1, (false, 762), (false, 0), (0, 0, 0), (0, 0, 0), [(1, (false, 0))]) ∧
  pw_fnd pp_L_c18 762 = (.iadd, (false, 763), (false, 0), (0, 0, 0), (0, 0, 0), []) ∧
  pw_fnd pp_L_c18 763 = (.iaload, (false, 764), (false, 0), (0, 0, 0), (0, 0, 0), []) ∧
  pw_fnd pp_L_c18 764 = (.aload_n 0, (false, 765), (false, 0), (0, 0, 0), (0, 0, 0), []) ∧
  pw_fnd pp_L_c18 765 = (.iload_n 3, (false, 766), (false, 0), (0, 0, 0), (0, 0, 0), []) ∧
  pw_fnd pp_L_c18 766 = (.iconst 2, (false, 767), (false, 0), (0, 0, 0), (0, 0, 0), [(2, (false, 0))]) ∧
  pw_fnd pp_L_c18 767 = (.iadd, (false, 768), (false, 0), (0, 0, 0), (0, 0, 0), []) ∧
  pw_fnd pp_L_c18 768 = (.iaload, (false, 769), (false, 0), (0, 0, 0), (0, 0, 0), []) ∧
  pw_fnd pp_L_c18 769 = (.aload_n 0, (false, 770), (false, 0), (0, 0, 0), (0, 0, 0), []) ∧
  pw_fnd pp_L_c18 770 = (.iload_n 3, (false, 771), (false, 0), (0, 0, 0), (0, 0, 0), []) ∧
  pw_fnd pp_L_c18 771 = (.iconst 3, (false, 772), (false, 0), (0, 0, 0), (0, 0, 0), [(3, (false, 0))]) ∧
  pw_fnd pp_L_c18 772 = (.iadd, (false, 773), (false, 0), (0, 0, 0), (0, 0, 0), []) ∧
  pw_fnd pp_L_c18 773 = (.iaload, (false, 774), (false, 0), (0, 0, 0), (0, 0, 0), []) ∧
  pw_fnd pp_L_c18 774 = (.invokevirtual 91, (false, 777), (false, 3), (69, 4, 1), (0, 0, 489), []) ∧
  pw_fnd pp_L_c18 777 = (.aload_n 2, (false, 778), (false, 0), (0, 0, 0), (0, 0, 0), []) ∧
  pw_fnd pp_L_c18 778 = (.aload_n 0, (false, 779), (false, 0), (0, 0, 0), (0, 0, 0), []) ∧
  pw_fnd pp_L_c18 779 = (.iload_n 3, (false, 780), (false, 0), (0, 0, 0), (0, 0, 0), []) ∧
  pw_fnd pp_L_c18 780 = (.iconst 1, (false, 781), (false, 0), (0, 0, 0), (0, 0, 0), [(1, (false, 0))]) ∧
  pw_fnd pp_L_c18 781 = (.iadd, (false, 782), (false, 0), (0, 0, 0), (0, 0, 0), []) ∧
  pw_fnd pp_L_c18 782 = (.iaload, (false, 783), (false, 0), (0, 0, 0), (0, 0, 0), []) ∧
  pw_fnd pp_L_c18 783 = (.aload_n 0, (false, 784), (false, 0), (0, 0, 0), (0, 0, 0), []) ∧
  pw_fnd pp_L_c18 784 = (.iload_n 3, (false, 785), (false, 0), (0, 0, 0), (0, 0, 0), []) ∧
  pw_fnd pp_L_c18 785 = (.iconst 2, (false, 786), (false, 0), (0, 0, 0), (0, 0, 0), [(2, (false, 0))]) ∧
  pw_fnd pp_L_c18 786 = (.iadd, (false, 787), (false, 0), (0, 0, 0), (0, 0, 0), []) ∧
  pw_fnd pp_L_c18 787 = (.iaload, (false, 788), (false, 0), (0, 0, 0), (0, 0, 0), []) ∧
  pw_fnd pp_L_c18 788 = (.aload_n 0, (false, 789), (false, 0), (0, 0, 0), (0, 0, 0), []) ∧
  pw_fnd pp_L_c18 789 = (.iload_n 3, (false, 790), (false, 0), (0, 0, 0), (0, 0, 0), []) ∧
  pw_fnd pp_L_c18 790 = (.iconst 3, (false, 791), (false, 0), (0, 0, 0), (0, 0, 0), [(3, (false, 0))]) ∧
  pw_fnd pp_L_c18 791 = (.iadd, (false, 792), (false, 0), (0, 0, 0), (0, 0, 0), []) ∧
  pw_fnd pp_L_c18 792 = (.iaload, (false, 793), (false, 0), (0, 0, 0), (0, 0, 0), []) ∧
  pw_fnd pp_L_c18 793 = (.invokevirtual 94, (false, 796), (false, 4), (92, 4, 1), (0, 0, 772), []) ∧
  pw_fnd pp_L_c18 796 = (.if_icmp .eq 87, (false, 799), (true, 883), (0, 0, 0), (0, 0, 0), []) ∧
  pw_fnd pp_L_c18 799 = (.iconst 0, (false, 800), (false, 0), (0, 0, 0), (0, 0, 0), [(0, (false, 0))]) ∧
  pw_fnd pp_L_c18 800 = (.ireturn, (true, 801), (false, 0), (0, 0, 2), (0, 0, 0), []) :=
  ⟨rfl, rfl, rfl, rfl, rfl, rfl, rfl, rfl, rfl, rfl, rfl, rfl, rfl, rfl, rfl, rfl, rfl, rfl, rfl, rfl, rfl, rfl, rfl, rfl, rfl, rfl, rfl, rfl, rfl, rfl, rfl, rfl, rfl, rfl, rfl, rfl, rfl⟩
set_option maxRecDepth 100000 in
theorem pk_L_c18 : pp_L_c18.all (fun q => pw_chk pw_jt pm_L_law q.1 q.2) = true := by decide +kernel
def pp_L_c19 : List (Nat × pw_E) := [(801, (.aload_n 1, (false, 802), (false, 0), (0, 0, 0), (0, 0, 0), [])),
  (802, (.aload_n 0, (false, 803), (false, 0), (0, 0, 0), (0, 0, 0), [])),
  (803, (.iload_n 3, (false, 804), (false, 0), (0, 0, 0), (0, 0, 0), [])),
  (804, (.iconst 1, (false, 805), (false, 0), (0, 0, 0), (0, 0, 0), [(1, (false, 0))])),
  (805, (.iadd, (false, 806), (false, 0), (0, 0, 0), (0, 0, 0), [])),
  (806, (.iaload, (false, 807), (false, 0), (0, 0, 0), (0, 0, 0), [])),
  (807, (.aload_n 0, (false, 808), (false, 0), (0, 0, 0), (0, 0, 0), [])),
  (808, (.iload_n 3, (false, 809), (false, 0), (0, 0, 0), (0, 0, 0), [])),
  (809, (.iconst 2, (false, 810), (false, 0), (0, 0, 0), (0, 0, 0), [(2, (false, 0))])),
  (810, (.iadd, (false, 811), (false, 0), (0, 0, 0), (0, 0, 0), [])),
  (811, (.iaload, (false, 812), (false, 0), (0, 0, 0), (0, 0, 0), [])),
  (812, (.ifCond .eq 7, (false, 815), (false, 819), (0, 0, 0), (0, 0, 0), [])),
  (815, (.iconst 1, (false, 816), (false, 0), (0, 0, 0), (0, 0, 0), [(1, (false, 0))])),
  (816, (.goto 4, (false, 819), (false, 820), (0, 0, 0), (0, 0, 0), [])),
  (819, (.iconst 0, (false, 820), (false, 0), (0, 0, 0), (0, 0, 0), [(0, (false, 0))])),
  (820, (.aload_n 0, (false, 821), (false, 0), (0, 0, 0), (0, 0, 0), [])),
  (821, (.iload_n 3, (false, 822), (false, 0), (0, 0, 0), (0, 0, 0), [])),
  (822, (.iconst 3, (false, 823), (false, 0), (0, 0, 0), (0, 0, 0), [(3, (false, 0))])),
  (823, (.iadd, (false, 824), (false, 0), (0, 0, 0), (0, 0, 0), [])),
  (824, (.iaload, (false, 825), (false, 0), (0, 0, 0), (0, 0, 0), [])),
  (825, (.invokevirtual 95, (false, 828), (false, 3), (47, 4, 1), (0, 0, 495), [])),
  (828, (.aload_n 2, (false, 829), (false, 0), (0, 0, 0), (0, 0, 0), [])),
  (829, (.aload_n 0, (false, 830), (false, 0), (0, 0, 0), (0, 0, 0), [])),
  (830, (.iload_n 3, (false, 831), (false, 0), (0, 0, 0), (0, 0, 0), [])),
  (831, (.iconst 1, (false, 832), (false, 0), (0, 0, 0), (0, 0, 0), [(1, (false, 0))])),
  (832, (.iadd, (false, 833), (false, 0), (0, 0, 0), (0, 0, 0), [])),
  (833, (.iaload, (false, 834), (false, 0), (0, 0, 0), (0, 0, 0), [])),
  (834, (.aload_n 0, (false, 835), (false, 0), (0, 0, 0), (0, 0, 0), [])),
  (835, (.iload_n 3, (false, 836), (false, 0), (0, 0, 0), (0, 0, 0), [])),
  (836, (.iconst 2, (false, 837), (false, 0), (0, 0, 0), (0, 0, 0), [(2, (false, 0))])),
  (837, (.iadd, (false, 838), (false, 0), (0, 0, 0), (0, 0, 0), [])),
  (838, (.iaload, (false, 839), (false, 0), (0, 0, 0), (0, 0, 0), [])),
  (839, (.ifCond .eq 7, (false, 842), (false, 846), (0, 0, 0), (0, 0, 0), [])),
  (842, (.iconst 1, (false, 843), (false, 0), (0, 0, 0), (0, 0, 0), [(1, (false, 0))])),
  (843, (.goto 4, (false, 846), (false, 847), (0, 0, 0), (0, 0, 0), [])),
  (846, (.iconst 0, (false, 847), (false, 0), (0, 0, 0), (0, 0, 0), [(0, (false, 0))])),
  (847, (.aload_n 0, (false, 848), (false, 0), (0, 0, 0), (0, 0, 0), [])),
  (848, (.iload_n 3, (false, 849), (false, 0), (0, 0, 0), (0, 0, 0), [])),
  (849, (.iconst 3, (false, 850), (false, 0), (0, 0, 0), (0, 0, 0), [(3, (false, 0))])),
  (850, (.iadd, (false, 851), (false, 0), (0, 0, 0), (0, 0, 0), [])),
  (851, (.iaload, (false, 852), (false, 0), (0, 0, 0), (0, 0, 0), [])),
  (852, (.invokevirtual 99, (false, 855), (false, 4), (93, 4, 1), (0, 0, 776), [])),
  (855, (.if_icmp .eq 28, (false, 858), (true, 883), (0, 0, 0), (0, 0, 0), [])),
  (858, (.iconst 0, (false, 859), (false, 0), (0, 0, 0), (0, 0, 0), [(0, (false, 0))])),
  (859, (.ireturn, (true, 860), (false, 0), (0, 0, 2), (0, 0, 0), []))]
set_option maxRecDepth 100000 in
theorem pe_L_c19 : pw_fnd pp_L_c19 801 = (.aload_n 1, (false, 802), (false, 0), (0, 0, 0), (0, 0, 0), []) ∧
  pw_fnd pp_L_c19 802 = (.aload_n 0, (false, 803), (false, 0), (0, 0, 0), (0, 0, 0), []) ∧
  pw_fnd pp_L_c19 803 = (.iload_n 3, (false, 804), (false, 0), (0, 0, 0), (0, 0, 0), []) ∧
  pw_fnd pp_L_c19 804 = (.iconst 1, (false, 805), (false, 0), (0, 0, 0), (0, 0, 0), [(1, (false, 0))]) ∧
  pw_fnd pp_L_c19 805 = (.iadd, (false, 806), (false, 0), (0, 0, 0), (0, 0, 0), []) ∧
  pw_fnd pp_L_c19 806 = (.iaload, (false, 807), (false, 0), (0, 0, 0), (0, 0, 0), []) ∧
  pw_fnd pp_L_c19 807 = (.aload_n 0, (false, 808), (false, 0), (0, 0, 0), (0, 0, 0), []) ∧
  pw_fnd pp_L_c19 808 = (.iload_n 3, (false, 809), (false, 0), (0, 0, 0), (0, 0, 0), []) ∧
  pw_fnd pp_L_c19 809 = (.iconst 2, (false, 810), (false, 0), (0, 0, 0), (0, 0, 0), [(2, (false, 0))]) ∧
  pw_fnd pp_L_c19 810 = (.iadd, (false, 811), (false, 0), (0, 0, 0), (0, 0, 0), []) ∧
  pw_fnd pp_L_c19 811 = (.iaload, (false, 812), (false, 0), (0, 0, 0), (0, 0, 0), []) ∧
  pw_fnd pp_L_c19 812 = (.ifCond .eq 7, (false, 815), (false, 819), (0, 0, 0), (0, 0, 0), []) ∧
  pw_fnd pp_L_c19 815 = (.iconst 1, (false, 816), (false, 0), (0, 0, 0), (0, 0, 0), [(1, (false, 0))]) ∧
  pw_fnd pp_L_c19 816 = (.goto 4, (false, 819), (false, 820), (0, 0, 0), (0, 0, 0), []) ∧
  pw_fnd pp_L_c19 819 = (.iconst 0, (false, 820), (false, 0), (0, 0, 0), (0, 0, 0), [(0, (false, 0))]) ∧
  pw_fnd pp_L_c19 820 = (.aload_n 0, (false, 821), (false, 0), (0, 0, 0), (0, 0, 0), []) ∧
  pw_fnd pp_L_c19 821 = (.iload_n 3, (false, 822), (false, 0), (0, 0, 0), (0, 0, 0), []) ∧
  pw_fnd pp_L_c19 822 = (.iconst 3, (false, 823), (false, 0), (0, 0, 0), (0, 0, 0), [(3, (false, 0))]) ∧
  pw_fnd pp_L_c19 823 = (.iadd, (false, 824), (false, 0), (0, 0, 0), (0, 0, 0), []) ∧
  pw_fnd pp_L_c19 824 = (.iaload, (false, 825), (false, 0), (0, 0, 0), (0, 0, 0), []) ∧
  pw_fnd pp_L_c19 825 = (.invokevirtual 95, (false, 828), (false, 3), (47, 4, 1), (0, 0, 495), []) ∧
  pw_fnd pp_L_c19 828 = (.aload_n 2, (false, 829), (false, 0), (0, 0, 0), (0, 0, 0), []) ∧
  pw_fnd pp_L_c19 829 = (.aload_n 0, (false, 830), (false, 0), (0, 0, 0), (0, 0, 0), []) ∧
  pw_fnd pp_L_c19 830 = (.iload_n 3, (false, 831), (false, 0), (0, 0, 0), (0, 0, 0), []) ∧
  pw_fnd pp_L_c19 831 = (.iconst 1, (false, 832), (false, 0), (0, 0, 0), (0, 0, 0), [(1, (false, 0))]) ∧
  pw_fnd pp_L_c19 832 = (.iadd, (false, 833), (false, 0), (0, 0, 0), (0, 0, 0), []) ∧
  pw_fnd pp_L_c19 833 = (.iaload, (false, 834), (false, 0), (0, 0, 0), (0, 0, 0), []) ∧
  pw_fnd pp_L_c19 834 = (.aload_n 0, (false, 835), (false, 0), (0, 0, 0), (0, 0, 0), []) ∧
  pw_fnd pp_L_c19 835 = (.iload_n 3, (false, 836), (false, 0), (0, 0, 0), (0, 0, 0), []) ∧
  pw_fnd pp_L_c19 836 = (.iconst 2, (false, 837), (false, 0), (0, 0, 0), (0, 0, 0), [(2, (false, 0))]) ∧
  pw_fnd pp_L_c19 837 = (.iadd, (false, 838), (false, 0), (0, 0, 0), (0, 0, 0), []) ∧
  pw_fnd pp_L_c19 838 = (.iaload, (false, 839), (false, 0), (0, 0, 0), (0, 0, 0), []) ∧
  pw_fnd pp_L_c19 839 = (.ifCond .eq 7, (false, 842), (false, 846), (0, 0, 0), (0, 0, 0), []) ∧
  pw_fnd pp_L_c19 842 = (.iconst 1, (false, 843), (false, 0), (0, 0, 0), (0, 0, 0), [(1, (false, 0))]) ∧
  pw_fnd pp_L_c19 843 = (.goto 4, (false, 846), (false, 847), (0, 0, 0), (0, 0, 0), []) ∧
  pw_fnd pp_L_c19 846 = (.iconst 0, (false, 847), (false, 0), (0, 0, 0), (0, 0, 0), [(0, (false, 0))]) ∧
  pw_fnd pp_L_c19 847 = (.aload_n 0, (false, 848), (false, 0), (0, 0, 0), (0, 0, 0), []) ∧
  pw_fnd pp_L_c19 848 = (.iload_n 3, (false, 849), (false, 0), (0, 0, 0), (0, 0, 0), []) ∧
  pw_fnd pp_L_c19 849 = (.iconst 3, (false, 850), (false, 0), (0, 0, 0), (0, 0, 0), [(3, (false, 0))]) ∧
  pw_fnd pp_L_c19 850 = (.iadd, (false, 851), (false, 0), (0, 0, 0), (0, 0, 0), []) ∧
  pw_fnd pp_L_c19 851 = (.iaload, (false, 852), (false, 0), (0, 0, 0), (0, 0, 0), []) ∧
  pw_fnd pp_L_c19 852 = (.invokevirtual 99, (false, 855), (false, 4), (93, 4, 1), (0, 0, 776), []) ∧
  pw_fnd pp_L_c19 855 = (.if_icmp .eq 28, (false, 858), (true, 883), (0, 0, 0), (0, 0, 0), []) ∧
  pw_fnd pp_L_c19 858 = (.iconst 0, (false, 859), (false, 0), (0, 0, 0), (0, 0, 0), [(0, (false, 0))]) ∧
  pw_fnd pp_L_c19 859 = (.ireturn, (true, 860), (false, 0), (0, 0, 2), (0, 0, 0), []) :=
  ⟨rfl, rfl, rfl, rfl, rfl, rfl, rfl, rfl, rfl, rfl, rfl, rfl, rfl, rfl, rfl, rfl, rfl, rfl, rfl, rfl, rfl, rfl, rfl, rfl, rfl, rfl, rfl, rfl, rfl, rfl, rfl, rfl, rfl, rfl, rfl, rfl, rfl, rfl, rfl, rfl, rfl, rfl, rfl, rfl, rfl⟩
set_option maxRecDepth 100000 in
theorem pk_L_c19 : pp_L_c19.all (fun q => pw_chk pw_jt pm_L_law q.1 q.2) = true := by decide +kernel
def pp_L_c20 : List (Nat × pw_E) := [(860, (.aload_n 1, (false, 861), (false, 0), (0, 0, 0), (0, 0, 0), [])),
  (861, (.aload_n 0, (false, 862), (false, 0), (0, 0, 0), (0, 0, 0), [])),
  (862, (.iload_n 3, (false, 863), (false, 0), (0, 0, 0), (0, 0, 0), [])),
  (863, (.iconst 1, (false, 864), (false, 0), (0, 0, 0), (0, 0, 0), [(1, (false, 0))])),
  (864, (.iadd, (false, 865), (false, 0), (0, 0, 0), (0, 0, 0), [])),
  (865, (.iaload, (false, 866), (false, 0), (0, 0, 0), (0, 0, 0), [])),
  (866, (.invokevirtual 100, (false, 869), (false, 3), (70, 2, 1), (0, 0, 499), [])),
  (869, (.aload_n 2, (false, 870), (false, 0), (0, 0, 0), (0, 0, 0), [])),
  (870, (.aload_n 0, (false, 871), (false, 0), (0, 0, 0), (0, 0, 0), [])),
  (871, (.iload_n 3, (false, 872), (false, 0), (0, 0, 0), (0, 0, 0), [])),
  (872, (.iconst 1, (false, 873), (false, 0), (0, 0, 0), (0, 0, 0), [(1, (false, 0))])),
  (873, (.iadd, (false, 874), (false, 0), (0, 0, 0), (0, 0, 0), [])),
  (874, (.iaload, (false, 875), (false, 0), (0, 0, 0), (0, 0, 0), [])),
  (875, (.invokevirtual 103, (false, 878), (false, 4), (61, 2, 1), (0, 0, 780), [])),
  (878, (.if_icmp .eq 5, (false, 881), (true, 883), (0, 0, 0), (0, 0, 0), [])),
  (881, (.iconst 0, (false, 882), (false, 0), (0, 0, 0), (0, 0, 0), [(0, (false, 0))])),
  (882, (.ireturn, (true, 883), (false, 0), (0, 0, 2), (0, 0, 0), []))]
set_option maxRecDepth 100000 in
theorem pe_L_c20 : pw_fnd pp_L_c20 860 = (.aload_n 1, (false, 861), (false, 0), (0, 0, 0), (0, 0, 0), []) ∧
  pw_fnd pp_L_c20 861 = (.aload_n 0, (false, 862), (false, 0), (0, 0, 0), (0, 0, 0), []) ∧
  pw_fnd pp_L_c20 862 = (.iload_n 3, (false, 863), (false, 0), (0, 0, 0), (0, 0, 0), []) ∧
  pw_fnd pp_L_c20 863 = (.iconst 1, (false, 864), (false, 0), (0, 0, 0), (0, 0, 0), [(1, (false, 0))]) ∧
  pw_fnd pp_L_c20 864 = (.iadd, (false, 865), (false, 0), (0, 0, 0), (0, 0, 0), []) ∧
  pw_fnd pp_L_c20 865 = (.iaload, (false, 866), (false, 0), (0, 0, 0), (0, 0, 0), []) ∧
  pw_fnd pp_L_c20 866 = (.invokevirtual 100, (false, 869), (false, 3), (70, 2, 1), (0, 0, 499), []) ∧
  pw_fnd pp_L_c20 869 = (.aload_n 2, (false, 870), (false, 0), (0, 0, 0), (0, 0, 0), []) ∧
  pw_fnd pp_L_c20 870 = (.aload_n 0, (false, 871), (false, 0), (0, 0, 0), (0, 0, 0), []) ∧
  pw_fnd pp_L_c20 871 = (.iload_n 3, (false, 872), (false, 0), (0, 0, 0), (0, 0, 0), []) ∧
  pw_fnd pp_L_c20 872 = (.iconst 1, (false, 873), (false, 0), (0, 0, 0), (0, 0, 0), [(1, (false, 0))]) ∧
  pw_fnd pp_L_c20 873 = (.iadd, (false, 874), (false, 0), (0, 0, 0), (0, 0, 0), []) ∧
  pw_fnd pp_L_c20 874 = (.iaload, (false, 875), (false, 0), (0, 0, 0), (0, 0, 0), []) ∧
  pw_fnd pp_L_c20 875 = (.invokevirtual 103, (false, 878), (false, 4), (61, 2, 1), (0, 0, 780), []) ∧
  pw_fnd pp_L_c20 878 = (.if_icmp .eq 5, (false, 881), (true, 883), (0, 0, 0), (0, 0, 0), []) ∧
  pw_fnd pp_L_c20 881 = (.iconst 0, (false, 882), (false, 0), (0, 0, 0), (0, 0, 0), [(0, (false, 0))]) ∧
  pw_fnd pp_L_c20 882 = (.ireturn, (true, 883), (false, 0), (0, 0, 2), (0, 0, 0), []) :=
  ⟨rfl, rfl, rfl, rfl, rfl, rfl, rfl, rfl, rfl, rfl, rfl, rfl, rfl, rfl, rfl, rfl, rfl⟩
set_option maxRecDepth 100000 in
theorem pk_L_c20 : pp_L_c20.all (fun q => pw_chk pw_jt pm_L_law q.1 q.2) = true := by decide +kernel
