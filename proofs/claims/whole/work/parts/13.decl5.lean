theorem d_Law_law_724 : decode code 724 = .ok (.iload_n 3, 1) := by decide +kernel
theorem d_Law_law_725 : decode code 725 = .ok (.iconst 1, 1) := by decide +kernel
theorem d_Law_law_726 : decode code 726 = .ok (.iadd, 1) := by decide +kernel
theorem d_Law_law_727 : decode code 727 = .ok (.iaload, 1) := by decide +kernel
theorem d_Law_law_728 : decode code 728 = .ok (.aload_n 0, 1) := by decide +kernel
theorem d_Law_law_729 : decode code 729 = .ok (.iload_n 3, 1) := by decide +kernel
theorem d_Law_law_730 : decode code 730 = .ok (.iconst 2, 1) := by decide +kernel
theorem d_Law_law_731 : decode code 731 = .ok (.iadd, 1) := by decide +kernel
theorem d_Law_law_732 : decode code 732 = .ok (.iaload, 1) := by decide +kernel
theorem d_Law_law_733 : decode code 733 = .ok (.aload_n 0, 1) := by decide +kernel
theorem d_Law_law_734 : decode code 734 = .ok (.iload_n 3, 1) := by decide +kernel
theorem d_Law_law_735 : decode code 735 = .ok (.iconst 3, 1) := by decide +kernel
theorem d_Law_law_736 : decode code 736 = .ok (.iadd, 1) := by decide +kernel
theorem d_Law_law_737 : decode code 737 = .ok (.iaload, 1) := by decide +kernel
theorem d_Law_law_738 : decode code 738 = .ok (.invokevirtual 106, 3) := by decide +kernel
theorem d_Law_law_741 : decode code 741 = .ok (.if_icmp .eq 5, 3) := by decide +kernel
theorem d_Law_law_744 : decode code 744 = .ok (.iconst 0, 1) := by decide +kernel
theorem d_Law_law_745 : decode code 745 = .ok (.ireturn, 1) := by decide +kernel
theorem d_Law_law_746 : decode code 746 = .ok (.iinc 3 4, 3) := by decide +kernel
theorem d_Law_law_749 : decode code 749 = .ok (.goto (-721), 3) := by decide +kernel
theorem d_Law_law_752 : decode code 752 = .ok (.iconst 1, 1) := by decide +kernel
theorem d_Law_law_753 : decode code 753 = .ok (.ireturn, 1) := by decide +kernel
