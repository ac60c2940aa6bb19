theorem d_Law_law_600 : decode code 600 = .ok (.aload_n 2, 1) := by decide +kernel
theorem d_Law_law_601 : decode code 601 = .ok (.aload_n 0, 1) := by decide +kernel
theorem d_Law_law_602 : decode code 602 = .ok (.iload_n 3, 1) := by decide +kernel
theorem d_Law_law_603 : decode code 603 = .ok (.iconst 1, 1) := by decide +kernel
theorem d_Law_law_604 : decode code 604 = .ok (.iadd, 1) := by decide +kernel
theorem d_Law_law_605 : decode code 605 = .ok (.iaload, 1) := by decide +kernel
theorem d_Law_law_606 : decode code 606 = .ok (.invokevirtual 90, 3) := by decide +kernel
theorem d_Law_law_609 : decode code 609 = .ok (.if_icmp .eq 137, 3) := by decide +kernel
theorem d_Law_law_612 : decode code 612 = .ok (.iconst 0, 1) := by decide +kernel
theorem d_Law_law_613 : decode code 613 = .ok (.ireturn, 1) := by decide +kernel
theorem d_Law_law_614 : decode code 614 = .ok (.aload_n 1, 1) := by decide +kernel
theorem d_Law_law_615 : decode code 615 = .ok (.aload_n 0, 1) := by decide +kernel
theorem d_Law_law_616 : decode code 616 = .ok (.iload_n 3, 1) := by decide +kernel
theorem d_Law_law_617 : decode code 617 = .ok (.iconst 1, 1) := by decide +kernel
theorem d_Law_law_618 : decode code 618 = .ok (.iadd, 1) := by decide +kernel
theorem d_Law_law_619 : decode code 619 = .ok (.iaload, 1) := by decide +kernel
theorem d_Law_law_620 : decode code 620 = .ok (.invokevirtual 91, 3) := by decide +kernel
theorem d_Law_law_623 : decode code 623 = .ok (.aload_n 2, 1) := by decide +kernel
theorem d_Law_law_624 : decode code 624 = .ok (.aload_n 0, 1) := by decide +kernel
theorem d_Law_law_625 : decode code 625 = .ok (.iload_n 3, 1) := by decide +kernel
theorem d_Law_law_626 : decode code 626 = .ok (.iconst 1, 1) := by decide +kernel
theorem d_Law_law_627 : decode code 627 = .ok (.iadd, 1) := by decide +kernel
theorem d_Law_law_628 : decode code 628 = .ok (.iaload, 1) := by decide +kernel
theorem d_Law_law_629 : decode code 629 = .ok (.invokevirtual 94, 3) := by decide +kernel
theorem d_Law_law_632 : decode code 632 = .ok (.if_icmp .eq 114, 3) := by decide +kernel
theorem d_Law_law_635 : decode code 635 = .ok (.iconst 0, 1) := by decide +kernel
theorem d_Law_law_636 : decode code 636 = .ok (.ireturn, 1) := by decide +kernel
theorem d_Law_law_637 : decode code 637 = .ok (.aload_n 1, 1) := by decide +kernel
theorem d_Law_law_638 : decode code 638 = .ok (.aload_n 0, 1) := by decide +kernel
theorem d_Law_law_639 : decode code 639 = .ok (.iload_n 3, 1) := by decide +kernel
theorem d_Law_law_640 : decode code 640 = .ok (.iconst 1, 1) := by decide +kernel
theorem d_Law_law_641 : decode code 641 = .ok (.iadd, 1) := by decide +kernel
theorem d_Law_law_642 : decode code 642 = .ok (.iaload, 1) := by decide +kernel
theorem d_Law_law_643 : decode code 643 = .ok (.aload_n 0, 1) := by decide +kernel
theorem d_Law_law_644 : decode code 644 = .ok (.iload_n 3, 1) := by decide +kernel
theorem d_Law_law_645 : decode code 645 = .ok (.iconst 2, 1) := by decide +kernel
theorem d_Law_law_646 : decode code 646 = .ok (.iadd, 1) := by decide +kernel
theorem d_Law_law_647 : decode code 647 = .ok (.iaload, 1) := by decide +kernel
theorem d_Law_law_648 : decode code 648 = .ok (.invokevirtual 95, 3) := by decide +kernel
theorem d_Law_law_651 : decode code 651 = .ok (.aload_n 2, 1) := by decide +kernel
theorem d_Law_law_652 : decode code 652 = .ok (.aload_n 0, 1) := by decide +kernel
theorem d_Law_law_653 : decode code 653 = .ok (.iload_n 3, 1) := by decide +kernel
theorem d_Law_law_654 : decode code 654 = .ok (.iconst 1, 1) := by decide +kernel
theorem d_Law_law_655 : decode code 655 = .ok (.iadd, 1) := by decide +kernel
theorem d_Law_law_656 : decode code 656 = .ok (.iaload, 1) := by decide +kernel
theorem d_Law_law_657 : decode code 657 = .ok (.aload_n 0, 1) := by decide +kernel
theorem d_Law_law_658 : decode code 658 = .ok (.iload_n 3, 1) := by decide +kernel
theorem d_Law_law_659 : decode code 659 = .ok (.iconst 2, 1) := by decide +kernel
theorem d_Law_law_660 : decode code 660 = .ok (.iadd, 1) := by decide +kernel
theorem d_Law_law_661 : decode code 661 = .ok (.iaload, 1) := by decide +kernel
theorem d_Law_law_662 : decode code 662 = .ok (.invokevirtual 98, 3) := by decide +kernel
theorem d_Law_law_665 : decode code 665 = .ok (.if_icmp .eq 81, 3) := by decide +kernel
theorem d_Law_law_668 : decode code 668 = .ok (.iconst 0, 1) := by decide +kernel
theorem d_Law_law_669 : decode code 669 = .ok (.ireturn, 1) := by decide +kernel
theorem d_Law_law_670 : decode code 670 = .ok (.aload_n 1, 1) := by decide +kernel
theorem d_Law_law_671 : decode code 671 = .ok (.aload_n 0, 1) := by decide +kernel
theorem d_Law_law_672 : decode code 672 = .ok (.iload_n 3, 1) := by decide +kernel
theorem d_Law_law_673 : decode code 673 = .ok (.iconst 1, 1) := by decide +kernel
theorem d_Law_law_674 : decode code 674 = .ok (.iadd, 1) := by decide +kernel
theorem d_Law_law_675 : decode code 675 = .ok (.iaload, 1) := by decide +kernel
theorem d_Law_law_676 : decode code 676 = .ok (.aload_n 0, 1) := by decide +kernel
theorem d_Law_law_677 : decode code 677 = .ok (.iload_n 3, 1) := by decide +kernel
theorem d_Law_law_678 : decode code 678 = .ok (.iconst 2, 1) := by decide +kernel
theorem d_Law_law_679 : decode code 679 = .ok (.iadd, 1) := by decide +kernel
theorem d_Law_law_680 : decode code 680 = .ok (.iaload, 1) := by decide +kernel
theorem d_Law_law_681 : decode code 681 = .ok (.invokevirtual 99, 3) := by decide +kernel
theorem d_Law_law_684 : decode code 684 = .ok (.aload_n 2, 1) := by decide +kernel
theorem d_Law_law_685 : decode code 685 = .ok (.aload_n 0, 1) := by decide +kernel
theorem d_Law_law_686 : decode code 686 = .ok (.iload_n 3, 1) := by decide +kernel
theorem d_Law_law_687 : decode code 687 = .ok (.iconst 1, 1) := by decide +kernel
theorem d_Law_law_688 : decode code 688 = .ok (.iadd, 1) := by decide +kernel
theorem d_Law_law_689 : decode code 689 = .ok (.iaload, 1) := by decide +kernel
theorem d_Law_law_690 : decode code 690 = .ok (.aload_n 0, 1) := by decide +kernel
theorem d_Law_law_691 : decode code 691 = .ok (.iload_n 3, 1) := by decide +kernel
theorem d_Law_law_692 : decode code 692 = .ok (.iconst 2, 1) := by decide +kernel
theorem d_Law_law_693 : decode code 693 = .ok (.iadd, 1) := by decide +kernel
theorem d_Law_law_694 : decode code 694 = .ok (.iaload, 1) := by decide +kernel
theorem d_Law_law_695 : decode code 695 = .ok (.invokevirtual 102, 3) := by decide +kernel
theorem d_Law_law_698 : decode code 698 = .ok (.if_icmp .eq 48, 3) := by decide +kernel
theorem d_Law_law_701 : decode code 701 = .ok (.iconst 0, 1) := by decide +kernel
theorem d_Law_law_702 : decode code 702 = .ok (.ireturn, 1) := by decide +kernel
theorem d_Law_law_703 : decode code 703 = .ok (.aload_n 1, 1) := by decide +kernel
theorem d_Law_law_704 : decode code 704 = .ok (.aload_n 0, 1) := by decide +kernel
theorem d_Law_law_705 : decode code 705 = .ok (.iload_n 3, 1) := by decide +kernel
theorem d_Law_law_706 : decode code 706 = .ok (.iconst 1, 1) := by decide +kernel
theorem d_Law_law_707 : decode code 707 = .ok (.iadd, 1) := by decide +kernel
theorem d_Law_law_708 : decode code 708 = .ok (.iaload, 1) := by decide +kernel
theorem d_Law_law_709 : decode code 709 = .ok (.aload_n 0, 1) := by decide +kernel
theorem d_Law_law_710 : decode code 710 = .ok (.iload_n 3, 1) := by decide +kernel
theorem d_Law_law_711 : decode code 711 = .ok (.iconst 2, 1) := by decide +kernel
theorem d_Law_law_712 : decode code 712 = .ok (.iadd, 1) := by decide +kernel
theorem d_Law_law_713 : decode code 713 = .ok (.iaload, 1) := by decide +kernel
theorem d_Law_law_714 : decode code 714 = .ok (.aload_n 0, 1) := by decide +kernel
theorem d_Law_law_715 : decode code 715 = .ok (.iload_n 3, 1) := by decide +kernel
theorem d_Law_law_716 : decode code 716 = .ok (.iconst 3, 1) := by decide +kernel
theorem d_Law_law_717 : decode code 717 = .ok (.iadd, 1) := by decide +kernel
theorem d_Law_law_718 : decode code 718 = .ok (.iaload, 1) := by decide +kernel
theorem d_Law_law_719 : decode code 719 = .ok (.invokevirtual 103, 3) := by decide +kernel
theorem d_Law_law_722 : decode code 722 = .ok (.aload_n 2, 1) := by decide +kernel
theorem d_Law_law_723 : decode code 723 = .ok (.aload_n 0, 1) := by decide +kernel
