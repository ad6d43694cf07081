theorem dl_664 : decode code 664 = .ok (.aload_n 0, 1) := by decide +kernel
theorem dl_665 : decode code 665 = .ok (.iload_n 3, 1) := by decide +kernel
theorem dl_666 : decode code 666 = .ok (.iconst 1, 1) := by decide +kernel
theorem dl_667 : decode code 667 = .ok (.iadd, 1) := by decide +kernel
theorem dl_668 : decode code 668 = .ok (.iaload, 1) := by decide +kernel
theorem dl_669 : decode code 669 = .ok (.invokevirtual 84, 3) := by decide +kernel
theorem dl_672 : decode code 672 = .ok (.if_icmp .eq 623, 3) := by decide +kernel
theorem dl_677 : decode code 677 = .ok (.aload_n 1, 1) := by decide +kernel
theorem dl_678 : decode code 678 = .ok (.aload_n 0, 1) := by decide +kernel
theorem dl_679 : decode code 679 = .ok (.iload_n 3, 1) := by decide +kernel
theorem dl_680 : decode code 680 = .ok (.iconst 1, 1) := by decide +kernel
theorem dl_681 : decode code 681 = .ok (.iadd, 1) := by decide +kernel
theorem dl_682 : decode code 682 = .ok (.iaload, 1) := by decide +kernel
theorem dl_683 : decode code 683 = .ok (.invokevirtual 85, 3) := by decide +kernel
theorem dl_686 : decode code 686 = .ok (.aload_n 2, 1) := by decide +kernel
theorem dl_687 : decode code 687 = .ok (.aload_n 0, 1) := by decide +kernel
theorem dl_688 : decode code 688 = .ok (.iload_n 3, 1) := by decide +kernel
theorem dl_689 : decode code 689 = .ok (.iconst 1, 1) := by decide +kernel
theorem dl_690 : decode code 690 = .ok (.iadd, 1) := by decide +kernel
theorem dl_691 : decode code 691 = .ok (.iaload, 1) := by decide +kernel
theorem dl_692 : decode code 692 = .ok (.invokevirtual 88, 3) := by decide +kernel
theorem dl_695 : decode code 695 = .ok (.if_icmp .eq 600, 3) := by decide +kernel
theorem dl_700 : decode code 700 = .ok (.aload_n 1, 1) := by decide +kernel
theorem dl_701 : decode code 701 = .ok (.aload_n 0, 1) := by decide +kernel
theorem dl_702 : decode code 702 = .ok (.iload_n 3, 1) := by decide +kernel
theorem dl_703 : decode code 703 = .ok (.iconst 1, 1) := by decide +kernel
theorem dl_704 : decode code 704 = .ok (.iadd, 1) := by decide +kernel
theorem dl_705 : decode code 705 = .ok (.iaload, 1) := by decide +kernel
theorem dl_706 : decode code 706 = .ok (.aload_n 0, 1) := by decide +kernel
theorem dl_707 : decode code 707 = .ok (.iload_n 3, 1) := by decide +kernel
theorem dl_708 : decode code 708 = .ok (.iconst 2, 1) := by decide +kernel
theorem dl_709 : decode code 709 = .ok (.iadd, 1) := by decide +kernel
theorem dl_710 : decode code 710 = .ok (.iaload, 1) := by decide +kernel
theorem dl_711 : decode code 711 = .ok (.aload_n 0, 1) := by decide +kernel
theorem dl_712 : decode code 712 = .ok (.iload_n 3, 1) := by decide +kernel
theorem dl_713 : decode code 713 = .ok (.iconst 3, 1) := by decide +kernel
theorem dl_714 : decode code 714 = .ok (.iadd, 1) := by decide +kernel
theorem dl_715 : decode code 715 = .ok (.iaload, 1) := by decide +kernel
theorem dl_716 : decode code 716 = .ok (.ifCond .eq 7, 3) := by decide +kernel
theorem dl_719 : decode code 719 = .ok (.iconst 1, 1) := by decide +kernel
theorem dl_720 : decode code 720 = .ok (.goto 4, 3) := by decide +kernel
theorem dl_723 : decode code 723 = .ok (.iconst 0, 1) := by decide +kernel
theorem dl_724 : decode code 724 = .ok (.invokevirtual 89, 3) := by decide +kernel
theorem dl_727 : decode code 727 = .ok (.aload_n 2, 1) := by decide +kernel
theorem dl_728 : decode code 728 = .ok (.aload_n 0, 1) := by decide +kernel
theorem dl_729 : decode code 729 = .ok (.iload_n 3, 1) := by decide +kernel
theorem dl_730 : decode code 730 = .ok (.iconst 1, 1) := by decide +kernel
theorem dl_731 : decode code 731 = .ok (.iadd, 1) := by decide +kernel
theorem dl_732 : decode code 732 = .ok (.iaload, 1) := by decide +kernel
theorem dl_733 : decode code 733 = .ok (.aload_n 0, 1) := by decide +kernel
theorem dl_734 : decode code 734 = .ok (.iload_n 3, 1) := by decide +kernel
theorem dl_735 : decode code 735 = .ok (.iconst 2, 1) := by decide +kernel
theorem dl_736 : decode code 736 = .ok (.iadd, 1) := by decide +kernel
theorem dl_737 : decode code 737 = .ok (.iaload, 1) := by decide +kernel
theorem dl_738 : decode code 738 = .ok (.aload_n 0, 1) := by decide +kernel
theorem dl_739 : decode code 739 = .ok (.iload_n 3, 1) := by decide +kernel
theorem dl_740 : decode code 740 = .ok (.iconst 3, 1) := by decide +kernel
theorem dl_741 : decode code 741 = .ok (.iadd, 1) := by decide +kernel
theorem dl_742 : decode code 742 = .ok (.iaload, 1) := by decide +kernel
theorem dl_743 : decode code 743 = .ok (.ifCond .eq 7, 3) := by decide +kernel
theorem dl_746 : decode code 746 = .ok (.iconst 1, 1) := by decide +kernel
theorem dl_747 : decode code 747 = .ok (.goto 4, 3) := by decide +kernel
theorem dl_750 : decode code 750 = .ok (.iconst 0, 1) := by decide +kernel
theorem dl_751 : decode code 751 = .ok (.invokevirtual 93, 3) := by decide +kernel
theorem dl_754 : decode code 754 = .ok (.if_icmp .eq 541, 3) := by decide +kernel
theorem dl_759 : decode code 759 = .ok (.aload_n 1, 1) := by decide +kernel
theorem dl_760 : decode code 760 = .ok (.aload_n 0, 1) := by decide +kernel
theorem dl_761 : decode code 761 = .ok (.iload_n 3, 1) := by decide +kernel
theorem dl_762 : decode code 762 = .ok (.iconst 1, 1) := by decide +kernel
theorem dl_763 : decode code 763 = .ok (.iadd, 1) := by decide +kernel
theorem dl_764 : decode code 764 = .ok (.iaload, 1) := by decide +kernel
theorem dl_765 : decode code 765 = .ok (.invokevirtual 94, 3) := by decide +kernel
theorem dl_768 : decode code 768 = .ok (.aload_n 2, 1) := by decide +kernel
theorem dl_769 : decode code 769 = .ok (.aload_n 0, 1) := by decide +kernel
theorem dl_770 : decode code 770 = .ok (.iload_n 3, 1) := by decide +kernel
theorem dl_771 : decode code 771 = .ok (.iconst 1, 1) := by decide +kernel
theorem dl_772 : decode code 772 = .ok (.iadd, 1) := by decide +kernel
theorem dl_773 : decode code 773 = .ok (.iaload, 1) := by decide +kernel
theorem dl_774 : decode code 774 = .ok (.invokevirtual 97, 3) := by decide +kernel
theorem dl_777 : decode code 777 = .ok (.if_icmp .eq 518, 3) := by decide +kernel
theorem dl_782 : decode code 782 = .ok (.aload_n 1, 1) := by decide +kernel
theorem dl_783 : decode code 783 = .ok (.aload_n 0, 1) := by decide +kernel
theorem dl_784 : decode code 784 = .ok (.iload_n 3, 1) := by decide +kernel
theorem dl_785 : decode code 785 = .ok (.iconst 1, 1) := by decide +kernel
theorem dl_786 : decode code 786 = .ok (.iadd, 1) := by decide +kernel
theorem dl_787 : decode code 787 = .ok (.iaload, 1) := by decide +kernel
theorem dl_788 : decode code 788 = .ok (.invokevirtual 98, 3) := by decide +kernel
theorem dl_791 : decode code 791 = .ok (.aload_n 2, 1) := by decide +kernel
theorem dl_792 : decode code 792 = .ok (.aload_n 0, 1) := by decide +kernel
theorem dl_793 : decode code 793 = .ok (.iload_n 3, 1) := by decide +kernel
