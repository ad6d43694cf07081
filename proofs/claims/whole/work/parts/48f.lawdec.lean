theorem dl_794 : decode code 794 = .ok (.iconst 1, 1) := by decide +kernel
theorem dl_795 : decode code 795 = .ok (.iadd, 1) := by decide +kernel
theorem dl_796 : decode code 796 = .ok (.iaload, 1) := by decide +kernel
theorem dl_797 : decode code 797 = .ok (.invokevirtual 101, 3) := by decide +kernel
theorem dl_800 : decode code 800 = .ok (.if_icmp .eq 495, 3) := by decide +kernel
theorem dl_805 : decode code 805 = .ok (.aload_n 1, 1) := by decide +kernel
theorem dl_806 : decode code 806 = .ok (.invokevirtual 102, 3) := by decide +kernel
theorem dl_809 : decode code 809 = .ok (.aload_n 2, 1) := by decide +kernel
theorem dl_810 : decode code 810 = .ok (.invokevirtual 105, 3) := by decide +kernel
theorem dl_813 : decode code 813 = .ok (.if_icmp .eq 482, 3) := by decide +kernel
theorem dl_818 : decode code 818 = .ok (.aload_n 1, 1) := by decide +kernel
theorem dl_819 : decode code 819 = .ok (.aload_n 0, 1) := by decide +kernel
theorem dl_820 : decode code 820 = .ok (.iload_n 3, 1) := by decide +kernel
theorem dl_821 : decode code 821 = .ok (.iconst 1, 1) := by decide +kernel
theorem dl_822 : decode code 822 = .ok (.iadd, 1) := by decide +kernel
theorem dl_823 : decode code 823 = .ok (.iaload, 1) := by decide +kernel
theorem dl_824 : decode code 824 = .ok (.invokevirtual 106, 3) := by decide +kernel
theorem dl_827 : decode code 827 = .ok (.aload_n 2, 1) := by decide +kernel
theorem dl_828 : decode code 828 = .ok (.aload_n 0, 1) := by decide +kernel
theorem dl_829 : decode code 829 = .ok (.iload_n 3, 1) := by decide +kernel
theorem dl_830 : decode code 830 = .ok (.iconst 1, 1) := by decide +kernel
theorem dl_831 : decode code 831 = .ok (.iadd, 1) := by decide +kernel
theorem dl_832 : decode code 832 = .ok (.iaload, 1) := by decide +kernel
theorem dl_833 : decode code 833 = .ok (.invokevirtual 109, 3) := by decide +kernel
theorem dl_836 : decode code 836 = .ok (.if_icmp .eq 459, 3) := by decide +kernel
theorem dl_841 : decode code 841 = .ok (.aload_n 1, 1) := by decide +kernel
theorem dl_842 : decode code 842 = .ok (.aload_n 0, 1) := by decide +kernel
theorem dl_843 : decode code 843 = .ok (.iload_n 3, 1) := by decide +kernel
theorem dl_844 : decode code 844 = .ok (.iconst 1, 1) := by decide +kernel
theorem dl_845 : decode code 845 = .ok (.iadd, 1) := by decide +kernel
theorem dl_846 : decode code 846 = .ok (.iaload, 1) := by decide +kernel
theorem dl_847 : decode code 847 = .ok (.aload_n 0, 1) := by decide +kernel
theorem dl_848 : decode code 848 = .ok (.iload_n 3, 1) := by decide +kernel
theorem dl_849 : decode code 849 = .ok (.iconst 2, 1) := by decide +kernel
theorem dl_850 : decode code 850 = .ok (.iadd, 1) := by decide +kernel
theorem dl_851 : decode code 851 = .ok (.iaload, 1) := by decide +kernel
theorem dl_852 : decode code 852 = .ok (.invokevirtual 110, 3) := by decide +kernel
theorem dl_855 : decode code 855 = .ok (.aload_n 2, 1) := by decide +kernel
theorem dl_856 : decode code 856 = .ok (.aload_n 0, 1) := by decide +kernel
theorem dl_857 : decode code 857 = .ok (.iload_n 3, 1) := by decide +kernel
theorem dl_858 : decode code 858 = .ok (.iconst 1, 1) := by decide +kernel
theorem dl_859 : decode code 859 = .ok (.iadd, 1) := by decide +kernel
theorem dl_860 : decode code 860 = .ok (.iaload, 1) := by decide +kernel
theorem dl_861 : decode code 861 = .ok (.aload_n 0, 1) := by decide +kernel
theorem dl_862 : decode code 862 = .ok (.iload_n 3, 1) := by decide +kernel
theorem dl_863 : decode code 863 = .ok (.iconst 2, 1) := by decide +kernel
theorem dl_864 : decode code 864 = .ok (.iadd, 1) := by decide +kernel
theorem dl_865 : decode code 865 = .ok (.iaload, 1) := by decide +kernel
theorem dl_866 : decode code 866 = .ok (.invokevirtual 114, 3) := by decide +kernel
theorem dl_869 : decode code 869 = .ok (.lcmp, 1) := by decide +kernel
theorem dl_870 : decode code 870 = .ok (.ifCond .eq 425, 3) := by decide +kernel
theorem dl_875 : decode code 875 = .ok (.aload_n 1, 1) := by decide +kernel
theorem dl_876 : decode code 876 = .ok (.aload_n 0, 1) := by decide +kernel
theorem dl_877 : decode code 877 = .ok (.iload_n 3, 1) := by decide +kernel
theorem dl_878 : decode code 878 = .ok (.iconst 1, 1) := by decide +kernel
theorem dl_879 : decode code 879 = .ok (.iadd, 1) := by decide +kernel
theorem dl_880 : decode code 880 = .ok (.iaload, 1) := by decide +kernel
theorem dl_881 : decode code 881 = .ok (.invokevirtual 115, 3) := by decide +kernel
theorem dl_884 : decode code 884 = .ok (.aload_n 2, 1) := by decide +kernel
theorem dl_885 : decode code 885 = .ok (.aload_n 0, 1) := by decide +kernel
theorem dl_886 : decode code 886 = .ok (.iload_n 3, 1) := by decide +kernel
theorem dl_887 : decode code 887 = .ok (.iconst 1, 1) := by decide +kernel
theorem dl_888 : decode code 888 = .ok (.iadd, 1) := by decide +kernel
theorem dl_889 : decode code 889 = .ok (.iaload, 1) := by decide +kernel
theorem dl_890 : decode code 890 = .ok (.invokevirtual 118, 3) := by decide +kernel
theorem dl_893 : decode code 893 = .ok (.if_icmp .eq 402, 3) := by decide +kernel
theorem dl_898 : decode code 898 = .ok (.aload_n 1, 1) := by decide +kernel
theorem dl_899 : decode code 899 = .ok (.aload_n 0, 1) := by decide +kernel
theorem dl_900 : decode code 900 = .ok (.iload_n 3, 1) := by decide +kernel
theorem dl_901 : decode code 901 = .ok (.iconst 1, 1) := by decide +kernel
theorem dl_902 : decode code 902 = .ok (.iadd, 1) := by decide +kernel
theorem dl_903 : decode code 903 = .ok (.iaload, 1) := by decide +kernel
theorem dl_904 : decode code 904 = .ok (.aload_n 0, 1) := by decide +kernel
theorem dl_905 : decode code 905 = .ok (.iload_n 3, 1) := by decide +kernel
theorem dl_906 : decode code 906 = .ok (.iconst 2, 1) := by decide +kernel
theorem dl_907 : decode code 907 = .ok (.iadd, 1) := by decide +kernel
theorem dl_908 : decode code 908 = .ok (.iaload, 1) := by decide +kernel
theorem dl_909 : decode code 909 = .ok (.aload_n 0, 1) := by decide +kernel
theorem dl_910 : decode code 910 = .ok (.iload_n 3, 1) := by decide +kernel
theorem dl_911 : decode code 911 = .ok (.iconst 3, 1) := by decide +kernel
theorem dl_912 : decode code 912 = .ok (.iadd, 1) := by decide +kernel
theorem dl_913 : decode code 913 = .ok (.iaload, 1) := by decide +kernel
theorem dl_914 : decode code 914 = .ok (.aload_n 0, 1) := by decide +kernel
theorem dl_915 : decode code 915 = .ok (.iload_n 3, 1) := by decide +kernel
theorem dl_916 : decode code 916 = .ok (.iconst 4, 1) := by decide +kernel
theorem dl_917 : decode code 917 = .ok (.iadd, 1) := by decide +kernel
theorem dl_918 : decode code 918 = .ok (.iaload, 1) := by decide +kernel
theorem dl_919 : decode code 919 = .ok (.invokevirtual 119, 3) := by decide +kernel
theorem dl_922 : decode code 922 = .ok (.aload_n 2, 1) := by decide +kernel
theorem dl_923 : decode code 923 = .ok (.aload_n 0, 1) := by decide +kernel
