theorem dl_924 : decode code 924 = .ok (.iload_n 3, 1) := by decide +kernel
theorem dl_925 : decode code 925 = .ok (.iconst 1, 1) := by decide +kernel
theorem dl_926 : decode code 926 = .ok (.iadd, 1) := by decide +kernel
theorem dl_927 : decode code 927 = .ok (.iaload, 1) := by decide +kernel
theorem dl_928 : decode code 928 = .ok (.aload_n 0, 1) := by decide +kernel
theorem dl_929 : decode code 929 = .ok (.iload_n 3, 1) := by decide +kernel
theorem dl_930 : decode code 930 = .ok (.iconst 2, 1) := by decide +kernel
theorem dl_931 : decode code 931 = .ok (.iadd, 1) := by decide +kernel
theorem dl_932 : decode code 932 = .ok (.iaload, 1) := by decide +kernel
theorem dl_933 : decode code 933 = .ok (.aload_n 0, 1) := by decide +kernel
theorem dl_934 : decode code 934 = .ok (.iload_n 3, 1) := by decide +kernel
theorem dl_935 : decode code 935 = .ok (.iconst 3, 1) := by decide +kernel
theorem dl_936 : decode code 936 = .ok (.iadd, 1) := by decide +kernel
theorem dl_937 : decode code 937 = .ok (.iaload, 1) := by decide +kernel
theorem dl_938 : decode code 938 = .ok (.aload_n 0, 1) := by decide +kernel
theorem dl_939 : decode code 939 = .ok (.iload_n 3, 1) := by decide +kernel
theorem dl_940 : decode code 940 = .ok (.iconst 4, 1) := by decide +kernel
theorem dl_941 : decode code 941 = .ok (.iadd, 1) := by decide +kernel
theorem dl_942 : decode code 942 = .ok (.iaload, 1) := by decide +kernel
theorem dl_943 : decode code 943 = .ok (.invokevirtual 122, 3) := by decide +kernel
theorem dl_946 : decode code 946 = .ok (.if_icmp .eq 349, 3) := by decide +kernel
theorem dl_951 : decode code 951 = .ok (.aload_n 1, 1) := by decide +kernel
theorem dl_952 : decode code 952 = .ok (.aload_n 0, 1) := by decide +kernel
theorem dl_953 : decode code 953 = .ok (.iload_n 3, 1) := by decide +kernel
theorem dl_954 : decode code 954 = .ok (.iconst 1, 1) := by decide +kernel
theorem dl_955 : decode code 955 = .ok (.iadd, 1) := by decide +kernel
theorem dl_956 : decode code 956 = .ok (.iaload, 1) := by decide +kernel
theorem dl_957 : decode code 957 = .ok (.aload_n 0, 1) := by decide +kernel
theorem dl_958 : decode code 958 = .ok (.iload_n 3, 1) := by decide +kernel
theorem dl_959 : decode code 959 = .ok (.iconst 2, 1) := by decide +kernel
theorem dl_960 : decode code 960 = .ok (.iadd, 1) := by decide +kernel
theorem dl_961 : decode code 961 = .ok (.iaload, 1) := by decide +kernel
theorem dl_962 : decode code 962 = .ok (.aload_n 0, 1) := by decide +kernel
theorem dl_963 : decode code 963 = .ok (.iload_n 3, 1) := by decide +kernel
theorem dl_964 : decode code 964 = .ok (.iconst 3, 1) := by decide +kernel
theorem dl_965 : decode code 965 = .ok (.iadd, 1) := by decide +kernel
theorem dl_966 : decode code 966 = .ok (.iaload, 1) := by decide +kernel
theorem dl_967 : decode code 967 = .ok (.invokevirtual 123, 3) := by decide +kernel
theorem dl_970 : decode code 970 = .ok (.aload_n 2, 1) := by decide +kernel
theorem dl_971 : decode code 971 = .ok (.aload_n 0, 1) := by decide +kernel
theorem dl_972 : decode code 972 = .ok (.iload_n 3, 1) := by decide +kernel
theorem dl_973 : decode code 973 = .ok (.iconst 1, 1) := by decide +kernel
theorem dl_974 : decode code 974 = .ok (.iadd, 1) := by decide +kernel
theorem dl_975 : decode code 975 = .ok (.iaload, 1) := by decide +kernel
theorem dl_976 : decode code 976 = .ok (.aload_n 0, 1) := by decide +kernel
theorem dl_977 : decode code 977 = .ok (.iload_n 3, 1) := by decide +kernel
theorem dl_978 : decode code 978 = .ok (.iconst 2, 1) := by decide +kernel
theorem dl_979 : decode code 979 = .ok (.iadd, 1) := by decide +kernel
theorem dl_980 : decode code 980 = .ok (.iaload, 1) := by decide +kernel
theorem dl_981 : decode code 981 = .ok (.aload_n 0, 1) := by decide +kernel
theorem dl_982 : decode code 982 = .ok (.iload_n 3, 1) := by decide +kernel
theorem dl_983 : decode code 983 = .ok (.iconst 3, 1) := by decide +kernel
theorem dl_984 : decode code 984 = .ok (.iadd, 1) := by decide +kernel
theorem dl_985 : decode code 985 = .ok (.iaload, 1) := by decide +kernel
theorem dl_986 : decode code 986 = .ok (.invokevirtual 127, 3) := by decide +kernel
theorem dl_989 : decode code 989 = .ok (.if_icmp .eq 306, 3) := by decide +kernel
theorem dl_994 : decode code 994 = .ok (.aload_n 1, 1) := by decide +kernel
theorem dl_995 : decode code 995 = .ok (.aload_n 0, 1) := by decide +kernel
theorem dl_996 : decode code 996 = .ok (.iload_n 3, 1) := by decide +kernel
theorem dl_997 : decode code 997 = .ok (.iconst 1, 1) := by decide +kernel
theorem dl_998 : decode code 998 = .ok (.iadd, 1) := by decide +kernel
theorem dl_999 : decode code 999 = .ok (.iaload, 1) := by decide +kernel
theorem dl_1000 : decode code 1000 = .ok (.invokevirtual 128, 3) := by decide +kernel
theorem dl_1003 : decode code 1003 = .ok (.aload_n 2, 1) := by decide +kernel
theorem dl_1004 : decode code 1004 = .ok (.aload_n 0, 1) := by decide +kernel
theorem dl_1005 : decode code 1005 = .ok (.iload_n 3, 1) := by decide +kernel
theorem dl_1006 : decode code 1006 = .ok (.iconst 1, 1) := by decide +kernel
theorem dl_1007 : decode code 1007 = .ok (.iadd, 1) := by decide +kernel
theorem dl_1008 : decode code 1008 = .ok (.iaload, 1) := by decide +kernel
theorem dl_1009 : decode code 1009 = .ok (.invokevirtual 131, 3) := by decide +kernel
theorem dl_1012 : decode code 1012 = .ok (.if_icmp .eq 283, 3) := by decide +kernel
theorem dl_1017 : decode code 1017 = .ok (.aload_n 1, 1) := by decide +kernel
theorem dl_1018 : decode code 1018 = .ok (.aload_n 0, 1) := by decide +kernel
theorem dl_1019 : decode code 1019 = .ok (.iload_n 3, 1) := by decide +kernel
theorem dl_1020 : decode code 1020 = .ok (.iconst 1, 1) := by decide +kernel
theorem dl_1021 : decode code 1021 = .ok (.iadd, 1) := by decide +kernel
theorem dl_1022 : decode code 1022 = .ok (.iaload, 1) := by decide +kernel
theorem dl_1023 : decode code 1023 = .ok (.aload_n 0, 1) := by decide +kernel
theorem dl_1024 : decode code 1024 = .ok (.iload_n 3, 1) := by decide +kernel
theorem dl_1025 : decode code 1025 = .ok (.iconst 2, 1) := by decide +kernel
theorem dl_1026 : decode code 1026 = .ok (.iadd, 1) := by decide +kernel
theorem dl_1027 : decode code 1027 = .ok (.iaload, 1) := by decide +kernel
theorem dl_1028 : decode code 1028 = .ok (.aload_n 0, 1) := by decide +kernel
theorem dl_1029 : decode code 1029 = .ok (.iload_n 3, 1) := by decide +kernel
theorem dl_1030 : decode code 1030 = .ok (.iconst 3, 1) := by decide +kernel
theorem dl_1031 : decode code 1031 = .ok (.iadd, 1) := by decide +kernel
theorem dl_1032 : decode code 1032 = .ok (.iaload, 1) := by decide +kernel
theorem dl_1033 : decode code 1033 = .ok (.invokevirtual 132, 3) := by decide +kernel
theorem dl_1036 : decode code 1036 = .ok (.aload_n 2, 1) := by decide +kernel
theorem dl_1037 : decode code 1037 = .ok (.aload_n 0, 1) := by decide +kernel
