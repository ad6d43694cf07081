theorem dl_1038 : decode code 1038 = .ok (.iload_n 3, 1) := by decide +kernel
theorem dl_1039 : decode code 1039 = .ok (.iconst 1, 1) := by decide +kernel
theorem dl_1040 : decode code 1040 = .ok (.iadd, 1) := by decide +kernel
theorem dl_1041 : decode code 1041 = .ok (.iaload, 1) := by decide +kernel
theorem dl_1042 : decode code 1042 = .ok (.aload_n 0, 1) := by decide +kernel
theorem dl_1043 : decode code 1043 = .ok (.iload_n 3, 1) := by decide +kernel
theorem dl_1044 : decode code 1044 = .ok (.iconst 2, 1) := by decide +kernel
theorem dl_1045 : decode code 1045 = .ok (.iadd, 1) := by decide +kernel
theorem dl_1046 : decode code 1046 = .ok (.iaload, 1) := by decide +kernel
theorem dl_1047 : decode code 1047 = .ok (.aload_n 0, 1) := by decide +kernel
theorem dl_1048 : decode code 1048 = .ok (.iload_n 3, 1) := by decide +kernel
theorem dl_1049 : decode code 1049 = .ok (.iconst 3, 1) := by decide +kernel
theorem dl_1050 : decode code 1050 = .ok (.iadd, 1) := by decide +kernel
theorem dl_1051 : decode code 1051 = .ok (.iaload, 1) := by decide +kernel
theorem dl_1052 : decode code 1052 = .ok (.invokevirtual 135, 3) := by decide +kernel
theorem dl_1055 : decode code 1055 = .ok (.if_icmp .eq 240, 3) := by decide +kernel
theorem dl_1060 : decode code 1060 = .ok (.aload_n 1, 1) := by decide +kernel
theorem dl_1061 : decode code 1061 = .ok (.aload_n 0, 1) := by decide +kernel
theorem dl_1062 : decode code 1062 = .ok (.iload_n 3, 1) := by decide +kernel
theorem dl_1063 : decode code 1063 = .ok (.iconst 1, 1) := by decide +kernel
theorem dl_1064 : decode code 1064 = .ok (.iadd, 1) := by decide +kernel
theorem dl_1065 : decode code 1065 = .ok (.iaload, 1) := by decide +kernel
theorem dl_1066 : decode code 1066 = .ok (.aload_n 0, 1) := by decide +kernel
theorem dl_1067 : decode code 1067 = .ok (.iload_n 3, 1) := by decide +kernel
theorem dl_1068 : decode code 1068 = .ok (.iconst 2, 1) := by decide +kernel
theorem dl_1069 : decode code 1069 = .ok (.iadd, 1) := by decide +kernel
theorem dl_1070 : decode code 1070 = .ok (.iaload, 1) := by decide +kernel
theorem dl_1071 : decode code 1071 = .ok (.aload_n 0, 1) := by decide +kernel
theorem dl_1072 : decode code 1072 = .ok (.iload_n 3, 1) := by decide +kernel
theorem dl_1073 : decode code 1073 = .ok (.iconst 3, 1) := by decide +kernel
theorem dl_1074 : decode code 1074 = .ok (.iadd, 1) := by decide +kernel
theorem dl_1075 : decode code 1075 = .ok (.iaload, 1) := by decide +kernel
theorem dl_1076 : decode code 1076 = .ok (.invokevirtual 136, 3) := by decide +kernel
theorem dl_1079 : decode code 1079 = .ok (.aload_n 2, 1) := by decide +kernel
theorem dl_1080 : decode code 1080 = .ok (.aload_n 0, 1) := by decide +kernel
theorem dl_1081 : decode code 1081 = .ok (.iload_n 3, 1) := by decide +kernel
theorem dl_1082 : decode code 1082 = .ok (.iconst 1, 1) := by decide +kernel
theorem dl_1083 : decode code 1083 = .ok (.iadd, 1) := by decide +kernel
theorem dl_1084 : decode code 1084 = .ok (.iaload, 1) := by decide +kernel
theorem dl_1085 : decode code 1085 = .ok (.aload_n 0, 1) := by decide +kernel
theorem dl_1086 : decode code 1086 = .ok (.iload_n 3, 1) := by decide +kernel
theorem dl_1087 : decode code 1087 = .ok (.iconst 2, 1) := by decide +kernel
theorem dl_1088 : decode code 1088 = .ok (.iadd, 1) := by decide +kernel
theorem dl_1089 : decode code 1089 = .ok (.iaload, 1) := by decide +kernel
theorem dl_1090 : decode code 1090 = .ok (.aload_n 0, 1) := by decide +kernel
theorem dl_1091 : decode code 1091 = .ok (.iload_n 3, 1) := by decide +kernel
theorem dl_1092 : decode code 1092 = .ok (.iconst 3, 1) := by decide +kernel
theorem dl_1093 : decode code 1093 = .ok (.iadd, 1) := by decide +kernel
theorem dl_1094 : decode code 1094 = .ok (.iaload, 1) := by decide +kernel
theorem dl_1095 : decode code 1095 = .ok (.invokevirtual 140, 3) := by decide +kernel
theorem dl_1098 : decode code 1098 = .ok (.lcmp, 1) := by decide +kernel
theorem dl_1099 : decode code 1099 = .ok (.ifCond .eq 196, 3) := by decide +kernel
theorem dl_1104 : decode code 1104 = .ok (.aload_n 1, 1) := by decide +kernel
theorem dl_1105 : decode code 1105 = .ok (.aload_n 0, 1) := by decide +kernel
theorem dl_1106 : decode code 1106 = .ok (.iload_n 3, 1) := by decide +kernel
theorem dl_1107 : decode code 1107 = .ok (.iconst 1, 1) := by decide +kernel
theorem dl_1108 : decode code 1108 = .ok (.iadd, 1) := by decide +kernel
theorem dl_1109 : decode code 1109 = .ok (.iaload, 1) := by decide +kernel
theorem dl_1110 : decode code 1110 = .ok (.aload_n 0, 1) := by decide +kernel
theorem dl_1111 : decode code 1111 = .ok (.iload_n 3, 1) := by decide +kernel
theorem dl_1112 : decode code 1112 = .ok (.iconst 2, 1) := by decide +kernel
theorem dl_1113 : decode code 1113 = .ok (.iadd, 1) := by decide +kernel
theorem dl_1114 : decode code 1114 = .ok (.iaload, 1) := by decide +kernel
theorem dl_1115 : decode code 1115 = .ok (.aload_n 0, 1) := by decide +kernel
theorem dl_1116 : decode code 1116 = .ok (.iload_n 3, 1) := by decide +kernel
theorem dl_1117 : decode code 1117 = .ok (.iconst 3, 1) := by decide +kernel
theorem dl_1118 : decode code 1118 = .ok (.iadd, 1) := by decide +kernel
theorem dl_1119 : decode code 1119 = .ok (.iaload, 1) := by decide +kernel
theorem dl_1120 : decode code 1120 = .ok (.aload_n 0, 1) := by decide +kernel
theorem dl_1121 : decode code 1121 = .ok (.iload_n 3, 1) := by decide +kernel
theorem dl_1122 : decode code 1122 = .ok (.iconst 4, 1) := by decide +kernel
theorem dl_1123 : decode code 1123 = .ok (.iadd, 1) := by decide +kernel
theorem dl_1124 : decode code 1124 = .ok (.iaload, 1) := by decide +kernel
theorem dl_1125 : decode code 1125 = .ok (.aload_n 0, 1) := by decide +kernel
theorem dl_1126 : decode code 1126 = .ok (.iload_n 3, 1) := by decide +kernel
theorem dl_1127 : decode code 1127 = .ok (.iconst 5, 1) := by decide +kernel
theorem dl_1128 : decode code 1128 = .ok (.iadd, 1) := by decide +kernel
theorem dl_1129 : decode code 1129 = .ok (.iaload, 1) := by decide +kernel
theorem dl_1130 : decode code 1130 = .ok (.invokevirtual 141, 3) := by decide +kernel
theorem dl_1133 : decode code 1133 = .ok (.aload_n 2, 1) := by decide +kernel
theorem dl_1134 : decode code 1134 = .ok (.aload_n 0, 1) := by decide +kernel
theorem dl_1135 : decode code 1135 = .ok (.iload_n 3, 1) := by decide +kernel
theorem dl_1136 : decode code 1136 = .ok (.iconst 1, 1) := by decide +kernel
theorem dl_1137 : decode code 1137 = .ok (.iadd, 1) := by decide +kernel
theorem dl_1138 : decode code 1138 = .ok (.iaload, 1) := by decide +kernel
theorem dl_1139 : decode code 1139 = .ok (.aload_n 0, 1) := by decide +kernel
theorem dl_1140 : decode code 1140 = .ok (.iload_n 3, 1) := by decide +kernel
theorem dl_1141 : decode code 1141 = .ok (.iconst 2, 1) := by decide +kernel
theorem dl_1142 : decode code 1142 = .ok (.iadd, 1) := by decide +kernel
theorem dl_1143 : decode code 1143 = .ok (.iaload, 1) := by decide +kernel
