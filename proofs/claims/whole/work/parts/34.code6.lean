/-! the law's own instructions, part 6 (by program out of javap's listing) -/
theorem dW_1032 : decode code 1032 = .ok (.laload, 1) := by decide +kernel
theorem dW_1033 : decode code 1033 = .ok (.iload 6, 2) := by decide +kernel
theorem dW_1035 : decode code 1035 = .ok (.i2l, 1) := by decide +kernel
theorem dW_1036 : decode code 1036 = .ok (.lcmp, 1) := by decide +kernel
theorem dW_1037 : decode code 1037 = .ok (.ifCond .eq 5, 3) := by decide +kernel
theorem dW_1040 : decode code 1040 = .ok (.iconst 0, 1) := by decide +kernel
theorem dW_1041 : decode code 1041 = .ok (.ireturn, 1) := by decide +kernel
theorem dW_1042 : decode code 1042 = .ok (.goto 162, 3) := by decide +kernel
theorem dW_1045 : decode code 1045 = .ok (.aload_n 1, 1) := by decide +kernel
theorem dW_1046 : decode code 1046 = .ok (.aload_n 0, 1) := by decide +kernel
theorem dW_1047 : decode code 1047 = .ok (.iload 4, 2) := by decide +kernel
theorem dW_1049 : decode code 1049 = .ok (.iconst 1, 1) := by decide +kernel
theorem dW_1050 : decode code 1050 = .ok (.iadd, 1) := by decide +kernel
theorem dW_1051 : decode code 1051 = .ok (.iaload, 1) := by decide +kernel
theorem dW_1052 : decode code 1052 = .ok (.aload_n 3, 1) := by decide +kernel
theorem dW_1053 : decode code 1053 = .ok (.invokestatic 133, 3) := by decide +kernel
theorem dW_1056 : decode code 1056 = .ok (.istore 5, 2) := by decide +kernel
theorem dW_1058 : decode code 1058 = .ok (.aload_n 2, 1) := by decide +kernel
theorem dW_1059 : decode code 1059 = .ok (.aload_n 0, 1) := by decide +kernel
theorem dW_1060 : decode code 1060 = .ok (.iload 4, 2) := by decide +kernel
theorem dW_1062 : decode code 1062 = .ok (.iconst 1, 1) := by decide +kernel
theorem dW_1063 : decode code 1063 = .ok (.iadd, 1) := by decide +kernel
theorem dW_1064 : decode code 1064 = .ok (.iaload, 1) := by decide +kernel
theorem dW_1065 : decode code 1065 = .ok (.invokevirtual 135, 3) := by decide +kernel
theorem dW_1068 : decode code 1068 = .ok (.lstore 6, 2) := by decide +kernel
theorem dW_1070 : decode code 1070 = .ok (.aload_n 2, 1) := by decide +kernel
theorem dW_1071 : decode code 1071 = .ok (.invokevirtual 83, 3) := by decide +kernel
theorem dW_1074 : decode code 1074 = .ok (.iload 5, 2) := by decide +kernel
theorem dW_1076 : decode code 1076 = .ok (.if_icmp .eq 5, 3) := by decide +kernel
theorem dW_1079 : decode code 1079 = .ok (.iconst 0, 1) := by decide +kernel
theorem dW_1080 : decode code 1080 = .ok (.ireturn, 1) := by decide +kernel
theorem dW_1081 : decode code 1081 = .ok (.iload 5, 2) := by decide +kernel
theorem dW_1083 : decode code 1083 = .ok (.ifCond .ne 14, 3) := by decide +kernel
theorem dW_1086 : decode code 1086 = .ok (.aload_n 3, 1) := by decide +kernel
theorem dW_1087 : decode code 1087 = .ok (.iconst 0, 1) := by decide +kernel
theorem dW_1088 : decode code 1088 = .ok (.laload, 1) := by decide +kernel
theorem dW_1089 : decode code 1089 = .ok (.lload 6, 2) := by decide +kernel
theorem dW_1091 : decode code 1091 = .ok (.lcmp, 1) := by decide +kernel
theorem dW_1092 : decode code 1092 = .ok (.ifCond .eq 5, 3) := by decide +kernel
theorem dW_1095 : decode code 1095 = .ok (.iconst 0, 1) := by decide +kernel
theorem dW_1096 : decode code 1096 = .ok (.ireturn, 1) := by decide +kernel
theorem dW_1097 : decode code 1097 = .ok (.goto 107, 3) := by decide +kernel
theorem dW_1100 : decode code 1100 = .ok (.aload_n 1, 1) := by decide +kernel
theorem dW_1101 : decode code 1101 = .ok (.aload_n 0, 1) := by decide +kernel
theorem dW_1102 : decode code 1102 = .ok (.iload 4, 2) := by decide +kernel
theorem dW_1104 : decode code 1104 = .ok (.iconst 1, 1) := by decide +kernel
theorem dW_1105 : decode code 1105 = .ok (.iadd, 1) := by decide +kernel
theorem dW_1106 : decode code 1106 = .ok (.iaload, 1) := by decide +kernel
theorem dW_1107 : decode code 1107 = .ok (.aload_n 0, 1) := by decide +kernel
theorem dW_1108 : decode code 1108 = .ok (.iload 4, 2) := by decide +kernel
theorem dW_1110 : decode code 1110 = .ok (.iconst 2, 1) := by decide +kernel
theorem dW_1111 : decode code 1111 = .ok (.iadd, 1) := by decide +kernel
theorem dW_1112 : decode code 1112 = .ok (.iaload, 1) := by decide +kernel
theorem dW_1113 : decode code 1113 = .ok (.aload_n 3, 1) := by decide +kernel
theorem dW_1114 : decode code 1114 = .ok (.invokestatic 136, 3) := by decide +kernel
theorem dW_1117 : decode code 1117 = .ok (.istore 5, 2) := by decide +kernel
theorem dW_1119 : decode code 1119 = .ok (.aload_n 2, 1) := by decide +kernel
theorem dW_1120 : decode code 1120 = .ok (.aload_n 0, 1) := by decide +kernel
theorem dW_1121 : decode code 1121 = .ok (.iload 4, 2) := by decide +kernel
theorem dW_1123 : decode code 1123 = .ok (.iconst 1, 1) := by decide +kernel
theorem dW_1124 : decode code 1124 = .ok (.iadd, 1) := by decide +kernel
theorem dW_1125 : decode code 1125 = .ok (.iaload, 1) := by decide +kernel
theorem dW_1126 : decode code 1126 = .ok (.aload_n 0, 1) := by decide +kernel
theorem dW_1127 : decode code 1127 = .ok (.iload 4, 2) := by decide +kernel
theorem dW_1129 : decode code 1129 = .ok (.iconst 2, 1) := by decide +kernel
theorem dW_1130 : decode code 1130 = .ok (.iadd, 1) := by decide +kernel
theorem dW_1131 : decode code 1131 = .ok (.iaload, 1) := by decide +kernel
theorem dW_1132 : decode code 1132 = .ok (.invokevirtual 138, 3) := by decide +kernel
theorem dW_1135 : decode code 1135 = .ok (.istore 6, 2) := by decide +kernel
theorem dW_1137 : decode code 1137 = .ok (.aload_n 2, 1) := by decide +kernel
theorem dW_1138 : decode code 1138 = .ok (.invokevirtual 83, 3) := by decide +kernel
theorem dW_1141 : decode code 1141 = .ok (.iload 5, 2) := by decide +kernel
theorem dW_1143 : decode code 1143 = .ok (.if_icmp .eq 5, 3) := by decide +kernel
theorem dW_1146 : decode code 1146 = .ok (.iconst 0, 1) := by decide +kernel
theorem dW_1147 : decode code 1147 = .ok (.ireturn, 1) := by decide +kernel
theorem dW_1148 : decode code 1148 = .ok (.iload 5, 2) := by decide +kernel
theorem dW_1150 : decode code 1150 = .ok (.ifCond .ne 15, 3) := by decide +kernel
theorem dW_1153 : decode code 1153 = .ok (.aload_n 3, 1) := by decide +kernel
theorem dW_1154 : decode code 1154 = .ok (.iconst 0, 1) := by decide +kernel
theorem dW_1155 : decode code 1155 = .ok (.laload, 1) := by decide +kernel
theorem dW_1156 : decode code 1156 = .ok (.iload 6, 2) := by decide +kernel
theorem dW_1158 : decode code 1158 = .ok (.i2l, 1) := by decide +kernel
theorem dW_1159 : decode code 1159 = .ok (.lcmp, 1) := by decide +kernel
theorem dW_1160 : decode code 1160 = .ok (.ifCond .eq 5, 3) := by decide +kernel
theorem dW_1163 : decode code 1163 = .ok (.iconst 0, 1) := by decide +kernel
theorem dW_1164 : decode code 1164 = .ok (.ireturn, 1) := by decide +kernel
theorem dW_1165 : decode code 1165 = .ok (.goto 39, 3) := by decide +kernel
theorem dW_1168 : decode code 1168 = .ok (.aload_n 1, 1) := by decide +kernel
theorem dW_1169 : decode code 1169 = .ok (.aload_n 0, 1) := by decide +kernel
theorem dW_1170 : decode code 1170 = .ok (.iload 4, 2) := by decide +kernel
theorem dW_1172 : decode code 1172 = .ok (.iconst 1, 1) := by decide +kernel
theorem dW_1173 : decode code 1173 = .ok (.iadd, 1) := by decide +kernel
theorem dW_1174 : decode code 1174 = .ok (.iaload, 1) := by decide +kernel
theorem dW_1175 : decode code 1175 = .ok (.invokevirtual 139, 3) := by decide +kernel
theorem dW_1178 : decode code 1178 = .ok (.aload_n 2, 1) := by decide +kernel
theorem dW_1179 : decode code 1179 = .ok (.aload_n 0, 1) := by decide +kernel
theorem dW_1180 : decode code 1180 = .ok (.iload 4, 2) := by decide +kernel
theorem dW_1182 : decode code 1182 = .ok (.iconst 1, 1) := by decide +kernel
theorem dW_1183 : decode code 1183 = .ok (.iadd, 1) := by decide +kernel
theorem dW_1184 : decode code 1184 = .ok (.iaload, 1) := by decide +kernel
theorem dW_1185 : decode code 1185 = .ok (.invokevirtual 143, 3) := by decide +kernel
theorem dW_1188 : decode code 1188 = .ok (.goto 16, 3) := by decide +kernel
theorem dW_1191 : decode code 1191 = .ok (.aload_n 1, 1) := by decide +kernel
theorem dW_1192 : decode code 1192 = .ok (.invokevirtual 144, 3) := by decide +kernel
theorem dW_1195 : decode code 1195 = .ok (.aload_n 2, 1) := by decide +kernel
theorem dW_1196 : decode code 1196 = .ok (.invokevirtual 147, 3) := by decide +kernel
theorem dW_1199 : decode code 1199 = .ok (.if_icmp .eq 5, 3) := by decide +kernel
theorem dW_1202 : decode code 1202 = .ok (.iconst 0, 1) := by decide +kernel
theorem dW_1203 : decode code 1203 = .ok (.ireturn, 1) := by decide +kernel
theorem dW_1204 : decode code 1204 = .ok (.iinc 4 4, 3) := by decide +kernel
theorem dW_1207 : decode code 1207 = .ok (.goto (-1184), 3) := by decide +kernel
theorem dW_1210 : decode code 1210 = .ok (.iconst 1, 1) := by decide +kernel
theorem dW_1211 : decode code 1211 = .ok (.ireturn, 1) := by decide +kernel
