/-! ===== the law: its instructions (4) ===== -/
theorem dL_1064 : decode code 1064 = .ok (.iconst 3, 1) := by decide +kernel
theorem dL_1065 : decode code 1065 = .ok (.iadd, 1) := by decide +kernel
theorem dL_1066 : decode code 1066 = .ok (.iaload, 1) := by decide +kernel
theorem dL_1067 : decode code 1067 = .ok (.aload_n 0, 1) := by decide +kernel
theorem dL_1068 : decode code 1068 = .ok (.iload_n 3, 1) := by decide +kernel
theorem dL_1069 : decode code 1069 = .ok (.iconst 4, 1) := by decide +kernel
theorem dL_1070 : decode code 1070 = .ok (.iadd, 1) := by decide +kernel
theorem dL_1071 : decode code 1071 = .ok (.iaload, 1) := by decide +kernel
theorem dL_1072 : decode code 1072 = .ok (.aload_n 0, 1) := by decide +kernel
theorem dL_1073 : decode code 1073 = .ok (.iload_n 3, 1) := by decide +kernel
theorem dL_1074 : decode code 1074 = .ok (.iconst 5, 1) := by decide +kernel
theorem dL_1075 : decode code 1075 = .ok (.iadd, 1) := by decide +kernel
theorem dL_1076 : decode code 1076 = .ok (.iaload, 1) := by decide +kernel
theorem dL_1077 : decode code 1077 = .ok (.invokevirtual 118, 3) := by decide +kernel
theorem dL_1080 : decode code 1080 = .ok (.if_icmp .eq 173, 3) := by decide +kernel
theorem dL_1083 : decode code 1083 = .ok (.iconst 0, 1) := by decide +kernel
theorem dL_1084 : decode code 1084 = .ok (.ireturn, 1) := by decide +kernel
theorem dL_1085 : decode code 1085 = .ok (.aload_n 1, 1) := by decide +kernel
theorem dL_1086 : decode code 1086 = .ok (.aload_n 0, 1) := by decide +kernel
theorem dL_1087 : decode code 1087 = .ok (.iload_n 3, 1) := by decide +kernel
theorem dL_1088 : decode code 1088 = .ok (.iconst 1, 1) := by decide +kernel
theorem dL_1089 : decode code 1089 = .ok (.iadd, 1) := by decide +kernel
theorem dL_1090 : decode code 1090 = .ok (.iaload, 1) := by decide +kernel
theorem dL_1091 : decode code 1091 = .ok (.invokevirtual 119, 3) := by decide +kernel
theorem dL_1094 : decode code 1094 = .ok (.aload_n 2, 1) := by decide +kernel
theorem dL_1095 : decode code 1095 = .ok (.aload_n 0, 1) := by decide +kernel
theorem dL_1096 : decode code 1096 = .ok (.iload_n 3, 1) := by decide +kernel
theorem dL_1097 : decode code 1097 = .ok (.iconst 1, 1) := by decide +kernel
theorem dL_1098 : decode code 1098 = .ok (.iadd, 1) := by decide +kernel
theorem dL_1099 : decode code 1099 = .ok (.iaload, 1) := by decide +kernel
theorem dL_1100 : decode code 1100 = .ok (.invokevirtual 122, 3) := by decide +kernel
theorem dL_1103 : decode code 1103 = .ok (.if_icmp .eq 150, 3) := by decide +kernel
theorem dL_1106 : decode code 1106 = .ok (.iconst 0, 1) := by decide +kernel
theorem dL_1107 : decode code 1107 = .ok (.ireturn, 1) := by decide +kernel
theorem dL_1108 : decode code 1108 = .ok (.aload_n 1, 1) := by decide +kernel
theorem dL_1109 : decode code 1109 = .ok (.invokevirtual 123, 3) := by decide +kernel
theorem dL_1112 : decode code 1112 = .ok (.aload_n 2, 1) := by decide +kernel
theorem dL_1113 : decode code 1113 = .ok (.invokevirtual 127, 3) := by decide +kernel
theorem dL_1116 : decode code 1116 = .ok (.if_icmp .eq 137, 3) := by decide +kernel
theorem dL_1119 : decode code 1119 = .ok (.iconst 0, 1) := by decide +kernel
theorem dL_1120 : decode code 1120 = .ok (.ireturn, 1) := by decide +kernel
theorem dL_1121 : decode code 1121 = .ok (.aload_n 1, 1) := by decide +kernel
theorem dL_1122 : decode code 1122 = .ok (.aload_n 0, 1) := by decide +kernel
theorem dL_1123 : decode code 1123 = .ok (.iload_n 3, 1) := by decide +kernel
theorem dL_1124 : decode code 1124 = .ok (.iconst 1, 1) := by decide +kernel
theorem dL_1125 : decode code 1125 = .ok (.iadd, 1) := by decide +kernel
theorem dL_1126 : decode code 1126 = .ok (.iaload, 1) := by decide +kernel
theorem dL_1127 : decode code 1127 = .ok (.aload_n 0, 1) := by decide +kernel
theorem dL_1128 : decode code 1128 = .ok (.iload_n 3, 1) := by decide +kernel
theorem dL_1129 : decode code 1129 = .ok (.iconst 2, 1) := by decide +kernel
theorem dL_1130 : decode code 1130 = .ok (.iadd, 1) := by decide +kernel
theorem dL_1131 : decode code 1131 = .ok (.iaload, 1) := by decide +kernel
theorem dL_1132 : decode code 1132 = .ok (.invokevirtual 128, 3) := by decide +kernel
theorem dL_1135 : decode code 1135 = .ok (.aload_n 2, 1) := by decide +kernel
theorem dL_1136 : decode code 1136 = .ok (.aload_n 0, 1) := by decide +kernel
theorem dL_1137 : decode code 1137 = .ok (.iload_n 3, 1) := by decide +kernel
theorem dL_1138 : decode code 1138 = .ok (.iconst 1, 1) := by decide +kernel
theorem dL_1139 : decode code 1139 = .ok (.iadd, 1) := by decide +kernel
theorem dL_1140 : decode code 1140 = .ok (.iaload, 1) := by decide +kernel
theorem dL_1141 : decode code 1141 = .ok (.aload_n 0, 1) := by decide +kernel
theorem dL_1142 : decode code 1142 = .ok (.iload_n 3, 1) := by decide +kernel
theorem dL_1143 : decode code 1143 = .ok (.iconst 2, 1) := by decide +kernel
theorem dL_1144 : decode code 1144 = .ok (.iadd, 1) := by decide +kernel
theorem dL_1145 : decode code 1145 = .ok (.iaload, 1) := by decide +kernel
theorem dL_1146 : decode code 1146 = .ok (.invokevirtual 131, 3) := by decide +kernel
theorem dL_1149 : decode code 1149 = .ok (.if_icmp .eq 104, 3) := by decide +kernel
theorem dL_1152 : decode code 1152 = .ok (.iconst 0, 1) := by decide +kernel
theorem dL_1153 : decode code 1153 = .ok (.ireturn, 1) := by decide +kernel
theorem dL_1154 : decode code 1154 = .ok (.aload_n 1, 1) := by decide +kernel
theorem dL_1155 : decode code 1155 = .ok (.aload_n 0, 1) := by decide +kernel
theorem dL_1156 : decode code 1156 = .ok (.iload_n 3, 1) := by decide +kernel
theorem dL_1157 : decode code 1157 = .ok (.iconst 1, 1) := by decide +kernel
theorem dL_1158 : decode code 1158 = .ok (.iadd, 1) := by decide +kernel
theorem dL_1159 : decode code 1159 = .ok (.iaload, 1) := by decide +kernel
theorem dL_1160 : decode code 1160 = .ok (.invokevirtual 132, 3) := by decide +kernel
theorem dL_1163 : decode code 1163 = .ok (.aload_n 2, 1) := by decide +kernel
theorem dL_1164 : decode code 1164 = .ok (.aload_n 0, 1) := by decide +kernel
theorem dL_1165 : decode code 1165 = .ok (.iload_n 3, 1) := by decide +kernel
theorem dL_1166 : decode code 1166 = .ok (.iconst 1, 1) := by decide +kernel
theorem dL_1167 : decode code 1167 = .ok (.iadd, 1) := by decide +kernel
theorem dL_1168 : decode code 1168 = .ok (.iaload, 1) := by decide +kernel
theorem dL_1169 : decode code 1169 = .ok (.invokevirtual 135, 3) := by decide +kernel
theorem dL_1172 : decode code 1172 = .ok (.if_icmp .eq 81, 3) := by decide +kernel
theorem dL_1175 : decode code 1175 = .ok (.iconst 0, 1) := by decide +kernel
theorem dL_1176 : decode code 1176 = .ok (.ireturn, 1) := by decide +kernel
theorem dL_1177 : decode code 1177 = .ok (.aload_n 1, 1) := by decide +kernel
theorem dL_1178 : decode code 1178 = .ok (.aload_n 0, 1) := by decide +kernel
theorem dL_1179 : decode code 1179 = .ok (.iload_n 3, 1) := by decide +kernel
theorem dL_1180 : decode code 1180 = .ok (.iconst 1, 1) := by decide +kernel
theorem dL_1181 : decode code 1181 = .ok (.iadd, 1) := by decide +kernel
theorem dL_1182 : decode code 1182 = .ok (.iaload, 1) := by decide +kernel
theorem dL_1183 : decode code 1183 = .ok (.aload_n 0, 1) := by decide +kernel
theorem dL_1184 : decode code 1184 = .ok (.iload_n 3, 1) := by decide +kernel
theorem dL_1185 : decode code 1185 = .ok (.iconst 2, 1) := by decide +kernel
theorem dL_1186 : decode code 1186 = .ok (.iadd, 1) := by decide +kernel
theorem dL_1187 : decode code 1187 = .ok (.iaload, 1) := by decide +kernel
theorem dL_1188 : decode code 1188 = .ok (.aload_n 0, 1) := by decide +kernel
theorem dL_1189 : decode code 1189 = .ok (.iload_n 3, 1) := by decide +kernel
theorem dL_1190 : decode code 1190 = .ok (.iconst 3, 1) := by decide +kernel
theorem dL_1191 : decode code 1191 = .ok (.iadd, 1) := by decide +kernel
theorem dL_1192 : decode code 1192 = .ok (.iaload, 1) := by decide +kernel
theorem dL_1193 : decode code 1193 = .ok (.aload_n 0, 1) := by decide +kernel
theorem dL_1194 : decode code 1194 = .ok (.iload_n 3, 1) := by decide +kernel
theorem dL_1195 : decode code 1195 = .ok (.iconst 4, 1) := by decide +kernel
theorem dL_1196 : decode code 1196 = .ok (.iadd, 1) := by decide +kernel
theorem dL_1197 : decode code 1197 = .ok (.iaload, 1) := by decide +kernel
theorem dL_1198 : decode code 1198 = .ok (.invokevirtual 136, 3) := by decide +kernel
theorem dL_1201 : decode code 1201 = .ok (.aload_n 2, 1) := by decide +kernel
theorem dL_1202 : decode code 1202 = .ok (.aload_n 0, 1) := by decide +kernel
theorem dL_1203 : decode code 1203 = .ok (.iload_n 3, 1) := by decide +kernel
theorem dL_1204 : decode code 1204 = .ok (.iconst 1, 1) := by decide +kernel
theorem dL_1205 : decode code 1205 = .ok (.iadd, 1) := by decide +kernel
theorem dL_1206 : decode code 1206 = .ok (.iaload, 1) := by decide +kernel
theorem dL_1207 : decode code 1207 = .ok (.aload_n 0, 1) := by decide +kernel
theorem dL_1208 : decode code 1208 = .ok (.iload_n 3, 1) := by decide +kernel
theorem dL_1209 : decode code 1209 = .ok (.iconst 2, 1) := by decide +kernel
theorem dL_1210 : decode code 1210 = .ok (.iadd, 1) := by decide +kernel
theorem dL_1211 : decode code 1211 = .ok (.iaload, 1) := by decide +kernel
theorem dL_1212 : decode code 1212 = .ok (.aload_n 0, 1) := by decide +kernel
theorem dL_1213 : decode code 1213 = .ok (.iload_n 3, 1) := by decide +kernel
theorem dL_1214 : decode code 1214 = .ok (.iconst 3, 1) := by decide +kernel
theorem dL_1215 : decode code 1215 = .ok (.iadd, 1) := by decide +kernel
theorem dL_1216 : decode code 1216 = .ok (.iaload, 1) := by decide +kernel
theorem dL_1217 : decode code 1217 = .ok (.aload_n 0, 1) := by decide +kernel
theorem dL_1218 : decode code 1218 = .ok (.iload_n 3, 1) := by decide +kernel
theorem dL_1219 : decode code 1219 = .ok (.iconst 4, 1) := by decide +kernel
theorem dL_1220 : decode code 1220 = .ok (.iadd, 1) := by decide +kernel
theorem dL_1221 : decode code 1221 = .ok (.iaload, 1) := by decide +kernel
theorem dL_1222 : decode code 1222 = .ok (.invokevirtual 140, 3) := by decide +kernel
theorem dL_1225 : decode code 1225 = .ok (.if_icmp .eq 28, 3) := by decide +kernel
theorem dL_1228 : decode code 1228 = .ok (.iconst 0, 1) := by decide +kernel
theorem dL_1229 : decode code 1229 = .ok (.ireturn, 1) := by decide +kernel
theorem dL_1230 : decode code 1230 = .ok (.aload_n 1, 1) := by decide +kernel
theorem dL_1231 : decode code 1231 = .ok (.aload_n 0, 1) := by decide +kernel
theorem dL_1232 : decode code 1232 = .ok (.iload_n 3, 1) := by decide +kernel
theorem dL_1233 : decode code 1233 = .ok (.iconst 1, 1) := by decide +kernel
theorem dL_1234 : decode code 1234 = .ok (.iadd, 1) := by decide +kernel
theorem dL_1235 : decode code 1235 = .ok (.iaload, 1) := by decide +kernel
theorem dL_1236 : decode code 1236 = .ok (.invokevirtual 141, 3) := by decide +kernel
theorem dL_1239 : decode code 1239 = .ok (.aload_n 2, 1) := by decide +kernel
theorem dL_1240 : decode code 1240 = .ok (.aload_n 0, 1) := by decide +kernel
theorem dL_1241 : decode code 1241 = .ok (.iload_n 3, 1) := by decide +kernel
theorem dL_1242 : decode code 1242 = .ok (.iconst 1, 1) := by decide +kernel
theorem dL_1243 : decode code 1243 = .ok (.iadd, 1) := by decide +kernel
theorem dL_1244 : decode code 1244 = .ok (.iaload, 1) := by decide +kernel
theorem dL_1245 : decode code 1245 = .ok (.invokevirtual 144, 3) := by decide +kernel
theorem dL_1248 : decode code 1248 = .ok (.if_icmp .eq 5, 3) := by decide +kernel
theorem dL_1251 : decode code 1251 = .ok (.iconst 0, 1) := by decide +kernel
theorem dL_1252 : decode code 1252 = .ok (.ireturn, 1) := by decide +kernel
theorem dL_1253 : decode code 1253 = .ok (.iinc 3 7, 3) := by decide +kernel
theorem dL_1256 : decode code 1256 = .ok (.goto (-1238), 3) := by decide +kernel
theorem dL_1259 : decode code 1259 = .ok (.iconst 1, 1) := by decide +kernel
theorem dL_1260 : decode code 1260 = .ok (.ireturn, 1) := by decide +kernel
