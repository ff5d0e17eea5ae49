theorem dL_law_902 : decode cL_law 902 = .ok (.aload_n 0, 1) := by decide +kernel
theorem dL_law_903 : decode cL_law 903 = .ok (.iload 4, 2) := by decide +kernel
theorem dL_law_905 : decode cL_law 905 = .ok (.iconst 1, 1) := by decide +kernel
theorem dL_law_906 : decode cL_law 906 = .ok (.iadd, 1) := by decide +kernel
theorem dL_law_907 : decode cL_law 907 = .ok (.iaload, 1) := by decide +kernel
theorem dL_law_908 : decode cL_law 908 = .ok (.invokevirtual 135, 3) := by decide +kernel
theorem dL_law_911 : decode cL_law 911 = .ok (.istore 6, 2) := by decide +kernel
theorem dL_law_913 : decode cL_law 913 = .ok (.aload_n 2, 1) := by decide +kernel
theorem dL_law_914 : decode cL_law 914 = .ok (.invokevirtual 95, 3) := by decide +kernel
theorem dL_law_917 : decode cL_law 917 = .ok (.iload 5, 2) := by decide +kernel
theorem dL_law_919 : decode cL_law 919 = .ok (.if_icmp .eq 5, 3) := by decide +kernel
theorem dL_law_922 : decode cL_law 922 = .ok (.iconst 0, 1) := by decide +kernel
theorem dL_law_923 : decode cL_law 923 = .ok (.ireturn, 1) := by decide +kernel
theorem dL_law_924 : decode cL_law 924 = .ok (.iload 5, 2) := by decide +kernel
theorem dL_law_926 : decode cL_law 926 = .ok (.ifCond .ne 15, 3) := by decide +kernel
theorem dL_law_929 : decode cL_law 929 = .ok (.aload_n 3, 1) := by decide +kernel
theorem dL_law_930 : decode cL_law 930 = .ok (.iconst 0, 1) := by decide +kernel
theorem dL_law_931 : decode cL_law 931 = .ok (.laload, 1) := by decide +kernel
theorem dL_law_932 : decode cL_law 932 = .ok (.iload 6, 2) := by decide +kernel
theorem dL_law_934 : decode cL_law 934 = .ok (.i2l, 1) := by decide +kernel
theorem dL_law_935 : decode cL_law 935 = .ok (.lcmp, 1) := by decide +kernel
theorem dL_law_936 : decode cL_law 936 = .ok (.ifCond .eq 5, 3) := by decide +kernel
theorem dL_law_939 : decode cL_law 939 = .ok (.iconst 0, 1) := by decide +kernel
theorem dL_law_940 : decode cL_law 940 = .ok (.ireturn, 1) := by decide +kernel
theorem dL_law_941 : decode cL_law 941 = .ok (.goto 577, 3) := by decide +kernel
theorem dL_law_944 : decode cL_law 944 = .ok (.aload_n 1, 1) := by decide +kernel
theorem dL_law_945 : decode cL_law 945 = .ok (.aload_n 0, 1) := by decide +kernel
theorem dL_law_946 : decode cL_law 946 = .ok (.iload 4, 2) := by decide +kernel
theorem dL_law_948 : decode cL_law 948 = .ok (.iconst 1, 1) := by decide +kernel
theorem dL_law_949 : decode cL_law 949 = .ok (.iadd, 1) := by decide +kernel
theorem dL_law_950 : decode cL_law 950 = .ok (.iaload, 1) := by decide +kernel
theorem dL_law_951 : decode cL_law 951 = .ok (.aload_n 0, 1) := by decide +kernel
theorem dL_law_952 : decode cL_law 952 = .ok (.iload 4, 2) := by decide +kernel
theorem dL_law_954 : decode cL_law 954 = .ok (.iconst 2, 1) := by decide +kernel
theorem dL_law_955 : decode cL_law 955 = .ok (.iadd, 1) := by decide +kernel
theorem dL_law_956 : decode cL_law 956 = .ok (.iaload, 1) := by decide +kernel
theorem dL_law_957 : decode cL_law 957 = .ok (.ifCond .eq 7, 3) := by decide +kernel
theorem dL_law_960 : decode cL_law 960 = .ok (.iconst 1, 1) := by decide +kernel
theorem dL_law_961 : decode cL_law 961 = .ok (.goto 4, 3) := by decide +kernel
theorem dL_law_964 : decode cL_law 964 = .ok (.iconst 0, 1) := by decide +kernel
theorem dL_law_965 : decode cL_law 965 = .ok (.aload_n 3, 1) := by decide +kernel
theorem dL_law_966 : decode cL_law 966 = .ok (.invokestatic 136, 3) := by decide +kernel
theorem dL_law_969 : decode cL_law 969 = .ok (.istore 5, 2) := by decide +kernel
theorem dL_law_971 : decode cL_law 971 = .ok (.aload_n 2, 1) := by decide +kernel
theorem dL_law_972 : decode cL_law 972 = .ok (.aload_n 0, 1) := by decide +kernel
theorem dL_law_973 : decode cL_law 973 = .ok (.iload 4, 2) := by decide +kernel
theorem dL_law_975 : decode cL_law 975 = .ok (.iconst 1, 1) := by decide +kernel
theorem dL_law_976 : decode cL_law 976 = .ok (.iadd, 1) := by decide +kernel
theorem dL_law_977 : decode cL_law 977 = .ok (.iaload, 1) := by decide +kernel
theorem dL_law_978 : decode cL_law 978 = .ok (.aload_n 0, 1) := by decide +kernel
theorem dL_law_979 : decode cL_law 979 = .ok (.iload 4, 2) := by decide +kernel
theorem dL_law_981 : decode cL_law 981 = .ok (.iconst 2, 1) := by decide +kernel
theorem dL_law_982 : decode cL_law 982 = .ok (.iadd, 1) := by decide +kernel
theorem dL_law_983 : decode cL_law 983 = .ok (.iaload, 1) := by decide +kernel
theorem dL_law_984 : decode cL_law 984 = .ok (.ifCond .eq 7, 3) := by decide +kernel
theorem dL_law_987 : decode cL_law 987 = .ok (.iconst 1, 1) := by decide +kernel
theorem dL_law_988 : decode cL_law 988 = .ok (.goto 4, 3) := by decide +kernel
theorem dL_law_991 : decode cL_law 991 = .ok (.iconst 0, 1) := by decide +kernel
theorem dL_law_992 : decode cL_law 992 = .ok (.invokevirtual 138, 3) := by decide +kernel
theorem dL_law_995 : decode cL_law 995 = .ok (.istore 6, 2) := by decide +kernel
theorem dL_law_997 : decode cL_law 997 = .ok (.aload_n 2, 1) := by decide +kernel
theorem dL_law_998 : decode cL_law 998 = .ok (.invokevirtual 95, 3) := by decide +kernel
theorem dL_law_1001 : decode cL_law 1001 = .ok (.iload 5, 2) := by decide +kernel
theorem dL_law_1003 : decode cL_law 1003 = .ok (.if_icmp .eq 5, 3) := by decide +kernel
theorem dL_law_1006 : decode cL_law 1006 = .ok (.iconst 0, 1) := by decide +kernel
theorem dL_law_1007 : decode cL_law 1007 = .ok (.ireturn, 1) := by decide +kernel
theorem dL_law_1008 : decode cL_law 1008 = .ok (.iload 5, 2) := by decide +kernel
theorem dL_law_1010 : decode cL_law 1010 = .ok (.ifCond .ne 15, 3) := by decide +kernel
theorem dL_law_1013 : decode cL_law 1013 = .ok (.aload_n 3, 1) := by decide +kernel
theorem dL_law_1014 : decode cL_law 1014 = .ok (.iconst 0, 1) := by decide +kernel
theorem dL_law_1015 : decode cL_law 1015 = .ok (.laload, 1) := by decide +kernel
theorem dL_law_1016 : decode cL_law 1016 = .ok (.iload 6, 2) := by decide +kernel
theorem dL_law_1018 : decode cL_law 1018 = .ok (.i2l, 1) := by decide +kernel
theorem dL_law_1019 : decode cL_law 1019 = .ok (.lcmp, 1) := by decide +kernel
theorem dL_law_1020 : decode cL_law 1020 = .ok (.ifCond .eq 5, 3) := by decide +kernel
theorem dL_law_1023 : decode cL_law 1023 = .ok (.iconst 0, 1) := by decide +kernel
theorem dL_law_1024 : decode cL_law 1024 = .ok (.ireturn, 1) := by decide +kernel
theorem dL_law_1025 : decode cL_law 1025 = .ok (.goto 493, 3) := by decide +kernel
theorem dL_law_1028 : decode cL_law 1028 = .ok (.aload_n 1, 1) := by decide +kernel
theorem dL_law_1029 : decode cL_law 1029 = .ok (.aload_n 3, 1) := by decide +kernel
theorem dL_law_1030 : decode cL_law 1030 = .ok (.invokestatic 139, 3) := by decide +kernel
theorem dL_law_1033 : decode cL_law 1033 = .ok (.istore 5, 2) := by decide +kernel
theorem dL_law_1035 : decode cL_law 1035 = .ok (.aload_n 2, 1) := by decide +kernel
theorem dL_law_1036 : decode cL_law 1036 = .ok (.invokevirtual 142, 3) := by decide +kernel
theorem dL_law_1039 : decode cL_law 1039 = .ok (.istore 6, 2) := by decide +kernel
theorem dL_law_1041 : decode cL_law 1041 = .ok (.aload_n 2, 1) := by decide +kernel
theorem dL_law_1042 : decode cL_law 1042 = .ok (.invokevirtual 95, 3) := by decide +kernel
theorem dL_law_1045 : decode cL_law 1045 = .ok (.iload 5, 2) := by decide +kernel
theorem dL_law_1047 : decode cL_law 1047 = .ok (.if_icmp .eq 5, 3) := by decide +kernel
theorem dL_law_1050 : decode cL_law 1050 = .ok (.iconst 0, 1) := by decide +kernel
theorem dL_law_1051 : decode cL_law 1051 = .ok (.ireturn, 1) := by decide +kernel
theorem dL_law_1052 : decode cL_law 1052 = .ok (.iload 5, 2) := by decide +kernel
theorem dL_law_1054 : decode cL_law 1054 = .ok (.ifCond .ne 15, 3) := by decide +kernel
theorem dL_law_1057 : decode cL_law 1057 = .ok (.aload_n 3, 1) := by decide +kernel
theorem dL_law_1058 : decode cL_law 1058 = .ok (.iconst 0, 1) := by decide +kernel
theorem dL_law_1059 : decode cL_law 1059 = .ok (.laload, 1) := by decide +kernel
theorem dL_law_1060 : decode cL_law 1060 = .ok (.iload 6, 2) := by decide +kernel
theorem dL_law_1062 : decode cL_law 1062 = .ok (.i2l, 1) := by decide +kernel
theorem dL_law_1063 : decode cL_law 1063 = .ok (.lcmp, 1) := by decide +kernel
theorem dL_law_1064 : decode cL_law 1064 = .ok (.ifCond .eq 5, 3) := by decide +kernel
theorem dL_law_1067 : decode cL_law 1067 = .ok (.iconst 0, 1) := by decide +kernel
theorem dL_law_1068 : decode cL_law 1068 = .ok (.ireturn, 1) := by decide +kernel
theorem dL_law_1069 : decode cL_law 1069 = .ok (.goto 449, 3) := by decide +kernel
theorem dL_law_1072 : decode cL_law 1072 = .ok (.aload_n 1, 1) := by decide +kernel
theorem dL_law_1073 : decode cL_law 1073 = .ok (.aload_n 3, 1) := by decide +kernel
theorem dL_law_1074 : decode cL_law 1074 = .ok (.invokestatic 143, 3) := by decide +kernel
theorem dL_law_1077 : decode cL_law 1077 = .ok (.istore 5, 2) := by decide +kernel
theorem dL_law_1079 : decode cL_law 1079 = .ok (.aload_n 2, 1) := by decide +kernel
theorem dL_law_1080 : decode cL_law 1080 = .ok (.invokevirtual 145, 3) := by decide +kernel
theorem dL_law_1083 : decode cL_law 1083 = .ok (.istore 6, 2) := by decide +kernel
theorem dL_law_1085 : decode cL_law 1085 = .ok (.aload_n 2, 1) := by decide +kernel
theorem dL_law_1086 : decode cL_law 1086 = .ok (.invokevirtual 95, 3) := by decide +kernel
theorem dL_law_1089 : decode cL_law 1089 = .ok (.iload 5, 2) := by decide +kernel
theorem dL_law_1091 : decode cL_law 1091 = .ok (.if_icmp .eq 5, 3) := by decide +kernel
theorem dL_law_1094 : decode cL_law 1094 = .ok (.iconst 0, 1) := by decide +kernel
theorem dL_law_1095 : decode cL_law 1095 = .ok (.ireturn, 1) := by decide +kernel
theorem dL_law_1096 : decode cL_law 1096 = .ok (.iload 5, 2) := by decide +kernel
theorem dL_law_1098 : decode cL_law 1098 = .ok (.ifCond .ne 15, 3) := by decide +kernel
theorem dL_law_1101 : decode cL_law 1101 = .ok (.aload_n 3, 1) := by decide +kernel
theorem dL_law_1102 : decode cL_law 1102 = .ok (.iconst 0, 1) := by decide +kernel
theorem dL_law_1103 : decode cL_law 1103 = .ok (.laload, 1) := by decide +kernel
theorem dL_law_1104 : decode cL_law 1104 = .ok (.iload 6, 2) := by decide +kernel
theorem dL_law_1106 : decode cL_law 1106 = .ok (.i2l, 1) := by decide +kernel
theorem dL_law_1107 : decode cL_law 1107 = .ok (.lcmp, 1) := by decide +kernel
theorem dL_law_1108 : decode cL_law 1108 = .ok (.ifCond .eq 5, 3) := by decide +kernel
theorem dL_law_1111 : decode cL_law 1111 = .ok (.iconst 0, 1) := by decide +kernel
theorem dL_law_1112 : decode cL_law 1112 = .ok (.ireturn, 1) := by decide +kernel
theorem dL_law_1113 : decode cL_law 1113 = .ok (.goto 405, 3) := by decide +kernel
theorem dL_law_1116 : decode cL_law 1116 = .ok (.aload_n 1, 1) := by decide +kernel
theorem dL_law_1117 : decode cL_law 1117 = .ok (.aload_n 3, 1) := by decide +kernel
theorem dL_law_1118 : decode cL_law 1118 = .ok (.invokestatic 146, 3) := by decide +kernel
theorem dL_law_1121 : decode cL_law 1121 = .ok (.istore 5, 2) := by decide +kernel
theorem dL_law_1123 : decode cL_law 1123 = .ok (.aload_n 2, 1) := by decide +kernel
theorem dL_law_1124 : decode cL_law 1124 = .ok (.invokevirtual 148, 3) := by decide +kernel
theorem dL_law_1127 : decode cL_law 1127 = .ok (.istore 6, 2) := by decide +kernel
theorem dL_law_1129 : decode cL_law 1129 = .ok (.aload_n 2, 1) := by decide +kernel
theorem dL_law_1130 : decode cL_law 1130 = .ok (.invokevirtual 95, 3) := by decide +kernel
theorem dL_law_1133 : decode cL_law 1133 = .ok (.iload 5, 2) := by decide +kernel
theorem dL_law_1135 : decode cL_law 1135 = .ok (.if_icmp .eq 5, 3) := by decide +kernel
theorem dL_law_1138 : decode cL_law 1138 = .ok (.iconst 0, 1) := by decide +kernel
theorem dL_law_1139 : decode cL_law 1139 = .ok (.ireturn, 1) := by decide +kernel
theorem dL_law_1140 : decode cL_law 1140 = .ok (.iload 5, 2) := by decide +kernel
theorem dL_law_1142 : decode cL_law 1142 = .ok (.ifCond .ne 15, 3) := by decide +kernel
theorem dL_law_1145 : decode cL_law 1145 = .ok (.aload_n 3, 1) := by decide +kernel
theorem dL_law_1146 : decode cL_law 1146 = .ok (.iconst 0, 1) := by decide +kernel
theorem dL_law_1147 : decode cL_law 1147 = .ok (.laload, 1) := by decide +kernel
theorem dL_law_1148 : decode cL_law 1148 = .ok (.iload 6, 2) := by decide +kernel
theorem dL_law_1150 : decode cL_law 1150 = .ok (.i2l, 1) := by decide +kernel
theorem dL_law_1151 : decode cL_law 1151 = .ok (.lcmp, 1) := by decide +kernel
theorem dL_law_1152 : decode cL_law 1152 = .ok (.ifCond .eq 5, 3) := by decide +kernel
theorem dL_law_1155 : decode cL_law 1155 = .ok (.iconst 0, 1) := by decide +kernel
theorem dL_law_1156 : decode cL_law 1156 = .ok (.ireturn, 1) := by decide +kernel
theorem dL_law_1157 : decode cL_law 1157 = .ok (.goto 361, 3) := by decide +kernel
theorem dL_law_1160 : decode cL_law 1160 = .ok (.aload_n 1, 1) := by decide +kernel
theorem dL_law_1161 : decode cL_law 1161 = .ok (.invokevirtual 149, 3) := by decide +kernel
theorem dL_law_1164 : decode cL_law 1164 = .ok (.aload_n 2, 1) := by decide +kernel
theorem dL_law_1165 : decode cL_law 1165 = .ok (.invokevirtual 152, 3) := by decide +kernel
theorem dL_law_1168 : decode cL_law 1168 = .ok (.if_icmp .eq 350, 3) := by decide +kernel
theorem dL_law_1171 : decode cL_law 1171 = .ok (.iconst 0, 1) := by decide +kernel
theorem dL_law_1172 : decode cL_law 1172 = .ok (.ireturn, 1) := by decide +kernel
theorem dL_law_1173 : decode cL_law 1173 = .ok (.aload_n 1, 1) := by decide +kernel
theorem dL_law_1174 : decode cL_law 1174 = .ok (.invokevirtual 153, 3) := by decide +kernel
theorem dL_law_1177 : decode cL_law 1177 = .ok (.aload_n 2, 1) := by decide +kernel
theorem dL_law_1178 : decode cL_law 1178 = .ok (.invokevirtual 156, 3) := by decide +kernel
theorem dL_law_1181 : decode cL_law 1181 = .ok (.if_icmp .eq 337, 3) := by decide +kernel
theorem dL_law_1184 : decode cL_law 1184 = .ok (.iconst 0, 1) := by decide +kernel
theorem dL_law_1185 : decode cL_law 1185 = .ok (.ireturn, 1) := by decide +kernel
theorem dL_law_1186 : decode cL_law 1186 = .ok (.aload_n 1, 1) := by decide +kernel
theorem dL_law_1187 : decode cL_law 1187 = .ok (.aload_n 0, 1) := by decide +kernel
theorem dL_law_1188 : decode cL_law 1188 = .ok (.iload 4, 2) := by decide +kernel
theorem dL_law_1190 : decode cL_law 1190 = .ok (.iconst 1, 1) := by decide +kernel
theorem dL_law_1191 : decode cL_law 1191 = .ok (.iadd, 1) := by decide +kernel
theorem dL_law_1192 : decode cL_law 1192 = .ok (.iaload, 1) := by decide +kernel
theorem dL_law_1193 : decode cL_law 1193 = .ok (.aload_n 3, 1) := by decide +kernel
theorem dL_law_1194 : decode cL_law 1194 = .ok (.invokestatic 157, 3) := by decide +kernel
theorem dL_law_1197 : decode cL_law 1197 = .ok (.istore 5, 2) := by decide +kernel
theorem dL_law_1199 : decode cL_law 1199 = .ok (.aload_n 2, 1) := by decide +kernel
theorem dL_law_1200 : decode cL_law 1200 = .ok (.aload_n 0, 1) := by decide +kernel
theorem dL_law_1201 : decode cL_law 1201 = .ok (.iload 4, 2) := by decide +kernel
theorem dL_law_1203 : decode cL_law 1203 = .ok (.iconst 1, 1) := by decide +kernel
theorem dL_law_1204 : decode cL_law 1204 = .ok (.iadd, 1) := by decide +kernel
theorem dL_law_1205 : decode cL_law 1205 = .ok (.iaload, 1) := by decide +kernel
theorem dL_law_1206 : decode cL_law 1206 = .ok (.invokevirtual 159, 3) := by decide +kernel
theorem dL_law_1209 : decode cL_law 1209 = .ok (.istore 6, 2) := by decide +kernel
theorem dL_law_1211 : decode cL_law 1211 = .ok (.aload_n 2, 1) := by decide +kernel
theorem dL_law_1212 : decode cL_law 1212 = .ok (.invokevirtual 95, 3) := by decide +kernel
theorem dL_law_1215 : decode cL_law 1215 = .ok (.iload 5, 2) := by decide +kernel
theorem dL_law_1217 : decode cL_law 1217 = .ok (.if_icmp .eq 5, 3) := by decide +kernel
theorem dL_law_1220 : decode cL_law 1220 = .ok (.iconst 0, 1) := by decide +kernel
theorem dL_law_1221 : decode cL_law 1221 = .ok (.ireturn, 1) := by decide +kernel
theorem dL_law_1222 : decode cL_law 1222 = .ok (.iload 5, 2) := by decide +kernel
theorem dL_law_1224 : decode cL_law 1224 = .ok (.ifCond .ne 22, 3) := by decide +kernel
theorem dL_law_1227 : decode cL_law 1227 = .ok (.aload_n 3, 1) := by decide +kernel
theorem dL_law_1228 : decode cL_law 1228 = .ok (.iconst 0, 1) := by decide +kernel
theorem dL_law_1229 : decode cL_law 1229 = .ok (.laload, 1) := by decide +kernel
theorem dL_law_1230 : decode cL_law 1230 = .ok (.iload 6, 2) := by decide +kernel
theorem dL_law_1232 : decode cL_law 1232 = .ok (.ifCond .eq 7, 3) := by decide +kernel
theorem dL_law_1235 : decode cL_law 1235 = .ok (.lconst 1, 1) := by decide +kernel
theorem dL_law_1236 : decode cL_law 1236 = .ok (.goto 4, 3) := by decide +kernel
theorem dL_law_1239 : decode cL_law 1239 = .ok (.lconst 0, 1) := by decide +kernel
theorem dL_law_1240 : decode cL_law 1240 = .ok (.lcmp, 1) := by decide +kernel
theorem dL_law_1241 : decode cL_law 1241 = .ok (.ifCond .eq 5, 3) := by decide +kernel
theorem dL_law_1244 : decode cL_law 1244 = .ok (.iconst 0, 1) := by decide +kernel
theorem dL_law_1245 : decode cL_law 1245 = .ok (.ireturn, 1) := by decide +kernel
theorem dL_law_1246 : decode cL_law 1246 = .ok (.goto 272, 3) := by decide +kernel
theorem dL_law_1249 : decode cL_law 1249 = .ok (.aload_n 1, 1) := by decide +kernel
theorem dL_law_1250 : decode cL_law 1250 = .ok (.aload_n 0, 1) := by decide +kernel
theorem dL_law_1251 : decode cL_law 1251 = .ok (.iload 4, 2) := by decide +kernel
theorem dL_law_1253 : decode cL_law 1253 = .ok (.iconst 1, 1) := by decide +kernel
theorem dL_law_1254 : decode cL_law 1254 = .ok (.iadd, 1) := by decide +kernel
theorem dL_law_1255 : decode cL_law 1255 = .ok (.iaload, 1) := by decide +kernel
theorem dL_law_1256 : decode cL_law 1256 = .ok (.aload_n 3, 1) := by decide +kernel
theorem dL_law_1257 : decode cL_law 1257 = .ok (.invokestatic 160, 3) := by decide +kernel
theorem dL_law_1260 : decode cL_law 1260 = .ok (.istore 5, 2) := by decide +kernel
theorem dL_law_1262 : decode cL_law 1262 = .ok (.aload_n 2, 1) := by decide +kernel
theorem dL_law_1263 : decode cL_law 1263 = .ok (.aload_n 0, 1) := by decide +kernel
theorem dL_law_1264 : decode cL_law 1264 = .ok (.iload 4, 2) := by decide +kernel
theorem dL_law_1266 : decode cL_law 1266 = .ok (.iconst 1, 1) := by decide +kernel
theorem dL_law_1267 : decode cL_law 1267 = .ok (.iadd, 1) := by decide +kernel
theorem dL_law_1268 : decode cL_law 1268 = .ok (.iaload, 1) := by decide +kernel
theorem dL_law_1269 : decode cL_law 1269 = .ok (.invokevirtual 162, 3) := by decide +kernel
theorem dL_law_1272 : decode cL_law 1272 = .ok (.istore 6, 2) := by decide +kernel
theorem dL_law_1274 : decode cL_law 1274 = .ok (.aload_n 2, 1) := by decide +kernel
theorem dL_law_1275 : decode cL_law 1275 = .ok (.invokevirtual 95, 3) := by decide +kernel
theorem dL_law_1278 : decode cL_law 1278 = .ok (.iload 5, 2) := by decide +kernel
theorem dL_law_1280 : decode cL_law 1280 = .ok (.if_icmp .eq 5, 3) := by decide +kernel
theorem dL_law_1283 : decode cL_law 1283 = .ok (.iconst 0, 1) := by decide +kernel
theorem dL_law_1284 : decode cL_law 1284 = .ok (.ireturn, 1) := by decide +kernel
theorem dL_law_1285 : decode cL_law 1285 = .ok (.iload 5, 2) := by decide +kernel
theorem dL_law_1287 : decode cL_law 1287 = .ok (.ifCond .ne 15, 3) := by decide +kernel
theorem dL_law_1290 : decode cL_law 1290 = .ok (.aload_n 3, 1) := by decide +kernel
theorem dL_law_1291 : decode cL_law 1291 = .ok (.iconst 0, 1) := by decide +kernel
theorem dL_law_1292 : decode cL_law 1292 = .ok (.laload, 1) := by decide +kernel
theorem dL_law_1293 : decode cL_law 1293 = .ok (.iload 6, 2) := by decide +kernel
theorem dL_law_1295 : decode cL_law 1295 = .ok (.i2l, 1) := by decide +kernel
theorem dL_law_1296 : decode cL_law 1296 = .ok (.lcmp, 1) := by decide +kernel
theorem dL_law_1297 : decode cL_law 1297 = .ok (.ifCond .eq 5, 3) := by decide +kernel
theorem dL_law_1300 : decode cL_law 1300 = .ok (.iconst 0, 1) := by decide +kernel
theorem dL_law_1301 : decode cL_law 1301 = .ok (.ireturn, 1) := by decide +kernel
theorem dL_law_1302 : decode cL_law 1302 = .ok (.goto 216, 3) := by decide +kernel
theorem dL_law_1305 : decode cL_law 1305 = .ok (.aload_n 1, 1) := by decide +kernel
theorem dL_law_1306 : decode cL_law 1306 = .ok (.aload_n 0, 1) := by decide +kernel
theorem dL_law_1307 : decode cL_law 1307 = .ok (.iload 4, 2) := by decide +kernel
theorem dL_law_1309 : decode cL_law 1309 = .ok (.iconst 1, 1) := by decide +kernel
theorem dL_law_1310 : decode cL_law 1310 = .ok (.iadd, 1) := by decide +kernel
theorem dL_law_1311 : decode cL_law 1311 = .ok (.iaload, 1) := by decide +kernel
theorem dL_law_1312 : decode cL_law 1312 = .ok (.aload_n 0, 1) := by decide +kernel
theorem dL_law_1313 : decode cL_law 1313 = .ok (.iload 4, 2) := by decide +kernel
theorem dL_law_1315 : decode cL_law 1315 = .ok (.iconst 2, 1) := by decide +kernel
theorem dL_law_1316 : decode cL_law 1316 = .ok (.iadd, 1) := by decide +kernel
theorem dL_law_1317 : decode cL_law 1317 = .ok (.iaload, 1) := by decide +kernel
theorem dL_law_1318 : decode cL_law 1318 = .ok (.aload_n 3, 1) := by decide +kernel
theorem dL_law_1319 : decode cL_law 1319 = .ok (.invokestatic 163, 3) := by decide +kernel
theorem dL_law_1322 : decode cL_law 1322 = .ok (.istore 5, 2) := by decide +kernel
theorem dL_law_1324 : decode cL_law 1324 = .ok (.aload_n 2, 1) := by decide +kernel
theorem dL_law_1325 : decode cL_law 1325 = .ok (.aload_n 0, 1) := by decide +kernel
theorem dL_law_1326 : decode cL_law 1326 = .ok (.iload 4, 2) := by decide +kernel
theorem dL_law_1328 : decode cL_law 1328 = .ok (.iconst 1, 1) := by decide +kernel
theorem dL_law_1329 : decode cL_law 1329 = .ok (.iadd, 1) := by decide +kernel
theorem dL_law_1330 : decode cL_law 1330 = .ok (.iaload, 1) := by decide +kernel
theorem dL_law_1331 : decode cL_law 1331 = .ok (.aload_n 0, 1) := by decide +kernel
theorem dL_law_1332 : decode cL_law 1332 = .ok (.iload 4, 2) := by decide +kernel
theorem dL_law_1334 : decode cL_law 1334 = .ok (.iconst 2, 1) := by decide +kernel
theorem dL_law_1335 : decode cL_law 1335 = .ok (.iadd, 1) := by decide +kernel
theorem dL_law_1336 : decode cL_law 1336 = .ok (.iaload, 1) := by decide +kernel
theorem dL_law_1337 : decode cL_law 1337 = .ok (.invokevirtual 165, 3) := by decide +kernel
theorem dL_law_1340 : decode cL_law 1340 = .ok (.istore 6, 2) := by decide +kernel
theorem dL_law_1342 : decode cL_law 1342 = .ok (.aload_n 2, 1) := by decide +kernel
theorem dL_law_1343 : decode cL_law 1343 = .ok (.invokevirtual 95, 3) := by decide +kernel
theorem dL_law_1346 : decode cL_law 1346 = .ok (.iload 5, 2) := by decide +kernel
theorem dL_law_1348 : decode cL_law 1348 = .ok (.if_icmp .eq 5, 3) := by decide +kernel
theorem dL_law_1351 : decode cL_law 1351 = .ok (.iconst 0, 1) := by decide +kernel
theorem dL_law_1352 : decode cL_law 1352 = .ok (.ireturn, 1) := by decide +kernel
theorem dL_law_1353 : decode cL_law 1353 = .ok (.iload 5, 2) := by decide +kernel
theorem dL_law_1355 : decode cL_law 1355 = .ok (.ifCond .ne 15, 3) := by decide +kernel
theorem dL_law_1358 : decode cL_law 1358 = .ok (.aload_n 3, 1) := by decide +kernel
theorem dL_law_1359 : decode cL_law 1359 = .ok (.iconst 0, 1) := by decide +kernel
theorem dL_law_1360 : decode cL_law 1360 = .ok (.laload, 1) := by decide +kernel
theorem dL_law_1361 : decode cL_law 1361 = .ok (.iload 6, 2) := by decide +kernel
theorem dL_law_1363 : decode cL_law 1363 = .ok (.i2l, 1) := by decide +kernel
theorem dL_law_1364 : decode cL_law 1364 = .ok (.lcmp, 1) := by decide +kernel
theorem dL_law_1365 : decode cL_law 1365 = .ok (.ifCond .eq 5, 3) := by decide +kernel
theorem dL_law_1368 : decode cL_law 1368 = .ok (.iconst 0, 1) := by decide +kernel
theorem dL_law_1369 : decode cL_law 1369 = .ok (.ireturn, 1) := by decide +kernel
theorem dL_law_1370 : decode cL_law 1370 = .ok (.goto 148, 3) := by decide +kernel
theorem dL_law_1373 : decode cL_law 1373 = .ok (.aload_n 1, 1) := by decide +kernel
theorem dL_law_1374 : decode cL_law 1374 = .ok (.aload_n 0, 1) := by decide +kernel
theorem dL_law_1375 : decode cL_law 1375 = .ok (.iload 4, 2) := by decide +kernel
theorem dL_law_1377 : decode cL_law 1377 = .ok (.iconst 1, 1) := by decide +kernel
theorem dL_law_1378 : decode cL_law 1378 = .ok (.iadd, 1) := by decide +kernel
theorem dL_law_1379 : decode cL_law 1379 = .ok (.iaload, 1) := by decide +kernel
theorem dL_law_1380 : decode cL_law 1380 = .ok (.aload_n 0, 1) := by decide +kernel
theorem dL_law_1381 : decode cL_law 1381 = .ok (.iload 4, 2) := by decide +kernel
theorem dL_law_1383 : decode cL_law 1383 = .ok (.iconst 2, 1) := by decide +kernel
theorem dL_law_1384 : decode cL_law 1384 = .ok (.iadd, 1) := by decide +kernel
theorem dL_law_1385 : decode cL_law 1385 = .ok (.iaload, 1) := by decide +kernel
theorem dL_law_1386 : decode cL_law 1386 = .ok (.aload_n 3, 1) := by decide +kernel
theorem dL_law_1387 : decode cL_law 1387 = .ok (.invokestatic 166, 3) := by decide +kernel
theorem dL_law_1390 : decode cL_law 1390 = .ok (.istore 5, 2) := by decide +kernel
theorem dL_law_1392 : decode cL_law 1392 = .ok (.aload_n 2, 1) := by decide +kernel
theorem dL_law_1393 : decode cL_law 1393 = .ok (.aload_n 0, 1) := by decide +kernel
theorem dL_law_1394 : decode cL_law 1394 = .ok (.iload 4, 2) := by decide +kernel
theorem dL_law_1396 : decode cL_law 1396 = .ok (.iconst 1, 1) := by decide +kernel
theorem dL_law_1397 : decode cL_law 1397 = .ok (.iadd, 1) := by decide +kernel
theorem dL_law_1398 : decode cL_law 1398 = .ok (.iaload, 1) := by decide +kernel
theorem dL_law_1399 : decode cL_law 1399 = .ok (.aload_n 0, 1) := by decide +kernel
theorem dL_law_1400 : decode cL_law 1400 = .ok (.iload 4, 2) := by decide +kernel
theorem dL_law_1402 : decode cL_law 1402 = .ok (.iconst 2, 1) := by decide +kernel
theorem dL_law_1403 : decode cL_law 1403 = .ok (.iadd, 1) := by decide +kernel
theorem dL_law_1404 : decode cL_law 1404 = .ok (.iaload, 1) := by decide +kernel
theorem dL_law_1405 : decode cL_law 1405 = .ok (.invokevirtual 168, 3) := by decide +kernel
theorem dL_law_1408 : decode cL_law 1408 = .ok (.istore 6, 2) := by decide +kernel
theorem dL_law_1410 : decode cL_law 1410 = .ok (.aload_n 2, 1) := by decide +kernel
theorem dL_law_1411 : decode cL_law 1411 = .ok (.invokevirtual 95, 3) := by decide +kernel
theorem dL_law_1414 : decode cL_law 1414 = .ok (.iload 5, 2) := by decide +kernel
theorem dL_law_1416 : decode cL_law 1416 = .ok (.if_icmp .eq 5, 3) := by decide +kernel
theorem dL_law_1419 : decode cL_law 1419 = .ok (.iconst 0, 1) := by decide +kernel
theorem dL_law_1420 : decode cL_law 1420 = .ok (.ireturn, 1) := by decide +kernel
theorem dL_law_1421 : decode cL_law 1421 = .ok (.iload 5, 2) := by decide +kernel
theorem dL_law_1423 : decode cL_law 1423 = .ok (.ifCond .ne 15, 3) := by decide +kernel
theorem dL_law_1426 : decode cL_law 1426 = .ok (.aload_n 3, 1) := by decide +kernel
theorem dL_law_1427 : decode cL_law 1427 = .ok (.iconst 0, 1) := by decide +kernel
theorem dL_law_1428 : decode cL_law 1428 = .ok (.laload, 1) := by decide +kernel
theorem dL_law_1429 : decode cL_law 1429 = .ok (.iload 6, 2) := by decide +kernel
theorem dL_law_1431 : decode cL_law 1431 = .ok (.i2l, 1) := by decide +kernel
theorem dL_law_1432 : decode cL_law 1432 = .ok (.lcmp, 1) := by decide +kernel
theorem dL_law_1433 : decode cL_law 1433 = .ok (.ifCond .eq 5, 3) := by decide +kernel
theorem dL_law_1436 : decode cL_law 1436 = .ok (.iconst 0, 1) := by decide +kernel
theorem dL_law_1437 : decode cL_law 1437 = .ok (.ireturn, 1) := by decide +kernel
theorem dL_law_1438 : decode cL_law 1438 = .ok (.goto 80, 3) := by decide +kernel
theorem dL_law_1441 : decode cL_law 1441 = .ok (.aload_n 1, 1) := by decide +kernel
theorem dL_law_1442 : decode cL_law 1442 = .ok (.aload_n 0, 1) := by decide +kernel
theorem dL_law_1443 : decode cL_law 1443 = .ok (.iload 4, 2) := by decide +kernel
theorem dL_law_1445 : decode cL_law 1445 = .ok (.iconst 1, 1) := by decide +kernel
theorem dL_law_1446 : decode cL_law 1446 = .ok (.iadd, 1) := by decide +kernel
theorem dL_law_1447 : decode cL_law 1447 = .ok (.iaload, 1) := by decide +kernel
theorem dL_law_1448 : decode cL_law 1448 = .ok (.aload_n 3, 1) := by decide +kernel
theorem dL_law_1449 : decode cL_law 1449 = .ok (.invokestatic 169, 3) := by decide +kernel
theorem dL_law_1452 : decode cL_law 1452 = .ok (.istore 5, 2) := by decide +kernel
theorem dL_law_1454 : decode cL_law 1454 = .ok (.aload_n 2, 1) := by decide +kernel
theorem dL_law_1455 : decode cL_law 1455 = .ok (.aload_n 0, 1) := by decide +kernel
theorem dL_law_1456 : decode cL_law 1456 = .ok (.iload 4, 2) := by decide +kernel
theorem dL_law_1458 : decode cL_law 1458 = .ok (.iconst 1, 1) := by decide +kernel
theorem dL_law_1459 : decode cL_law 1459 = .ok (.iadd, 1) := by decide +kernel
theorem dL_law_1460 : decode cL_law 1460 = .ok (.iaload, 1) := by decide +kernel
theorem dL_law_1461 : decode cL_law 1461 = .ok (.invokevirtual 171, 3) := by decide +kernel
theorem dL_law_1464 : decode cL_law 1464 = .ok (.istore 6, 2) := by decide +kernel
theorem dL_law_1466 : decode cL_law 1466 = .ok (.aload_n 2, 1) := by decide +kernel
theorem dL_law_1467 : decode cL_law 1467 = .ok (.invokevirtual 95, 3) := by decide +kernel
theorem dL_law_1470 : decode cL_law 1470 = .ok (.iload 5, 2) := by decide +kernel
theorem dL_law_1472 : decode cL_law 1472 = .ok (.if_icmp .eq 5, 3) := by decide +kernel
theorem dL_law_1475 : decode cL_law 1475 = .ok (.iconst 0, 1) := by decide +kernel
theorem dL_law_1476 : decode cL_law 1476 = .ok (.ireturn, 1) := by decide +kernel
theorem dL_law_1477 : decode cL_law 1477 = .ok (.iload 5, 2) := by decide +kernel
theorem dL_law_1479 : decode cL_law 1479 = .ok (.ifCond .ne 22, 3) := by decide +kernel
theorem dL_law_1482 : decode cL_law 1482 = .ok (.aload_n 3, 1) := by decide +kernel
theorem dL_law_1483 : decode cL_law 1483 = .ok (.iconst 0, 1) := by decide +kernel
theorem dL_law_1484 : decode cL_law 1484 = .ok (.laload, 1) := by decide +kernel
theorem dL_law_1485 : decode cL_law 1485 = .ok (.iload 6, 2) := by decide +kernel
theorem dL_law_1487 : decode cL_law 1487 = .ok (.ifCond .eq 7, 3) := by decide +kernel
theorem dL_law_1490 : decode cL_law 1490 = .ok (.lconst 1, 1) := by decide +kernel
theorem dL_law_1491 : decode cL_law 1491 = .ok (.goto 4, 3) := by decide +kernel
theorem dL_law_1494 : decode cL_law 1494 = .ok (.lconst 0, 1) := by decide +kernel
theorem dL_law_1495 : decode cL_law 1495 = .ok (.lcmp, 1) := by decide +kernel
theorem dL_law_1496 : decode cL_law 1496 = .ok (.ifCond .eq 5, 3) := by decide +kernel
theorem dL_law_1499 : decode cL_law 1499 = .ok (.iconst 0, 1) := by decide +kernel
theorem dL_law_1500 : decode cL_law 1500 = .ok (.ireturn, 1) := by decide +kernel
theorem dL_law_1501 : decode cL_law 1501 = .ok (.goto 17, 3) := by decide +kernel
theorem dL_law_1504 : decode cL_law 1504 = .ok (.aload_n 1, 1) := by decide +kernel
theorem dL_law_1505 : decode cL_law 1505 = .ok (.invokevirtual 172, 3) := by decide +kernel
theorem dL_law_1508 : decode cL_law 1508 = .ok (.aload_n 2, 1) := by decide +kernel
theorem dL_law_1509 : decode cL_law 1509 = .ok (.invokevirtual 176, 3) := by decide +kernel
theorem dL_law_1512 : decode cL_law 1512 = .ok (.lcmp, 1) := by decide +kernel
theorem dL_law_1513 : decode cL_law 1513 = .ok (.ifCond .eq 5, 3) := by decide +kernel
theorem dL_law_1516 : decode cL_law 1516 = .ok (.iconst 0, 1) := by decide +kernel
theorem dL_law_1517 : decode cL_law 1517 = .ok (.ireturn, 1) := by decide +kernel
theorem dL_law_1518 : decode cL_law 1518 = .ok (.iinc 4 5, 3) := by decide +kernel
theorem dL_law_1521 : decode cL_law 1521 = .ok (.goto (-1498), 3) := by decide +kernel
theorem dL_law_1524 : decode cL_law 1524 = .ok (.iconst 1, 1) := by decide +kernel
theorem dL_law_1525 : decode cL_law 1525 = .ok (.ireturn, 1) := by decide +kernel
theorem dX12_init_0 : decode cX12_init 0 = .ok (.aload_n 0, 1) := by decide +kernel
theorem dX12_init_1 : decode cX12_init 1 = .ok (.invokespecial 3, 3) := by decide +kernel
theorem dX12_init_4 : decode cX12_init 4 = .ok (.aload_n 0, 1) := by decide +kernel
theorem dX12_init_5 : decode cX12_init 5 = .ok (.iconst 3, 1) := by decide +kernel
theorem dX12_init_6 : decode cX12_init 6 = .ok (.putfield 9, 3) := by decide +kernel
theorem dX12_init_9 : decode cX12_init 9 = .ok (.aload_n 0, 1) := by decide +kernel
theorem dX12_init_10 : decode cX12_init 10 = .ok (.bipush 20, 2) := by decide +kernel
theorem dX12_init_12 : decode cX12_init 12 = .ok (.newarray .int, 2) := by decide +kernel
theorem dX12_init_14 : decode cX12_init 14 = .ok (.putfield 13, 3) := by decide +kernel
theorem dX12_init_17 : decode cX12_init 17 = .ok (.aload_n 0, 1) := by decide +kernel
theorem dX12_init_18 : decode cX12_init 18 = .ok (.bipush 20, 2) := by decide +kernel
theorem dX12_init_20 : decode cX12_init 20 = .ok (.newarray .boolean, 2) := by decide +kernel
theorem dX12_init_22 : decode cX12_init 22 = .ok (.putfield 17, 3) := by decide +kernel
theorem dX12_init_25 : decode cX12_init 25 = .ok (.aload_n 0, 1) := by decide +kernel
theorem dX12_init_26 : decode cX12_init 26 = .ok (.bipush 30, 2) := by decide +kernel
theorem dX12_init_28 : decode cX12_init 28 = .ok (.newarray .int, 2) := by decide +kernel
theorem dX12_init_30 : decode cX12_init 30 = .ok (.putfield 21, 3) := by decide +kernel
theorem dX12_init_33 : decode cX12_init 33 = .ok (.aload_n 0, 1) := by decide +kernel
theorem dX12_init_34 : decode cX12_init 34 = .ok (.bipush 30, 2) := by decide +kernel
theorem dX12_init_36 : decode cX12_init 36 = .ok (.newarray .int, 2) := by decide +kernel
theorem dX12_init_38 : decode cX12_init 38 = .ok (.putfield 24, 3) := by decide +kernel
theorem dX12_init_41 : decode cX12_init 41 = .ok (.aload_n 0, 1) := by decide +kernel
theorem dX12_init_42 : decode cX12_init 42 = .ok (.bipush 30, 2) := by decide +kernel
theorem dX12_init_44 : decode cX12_init 44 = .ok (.newarray .int, 2) := by decide +kernel
theorem dX12_init_46 : decode cX12_init 46 = .ok (.putfield 27, 3) := by decide +kernel
theorem dX12_init_49 : decode cX12_init 49 = .ok (.aload_n 0, 1) := by decide +kernel
theorem dX12_init_50 : decode cX12_init 50 = .ok (.bipush 30, 2) := by decide +kernel
theorem dX12_init_52 : decode cX12_init 52 = .ok (.newarray .int, 2) := by decide +kernel
theorem dX12_init_54 : decode cX12_init 54 = .ok (.putfield 30, 3) := by decide +kernel
theorem dX12_init_57 : decode cX12_init 57 = .ok (.aload_n 0, 1) := by decide +kernel
theorem dX12_init_58 : decode cX12_init 58 = .ok (.bipush 30, 2) := by decide +kernel
theorem dX12_init_60 : decode cX12_init 60 = .ok (.newarray .int, 2) := by decide +kernel
theorem dX12_init_62 : decode cX12_init 62 = .ok (.putfield 33, 3) := by decide +kernel
theorem dX12_init_65 : decode cX12_init 65 = .ok (.aload_n 0, 1) := by decide +kernel
theorem dX12_init_66 : decode cX12_init 66 = .ok (.bipush 30, 2) := by decide +kernel
theorem dX12_init_68 : decode cX12_init 68 = .ok (.newarray .int, 2) := by decide +kernel
theorem dX12_init_70 : decode cX12_init 70 = .ok (.putfield 36, 3) := by decide +kernel
theorem dX12_init_73 : decode cX12_init 73 = .ok (.aload_n 0, 1) := by decide +kernel
theorem dX12_init_74 : decode cX12_init 74 = .ok (.sipush 180, 3) := by decide +kernel
theorem dX12_init_77 : decode cX12_init 77 = .ok (.newarray .int, 2) := by decide +kernel
theorem dX12_init_79 : decode cX12_init 79 = .ok (.putfield 39, 3) := by decide +kernel
theorem dX12_init_82 : decode cX12_init 82 = .ok (.aload_n 0, 1) := by decide +kernel
theorem dX12_init_83 : decode cX12_init 83 = .ok (.bipush 6, 2) := by decide +kernel
theorem dX12_init_85 : decode cX12_init 85 = .ok (.newarray .int, 2) := by decide +kernel
theorem dX12_init_87 : decode cX12_init 87 = .ok (.putfield 42, 3) := by decide +kernel
theorem dX12_init_90 : decode cX12_init 90 = .ok (.aload_n 0, 1) := by decide +kernel
theorem dX12_init_91 : decode cX12_init 91 = .ok (.bipush 100, 2) := by decide +kernel
theorem dX12_init_93 : decode cX12_init 93 = .ok (.newarray .int, 2) := by decide +kernel
theorem dX12_init_95 : decode cX12_init 95 = .ok (.putfield 45, 3) := by decide +kernel
theorem dX12_init_98 : decode cX12_init 98 = .ok (.aload_n 0, 1) := by decide +kernel
theorem dX12_init_99 : decode cX12_init 99 = .ok (.bipush 100, 2) := by decide +kernel
theorem dX12_init_101 : decode cX12_init 101 = .ok (.newarray .int, 2) := by decide +kernel
theorem dX12_init_103 : decode cX12_init 103 = .ok (.putfield 48, 3) := by decide +kernel
theorem dX12_init_106 : decode cX12_init 106 = .ok (.aload_n 0, 1) := by decide +kernel
theorem dX12_init_107 : decode cX12_init 107 = .ok (.bipush 10, 2) := by decide +kernel
theorem dX12_init_109 : decode cX12_init 109 = .ok (.newarray .int, 2) := by decide +kernel
theorem dX12_init_111 : decode cX12_init 111 = .ok (.putfield 51, 3) := by decide +kernel
theorem dX12_init_114 : decode cX12_init 114 = .ok (.aload_n 0, 1) := by decide +kernel
theorem dX12_init_115 : decode cX12_init 115 = .ok (.bipush 10, 2) := by decide +kernel
theorem dX12_init_117 : decode cX12_init 117 = .ok (.newarray .int, 2) := by decide +kernel
theorem dX12_init_119 : decode cX12_init 119 = .ok (.putfield 54, 3) := by decide +kernel
theorem dX12_init_122 : decode cX12_init 122 = .ok (.aload_n 0, 1) := by decide +kernel
theorem dX12_init_123 : decode cX12_init 123 = .ok (.bipush 10, 2) := by decide +kernel
theorem dX12_init_125 : decode cX12_init 125 = .ok (.newarray .int, 2) := by decide +kernel
theorem dX12_init_127 : decode cX12_init 127 = .ok (.putfield 57, 3) := by decide +kernel
theorem dX12_init_130 : decode cX12_init 130 = .ok (.aload_n 0, 1) := by decide +kernel
theorem dX12_init_131 : decode cX12_init 131 = .ok (.bipush 10, 2) := by decide +kernel
theorem dX12_init_133 : decode cX12_init 133 = .ok (.newarray .int, 2) := by decide +kernel
theorem dX12_init_135 : decode cX12_init 135 = .ok (.putfield 60, 3) := by decide +kernel
theorem dX12_init_138 : decode cX12_init 138 = .ok (.aload_n 0, 1) := by decide +kernel
theorem dX12_init_139 : decode cX12_init 139 = .ok (.bipush 100, 2) := by decide +kernel
theorem dX12_init_141 : decode cX12_init 141 = .ok (.newarray .boolean, 2) := by decide +kernel
theorem dX12_init_143 : decode cX12_init 143 = .ok (.putfield 63, 3) := by decide +kernel
theorem dX12_init_146 : decode cX12_init 146 = .ok (.aload_n 0, 1) := by decide +kernel
theorem dX12_init_147 : decode cX12_init 147 = .ok (.sipush 2600, 3) := by decide +kernel
theorem dX12_init_150 : decode cX12_init 150 = .ok (.newarray .int, 2) := by decide +kernel
theorem dX12_init_152 : decode cX12_init 152 = .ok (.putfield 66, 3) := by decide +kernel
theorem dX12_init_155 : decode cX12_init 155 = .ok (.aload_n 0, 1) := by decide +kernel
theorem dX12_init_156 : decode cX12_init 156 = .ok (.bipush 100, 2) := by decide +kernel
theorem dX12_init_158 : decode cX12_init 158 = .ok (.newarray .boolean, 2) := by decide +kernel
theorem dX12_init_160 : decode cX12_init 160 = .ok (.putfield 69, 3) := by decide +kernel
theorem dX12_init_163 : decode cX12_init 163 = .ok (.aload_n 0, 1) := by decide +kernel
theorem dX12_init_164 : decode cX12_init 164 = .ok (.sipush 2600, 3) := by decide +kernel
theorem dX12_init_167 : decode cX12_init 167 = .ok (.newarray .int, 2) := by decide +kernel
theorem dX12_init_169 : decode cX12_init 169 = .ok (.putfield 72, 3) := by decide +kernel
theorem dX12_init_172 : decode cX12_init 172 = .ok (.aload_n 0, 1) := by decide +kernel
theorem dX12_init_173 : decode cX12_init 173 = .ok (.bipush 24, 2) := by decide +kernel
theorem dX12_init_175 : decode cX12_init 175 = .ok (.newarray .int, 2) := by decide +kernel
theorem dX12_init_177 : decode cX12_init 177 = .ok (.putfield 75, 3) := by decide +kernel
theorem dX12_init_180 : decode cX12_init 180 = .ok (.aload_n 0, 1) := by decide +kernel
theorem dX12_init_181 : decode cX12_init 181 = .ok (.iconst (-1), 1) := by decide +kernel
theorem dX12_init_182 : decode cX12_init 182 = .ok (.putfield 78, 3) := by decide +kernel
theorem dX12_init_185 : decode cX12_init 185 = .ok (.aload_n 0, 1) := by decide +kernel
theorem dX12_init_186 : decode cX12_init 186 = .ok (.bipush 26, 2) := by decide +kernel
theorem dX12_init_188 : decode cX12_init 188 = .ok (.newarray .int, 2) := by decide +kernel
theorem dX12_init_190 : decode cX12_init 190 = .ok (.putfield 81, 3) := by decide +kernel
theorem dX12_init_193 : decode cX12_init 193 = .ok (.aload_n 0, 1) := by decide +kernel
theorem dX12_init_194 : decode cX12_init 194 = .ok (.bipush 26, 2) := by decide +kernel
theorem dX12_init_196 : decode cX12_init 196 = .ok (.newarray .int, 2) := by decide +kernel
theorem dX12_init_198 : decode cX12_init 198 = .ok (.putfield 84, 3) := by decide +kernel
theorem dX12_init_201 : decode cX12_init 201 = .ok (.aload_n 0, 1) := by decide +kernel
theorem dX12_init_202 : decode cX12_init 202 = .ok (.bipush 100, 2) := by decide +kernel
theorem dX12_init_204 : decode cX12_init 204 = .ok (.newarray .boolean, 2) := by decide +kernel
theorem dX12_init_206 : decode cX12_init 206 = .ok (.putfield 87, 3) := by decide +kernel
theorem dX12_init_209 : decode cX12_init 209 = .ok (.return_, 1) := by decide +kernel
theorem dX12_thrown_0 : decode cX12_thrown 0 = .ok (.aload_n 0, 1) := by decide +kernel
theorem dX12_thrown_1 : decode cX12_thrown 1 = .ok (.getfield 90, 3) := by decide +kernel
theorem dX12_thrown_4 : decode cX12_thrown 4 = .ok (.ireturn, 1) := by decide +kernel
theorem dX12_no_0 : decode cX12_no 0 = .ok (.aload_n 0, 1) := by decide +kernel
theorem dX12_no_1 : decode cX12_no 1 = .ok (.iload_n 1, 1) := by decide +kernel
theorem dX12_no_2 : decode cX12_no 2 = .ok (.putfield 90, 3) := by decide +kernel
theorem dX12_no_5 : decode cX12_no 5 = .ok (.iconst 0, 1) := by decide +kernel
theorem dX12_no_6 : decode cX12_no 6 = .ok (.ireturn, 1) := by decide +kernel
theorem dX12_isClass_0 : decode cX12_isClass 0 = .ok (.iload_n 1, 1) := by decide +kernel
theorem dX12_isClass_1 : decode cX12_isClass 1 = .ok (.iconst 2, 1) := by decide +kernel
theorem dX12_isClass_2 : decode cX12_isClass 2 = .ok (.if_icmp .lt 24, 3) := by decide +kernel
theorem dX12_isClass_5 : decode cX12_isClass 5 = .ok (.iload_n 1, 1) := by decide +kernel
theorem dX12_isClass_6 : decode cX12_isClass 6 = .ok (.aload_n 0, 1) := by decide +kernel
theorem dX12_isClass_7 : decode cX12_isClass 7 = .ok (.getfield 9, 3) := by decide +kernel
theorem dX12_isClass_10 : decode cX12_isClass 10 = .ok (.if_icmp .ge 16, 3) := by decide +kernel
theorem dX12_isClass_13 : decode cX12_isClass 13 = .ok (.aload_n 0, 1) := by decide +kernel
theorem dX12_isClass_14 : decode cX12_isClass 14 = .ok (.getfield 17, 3) := by decide +kernel
theorem dX12_isClass_17 : decode cX12_isClass 17 = .ok (.iload_n 1, 1) := by decide +kernel
theorem dX12_isClass_18 : decode cX12_isClass 18 = .ok (.baload, 1) := by decide +kernel
theorem dX12_isClass_19 : decode cX12_isClass 19 = .ok (.ifCond .ne 7, 3) := by decide +kernel
theorem dX12_isClass_22 : decode cX12_isClass 22 = .ok (.iconst 1, 1) := by decide +kernel
theorem dX12_isClass_23 : decode cX12_isClass 23 = .ok (.goto 4, 3) := by decide +kernel
theorem dX12_isClass_26 : decode cX12_isClass 26 = .ok (.iconst 0, 1) := by decide +kernel
theorem dX12_isClass_27 : decode cX12_isClass 27 = .ok (.ireturn, 1) := by decide +kernel
theorem dX12_isType_0 : decode cX12_isType 0 = .ok (.iload_n 1, 1) := by decide +kernel
theorem dX12_isType_1 : decode cX12_isType 1 = .ok (.ifCond .lt 26, 3) := by decide +kernel
theorem dX12_isType_4 : decode cX12_isType 4 = .ok (.iload_n 1, 1) := by decide +kernel
theorem dX12_isType_5 : decode cX12_isType 5 = .ok (.bipush 8, 2) := by decide +kernel
theorem dX12_isType_7 : decode cX12_isType 7 = .ok (.idiv, 1) := by decide +kernel
theorem dX12_isType_8 : decode cX12_isType 8 = .ok (.aload_n 0, 1) := by decide +kernel
theorem dX12_isType_9 : decode cX12_isType 9 = .ok (.getfield 9, 3) := by decide +kernel
theorem dX12_isType_12 : decode cX12_isType 12 = .ok (.if_icmp .ge 15, 3) := by decide +kernel
theorem dX12_isType_15 : decode cX12_isType 15 = .ok (.iload_n 1, 1) := by decide +kernel
theorem dX12_isType_16 : decode cX12_isType 16 = .ok (.bipush 8, 2) := by decide +kernel
theorem dX12_isType_18 : decode cX12_isType 18 = .ok (.irem, 1) := by decide +kernel
theorem dX12_isType_19 : decode cX12_isType 19 = .ok (.iconst 4, 1) := by decide +kernel
theorem dX12_isType_20 : decode cX12_isType 20 = .ok (.if_icmp .gt 7, 3) := by decide +kernel
theorem dX12_isType_23 : decode cX12_isType 23 = .ok (.iconst 1, 1) := by decide +kernel
theorem dX12_isType_24 : decode cX12_isType 24 = .ok (.goto 4, 3) := by decide +kernel
theorem dX12_isType_27 : decode cX12_isType 27 = .ok (.iconst 0, 1) := by decide +kernel
theorem dX12_isType_28 : decode cX12_isType 28 = .ok (.ireturn, 1) := by decide +kernel
theorem dX12_isReferenceType_0 : decode cX12_isReferenceType 0 = .ok (.aload_n 0, 1) := by decide +kernel
theorem dX12_isReferenceType_1 : decode cX12_isReferenceType 1 = .ok (.iload_n 1, 1) := by decide +kernel
theorem dX12_isReferenceType_2 : decode cX12_isReferenceType 2 = .ok (.invokevirtual 93, 3) := by decide +kernel
theorem dX12_isReferenceType_5 : decode cX12_isReferenceType 5 = .ok (.ifCond .eq 17, 3) := by decide +kernel
theorem dX12_isReferenceType_8 : decode cX12_isReferenceType 8 = .ok (.iload_n 1, 1) := by decide +kernel
theorem dX12_isReferenceType_9 : decode cX12_isReferenceType 9 = .ok (.ifCond .eq 13, 3) := by decide +kernel
theorem dX12_isReferenceType_12 : decode cX12_isReferenceType 12 = .ok (.iload_n 1, 1) := by decide +kernel
theorem dX12_isReferenceType_13 : decode cX12_isReferenceType 13 = .ok (.bipush 8, 2) := by decide +kernel
theorem dX12_isReferenceType_15 : decode cX12_isReferenceType 15 = .ok (.if_icmp .eq 7, 3) := by decide +kernel
theorem dX12_isReferenceType_18 : decode cX12_isReferenceType 18 = .ok (.iconst 1, 1) := by decide +kernel
theorem dX12_isReferenceType_19 : decode cX12_isReferenceType 19 = .ok (.goto 4, 3) := by decide +kernel
theorem dX12_isReferenceType_22 : decode cX12_isReferenceType 22 = .ok (.iconst 0, 1) := by decide +kernel
theorem dX12_isReferenceType_23 : decode cX12_isReferenceType 23 = .ok (.ireturn, 1) := by decide +kernel
theorem dX12_isArray_0 : decode cX12_isArray 0 = .ok (.aload_n 0, 1) := by decide +kernel
theorem dX12_isArray_1 : decode cX12_isArray 1 = .ok (.iload_n 1, 1) := by decide +kernel
theorem dX12_isArray_2 : decode cX12_isArray 2 = .ok (.invokevirtual 93, 3) := by decide +kernel
theorem dX12_isArray_5 : decode cX12_isArray 5 = .ok (.ifCond .eq 14, 3) := by decide +kernel
theorem dX12_isArray_8 : decode cX12_isArray 8 = .ok (.iload_n 1, 1) := by decide +kernel
theorem dX12_isArray_9 : decode cX12_isArray 9 = .ok (.bipush 8, 2) := by decide +kernel
theorem dX12_isArray_11 : decode cX12_isArray 11 = .ok (.irem, 1) := by decide +kernel
theorem dX12_isArray_12 : decode cX12_isArray 12 = .ok (.ifCond .le 7, 3) := by decide +kernel
theorem dX12_isArray_15 : decode cX12_isArray 15 = .ok (.iconst 1, 1) := by decide +kernel
theorem dX12_isArray_16 : decode cX12_isArray 16 = .ok (.goto 4, 3) := by decide +kernel
theorem dX12_isArray_19 : decode cX12_isArray 19 = .ok (.iconst 0, 1) := by decide +kernel
theorem dX12_isArray_20 : decode cX12_isArray 20 = .ok (.ireturn, 1) := by decide +kernel
theorem dX12_isRow_0 : decode cX12_isRow 0 = .ok (.aload_n 0, 1) := by decide +kernel
theorem dX12_isRow_1 : decode cX12_isRow 1 = .ok (.iload_n 1, 1) := by decide +kernel
theorem dX12_isRow_2 : decode cX12_isRow 2 = .ok (.invokevirtual 97, 3) := by decide +kernel
theorem dX12_isRow_5 : decode cX12_isRow 5 = .ok (.ifCond .eq 17, 3) := by decide +kernel
theorem dX12_isRow_8 : decode cX12_isRow 8 = .ok (.aload_n 0, 1) := by decide +kernel
theorem dX12_isRow_9 : decode cX12_isRow 9 = .ok (.iload_n 1, 1) := by decide +kernel
theorem dX12_isRow_10 : decode cX12_isRow 10 = .ok (.iconst 1, 1) := by decide +kernel
theorem dX12_isRow_11 : decode cX12_isRow 11 = .ok (.isub, 1) := by decide +kernel
theorem dX12_isRow_12 : decode cX12_isRow 12 = .ok (.invokevirtual 100, 3) := by decide +kernel
theorem dX12_isRow_15 : decode cX12_isRow 15 = .ok (.ifCond .eq 7, 3) := by decide +kernel
theorem dX12_isRow_18 : decode cX12_isRow 18 = .ok (.iconst 1, 1) := by decide +kernel
theorem dX12_isRow_19 : decode cX12_isRow 19 = .ok (.goto 4, 3) := by decide +kernel
theorem dX12_isRow_22 : decode cX12_isRow 22 = .ok (.iconst 0, 1) := by decide +kernel
theorem dX12_isRow_23 : decode cX12_isRow 23 = .ok (.ireturn, 1) := by decide +kernel
theorem dX12_isSlotValue_0 : decode cX12_isSlotValue 0 = .ok (.aload_n 0, 1) := by decide +kernel
theorem dX12_isSlotValue_1 : decode cX12_isSlotValue 1 = .ok (.iload_n 1, 1) := by decide +kernel
theorem dX12_isSlotValue_2 : decode cX12_isSlotValue 2 = .ok (.invokevirtual 93, 3) := by decide +kernel
theorem dX12_isSlotValue_5 : decode cX12_isSlotValue 5 = .ok (.ifCond .ne 26, 3) := by decide +kernel
theorem dX12_isSlotValue_8 : decode cX12_isSlotValue 8 = .ok (.iload_n 1, 1) := by decide +kernel
theorem dX12_isSlotValue_9 : decode cX12_isSlotValue 9 = .ok (.iconst (-1), 1) := by decide +kernel
theorem dX12_isSlotValue_10 : decode cX12_isSlotValue 10 = .ok (.if_icmp .gt 9, 3) := by decide +kernel
theorem dX12_isSlotValue_13 : decode cX12_isSlotValue 13 = .ok (.iload_n 1, 1) := by decide +kernel
theorem dX12_isSlotValue_14 : decode cX12_isSlotValue 14 = .ok (.bipush (-4), 2) := by decide +kernel
theorem dX12_isSlotValue_16 : decode cX12_isSlotValue 16 = .ok (.if_icmp .ge 15, 3) := by decide +kernel
theorem dX12_isSlotValue_19 : decode cX12_isSlotValue 19 = .ok (.iload_n 1, 1) := by decide +kernel
theorem dX12_isSlotValue_20 : decode cX12_isSlotValue 20 = .ok (.bipush (-10), 2) := by decide +kernel
theorem dX12_isSlotValue_22 : decode cX12_isSlotValue 22 = .ok (.if_icmp .gt 13, 3) := by decide +kernel
theorem dX12_isSlotValue_25 : decode cX12_isSlotValue 25 = .ok (.iload_n 1, 1) := by decide +kernel
theorem dX12_isSlotValue_26 : decode cX12_isSlotValue 26 = .ok (.bipush (-110), 2) := by decide +kernel
theorem dX12_isSlotValue_28 : decode cX12_isSlotValue 28 = .ok (.if_icmp .le 7, 3) := by decide +kernel
theorem dX12_isSlotValue_31 : decode cX12_isSlotValue 31 = .ok (.iconst 1, 1) := by decide +kernel
theorem dX12_isSlotValue_32 : decode cX12_isSlotValue 32 = .ok (.goto 4, 3) := by decide +kernel
theorem dX12_isSlotValue_35 : decode cX12_isSlotValue 35 = .ok (.iconst 0, 1) := by decide +kernel
theorem dX12_isSlotValue_36 : decode cX12_isSlotValue 36 = .ok (.ireturn, 1) := by decide +kernel
theorem dX12_isReference_0 : decode cX12_isReference 0 = .ok (.iload_n 1, 1) := by decide +kernel
theorem dX12_isReference_1 : decode cX12_isReference 1 = .ok (.iconst (-1), 1) := by decide +kernel
theorem dX12_isReference_2 : decode cX12_isReference 2 = .ok (.if_icmp .eq 11, 3) := by decide +kernel
theorem dX12_isReference_5 : decode cX12_isReference 5 = .ok (.aload_n 0, 1) := by decide +kernel
theorem dX12_isReference_6 : decode cX12_isReference 6 = .ok (.iload_n 1, 1) := by decide +kernel
theorem dX12_isReference_7 : decode cX12_isReference 7 = .ok (.invokevirtual 100, 3) := by decide +kernel
theorem dX12_isReference_10 : decode cX12_isReference 10 = .ok (.ifCond .eq 7, 3) := by decide +kernel
theorem dX12_isReference_13 : decode cX12_isReference 13 = .ok (.iconst 1, 1) := by decide +kernel
theorem dX12_isReference_14 : decode cX12_isReference 14 = .ok (.goto 4, 3) := by decide +kernel
theorem dX12_isReference_17 : decode cX12_isReference 17 = .ok (.iconst 0, 1) := by decide +kernel
theorem dX12_isReference_18 : decode cX12_isReference 18 = .ok (.ireturn, 1) := by decide +kernel
theorem dX12_isAnyReference_0 : decode cX12_isAnyReference 0 = .ok (.aload_n 0, 1) := by decide +kernel
theorem dX12_isAnyReference_1 : decode cX12_isAnyReference 1 = .ok (.iload_n 1, 1) := by decide +kernel
theorem dX12_isAnyReference_2 : decode cX12_isAnyReference 2 = .ok (.invokevirtual 103, 3) := by decide +kernel
theorem dX12_isAnyReference_5 : decode cX12_isAnyReference 5 = .ok (.ifCond .ne 15, 3) := by decide +kernel
theorem dX12_isAnyReference_8 : decode cX12_isAnyReference 8 = .ok (.iload_n 1, 1) := by decide +kernel
theorem dX12_isAnyReference_9 : decode cX12_isAnyReference 9 = .ok (.bipush (-4), 2) := by decide +kernel
theorem dX12_isAnyReference_11 : decode cX12_isAnyReference 11 = .ok (.if_icmp .eq 9, 3) := by decide +kernel
theorem dX12_isAnyReference_14 : decode cX12_isAnyReference 14 = .ok (.iload_n 1, 1) := by decide +kernel
theorem dX12_isAnyReference_15 : decode cX12_isAnyReference 15 = .ok (.bipush (-10), 2) := by decide +kernel
theorem dX12_isAnyReference_17 : decode cX12_isAnyReference 17 = .ok (.if_icmp .gt 7, 3) := by decide +kernel
theorem dX12_isAnyReference_20 : decode cX12_isAnyReference 20 = .ok (.iconst 1, 1) := by decide +kernel
theorem dX12_isAnyReference_21 : decode cX12_isAnyReference 21 = .ok (.goto 4, 3) := by decide +kernel
theorem dX12_isAnyReference_24 : decode cX12_isAnyReference 24 = .ok (.iconst 0, 1) := by decide +kernel
theorem dX12_isAnyReference_25 : decode cX12_isAnyReference 25 = .ok (.ireturn, 1) := by decide +kernel
theorem dX12_isAbove_0 : decode cX12_isAbove 0 = .ok (.iload_n 2, 1) := by decide +kernel
theorem dX12_isAbove_1 : decode cX12_isAbove 1 = .ok (.istore_n 3, 1) := by decide +kernel
theorem dX12_isAbove_2 : decode cX12_isAbove 2 = .ok (.iload_n 3, 1) := by decide +kernel
theorem dX12_isAbove_3 : decode cX12_isAbove 3 = .ok (.iload_n 1, 1) := by decide +kernel
theorem dX12_isAbove_4 : decode cX12_isAbove 4 = .ok (.if_icmp .eq 18, 3) := by decide +kernel
theorem dX12_isAbove_7 : decode cX12_isAbove 7 = .ok (.iload_n 3, 1) := by decide +kernel
theorem dX12_isAbove_8 : decode cX12_isAbove 8 = .ok (.iconst 2, 1) := by decide +kernel
theorem dX12_isAbove_9 : decode cX12_isAbove 9 = .ok (.if_icmp .eq 13, 3) := by decide +kernel
theorem dX12_isAbove_12 : decode cX12_isAbove 12 = .ok (.aload_n 0, 1) := by decide +kernel
theorem dX12_isAbove_13 : decode cX12_isAbove 13 = .ok (.getfield 13, 3) := by decide +kernel
theorem dX12_isAbove_16 : decode cX12_isAbove 16 = .ok (.iload_n 3, 1) := by decide +kernel
theorem dX12_isAbove_17 : decode cX12_isAbove 17 = .ok (.iaload, 1) := by decide +kernel
theorem dX12_isAbove_18 : decode cX12_isAbove 18 = .ok (.istore_n 3, 1) := by decide +kernel
theorem dX12_isAbove_19 : decode cX12_isAbove 19 = .ok (.goto (-17), 3) := by decide +kernel
theorem dX12_isAbove_22 : decode cX12_isAbove 22 = .ok (.iload_n 3, 1) := by decide +kernel
theorem dX12_isAbove_23 : decode cX12_isAbove 23 = .ok (.iload_n 1, 1) := by decide +kernel
theorem dX12_isAbove_24 : decode cX12_isAbove 24 = .ok (.if_icmp .ne 7, 3) := by decide +kernel
theorem dX12_isAbove_27 : decode cX12_isAbove 27 = .ok (.iconst 1, 1) := by decide +kernel
theorem dX12_isAbove_28 : decode cX12_isAbove 28 = .ok (.goto 4, 3) := by decide +kernel
theorem dX12_isAbove_31 : decode cX12_isAbove 31 = .ok (.iconst 0, 1) := by decide +kernel
theorem dX12_isAbove_32 : decode cX12_isAbove 32 = .ok (.ireturn, 1) := by decide +kernel
theorem dX12_areAssignable_0 : decode cX12_areAssignable 0 = .ok (.iload_n 1, 1) := by decide +kernel
theorem dX12_areAssignable_1 : decode cX12_areAssignable 1 = .ok (.istore_n 3, 1) := by decide +kernel
theorem dX12_areAssignable_2 : decode cX12_areAssignable 2 = .ok (.iload_n 2, 1) := by decide +kernel
theorem dX12_areAssignable_3 : decode cX12_areAssignable 3 = .ok (.istore 4, 2) := by decide +kernel
theorem dX12_areAssignable_5 : decode cX12_areAssignable 5 = .ok (.iload_n 3, 1) := by decide +kernel
theorem dX12_areAssignable_6 : decode cX12_areAssignable 6 = .ok (.iload 4, 2) := by decide +kernel
theorem dX12_areAssignable_8 : decode cX12_areAssignable 8 = .ok (.if_icmp .eq 29, 3) := by decide +kernel
theorem dX12_areAssignable_11 : decode cX12_areAssignable 11 = .ok (.aload_n 0, 1) := by decide +kernel
theorem dX12_areAssignable_12 : decode cX12_areAssignable 12 = .ok (.iload_n 3, 1) := by decide +kernel
theorem dX12_areAssignable_13 : decode cX12_areAssignable 13 = .ok (.invokevirtual 106, 3) := by decide +kernel
theorem dX12_areAssignable_16 : decode cX12_areAssignable 16 = .ok (.ifCond .eq 21, 3) := by decide +kernel
theorem dX12_areAssignable_19 : decode cX12_areAssignable 19 = .ok (.aload_n 0, 1) := by decide +kernel
theorem dX12_areAssignable_20 : decode cX12_areAssignable 20 = .ok (.iload 4, 2) := by decide +kernel
theorem dX12_areAssignable_22 : decode cX12_areAssignable 22 = .ok (.invokevirtual 106, 3) := by decide +kernel
theorem dX12_areAssignable_25 : decode cX12_areAssignable 25 = .ok (.ifCond .eq 12, 3) := by decide +kernel
theorem dX12_areAssignable_28 : decode cX12_areAssignable 28 = .ok (.iinc 3 (-1), 3) := by decide +kernel
theorem dX12_areAssignable_31 : decode cX12_areAssignable 31 = .ok (.iinc 4 (-1), 3) := by decide +kernel
theorem dX12_areAssignable_34 : decode cX12_areAssignable 34 = .ok (.goto (-29), 3) := by decide +kernel
theorem dX12_areAssignable_37 : decode cX12_areAssignable 37 = .ok (.iload_n 3, 1) := by decide +kernel
theorem dX12_areAssignable_38 : decode cX12_areAssignable 38 = .ok (.iload 4, 2) := by decide +kernel
theorem dX12_areAssignable_40 : decode cX12_areAssignable 40 = .ok (.if_icmp .eq 10, 3) := by decide +kernel
theorem dX12_areAssignable_43 : decode cX12_areAssignable 43 = .ok (.iload 4, 2) := by decide +kernel
theorem dX12_areAssignable_45 : decode cX12_areAssignable 45 = .ok (.bipush 16, 2) := by decide +kernel
theorem dX12_areAssignable_47 : decode cX12_areAssignable 47 = .ok (.if_icmp .ne 5, 3) := by decide +kernel
theorem dX12_areAssignable_50 : decode cX12_areAssignable 50 = .ok (.iconst 1, 1) := by decide +kernel
theorem dX12_areAssignable_51 : decode cX12_areAssignable 51 = .ok (.ireturn, 1) := by decide +kernel
theorem dX12_areAssignable_52 : decode cX12_areAssignable 52 = .ok (.iload 4, 2) := by decide +kernel
theorem dX12_areAssignable_54 : decode cX12_areAssignable 54 = .ok (.bipush 8, 2) := by decide +kernel
theorem dX12_areAssignable_56 : decode cX12_areAssignable 56 = .ok (.irem, 1) := by decide +kernel
theorem dX12_areAssignable_57 : decode cX12_areAssignable 57 = .ok (.ifCond .gt 12, 3) := by decide +kernel
theorem dX12_areAssignable_60 : decode cX12_areAssignable 60 = .ok (.aload_n 0, 1) := by decide +kernel
theorem dX12_areAssignable_61 : decode cX12_areAssignable 61 = .ok (.iload 4, 2) := by decide +kernel
theorem dX12_areAssignable_63 : decode cX12_areAssignable 63 = .ok (.invokevirtual 100, 3) := by decide +kernel
theorem dX12_areAssignable_66 : decode cX12_areAssignable 66 = .ok (.ifCond .ne 5, 3) := by decide +kernel
theorem dX12_areAssignable_69 : decode cX12_areAssignable 69 = .ok (.iconst 0, 1) := by decide +kernel
theorem dX12_areAssignable_70 : decode cX12_areAssignable 70 = .ok (.ireturn, 1) := by decide +kernel
theorem dX12_areAssignable_71 : decode cX12_areAssignable 71 = .ok (.aload_n 0, 1) := by decide +kernel
theorem dX12_areAssignable_72 : decode cX12_areAssignable 72 = .ok (.getfield 17, 3) := by decide +kernel
theorem dX12_areAssignable_75 : decode cX12_areAssignable 75 = .ok (.iload 4, 2) := by decide +kernel
theorem dX12_areAssignable_77 : decode cX12_areAssignable 77 = .ok (.bipush 8, 2) := by decide +kernel
theorem dX12_areAssignable_79 : decode cX12_areAssignable 79 = .ok (.idiv, 1) := by decide +kernel
theorem dX12_areAssignable_80 : decode cX12_areAssignable 80 = .ok (.baload, 1) := by decide +kernel
theorem dX12_areAssignable_81 : decode cX12_areAssignable 81 = .ok (.ifCond .ne 37, 3) := by decide +kernel
theorem dX12_areAssignable_84 : decode cX12_areAssignable 84 = .ok (.iload_n 3, 1) := by decide +kernel
theorem dX12_areAssignable_85 : decode cX12_areAssignable 85 = .ok (.bipush 8, 2) := by decide +kernel
theorem dX12_areAssignable_87 : decode cX12_areAssignable 87 = .ok (.irem, 1) := by decide +kernel
theorem dX12_areAssignable_88 : decode cX12_areAssignable 88 = .ok (.ifCond .ne 34, 3) := by decide +kernel
theorem dX12_areAssignable_91 : decode cX12_areAssignable 91 = .ok (.aload_n 0, 1) := by decide +kernel
theorem dX12_areAssignable_92 : decode cX12_areAssignable 92 = .ok (.iload_n 3, 1) := by decide +kernel
theorem dX12_areAssignable_93 : decode cX12_areAssignable 93 = .ok (.bipush 8, 2) := by decide +kernel
theorem dX12_areAssignable_95 : decode cX12_areAssignable 95 = .ok (.idiv, 1) := by decide +kernel
theorem dX12_areAssignable_96 : decode cX12_areAssignable 96 = .ok (.invokevirtual 109, 3) := by decide +kernel
theorem dX12_areAssignable_99 : decode cX12_areAssignable 99 = .ok (.ifCond .eq 23, 3) := by decide +kernel
theorem dX12_areAssignable_102 : decode cX12_areAssignable 102 = .ok (.aload_n 0, 1) := by decide +kernel
theorem dX12_areAssignable_103 : decode cX12_areAssignable 103 = .ok (.iload 4, 2) := by decide +kernel
theorem dX12_areAssignable_105 : decode cX12_areAssignable 105 = .ok (.bipush 8, 2) := by decide +kernel
theorem dX12_areAssignable_107 : decode cX12_areAssignable 107 = .ok (.idiv, 1) := by decide +kernel
theorem dX12_areAssignable_108 : decode cX12_areAssignable 108 = .ok (.iload_n 3, 1) := by decide +kernel
theorem dX12_areAssignable_109 : decode cX12_areAssignable 109 = .ok (.bipush 8, 2) := by decide +kernel
theorem dX12_areAssignable_111 : decode cX12_areAssignable 111 = .ok (.idiv, 1) := by decide +kernel
theorem dX12_areAssignable_112 : decode cX12_areAssignable 112 = .ok (.invokevirtual 112, 3) := by decide +kernel
theorem dX12_areAssignable_115 : decode cX12_areAssignable 115 = .ok (.ifCond .eq 7, 3) := by decide +kernel
theorem dX12_areAssignable_118 : decode cX12_areAssignable 118 = .ok (.iconst 1, 1) := by decide +kernel
theorem dX12_areAssignable_119 : decode cX12_areAssignable 119 = .ok (.goto 4, 3) := by decide +kernel
theorem dX12_areAssignable_122 : decode cX12_areAssignable 122 = .ok (.iconst 0, 1) := by decide +kernel
theorem dX12_areAssignable_123 : decode cX12_areAssignable 123 = .ok (.ireturn, 1) := by decide +kernel
theorem dX12_joined_0 : decode cX12_joined 0 = .ok (.iload_n 1, 1) := by decide +kernel
theorem dX12_joined_1 : decode cX12_joined 1 = .ok (.istore_n 3, 1) := by decide +kernel
theorem dX12_joined_2 : decode cX12_joined 2 = .ok (.iload_n 2, 1) := by decide +kernel
theorem dX12_joined_3 : decode cX12_joined 3 = .ok (.istore 4, 2) := by decide +kernel
theorem dX12_joined_5 : decode cX12_joined 5 = .ok (.iconst 0, 1) := by decide +kernel
theorem dX12_joined_6 : decode cX12_joined 6 = .ok (.istore 5, 2) := by decide +kernel
theorem dX12_joined_8 : decode cX12_joined 8 = .ok (.iload_n 3, 1) := by decide +kernel
theorem dX12_joined_9 : decode cX12_joined 9 = .ok (.iload 4, 2) := by decide +kernel
theorem dX12_joined_11 : decode cX12_joined 11 = .ok (.if_icmp .eq 32, 3) := by decide +kernel
theorem dX12_joined_14 : decode cX12_joined 14 = .ok (.aload_n 0, 1) := by decide +kernel
theorem dX12_joined_15 : decode cX12_joined 15 = .ok (.iload_n 3, 1) := by decide +kernel
theorem dX12_joined_16 : decode cX12_joined 16 = .ok (.invokevirtual 106, 3) := by decide +kernel
theorem dX12_joined_19 : decode cX12_joined 19 = .ok (.ifCond .eq 24, 3) := by decide +kernel
theorem dX12_joined_22 : decode cX12_joined 22 = .ok (.aload_n 0, 1) := by decide +kernel
theorem dX12_joined_23 : decode cX12_joined 23 = .ok (.iload 4, 2) := by decide +kernel
theorem dX12_joined_25 : decode cX12_joined 25 = .ok (.invokevirtual 106, 3) := by decide +kernel
theorem dX12_joined_28 : decode cX12_joined 28 = .ok (.ifCond .eq 15, 3) := by decide +kernel
theorem dX12_joined_31 : decode cX12_joined 31 = .ok (.iinc 3 (-1), 3) := by decide +kernel
theorem dX12_joined_34 : decode cX12_joined 34 = .ok (.iinc 4 (-1), 3) := by decide +kernel
theorem dX12_joined_37 : decode cX12_joined 37 = .ok (.iinc 5 1, 3) := by decide +kernel
theorem dX12_joined_40 : decode cX12_joined 40 = .ok (.goto (-32), 3) := by decide +kernel
theorem dX12_joined_43 : decode cX12_joined 43 = .ok (.iload_n 3, 1) := by decide +kernel
theorem dX12_joined_44 : decode cX12_joined 44 = .ok (.iload 4, 2) := by decide +kernel
theorem dX12_joined_46 : decode cX12_joined 46 = .ok (.if_icmp .ne 8, 3) := by decide +kernel
theorem dX12_joined_49 : decode cX12_joined 49 = .ok (.iload_n 3, 1) := by decide +kernel
theorem dX12_joined_50 : decode cX12_joined 50 = .ok (.iload 5, 2) := by decide +kernel
theorem dX12_joined_52 : decode cX12_joined 52 = .ok (.iadd, 1) := by decide +kernel
theorem dX12_joined_53 : decode cX12_joined 53 = .ok (.ireturn, 1) := by decide +kernel
theorem dX12_joined_54 : decode cX12_joined 54 = .ok (.iload_n 3, 1) := by decide +kernel
theorem dX12_joined_55 : decode cX12_joined 55 = .ok (.bipush 8, 2) := by decide +kernel
theorem dX12_joined_57 : decode cX12_joined 57 = .ok (.irem, 1) := by decide +kernel
theorem dX12_joined_58 : decode cX12_joined 58 = .ok (.ifCond .gt 34, 3) := by decide +kernel
theorem dX12_joined_61 : decode cX12_joined 61 = .ok (.iload 4, 2) := by decide +kernel
theorem dX12_joined_63 : decode cX12_joined 63 = .ok (.bipush 8, 2) := by decide +kernel
theorem dX12_joined_65 : decode cX12_joined 65 = .ok (.irem, 1) := by decide +kernel
theorem dX12_joined_66 : decode cX12_joined 66 = .ok (.ifCond .gt 26, 3) := by decide +kernel
theorem dX12_joined_69 : decode cX12_joined 69 = .ok (.aload_n 0, 1) := by decide +kernel
theorem dX12_joined_70 : decode cX12_joined 70 = .ok (.iload_n 3, 1) := by decide +kernel
theorem dX12_joined_71 : decode cX12_joined 71 = .ok (.bipush 8, 2) := by decide +kernel
theorem dX12_joined_73 : decode cX12_joined 73 = .ok (.idiv, 1) := by decide +kernel
theorem dX12_joined_74 : decode cX12_joined 74 = .ok (.invokevirtual 109, 3) := by decide +kernel
theorem dX12_joined_77 : decode cX12_joined 77 = .ok (.ifCond .eq 15, 3) := by decide +kernel
theorem dX12_joined_80 : decode cX12_joined 80 = .ok (.aload_n 0, 1) := by decide +kernel
theorem dX12_joined_81 : decode cX12_joined 81 = .ok (.iload 4, 2) := by decide +kernel
theorem dX12_joined_83 : decode cX12_joined 83 = .ok (.bipush 8, 2) := by decide +kernel
theorem dX12_joined_85 : decode cX12_joined 85 = .ok (.idiv, 1) := by decide +kernel
theorem dX12_joined_86 : decode cX12_joined 86 = .ok (.invokevirtual 109, 3) := by decide +kernel
theorem dX12_joined_89 : decode cX12_joined 89 = .ok (.ifCond .ne 9, 3) := by decide +kernel
theorem dX12_joined_92 : decode cX12_joined 92 = .ok (.bipush 16, 2) := by decide +kernel
theorem dX12_joined_94 : decode cX12_joined 94 = .ok (.iload 5, 2) := by decide +kernel
theorem dX12_joined_96 : decode cX12_joined 96 = .ok (.iadd, 1) := by decide +kernel
theorem dX12_joined_97 : decode cX12_joined 97 = .ok (.ireturn, 1) := by decide +kernel
theorem dX12_joined_98 : decode cX12_joined 98 = .ok (.iload_n 3, 1) := by decide +kernel
theorem dX12_joined_99 : decode cX12_joined 99 = .ok (.bipush 8, 2) := by decide +kernel
theorem dX12_joined_101 : decode cX12_joined 101 = .ok (.idiv, 1) := by decide +kernel
theorem dX12_joined_102 : decode cX12_joined 102 = .ok (.istore 6, 2) := by decide +kernel
theorem dX12_joined_104 : decode cX12_joined 104 = .ok (.aload_n 0, 1) := by decide +kernel
theorem dX12_joined_105 : decode cX12_joined 105 = .ok (.iload 6, 2) := by decide +kernel
theorem dX12_joined_107 : decode cX12_joined 107 = .ok (.iload 4, 2) := by decide +kernel
theorem dX12_joined_109 : decode cX12_joined 109 = .ok (.bipush 8, 2) := by decide +kernel
theorem dX12_joined_111 : decode cX12_joined 111 = .ok (.idiv, 1) := by decide +kernel
theorem dX12_joined_112 : decode cX12_joined 112 = .ok (.invokevirtual 112, 3) := by decide +kernel
theorem dX12_joined_115 : decode cX12_joined 115 = .ok (.ifCond .ne 15, 3) := by decide +kernel
theorem dX12_joined_118 : decode cX12_joined 118 = .ok (.aload_n 0, 1) := by decide +kernel
theorem dX12_joined_119 : decode cX12_joined 119 = .ok (.getfield 13, 3) := by decide +kernel
theorem dX12_joined_122 : decode cX12_joined 122 = .ok (.iload 6, 2) := by decide +kernel
theorem dX12_joined_124 : decode cX12_joined 124 = .ok (.iaload, 1) := by decide +kernel
theorem dX12_joined_125 : decode cX12_joined 125 = .ok (.istore 6, 2) := by decide +kernel
theorem dX12_joined_127 : decode cX12_joined 127 = .ok (.goto (-23), 3) := by decide +kernel
theorem dX12_joined_130 : decode cX12_joined 130 = .ok (.bipush 8, 2) := by decide +kernel
theorem dX12_joined_132 : decode cX12_joined 132 = .ok (.iload 6, 2) := by decide +kernel
theorem dX12_joined_134 : decode cX12_joined 134 = .ok (.imul, 1) := by decide +kernel
theorem dX12_joined_135 : decode cX12_joined 135 = .ok (.iload 5, 2) := by decide +kernel
theorem dX12_joined_137 : decode cX12_joined 137 = .ok (.iadd, 1) := by decide +kernel
theorem dX12_joined_138 : decode cX12_joined 138 = .ok (.ireturn, 1) := by decide +kernel
theorem dX12_fits_0 : decode cX12_fits 0 = .ok (.iload_n 1, 1) := by decide +kernel
theorem dX12_fits_1 : decode cX12_fits 1 = .ok (.iload_n 2, 1) := by decide +kernel
theorem dX12_fits_2 : decode cX12_fits 2 = .ok (.if_icmp .eq 39, 3) := by decide +kernel
theorem dX12_fits_5 : decode cX12_fits 5 = .ok (.iload_n 2, 1) := by decide +kernel
theorem dX12_fits_6 : decode cX12_fits 6 = .ok (.bipush (-2), 2) := by decide +kernel
theorem dX12_fits_8 : decode cX12_fits 8 = .ok (.if_icmp .eq 33, 3) := by decide +kernel
theorem dX12_fits_11 : decode cX12_fits 11 = .ok (.aload_n 0, 1) := by decide +kernel
theorem dX12_fits_12 : decode cX12_fits 12 = .ok (.iload_n 1, 1) := by decide +kernel
theorem dX12_fits_13 : decode cX12_fits 13 = .ok (.invokevirtual 103, 3) := by decide +kernel
theorem dX12_fits_16 : decode cX12_fits 16 = .ok (.ifCond .eq 29, 3) := by decide +kernel
theorem dX12_fits_19 : decode cX12_fits 19 = .ok (.aload_n 0, 1) := by decide +kernel
theorem dX12_fits_20 : decode cX12_fits 20 = .ok (.iload_n 2, 1) := by decide +kernel
theorem dX12_fits_21 : decode cX12_fits 21 = .ok (.invokevirtual 100, 3) := by decide +kernel
theorem dX12_fits_24 : decode cX12_fits 24 = .ok (.ifCond .eq 21, 3) := by decide +kernel
theorem dX12_fits_27 : decode cX12_fits 27 = .ok (.iload_n 1, 1) := by decide +kernel
theorem dX12_fits_28 : decode cX12_fits 28 = .ok (.iconst (-1), 1) := by decide +kernel
theorem dX12_fits_29 : decode cX12_fits 29 = .ok (.if_icmp .eq 12, 3) := by decide +kernel
theorem dX12_fits_32 : decode cX12_fits 32 = .ok (.aload_n 0, 1) := by decide +kernel
theorem dX12_fits_33 : decode cX12_fits 33 = .ok (.iload_n 1, 1) := by decide +kernel
theorem dX12_fits_34 : decode cX12_fits 34 = .ok (.iload_n 2, 1) := by decide +kernel
theorem dX12_fits_35 : decode cX12_fits 35 = .ok (.invokevirtual 116, 3) := by decide +kernel
theorem dX12_fits_38 : decode cX12_fits 38 = .ok (.ifCond .eq 7, 3) := by decide +kernel
theorem dX12_fits_41 : decode cX12_fits 41 = .ok (.iconst 1, 1) := by decide +kernel
theorem dX12_fits_42 : decode cX12_fits 42 = .ok (.goto 4, 3) := by decide +kernel
theorem dX12_fits_45 : decode cX12_fits 45 = .ok (.iconst 0, 1) := by decide +kernel
theorem dX12_fits_46 : decode cX12_fits 46 = .ok (.ireturn, 1) := by decide +kernel
theorem dX12_meet_0 : decode cX12_meet 0 = .ok (.iload_n 1, 1) := by decide +kernel
theorem dX12_meet_1 : decode cX12_meet 1 = .ok (.iload_n 2, 1) := by decide +kernel
theorem dX12_meet_2 : decode cX12_meet 2 = .ok (.if_icmp .ne 5, 3) := by decide +kernel
theorem dX12_meet_5 : decode cX12_meet 5 = .ok (.iload_n 1, 1) := by decide +kernel
theorem dX12_meet_6 : decode cX12_meet 6 = .ok (.ireturn, 1) := by decide +kernel
theorem dX12_meet_7 : decode cX12_meet 7 = .ok (.aload_n 0, 1) := by decide +kernel
theorem dX12_meet_8 : decode cX12_meet 8 = .ok (.iload_n 1, 1) := by decide +kernel
theorem dX12_meet_9 : decode cX12_meet 9 = .ok (.invokevirtual 103, 3) := by decide +kernel
theorem dX12_meet_12 : decode cX12_meet 12 = .ok (.ifCond .eq 11, 3) := by decide +kernel
theorem dX12_meet_15 : decode cX12_meet 15 = .ok (.aload_n 0, 1) := by decide +kernel
theorem dX12_meet_16 : decode cX12_meet 16 = .ok (.iload_n 2, 1) := by decide +kernel
theorem dX12_meet_17 : decode cX12_meet 17 = .ok (.invokevirtual 103, 3) := by decide +kernel
theorem dX12_meet_20 : decode cX12_meet 20 = .ok (.ifCond .ne 6, 3) := by decide +kernel
theorem dX12_meet_23 : decode cX12_meet 23 = .ok (.bipush (-2), 2) := by decide +kernel
theorem dX12_meet_25 : decode cX12_meet 25 = .ok (.ireturn, 1) := by decide +kernel
theorem dX12_meet_26 : decode cX12_meet 26 = .ok (.iload_n 1, 1) := by decide +kernel
theorem dX12_meet_27 : decode cX12_meet 27 = .ok (.iconst (-1), 1) := by decide +kernel
theorem dX12_meet_28 : decode cX12_meet 28 = .ok (.if_icmp .ne 7, 3) := by decide +kernel
theorem dX12_meet_31 : decode cX12_meet 31 = .ok (.iload_n 2, 1) := by decide +kernel
theorem dX12_meet_32 : decode cX12_meet 32 = .ok (.goto 18, 3) := by decide +kernel
theorem dX12_meet_35 : decode cX12_meet 35 = .ok (.iload_n 2, 1) := by decide +kernel
theorem dX12_meet_36 : decode cX12_meet 36 = .ok (.iconst (-1), 1) := by decide +kernel
theorem dX12_meet_37 : decode cX12_meet 37 = .ok (.if_icmp .ne 7, 3) := by decide +kernel
theorem dX12_meet_40 : decode cX12_meet 40 = .ok (.iload_n 1, 1) := by decide +kernel
theorem dX12_meet_41 : decode cX12_meet 41 = .ok (.goto 9, 3) := by decide +kernel
theorem dX12_meet_44 : decode cX12_meet 44 = .ok (.aload_n 0, 1) := by decide +kernel
theorem dX12_meet_45 : decode cX12_meet 45 = .ok (.iload_n 1, 1) := by decide +kernel
theorem dX12_meet_46 : decode cX12_meet 46 = .ok (.iload_n 2, 1) := by decide +kernel
theorem dX12_meet_47 : decode cX12_meet 47 = .ok (.invokevirtual 119, 3) := by decide +kernel
theorem dX12_meet_50 : decode cX12_meet 50 = .ok (.ireturn, 1) := by decide +kernel
theorem dX12_isAssignable_0 : decode cX12_isAssignable 0 = .ok (.aload_n 0, 1) := by decide +kernel
theorem dX12_isAssignable_1 : decode cX12_isAssignable 1 = .ok (.iconst 0, 1) := by decide +kernel
theorem dX12_isAssignable_2 : decode cX12_isAssignable 2 = .ok (.putfield 90, 3) := by decide +kernel
theorem dX12_isAssignable_5 : decode cX12_isAssignable 5 = .ok (.aload_n 0, 1) := by decide +kernel
theorem dX12_isAssignable_6 : decode cX12_isAssignable 6 = .ok (.iload_n 1, 1) := by decide +kernel
theorem dX12_isAssignable_7 : decode cX12_isAssignable 7 = .ok (.invokevirtual 123, 3) := by decide +kernel
theorem dX12_isAssignable_10 : decode cX12_isAssignable 10 = .ok (.ifCond .eq 11, 3) := by decide +kernel
theorem dX12_isAssignable_13 : decode cX12_isAssignable 13 = .ok (.aload_n 0, 1) := by decide +kernel
theorem dX12_isAssignable_14 : decode cX12_isAssignable 14 = .ok (.iload_n 2, 1) := by decide +kernel
theorem dX12_isAssignable_15 : decode cX12_isAssignable 15 = .ok (.invokevirtual 123, 3) := by decide +kernel
theorem dX12_isAssignable_18 : decode cX12_isAssignable 18 = .ok (.ifCond .ne 17, 3) := by decide +kernel
theorem dX12_isAssignable_21 : decode cX12_isAssignable 21 = .ok (.aload_n 0, 1) := by decide +kernel
theorem dX12_isAssignable_22 : decode cX12_isAssignable 22 = .ok (.iconst 1, 1) := by decide +kernel
theorem dX12_isAssignable_23 : decode cX12_isAssignable 23 = .ok (.invokevirtual 126, 3) := by decide +kernel
theorem dX12_isAssignable_26 : decode cX12_isAssignable 26 = .ok (.ifCond .le 7, 3) := by decide +kernel
theorem dX12_isAssignable_29 : decode cX12_isAssignable 29 = .ok (.iconst 1, 1) := by decide +kernel
theorem dX12_isAssignable_30 : decode cX12_isAssignable 30 = .ok (.goto 4, 3) := by decide +kernel
theorem dX12_isAssignable_33 : decode cX12_isAssignable 33 = .ok (.iconst 0, 1) := by decide +kernel
theorem dX12_isAssignable_34 : decode cX12_isAssignable 34 = .ok (.ireturn, 1) := by decide +kernel
theorem dX12_isAssignable_35 : decode cX12_isAssignable 35 = .ok (.aload_n 0, 1) := by decide +kernel
theorem dX12_isAssignable_36 : decode cX12_isAssignable 36 = .ok (.iload_n 1, 1) := by decide +kernel
theorem dX12_isAssignable_37 : decode cX12_isAssignable 37 = .ok (.iload_n 2, 1) := by decide +kernel
theorem dX12_isAssignable_38 : decode cX12_isAssignable 38 = .ok (.invokevirtual 130, 3) := by decide +kernel
theorem dX12_isAssignable_41 : decode cX12_isAssignable 41 = .ok (.ireturn, 1) := by decide +kernel
theorem dX12_join_0 : decode cX12_join 0 = .ok (.aload_n 0, 1) := by decide +kernel
theorem dX12_join_1 : decode cX12_join 1 = .ok (.iconst 0, 1) := by decide +kernel
theorem dX12_join_2 : decode cX12_join 2 = .ok (.putfield 90, 3) := by decide +kernel
theorem dX12_join_5 : decode cX12_join 5 = .ok (.aload_n 0, 1) := by decide +kernel
theorem dX12_join_6 : decode cX12_join 6 = .ok (.iload_n 1, 1) := by decide +kernel
theorem dX12_join_7 : decode cX12_join 7 = .ok (.invokevirtual 123, 3) := by decide +kernel
theorem dX12_join_10 : decode cX12_join 10 = .ok (.ifCond .eq 20, 3) := by decide +kernel
theorem dX12_join_13 : decode cX12_join 13 = .ok (.aload_n 0, 1) := by decide +kernel
theorem dX12_join_14 : decode cX12_join 14 = .ok (.iload_n 2, 1) := by decide +kernel
theorem dX12_join_15 : decode cX12_join 15 = .ok (.invokevirtual 123, 3) := by decide +kernel
theorem dX12_join_18 : decode cX12_join 18 = .ok (.ifCond .eq 12, 3) := by decide +kernel
theorem dX12_join_21 : decode cX12_join 21 = .ok (.aload_n 0, 1) := by decide +kernel
theorem dX12_join_22 : decode cX12_join 22 = .ok (.iload_n 1, 1) := by decide +kernel
theorem dX12_join_23 : decode cX12_join 23 = .ok (.iload_n 2, 1) := by decide +kernel
theorem dX12_join_24 : decode cX12_join 24 = .ok (.invokevirtual 133, 3) := by decide +kernel
theorem dX12_join_27 : decode cX12_join 27 = .ok (.goto 8, 3) := by decide +kernel
theorem dX12_join_30 : decode cX12_join 30 = .ok (.aload_n 0, 1) := by decide +kernel
theorem dX12_join_31 : decode cX12_join 31 = .ok (.iconst 1, 1) := by decide +kernel
theorem dX12_join_32 : decode cX12_join 32 = .ok (.invokevirtual 126, 3) := by decide +kernel
theorem dX12_join_35 : decode cX12_join 35 = .ok (.ireturn, 1) := by decide +kernel
theorem dX12_wide_0 : decode cX12_wide 0 = .ok (.iload_n 0, 1) := by decide +kernel
theorem dX12_wide_1 : decode cX12_wide 1 = .ok (.bipush 8, 2) := by decide +kernel
theorem dX12_wide_3 : decode cX12_wide 3 = .ok (.if_icmp .ne 7, 3) := by decide +kernel
theorem dX12_wide_6 : decode cX12_wide 6 = .ok (.iconst 2, 1) := by decide +kernel
theorem dX12_wide_7 : decode cX12_wide 7 = .ok (.goto 4, 3) := by decide +kernel
theorem dX12_wide_10 : decode cX12_wide 10 = .ok (.iconst 1, 1) := by decide +kernel
theorem dX12_wide_11 : decode cX12_wide 11 = .ok (.ireturn, 1) := by decide +kernel
theorem dX12_declareClass_0 : decode cX12_declareClass 0 = .ok (.aload_n 0, 1) := by decide +kernel
theorem dX12_declareClass_1 : decode cX12_declareClass 1 = .ok (.iconst 0, 1) := by decide +kernel
theorem dX12_declareClass_2 : decode cX12_declareClass 2 = .ok (.putfield 90, 3) := by decide +kernel
theorem dX12_declareClass_5 : decode cX12_declareClass 5 = .ok (.aload_n 0, 1) := by decide +kernel
theorem dX12_declareClass_6 : decode cX12_declareClass 6 = .ok (.iload_n 1, 1) := by decide +kernel
theorem dX12_declareClass_7 : decode cX12_declareClass 7 = .ok (.invokevirtual 109, 3) := by decide +kernel
theorem dX12_declareClass_10 : decode cX12_declareClass 10 = .ok (.ifCond .eq 12, 3) := by decide +kernel
theorem dX12_declareClass_13 : decode cX12_declareClass 13 = .ok (.iload_n 2, 1) := by decide +kernel
theorem dX12_declareClass_14 : decode cX12_declareClass 14 = .ok (.ifCond .eq 14, 3) := by decide +kernel
theorem dX12_declareClass_17 : decode cX12_declareClass 17 = .ok (.iload_n 1, 1) := by decide +kernel
theorem dX12_declareClass_18 : decode cX12_declareClass 18 = .ok (.iconst 2, 1) := by decide +kernel
theorem dX12_declareClass_19 : decode cX12_declareClass 19 = .ok (.if_icmp .eq 9, 3) := by decide +kernel
theorem dX12_declareClass_22 : decode cX12_declareClass 22 = .ok (.aload_n 0, 1) := by decide +kernel
theorem dX12_declareClass_23 : decode cX12_declareClass 23 = .ok (.iconst 1, 1) := by decide +kernel
theorem dX12_declareClass_24 : decode cX12_declareClass 24 = .ok (.invokevirtual 126, 3) := by decide +kernel
theorem dX12_declareClass_27 : decode cX12_declareClass 27 = .ok (.ireturn, 1) := by decide +kernel
theorem dX12_declareClass_28 : decode cX12_declareClass 28 = .ok (.aload_n 0, 1) := by decide +kernel
theorem dX12_declareClass_29 : decode cX12_declareClass 29 = .ok (.getfield 9, 3) := by decide +kernel
theorem dX12_declareClass_32 : decode cX12_declareClass 32 = .ok (.bipush 20, 2) := by decide +kernel
theorem dX12_declareClass_34 : decode cX12_declareClass 34 = .ok (.if_icmp .ne 9, 3) := by decide +kernel
theorem dX12_declareClass_37 : decode cX12_declareClass 37 = .ok (.aload_n 0, 1) := by decide +kernel
theorem dX12_declareClass_38 : decode cX12_declareClass 38 = .ok (.iconst 2, 1) := by decide +kernel
theorem dX12_declareClass_39 : decode cX12_declareClass 39 = .ok (.invokevirtual 126, 3) := by decide +kernel
theorem dX12_declareClass_42 : decode cX12_declareClass 42 = .ok (.ireturn, 1) := by decide +kernel
theorem dX12_declareClass_43 : decode cX12_declareClass 43 = .ok (.aload_n 0, 1) := by decide +kernel
theorem dX12_declareClass_44 : decode cX12_declareClass 44 = .ok (.getfield 13, 3) := by decide +kernel
theorem dX12_declareClass_47 : decode cX12_declareClass 47 = .ok (.aload_n 0, 1) := by decide +kernel
theorem dX12_declareClass_48 : decode cX12_declareClass 48 = .ok (.getfield 9, 3) := by decide +kernel
theorem dX12_declareClass_51 : decode cX12_declareClass 51 = .ok (.iload_n 1, 1) := by decide +kernel
theorem dX12_declareClass_52 : decode cX12_declareClass 52 = .ok (.iastore, 1) := by decide +kernel
theorem dX12_declareClass_53 : decode cX12_declareClass 53 = .ok (.aload_n 0, 1) := by decide +kernel
theorem dX12_declareClass_54 : decode cX12_declareClass 54 = .ok (.getfield 17, 3) := by decide +kernel
theorem dX12_declareClass_57 : decode cX12_declareClass 57 = .ok (.aload_n 0, 1) := by decide +kernel
theorem dX12_declareClass_58 : decode cX12_declareClass 58 = .ok (.getfield 9, 3) := by decide +kernel
theorem dX12_declareClass_61 : decode cX12_declareClass 61 = .ok (.iload_n 2, 1) := by decide +kernel
theorem dX12_declareClass_62 : decode cX12_declareClass 62 = .ok (.bastore, 1) := by decide +kernel
theorem dX12_declareClass_63 : decode cX12_declareClass 63 = .ok (.aload_n 0, 1) := by decide +kernel
theorem dX12_declareClass_64 : decode cX12_declareClass 64 = .ok (.dup, 1) := by decide +kernel
theorem dX12_declareClass_65 : decode cX12_declareClass 65 = .ok (.getfield 9, 3) := by decide +kernel
theorem dX12_declareClass_68 : decode cX12_declareClass 68 = .ok (.iconst 1, 1) := by decide +kernel
theorem dX12_declareClass_69 : decode cX12_declareClass 69 = .ok (.iadd, 1) := by decide +kernel
theorem dX12_declareClass_70 : decode cX12_declareClass 70 = .ok (.putfield 9, 3) := by decide +kernel
theorem dX12_declareClass_73 : decode cX12_declareClass 73 = .ok (.aload_n 0, 1) := by decide +kernel
theorem dX12_declareClass_74 : decode cX12_declareClass 74 = .ok (.getfield 9, 3) := by decide +kernel
theorem dX12_declareClass_77 : decode cX12_declareClass 77 = .ok (.iconst 1, 1) := by decide +kernel
theorem dX12_declareClass_78 : decode cX12_declareClass 78 = .ok (.isub, 1) := by decide +kernel
theorem dX12_declareClass_79 : decode cX12_declareClass 79 = .ok (.ireturn, 1) := by decide +kernel
theorem dX12_declareField_0 : decode cX12_declareField 0 = .ok (.aload_n 0, 1) := by decide +kernel
theorem dX12_declareField_1 : decode cX12_declareField 1 = .ok (.iconst 0, 1) := by decide +kernel
theorem dX12_declareField_2 : decode cX12_declareField 2 = .ok (.putfield 90, 3) := by decide +kernel
theorem dX12_declareField_5 : decode cX12_declareField 5 = .ok (.aload_n 0, 1) := by decide +kernel
theorem dX12_declareField_6 : decode cX12_declareField 6 = .ok (.iload_n 1, 1) := by decide +kernel
theorem dX12_declareField_7 : decode cX12_declareField 7 = .ok (.invokevirtual 109, 3) := by decide +kernel
theorem dX12_declareField_10 : decode cX12_declareField 10 = .ok (.ifCond .eq 11, 3) := by decide +kernel
theorem dX12_declareField_13 : decode cX12_declareField 13 = .ok (.aload_n 0, 1) := by decide +kernel
theorem dX12_declareField_14 : decode cX12_declareField 14 = .ok (.iload_n 2, 1) := by decide +kernel
theorem dX12_declareField_15 : decode cX12_declareField 15 = .ok (.invokevirtual 93, 3) := by decide +kernel
theorem dX12_declareField_18 : decode cX12_declareField 18 = .ok (.ifCond .ne 9, 3) := by decide +kernel
theorem dX12_declareField_21 : decode cX12_declareField 21 = .ok (.aload_n 0, 1) := by decide +kernel
theorem dX12_declareField_22 : decode cX12_declareField 22 = .ok (.iconst 1, 1) := by decide +kernel
theorem dX12_declareField_23 : decode cX12_declareField 23 = .ok (.invokevirtual 126, 3) := by decide +kernel
theorem dX12_declareField_26 : decode cX12_declareField 26 = .ok (.ireturn, 1) := by decide +kernel
theorem dX12_declareField_27 : decode cX12_declareField 27 = .ok (.aload_n 0, 1) := by decide +kernel
theorem dX12_declareField_28 : decode cX12_declareField 28 = .ok (.getfield 136, 3) := by decide +kernel
theorem dX12_declareField_31 : decode cX12_declareField 31 = .ok (.bipush 30, 2) := by decide +kernel
theorem dX12_declareField_33 : decode cX12_declareField 33 = .ok (.if_icmp .ne 9, 3) := by decide +kernel
theorem dX12_declareField_36 : decode cX12_declareField 36 = .ok (.aload_n 0, 1) := by decide +kernel
theorem dX12_declareField_37 : decode cX12_declareField 37 = .ok (.iconst 2, 1) := by decide +kernel
theorem dX12_declareField_38 : decode cX12_declareField 38 = .ok (.invokevirtual 126, 3) := by decide +kernel
theorem dX12_declareField_41 : decode cX12_declareField 41 = .ok (.ireturn, 1) := by decide +kernel
theorem dX12_declareField_42 : decode cX12_declareField 42 = .ok (.aload_n 0, 1) := by decide +kernel
theorem dX12_declareField_43 : decode cX12_declareField 43 = .ok (.getfield 21, 3) := by decide +kernel
theorem dX12_declareField_46 : decode cX12_declareField 46 = .ok (.aload_n 0, 1) := by decide +kernel
theorem dX12_declareField_47 : decode cX12_declareField 47 = .ok (.getfield 136, 3) := by decide +kernel
theorem dX12_declareField_50 : decode cX12_declareField 50 = .ok (.iload_n 1, 1) := by decide +kernel
theorem dX12_declareField_51 : decode cX12_declareField 51 = .ok (.iastore, 1) := by decide +kernel
theorem dX12_declareField_52 : decode cX12_declareField 52 = .ok (.aload_n 0, 1) := by decide +kernel
theorem dX12_declareField_53 : decode cX12_declareField 53 = .ok (.getfield 24, 3) := by decide +kernel
theorem dX12_declareField_56 : decode cX12_declareField 56 = .ok (.aload_n 0, 1) := by decide +kernel
theorem dX12_declareField_57 : decode cX12_declareField 57 = .ok (.getfield 136, 3) := by decide +kernel
theorem dX12_declareField_60 : decode cX12_declareField 60 = .ok (.iload_n 2, 1) := by decide +kernel
theorem dX12_declareField_61 : decode cX12_declareField 61 = .ok (.iastore, 1) := by decide +kernel
theorem dX12_declareField_62 : decode cX12_declareField 62 = .ok (.aload_n 0, 1) := by decide +kernel
theorem dX12_declareField_63 : decode cX12_declareField 63 = .ok (.dup, 1) := by decide +kernel
theorem dX12_declareField_64 : decode cX12_declareField 64 = .ok (.getfield 136, 3) := by decide +kernel
theorem dX12_declareField_67 : decode cX12_declareField 67 = .ok (.iconst 1, 1) := by decide +kernel
theorem dX12_declareField_68 : decode cX12_declareField 68 = .ok (.iadd, 1) := by decide +kernel
theorem dX12_declareField_69 : decode cX12_declareField 69 = .ok (.putfield 136, 3) := by decide +kernel
theorem dX12_declareField_72 : decode cX12_declareField 72 = .ok (.aload_n 0, 1) := by decide +kernel
theorem dX12_declareField_73 : decode cX12_declareField 73 = .ok (.getfield 136, 3) := by decide +kernel
theorem dX12_declareField_76 : decode cX12_declareField 76 = .ok (.iconst 1, 1) := by decide +kernel
theorem dX12_declareField_77 : decode cX12_declareField 77 = .ok (.isub, 1) := by decide +kernel
theorem dX12_declareField_78 : decode cX12_declareField 78 = .ok (.ireturn, 1) := by decide +kernel
theorem dX12_pendingSlots_0 : decode cX12_pendingSlots 0 = .ok (.iconst 0, 1) := by decide +kernel
theorem dX12_pendingSlots_1 : decode cX12_pendingSlots 1 = .ok (.istore_n 1, 1) := by decide +kernel
theorem dX12_pendingSlots_2 : decode cX12_pendingSlots 2 = .ok (.iconst 0, 1) := by decide +kernel
theorem dX12_pendingSlots_3 : decode cX12_pendingSlots 3 = .ok (.istore_n 2, 1) := by decide +kernel
theorem dX12_pendingSlots_4 : decode cX12_pendingSlots 4 = .ok (.iload_n 2, 1) := by decide +kernel
theorem dX12_pendingSlots_5 : decode cX12_pendingSlots 5 = .ok (.aload_n 0, 1) := by decide +kernel
theorem dX12_pendingSlots_6 : decode cX12_pendingSlots 6 = .ok (.getfield 139, 3) := by decide +kernel
theorem dX12_pendingSlots_9 : decode cX12_pendingSlots 9 = .ok (.if_icmp .ge 21, 3) := by decide +kernel
theorem dX12_pendingSlots_12 : decode cX12_pendingSlots 12 = .ok (.iload_n 1, 1) := by decide +kernel
theorem dX12_pendingSlots_13 : decode cX12_pendingSlots 13 = .ok (.aload_n 0, 1) := by decide +kernel
theorem dX12_pendingSlots_14 : decode cX12_pendingSlots 14 = .ok (.getfield 42, 3) := by decide +kernel
theorem dX12_pendingSlots_17 : decode cX12_pendingSlots 17 = .ok (.iload_n 2, 1) := by decide +kernel
theorem dX12_pendingSlots_18 : decode cX12_pendingSlots 18 = .ok (.iaload, 1) := by decide +kernel
theorem dX12_pendingSlots_19 : decode cX12_pendingSlots 19 = .ok (.invokestatic 142, 3) := by decide +kernel
theorem dX12_pendingSlots_22 : decode cX12_pendingSlots 22 = .ok (.iadd, 1) := by decide +kernel
theorem dX12_pendingSlots_23 : decode cX12_pendingSlots 23 = .ok (.istore_n 1, 1) := by decide +kernel
theorem dX12_pendingSlots_24 : decode cX12_pendingSlots 24 = .ok (.iinc 2 1, 3) := by decide +kernel
theorem dX12_pendingSlots_27 : decode cX12_pendingSlots 27 = .ok (.goto (-23), 3) := by decide +kernel
theorem dX12_pendingSlots_30 : decode cX12_pendingSlots 30 = .ok (.iload_n 1, 1) := by decide +kernel
theorem dX12_pendingSlots_31 : decode cX12_pendingSlots 31 = .ok (.ireturn, 1) := by decide +kernel
theorem dX12_parameter_0 : decode cX12_parameter 0 = .ok (.aload_n 0, 1) := by decide +kernel
theorem dX12_parameter_1 : decode cX12_parameter 1 = .ok (.iconst 0, 1) := by decide +kernel
theorem dX12_parameter_2 : decode cX12_parameter 2 = .ok (.putfield 90, 3) := by decide +kernel
theorem dX12_parameter_5 : decode cX12_parameter 5 = .ok (.aload_n 0, 1) := by decide +kernel
theorem dX12_parameter_6 : decode cX12_parameter 6 = .ok (.iload_n 1, 1) := by decide +kernel
theorem dX12_parameter_7 : decode cX12_parameter 7 = .ok (.invokevirtual 93, 3) := by decide +kernel
theorem dX12_parameter_10 : decode cX12_parameter 10 = .ok (.ifCond .ne 9, 3) := by decide +kernel
theorem dX12_parameter_13 : decode cX12_parameter 13 = .ok (.aload_n 0, 1) := by decide +kernel
theorem dX12_parameter_14 : decode cX12_parameter 14 = .ok (.iconst 1, 1) := by decide +kernel
theorem dX12_parameter_15 : decode cX12_parameter 15 = .ok (.invokevirtual 126, 3) := by decide +kernel
theorem dX12_parameter_18 : decode cX12_parameter 18 = .ok (.ireturn, 1) := by decide +kernel
theorem dX12_parameter_19 : decode cX12_parameter 19 = .ok (.aload_n 0, 1) := by decide +kernel
theorem dX12_parameter_20 : decode cX12_parameter 20 = .ok (.invokevirtual 145, 3) := by decide +kernel
theorem dX12_parameter_23 : decode cX12_parameter 23 = .ok (.iload_n 1, 1) := by decide +kernel
theorem dX12_parameter_24 : decode cX12_parameter 24 = .ok (.invokestatic 142, 3) := by decide +kernel
theorem dX12_parameter_27 : decode cX12_parameter 27 = .ok (.iadd, 1) := by decide +kernel
theorem dX12_parameter_28 : decode cX12_parameter 28 = .ok (.bipush 6, 2) := by decide +kernel
theorem dX12_parameter_30 : decode cX12_parameter 30 = .ok (.if_icmp .le 9, 3) := by decide +kernel
theorem dX12_parameter_33 : decode cX12_parameter 33 = .ok (.aload_n 0, 1) := by decide +kernel
theorem dX12_parameter_34 : decode cX12_parameter 34 = .ok (.iconst 2, 1) := by decide +kernel
theorem dX12_parameter_35 : decode cX12_parameter 35 = .ok (.invokevirtual 126, 3) := by decide +kernel
theorem dX12_parameter_38 : decode cX12_parameter 38 = .ok (.ireturn, 1) := by decide +kernel
theorem dX12_parameter_39 : decode cX12_parameter 39 = .ok (.aload_n 0, 1) := by decide +kernel
theorem dX12_parameter_40 : decode cX12_parameter 40 = .ok (.getfield 42, 3) := by decide +kernel
theorem dX12_parameter_43 : decode cX12_parameter 43 = .ok (.aload_n 0, 1) := by decide +kernel
theorem dX12_parameter_44 : decode cX12_parameter 44 = .ok (.getfield 139, 3) := by decide +kernel
theorem dX12_parameter_47 : decode cX12_parameter 47 = .ok (.iload_n 1, 1) := by decide +kernel
theorem dX12_parameter_48 : decode cX12_parameter 48 = .ok (.iastore, 1) := by decide +kernel
theorem dX12_parameter_49 : decode cX12_parameter 49 = .ok (.aload_n 0, 1) := by decide +kernel
theorem dX12_parameter_50 : decode cX12_parameter 50 = .ok (.dup, 1) := by decide +kernel
theorem dX12_parameter_51 : decode cX12_parameter 51 = .ok (.getfield 139, 3) := by decide +kernel
theorem dX12_parameter_54 : decode cX12_parameter 54 = .ok (.iconst 1, 1) := by decide +kernel
theorem dX12_parameter_55 : decode cX12_parameter 55 = .ok (.iadd, 1) := by decide +kernel
theorem dX12_parameter_56 : decode cX12_parameter 56 = .ok (.putfield 139, 3) := by decide +kernel
theorem dX12_parameter_59 : decode cX12_parameter 59 = .ok (.aload_n 0, 1) := by decide +kernel
theorem dX12_parameter_60 : decode cX12_parameter 60 = .ok (.invokevirtual 145, 3) := by decide +kernel
theorem dX12_parameter_63 : decode cX12_parameter 63 = .ok (.ireturn, 1) := by decide +kernel
theorem dX12_declareMethod_0 : decode cX12_declareMethod 0 = .ok (.aload_n 0, 1) := by decide +kernel
theorem dX12_declareMethod_1 : decode cX12_declareMethod 1 = .ok (.iconst 0, 1) := by decide +kernel
theorem dX12_declareMethod_2 : decode cX12_declareMethod 2 = .ok (.putfield 90, 3) := by decide +kernel
theorem dX12_declareMethod_5 : decode cX12_declareMethod 5 = .ok (.aload_n 0, 1) := by decide +kernel
theorem dX12_declareMethod_6 : decode cX12_declareMethod 6 = .ok (.getfield 139, 3) := by decide +kernel
theorem dX12_declareMethod_9 : decode cX12_declareMethod 9 = .ok (.istore 4, 2) := by decide +kernel
theorem dX12_declareMethod_11 : decode cX12_declareMethod 11 = .ok (.aload_n 0, 1) := by decide +kernel
theorem dX12_declareMethod_12 : decode cX12_declareMethod 12 = .ok (.iconst 0, 1) := by decide +kernel
theorem dX12_declareMethod_13 : decode cX12_declareMethod 13 = .ok (.putfield 139, 3) := by decide +kernel
theorem dX12_declareMethod_16 : decode cX12_declareMethod 16 = .ok (.aload_n 0, 1) := by decide +kernel
theorem dX12_declareMethod_17 : decode cX12_declareMethod 17 = .ok (.iload_n 1, 1) := by decide +kernel
theorem dX12_declareMethod_18 : decode cX12_declareMethod 18 = .ok (.invokevirtual 109, 3) := by decide +kernel
theorem dX12_declareMethod_21 : decode cX12_declareMethod 21 = .ok (.ifCond .ne 20, 3) := by decide +kernel
theorem dX12_declareMethod_24 : decode cX12_declareMethod 24 = .ok (.iload_n 2, 1) := by decide +kernel
theorem dX12_declareMethod_25 : decode cX12_declareMethod 25 = .ok (.ifCond .ne 20, 3) := by decide +kernel
theorem dX12_declareMethod_28 : decode cX12_declareMethod 28 = .ok (.iload_n 1, 1) := by decide +kernel
theorem dX12_declareMethod_29 : decode cX12_declareMethod 29 = .ok (.iconst 2, 1) := by decide +kernel
theorem dX12_declareMethod_30 : decode cX12_declareMethod 30 = .ok (.if_icmp .le 15, 3) := by decide +kernel
theorem dX12_declareMethod_33 : decode cX12_declareMethod 33 = .ok (.iload_n 1, 1) := by decide +kernel
theorem dX12_declareMethod_34 : decode cX12_declareMethod 34 = .ok (.aload_n 0, 1) := by decide +kernel
theorem dX12_declareMethod_35 : decode cX12_declareMethod 35 = .ok (.getfield 9, 3) := by decide +kernel
theorem dX12_declareMethod_38 : decode cX12_declareMethod 38 = .ok (.if_icmp .ge 7, 3) := by decide +kernel
theorem dX12_declareMethod_41 : decode cX12_declareMethod 41 = .ok (.iconst 1, 1) := by decide +kernel
theorem dX12_declareMethod_42 : decode cX12_declareMethod 42 = .ok (.goto 4, 3) := by decide +kernel
theorem dX12_declareMethod_45 : decode cX12_declareMethod 45 = .ok (.iconst 0, 1) := by decide +kernel
theorem dX12_declareMethod_46 : decode cX12_declareMethod 46 = .ok (.istore 5, 2) := by decide +kernel
theorem dX12_declareMethod_48 : decode cX12_declareMethod 48 = .ok (.iload 5, 2) := by decide +kernel
theorem dX12_declareMethod_50 : decode cX12_declareMethod 50 = .ok (.ifCond .eq 30, 3) := by decide +kernel
theorem dX12_declareMethod_53 : decode cX12_declareMethod 53 = .ok (.iload_n 2, 1) := by decide +kernel
theorem dX12_declareMethod_54 : decode cX12_declareMethod 54 = .ok (.ifCond .lt 26, 3) := by decide +kernel
theorem dX12_declareMethod_57 : decode cX12_declareMethod 57 = .ok (.iload_n 2, 1) := by decide +kernel
theorem dX12_declareMethod_58 : decode cX12_declareMethod 58 = .ok (.iconst 2, 1) := by decide +kernel
theorem dX12_declareMethod_59 : decode cX12_declareMethod 59 = .ok (.if_icmp .gt 21, 3) := by decide +kernel
theorem dX12_declareMethod_62 : decode cX12_declareMethod 62 = .ok (.iload_n 3, 1) := by decide +kernel
theorem dX12_declareMethod_63 : decode cX12_declareMethod 63 = .ok (.iconst (-1), 1) := by decide +kernel
theorem dX12_declareMethod_64 : decode cX12_declareMethod 64 = .ok (.if_icmp .eq 22, 3) := by decide +kernel
theorem dX12_declareMethod_67 : decode cX12_declareMethod 67 = .ok (.aload_n 0, 1) := by decide +kernel
theorem dX12_declareMethod_68 : decode cX12_declareMethod 68 = .ok (.iload_n 3, 1) := by decide +kernel
theorem dX12_declareMethod_69 : decode cX12_declareMethod 69 = .ok (.invokevirtual 93, 3) := by decide +kernel
theorem dX12_declareMethod_72 : decode cX12_declareMethod 72 = .ok (.ifCond .eq 8, 3) := by decide +kernel
theorem dX12_declareMethod_75 : decode cX12_declareMethod 75 = .ok (.iload_n 2, 1) := by decide +kernel
theorem dX12_declareMethod_76 : decode cX12_declareMethod 76 = .ok (.iconst 2, 1) := by decide +kernel
theorem dX12_declareMethod_77 : decode cX12_declareMethod 77 = .ok (.if_icmp .ne 9, 3) := by decide +kernel
theorem dX12_declareMethod_80 : decode cX12_declareMethod 80 = .ok (.aload_n 0, 1) := by decide +kernel
theorem dX12_declareMethod_81 : decode cX12_declareMethod 81 = .ok (.iconst 1, 1) := by decide +kernel
theorem dX12_declareMethod_82 : decode cX12_declareMethod 82 = .ok (.invokevirtual 126, 3) := by decide +kernel
theorem dX12_declareMethod_85 : decode cX12_declareMethod 85 = .ok (.ireturn, 1) := by decide +kernel
theorem dX12_declareMethod_86 : decode cX12_declareMethod 86 = .ok (.aload_n 0, 1) := by decide +kernel
theorem dX12_declareMethod_87 : decode cX12_declareMethod 87 = .ok (.getfield 149, 3) := by decide +kernel
theorem dX12_declareMethod_90 : decode cX12_declareMethod 90 = .ok (.bipush 30, 2) := by decide +kernel
theorem dX12_declareMethod_92 : decode cX12_declareMethod 92 = .ok (.if_icmp .ne 9, 3) := by decide +kernel
theorem dX12_declareMethod_95 : decode cX12_declareMethod 95 = .ok (.aload_n 0, 1) := by decide +kernel
theorem dX12_declareMethod_96 : decode cX12_declareMethod 96 = .ok (.iconst 2, 1) := by decide +kernel
theorem dX12_declareMethod_97 : decode cX12_declareMethod 97 = .ok (.invokevirtual 126, 3) := by decide +kernel
theorem dX12_declareMethod_100 : decode cX12_declareMethod 100 = .ok (.ireturn, 1) := by decide +kernel
theorem dX12_declareMethod_101 : decode cX12_declareMethod 101 = .ok (.aload_n 0, 1) := by decide +kernel
theorem dX12_declareMethod_102 : decode cX12_declareMethod 102 = .ok (.getfield 27, 3) := by decide +kernel
theorem dX12_declareMethod_105 : decode cX12_declareMethod 105 = .ok (.aload_n 0, 1) := by decide +kernel
theorem dX12_declareMethod_106 : decode cX12_declareMethod 106 = .ok (.getfield 149, 3) := by decide +kernel
theorem dX12_declareMethod_109 : decode cX12_declareMethod 109 = .ok (.iload_n 1, 1) := by decide +kernel
theorem dX12_declareMethod_110 : decode cX12_declareMethod 110 = .ok (.iastore, 1) := by decide +kernel
theorem dX12_declareMethod_111 : decode cX12_declareMethod 111 = .ok (.aload_n 0, 1) := by decide +kernel
theorem dX12_declareMethod_112 : decode cX12_declareMethod 112 = .ok (.getfield 30, 3) := by decide +kernel
theorem dX12_declareMethod_115 : decode cX12_declareMethod 115 = .ok (.aload_n 0, 1) := by decide +kernel
theorem dX12_declareMethod_116 : decode cX12_declareMethod 116 = .ok (.getfield 149, 3) := by decide +kernel
theorem dX12_declareMethod_119 : decode cX12_declareMethod 119 = .ok (.iload_n 2, 1) := by decide +kernel
theorem dX12_declareMethod_120 : decode cX12_declareMethod 120 = .ok (.iastore, 1) := by decide +kernel
theorem dX12_declareMethod_121 : decode cX12_declareMethod 121 = .ok (.aload_n 0, 1) := by decide +kernel
theorem dX12_declareMethod_122 : decode cX12_declareMethod 122 = .ok (.getfield 33, 3) := by decide +kernel
theorem dX12_declareMethod_125 : decode cX12_declareMethod 125 = .ok (.aload_n 0, 1) := by decide +kernel
theorem dX12_declareMethod_126 : decode cX12_declareMethod 126 = .ok (.getfield 149, 3) := by decide +kernel
theorem dX12_declareMethod_129 : decode cX12_declareMethod 129 = .ok (.iload_n 3, 1) := by decide +kernel
theorem dX12_declareMethod_130 : decode cX12_declareMethod 130 = .ok (.iastore, 1) := by decide +kernel
theorem dX12_declareMethod_131 : decode cX12_declareMethod 131 = .ok (.aload_n 0, 1) := by decide +kernel
theorem dX12_declareMethod_132 : decode cX12_declareMethod 132 = .ok (.getfield 36, 3) := by decide +kernel
theorem dX12_declareMethod_135 : decode cX12_declareMethod 135 = .ok (.aload_n 0, 1) := by decide +kernel
theorem dX12_declareMethod_136 : decode cX12_declareMethod 136 = .ok (.getfield 149, 3) := by decide +kernel
theorem dX12_declareMethod_139 : decode cX12_declareMethod 139 = .ok (.iload 4, 2) := by decide +kernel
theorem dX12_declareMethod_141 : decode cX12_declareMethod 141 = .ok (.iastore, 1) := by decide +kernel
theorem dX12_declareMethod_142 : decode cX12_declareMethod 142 = .ok (.iconst 0, 1) := by decide +kernel
theorem dX12_declareMethod_143 : decode cX12_declareMethod 143 = .ok (.istore 6, 2) := by decide +kernel
theorem dX12_declareMethod_145 : decode cX12_declareMethod 145 = .ok (.iload 6, 2) := by decide +kernel
theorem dX12_declareMethod_147 : decode cX12_declareMethod 147 = .ok (.iload 4, 2) := by decide +kernel
theorem dX12_declareMethod_149 : decode cX12_declareMethod 149 = .ok (.if_icmp .ge 31, 3) := by decide +kernel
theorem dX12_declareMethod_152 : decode cX12_declareMethod 152 = .ok (.aload_n 0, 1) := by decide +kernel
theorem dX12_declareMethod_153 : decode cX12_declareMethod 153 = .ok (.getfield 39, 3) := by decide +kernel
theorem dX12_declareMethod_156 : decode cX12_declareMethod 156 = .ok (.bipush 6, 2) := by decide +kernel
theorem dX12_declareMethod_158 : decode cX12_declareMethod 158 = .ok (.aload_n 0, 1) := by decide +kernel
theorem dX12_declareMethod_159 : decode cX12_declareMethod 159 = .ok (.getfield 149, 3) := by decide +kernel
theorem dX12_declareMethod_162 : decode cX12_declareMethod 162 = .ok (.imul, 1) := by decide +kernel
theorem dX12_declareMethod_163 : decode cX12_declareMethod 163 = .ok (.iload 6, 2) := by decide +kernel
theorem dX12_declareMethod_165 : decode cX12_declareMethod 165 = .ok (.iadd, 1) := by decide +kernel
theorem dX12_declareMethod_166 : decode cX12_declareMethod 166 = .ok (.aload_n 0, 1) := by decide +kernel
theorem dX12_declareMethod_167 : decode cX12_declareMethod 167 = .ok (.getfield 42, 3) := by decide +kernel
theorem dX12_declareMethod_170 : decode cX12_declareMethod 170 = .ok (.iload 6, 2) := by decide +kernel
theorem dX12_declareMethod_172 : decode cX12_declareMethod 172 = .ok (.iaload, 1) := by decide +kernel
theorem dX12_declareMethod_173 : decode cX12_declareMethod 173 = .ok (.iastore, 1) := by decide +kernel
theorem dX12_declareMethod_174 : decode cX12_declareMethod 174 = .ok (.iinc 6 1, 3) := by decide +kernel
theorem dX12_declareMethod_177 : decode cX12_declareMethod 177 = .ok (.goto (-32), 3) := by decide +kernel
theorem dX12_declareMethod_180 : decode cX12_declareMethod 180 = .ok (.aload_n 0, 1) := by decide +kernel
theorem dX12_declareMethod_181 : decode cX12_declareMethod 181 = .ok (.dup, 1) := by decide +kernel
theorem dX12_declareMethod_182 : decode cX12_declareMethod 182 = .ok (.getfield 149, 3) := by decide +kernel
theorem dX12_declareMethod_185 : decode cX12_declareMethod 185 = .ok (.iconst 1, 1) := by decide +kernel
theorem dX12_declareMethod_186 : decode cX12_declareMethod 186 = .ok (.iadd, 1) := by decide +kernel
theorem dX12_declareMethod_187 : decode cX12_declareMethod 187 = .ok (.putfield 149, 3) := by decide +kernel
theorem dX12_declareMethod_190 : decode cX12_declareMethod 190 = .ok (.aload_n 0, 1) := by decide +kernel
theorem dX12_declareMethod_191 : decode cX12_declareMethod 191 = .ok (.getfield 149, 3) := by decide +kernel
theorem dX12_declareMethod_194 : decode cX12_declareMethod 194 = .ok (.iconst 1, 1) := by decide +kernel
theorem dX12_declareMethod_195 : decode cX12_declareMethod 195 = .ok (.isub, 1) := by decide +kernel
theorem dX12_declareMethod_196 : decode cX12_declareMethod 196 = .ok (.ireturn, 1) := by decide +kernel
theorem dX12_needed_0 : decode cX12_needed 0 = .ok (.aload_n 0, 1) := by decide +kernel
theorem dX12_needed_1 : decode cX12_needed 1 = .ok (.getfield 30, 3) := by decide +kernel
theorem dX12_needed_4 : decode cX12_needed 4 = .ok (.iload_n 1, 1) := by decide +kernel
theorem dX12_needed_5 : decode cX12_needed 5 = .ok (.iaload, 1) := by decide +kernel
theorem dX12_needed_6 : decode cX12_needed 6 = .ok (.iconst 1, 1) := by decide +kernel
theorem dX12_needed_7 : decode cX12_needed 7 = .ok (.if_icmp .ne 7, 3) := by decide +kernel
theorem dX12_needed_10 : decode cX12_needed 10 = .ok (.iconst 0, 1) := by decide +kernel
theorem dX12_needed_11 : decode cX12_needed 11 = .ok (.goto 4, 3) := by decide +kernel
theorem dX12_needed_14 : decode cX12_needed 14 = .ok (.iconst 1, 1) := by decide +kernel
theorem dX12_needed_15 : decode cX12_needed 15 = .ok (.istore_n 2, 1) := by decide +kernel
theorem dX12_needed_16 : decode cX12_needed 16 = .ok (.iconst 0, 1) := by decide +kernel
theorem dX12_needed_17 : decode cX12_needed 17 = .ok (.istore_n 3, 1) := by decide +kernel
theorem dX12_needed_18 : decode cX12_needed 18 = .ok (.iload_n 3, 1) := by decide +kernel
theorem dX12_needed_19 : decode cX12_needed 19 = .ok (.aload_n 0, 1) := by decide +kernel
theorem dX12_needed_20 : decode cX12_needed 20 = .ok (.getfield 36, 3) := by decide +kernel
theorem dX12_needed_23 : decode cX12_needed 23 = .ok (.iload_n 1, 1) := by decide +kernel
theorem dX12_needed_24 : decode cX12_needed 24 = .ok (.iaload, 1) := by decide +kernel
theorem dX12_needed_25 : decode cX12_needed 25 = .ok (.if_icmp .ge 26, 3) := by decide +kernel
theorem dX12_needed_28 : decode cX12_needed 28 = .ok (.iload_n 2, 1) := by decide +kernel
theorem dX12_needed_29 : decode cX12_needed 29 = .ok (.aload_n 0, 1) := by decide +kernel
theorem dX12_needed_30 : decode cX12_needed 30 = .ok (.getfield 39, 3) := by decide +kernel
theorem dX12_needed_33 : decode cX12_needed 33 = .ok (.bipush 6, 2) := by decide +kernel
theorem dX12_needed_35 : decode cX12_needed 35 = .ok (.iload_n 1, 1) := by decide +kernel
theorem dX12_needed_36 : decode cX12_needed 36 = .ok (.imul, 1) := by decide +kernel
theorem dX12_needed_37 : decode cX12_needed 37 = .ok (.iload_n 3, 1) := by decide +kernel
theorem dX12_needed_38 : decode cX12_needed 38 = .ok (.iadd, 1) := by decide +kernel
theorem dX12_needed_39 : decode cX12_needed 39 = .ok (.iaload, 1) := by decide +kernel
theorem dX12_needed_40 : decode cX12_needed 40 = .ok (.invokestatic 142, 3) := by decide +kernel
theorem dX12_needed_43 : decode cX12_needed 43 = .ok (.iadd, 1) := by decide +kernel
theorem dX12_needed_44 : decode cX12_needed 44 = .ok (.istore_n 2, 1) := by decide +kernel
theorem dX12_needed_45 : decode cX12_needed 45 = .ok (.iinc 3 1, 3) := by decide +kernel
theorem dX12_needed_48 : decode cX12_needed 48 = .ok (.goto (-30), 3) := by decide +kernel
theorem dX12_needed_51 : decode cX12_needed 51 = .ok (.iload_n 2, 1) := by decide +kernel
theorem dX12_needed_52 : decode cX12_needed 52 = .ok (.ireturn, 1) := by decide +kernel
theorem dX12_begin_0 : decode cX12_begin 0 = .ok (.aload_n 0, 1) := by decide +kernel
theorem dX12_begin_1 : decode cX12_begin 1 = .ok (.iconst 0, 1) := by decide +kernel
theorem dX12_begin_2 : decode cX12_begin 2 = .ok (.putfield 90, 3) := by decide +kernel
theorem dX12_begin_5 : decode cX12_begin 5 = .ok (.iload_n 1, 1) := by decide +kernel
theorem dX12_begin_6 : decode cX12_begin 6 = .ok (.ifCond .lt 11, 3) := by decide +kernel
theorem dX12_begin_9 : decode cX12_begin 9 = .ok (.iload_n 1, 1) := by decide +kernel
theorem dX12_begin_10 : decode cX12_begin 10 = .ok (.aload_n 0, 1) := by decide +kernel
theorem dX12_begin_11 : decode cX12_begin 11 = .ok (.getfield 149, 3) := by decide +kernel
theorem dX12_begin_14 : decode cX12_begin 14 = .ok (.if_icmp .lt 9, 3) := by decide +kernel
theorem dX12_begin_17 : decode cX12_begin 17 = .ok (.aload_n 0, 1) := by decide +kernel
theorem dX12_begin_18 : decode cX12_begin 18 = .ok (.iconst 1, 1) := by decide +kernel
theorem dX12_begin_19 : decode cX12_begin 19 = .ok (.invokevirtual 126, 3) := by decide +kernel
theorem dX12_begin_22 : decode cX12_begin 22 = .ok (.ireturn, 1) := by decide +kernel
theorem dX12_begin_23 : decode cX12_begin 23 = .ok (.iload_n 2, 1) := by decide +kernel
theorem dX12_begin_24 : decode cX12_begin 24 = .ok (.ifCond .lt 33, 3) := by decide +kernel
theorem dX12_begin_27 : decode cX12_begin 27 = .ok (.iload_n 2, 1) := by decide +kernel
theorem dX12_begin_28 : decode cX12_begin 28 = .ok (.bipush 12, 2) := by decide +kernel
theorem dX12_begin_30 : decode cX12_begin 30 = .ok (.if_icmp .gt 27, 3) := by decide +kernel
theorem dX12_begin_33 : decode cX12_begin 33 = .ok (.iload_n 3, 1) := by decide +kernel
theorem dX12_begin_34 : decode cX12_begin 34 = .ok (.ifCond .lt 23, 3) := by decide +kernel
theorem dX12_begin_37 : decode cX12_begin 37 = .ok (.iload_n 3, 1) := by decide +kernel
theorem dX12_begin_38 : decode cX12_begin 38 = .ok (.bipush 12, 2) := by decide +kernel
theorem dX12_begin_40 : decode cX12_begin 40 = .ok (.if_icmp .gt 17, 3) := by decide +kernel
theorem dX12_begin_43 : decode cX12_begin 43 = .ok (.aload_n 0, 1) := by decide +kernel
theorem dX12_begin_44 : decode cX12_begin 44 = .ok (.getfield 17, 3) := by decide +kernel
theorem dX12_begin_47 : decode cX12_begin 47 = .ok (.aload_n 0, 1) := by decide +kernel
theorem dX12_begin_48 : decode cX12_begin 48 = .ok (.getfield 27, 3) := by decide +kernel
theorem dX12_begin_51 : decode cX12_begin 51 = .ok (.iload_n 1, 1) := by decide +kernel
theorem dX12_begin_52 : decode cX12_begin 52 = .ok (.iaload, 1) := by decide +kernel
theorem dX12_begin_53 : decode cX12_begin 53 = .ok (.baload, 1) := by decide +kernel
theorem dX12_begin_54 : decode cX12_begin 54 = .ok (.ifCond .eq 9, 3) := by decide +kernel
theorem dX12_begin_57 : decode cX12_begin 57 = .ok (.aload_n 0, 1) := by decide +kernel
theorem dX12_begin_58 : decode cX12_begin 58 = .ok (.iconst 2, 1) := by decide +kernel
theorem dX12_begin_59 : decode cX12_begin 59 = .ok (.invokevirtual 126, 3) := by decide +kernel
theorem dX12_begin_62 : decode cX12_begin 62 = .ok (.ireturn, 1) := by decide +kernel
theorem dX12_begin_63 : decode cX12_begin 63 = .ok (.aload_n 0, 1) := by decide +kernel
theorem dX12_begin_64 : decode cX12_begin 64 = .ok (.iconst 1, 1) := by decide +kernel
theorem dX12_begin_65 : decode cX12_begin 65 = .ok (.putfield 152, 3) := by decide +kernel
theorem dX12_begin_68 : decode cX12_begin 68 = .ok (.aload_n 0, 1) := by decide +kernel
theorem dX12_begin_69 : decode cX12_begin 69 = .ok (.iload_n 1, 1) := by decide +kernel
theorem dX12_begin_70 : decode cX12_begin 70 = .ok (.putfield 156, 3) := by decide +kernel
theorem dX12_begin_73 : decode cX12_begin 73 = .ok (.aload_n 0, 1) := by decide +kernel
theorem dX12_begin_74 : decode cX12_begin 74 = .ok (.iload_n 2, 1) := by decide +kernel
theorem dX12_begin_75 : decode cX12_begin 75 = .ok (.putfield 159, 3) := by decide +kernel
theorem dX12_begin_78 : decode cX12_begin 78 = .ok (.aload_n 0, 1) := by decide +kernel
theorem dX12_begin_79 : decode cX12_begin 79 = .ok (.iload_n 3, 1) := by decide +kernel
theorem dX12_begin_80 : decode cX12_begin 80 = .ok (.putfield 162, 3) := by decide +kernel
theorem dX12_begin_83 : decode cX12_begin 83 = .ok (.aload_n 0, 1) := by decide +kernel
theorem dX12_begin_84 : decode cX12_begin 84 = .ok (.iconst 0, 1) := by decide +kernel
theorem dX12_begin_85 : decode cX12_begin 85 = .ok (.putfield 165, 3) := by decide +kernel
theorem dX12_begin_88 : decode cX12_begin 88 = .ok (.aload_n 0, 1) := by decide +kernel
theorem dX12_begin_89 : decode cX12_begin 89 = .ok (.iconst 0, 1) := by decide +kernel
theorem dX12_begin_90 : decode cX12_begin 90 = .ok (.putfield 168, 3) := by decide +kernel
theorem dX12_begin_93 : decode cX12_begin 93 = .ok (.aload_n 0, 1) := by decide +kernel
theorem dX12_begin_94 : decode cX12_begin 94 = .ok (.invokevirtual 171, 3) := by decide +kernel
theorem dX12_begin_97 : decode cX12_begin 97 = .ok (.iconst 0, 1) := by decide +kernel
theorem dX12_begin_98 : decode cX12_begin 98 = .ok (.istore 4, 2) := by decide +kernel
theorem dX12_begin_100 : decode cX12_begin 100 = .ok (.iload 4, 2) := by decide +kernel
theorem dX12_begin_102 : decode cX12_begin 102 = .ok (.bipush 100, 2) := by decide +kernel
theorem dX12_begin_104 : decode cX12_begin 104 = .ok (.if_icmp .ge 17, 3) := by decide +kernel
theorem dX12_begin_107 : decode cX12_begin 107 = .ok (.aload_n 0, 1) := by decide +kernel
theorem dX12_begin_108 : decode cX12_begin 108 = .ok (.getfield 69, 3) := by decide +kernel
theorem dX12_begin_111 : decode cX12_begin 111 = .ok (.iload 4, 2) := by decide +kernel
theorem dX12_begin_113 : decode cX12_begin 113 = .ok (.iconst 0, 1) := by decide +kernel
theorem dX12_begin_114 : decode cX12_begin 114 = .ok (.bastore, 1) := by decide +kernel
theorem dX12_begin_115 : decode cX12_begin 115 = .ok (.iinc 4 1, 3) := by decide +kernel
theorem dX12_begin_118 : decode cX12_begin 118 = .ok (.goto (-18), 3) := by decide +kernel
theorem dX12_begin_121 : decode cX12_begin 121 = .ok (.aload_n 0, 1) := by decide +kernel
theorem dX12_begin_122 : decode cX12_begin 122 = .ok (.aload_n 0, 1) := by decide +kernel
theorem dX12_begin_123 : decode cX12_begin 123 = .ok (.getfield 156, 3) := by decide +kernel
theorem dX12_begin_126 : decode cX12_begin 126 = .ok (.invokevirtual 174, 3) := by decide +kernel
theorem dX12_begin_129 : decode cX12_begin 129 = .ok (.ireturn, 1) := by decide +kernel
theorem dX12_discard_0 : decode cX12_discard 0 = .ok (.aload_n 0, 1) := by decide +kernel
theorem dX12_discard_1 : decode cX12_discard 1 = .ok (.iconst 0, 1) := by decide +kernel
theorem dX12_discard_2 : decode cX12_discard 2 = .ok (.putfield 177, 3) := by decide +kernel
theorem dX12_discard_5 : decode cX12_discard 5 = .ok (.iconst 0, 1) := by decide +kernel
theorem dX12_discard_6 : decode cX12_discard 6 = .ok (.istore_n 1, 1) := by decide +kernel
theorem dX12_discard_7 : decode cX12_discard 7 = .ok (.iload_n 1, 1) := by decide +kernel
theorem dX12_discard_8 : decode cX12_discard 8 = .ok (.bipush 100, 2) := by decide +kernel
theorem dX12_discard_10 : decode cX12_discard 10 = .ok (.if_icmp .ge 16, 3) := by decide +kernel
theorem dX12_discard_13 : decode cX12_discard 13 = .ok (.aload_n 0, 1) := by decide +kernel
theorem dX12_discard_14 : decode cX12_discard 14 = .ok (.getfield 63, 3) := by decide +kernel
theorem dX12_discard_17 : decode cX12_discard 17 = .ok (.iload_n 1, 1) := by decide +kernel
theorem dX12_discard_18 : decode cX12_discard 18 = .ok (.iconst 0, 1) := by decide +kernel
theorem dX12_discard_19 : decode cX12_discard 19 = .ok (.bastore, 1) := by decide +kernel
theorem dX12_discard_20 : decode cX12_discard 20 = .ok (.iinc 1 1, 3) := by decide +kernel
theorem dX12_discard_23 : decode cX12_discard 23 = .ok (.goto (-16), 3) := by decide +kernel
theorem dX12_discard_26 : decode cX12_discard 26 = .ok (.return_, 1) := by decide +kernel
theorem dX12_emit_0 : decode cX12_emit 0 = .ok (.aload_n 0, 1) := by decide +kernel
theorem dX12_emit_1 : decode cX12_emit 1 = .ok (.iconst 0, 1) := by decide +kernel
theorem dX12_emit_2 : decode cX12_emit 2 = .ok (.putfield 90, 3) := by decide +kernel
theorem dX12_emit_5 : decode cX12_emit 5 = .ok (.iload_n 1, 1) := by decide +kernel
theorem dX12_emit_6 : decode cX12_emit 6 = .ok (.ifCond .lt 9, 3) := by decide +kernel
theorem dX12_emit_9 : decode cX12_emit 9 = .ok (.iload_n 1, 1) := by decide +kernel
theorem dX12_emit_10 : decode cX12_emit 10 = .ok (.bipush 45, 2) := by decide +kernel
theorem dX12_emit_12 : decode cX12_emit 12 = .ok (.if_icmp .le 9, 3) := by decide +kernel
theorem dX12_emit_15 : decode cX12_emit 15 = .ok (.aload_n 0, 1) := by decide +kernel
theorem dX12_emit_16 : decode cX12_emit 16 = .ok (.iconst 1, 1) := by decide +kernel
theorem dX12_emit_17 : decode cX12_emit 17 = .ok (.invokevirtual 126, 3) := by decide +kernel
theorem dX12_emit_20 : decode cX12_emit 20 = .ok (.ireturn, 1) := by decide +kernel
theorem dX12_emit_21 : decode cX12_emit 21 = .ok (.aload_n 0, 1) := by decide +kernel
theorem dX12_emit_22 : decode cX12_emit 22 = .ok (.getfield 152, 3) := by decide +kernel
theorem dX12_emit_25 : decode cX12_emit 25 = .ok (.ifCond .eq 12, 3) := by decide +kernel
theorem dX12_emit_28 : decode cX12_emit 28 = .ok (.aload_n 0, 1) := by decide +kernel
theorem dX12_emit_29 : decode cX12_emit 29 = .ok (.getfield 165, 3) := by decide +kernel
theorem dX12_emit_32 : decode cX12_emit 32 = .ok (.bipush 100, 2) := by decide +kernel
theorem dX12_emit_34 : decode cX12_emit 34 = .ok (.if_icmp .ne 9, 3) := by decide +kernel
theorem dX12_emit_37 : decode cX12_emit 37 = .ok (.aload_n 0, 1) := by decide +kernel
theorem dX12_emit_38 : decode cX12_emit 38 = .ok (.iconst 2, 1) := by decide +kernel
theorem dX12_emit_39 : decode cX12_emit 39 = .ok (.invokevirtual 126, 3) := by decide +kernel
theorem dX12_emit_42 : decode cX12_emit 42 = .ok (.ireturn, 1) := by decide +kernel
theorem dX12_emit_43 : decode cX12_emit 43 = .ok (.aload_n 0, 1) := by decide +kernel
theorem dX12_emit_44 : decode cX12_emit 44 = .ok (.getfield 45, 3) := by decide +kernel
theorem dX12_emit_47 : decode cX12_emit 47 = .ok (.aload_n 0, 1) := by decide +kernel
theorem dX12_emit_48 : decode cX12_emit 48 = .ok (.getfield 165, 3) := by decide +kernel
theorem dX12_emit_51 : decode cX12_emit 51 = .ok (.iload_n 1, 1) := by decide +kernel
theorem dX12_emit_52 : decode cX12_emit 52 = .ok (.iastore, 1) := by decide +kernel
theorem dX12_emit_53 : decode cX12_emit 53 = .ok (.aload_n 0, 1) := by decide +kernel
theorem dX12_emit_54 : decode cX12_emit 54 = .ok (.getfield 48, 3) := by decide +kernel
theorem dX12_emit_57 : decode cX12_emit 57 = .ok (.aload_n 0, 1) := by decide +kernel
theorem dX12_emit_58 : decode cX12_emit 58 = .ok (.getfield 165, 3) := by decide +kernel
theorem dX12_emit_61 : decode cX12_emit 61 = .ok (.iload_n 2, 1) := by decide +kernel
theorem dX12_emit_62 : decode cX12_emit 62 = .ok (.iastore, 1) := by decide +kernel
theorem dX12_emit_63 : decode cX12_emit 63 = .ok (.aload_n 0, 1) := by decide +kernel
theorem dX12_emit_64 : decode cX12_emit 64 = .ok (.dup, 1) := by decide +kernel
theorem dX12_emit_65 : decode cX12_emit 65 = .ok (.getfield 165, 3) := by decide +kernel
theorem dX12_emit_68 : decode cX12_emit 68 = .ok (.iconst 1, 1) := by decide +kernel
theorem dX12_emit_69 : decode cX12_emit 69 = .ok (.iadd, 1) := by decide +kernel
theorem dX12_emit_70 : decode cX12_emit 70 = .ok (.putfield 165, 3) := by decide +kernel
theorem dX12_emit_73 : decode cX12_emit 73 = .ok (.aload_n 0, 1) := by decide +kernel
theorem dX12_emit_74 : decode cX12_emit 74 = .ok (.invokevirtual 171, 3) := by decide +kernel
theorem dX12_emit_77 : decode cX12_emit 77 = .ok (.aload_n 0, 1) := by decide +kernel
theorem dX12_emit_78 : decode cX12_emit 78 = .ok (.getfield 165, 3) := by decide +kernel
theorem dX12_emit_81 : decode cX12_emit 81 = .ok (.iconst 1, 1) := by decide +kernel
theorem dX12_emit_82 : decode cX12_emit 82 = .ok (.isub, 1) := by decide +kernel
theorem dX12_emit_83 : decode cX12_emit 83 = .ok (.ireturn, 1) := by decide +kernel
theorem dX12_addHandler_0 : decode cX12_addHandler 0 = .ok (.aload_n 0, 1) := by decide +kernel
theorem dX12_addHandler_1 : decode cX12_addHandler 1 = .ok (.iconst 0, 1) := by decide +kernel
theorem dX12_addHandler_2 : decode cX12_addHandler 2 = .ok (.putfield 90, 3) := by decide +kernel
theorem dX12_addHandler_5 : decode cX12_addHandler 5 = .ok (.aload_n 0, 1) := by decide +kernel
theorem dX12_addHandler_6 : decode cX12_addHandler 6 = .ok (.iload 4, 2) := by decide +kernel
theorem dX12_addHandler_8 : decode cX12_addHandler 8 = .ok (.invokevirtual 109, 3) := by decide +kernel
theorem dX12_addHandler_11 : decode cX12_addHandler 11 = .ok (.ifCond .ne 9, 3) := by decide +kernel
theorem dX12_addHandler_14 : decode cX12_addHandler 14 = .ok (.aload_n 0, 1) := by decide +kernel
theorem dX12_addHandler_15 : decode cX12_addHandler 15 = .ok (.iconst 1, 1) := by decide +kernel
theorem dX12_addHandler_16 : decode cX12_addHandler 16 = .ok (.invokevirtual 126, 3) := by decide +kernel
theorem dX12_addHandler_19 : decode cX12_addHandler 19 = .ok (.ireturn, 1) := by decide +kernel
theorem dX12_addHandler_20 : decode cX12_addHandler 20 = .ok (.aload_n 0, 1) := by decide +kernel
theorem dX12_addHandler_21 : decode cX12_addHandler 21 = .ok (.getfield 152, 3) := by decide +kernel
theorem dX12_addHandler_24 : decode cX12_addHandler 24 = .ok (.ifCond .eq 12, 3) := by decide +kernel
theorem dX12_addHandler_27 : decode cX12_addHandler 27 = .ok (.aload_n 0, 1) := by decide +kernel
theorem dX12_addHandler_28 : decode cX12_addHandler 28 = .ok (.getfield 168, 3) := by decide +kernel
theorem dX12_addHandler_31 : decode cX12_addHandler 31 = .ok (.bipush 10, 2) := by decide +kernel
theorem dX12_addHandler_33 : decode cX12_addHandler 33 = .ok (.if_icmp .ne 9, 3) := by decide +kernel
theorem dX12_addHandler_36 : decode cX12_addHandler 36 = .ok (.aload_n 0, 1) := by decide +kernel
theorem dX12_addHandler_37 : decode cX12_addHandler 37 = .ok (.iconst 2, 1) := by decide +kernel
theorem dX12_addHandler_38 : decode cX12_addHandler 38 = .ok (.invokevirtual 126, 3) := by decide +kernel
theorem dX12_addHandler_41 : decode cX12_addHandler 41 = .ok (.ireturn, 1) := by decide +kernel
theorem dX12_addHandler_42 : decode cX12_addHandler 42 = .ok (.aload_n 0, 1) := by decide +kernel
theorem dX12_addHandler_43 : decode cX12_addHandler 43 = .ok (.getfield 51, 3) := by decide +kernel
theorem dX12_addHandler_46 : decode cX12_addHandler 46 = .ok (.aload_n 0, 1) := by decide +kernel
theorem dX12_addHandler_47 : decode cX12_addHandler 47 = .ok (.getfield 168, 3) := by decide +kernel
theorem dX12_addHandler_50 : decode cX12_addHandler 50 = .ok (.iload_n 1, 1) := by decide +kernel
theorem dX12_addHandler_51 : decode cX12_addHandler 51 = .ok (.iastore, 1) := by decide +kernel
theorem dX12_addHandler_52 : decode cX12_addHandler 52 = .ok (.aload_n 0, 1) := by decide +kernel
theorem dX12_addHandler_53 : decode cX12_addHandler 53 = .ok (.getfield 54, 3) := by decide +kernel
theorem dX12_addHandler_56 : decode cX12_addHandler 56 = .ok (.aload_n 0, 1) := by decide +kernel
theorem dX12_addHandler_57 : decode cX12_addHandler 57 = .ok (.getfield 168, 3) := by decide +kernel
theorem dX12_addHandler_60 : decode cX12_addHandler 60 = .ok (.iload_n 2, 1) := by decide +kernel
theorem dX12_addHandler_61 : decode cX12_addHandler 61 = .ok (.iastore, 1) := by decide +kernel
theorem dX12_addHandler_62 : decode cX12_addHandler 62 = .ok (.aload_n 0, 1) := by decide +kernel
theorem dX12_addHandler_63 : decode cX12_addHandler 63 = .ok (.getfield 57, 3) := by decide +kernel
theorem dX12_addHandler_66 : decode cX12_addHandler 66 = .ok (.aload_n 0, 1) := by decide +kernel
theorem dX12_addHandler_67 : decode cX12_addHandler 67 = .ok (.getfield 168, 3) := by decide +kernel
theorem dX12_addHandler_70 : decode cX12_addHandler 70 = .ok (.iload_n 3, 1) := by decide +kernel
theorem dX12_addHandler_71 : decode cX12_addHandler 71 = .ok (.iastore, 1) := by decide +kernel
theorem dX12_addHandler_72 : decode cX12_addHandler 72 = .ok (.aload_n 0, 1) := by decide +kernel
theorem dX12_addHandler_73 : decode cX12_addHandler 73 = .ok (.getfield 60, 3) := by decide +kernel
theorem dX12_addHandler_76 : decode cX12_addHandler 76 = .ok (.aload_n 0, 1) := by decide +kernel
theorem dX12_addHandler_77 : decode cX12_addHandler 77 = .ok (.getfield 168, 3) := by decide +kernel
theorem dX12_addHandler_80 : decode cX12_addHandler 80 = .ok (.iload 4, 2) := by decide +kernel
theorem dX12_addHandler_82 : decode cX12_addHandler 82 = .ok (.iastore, 1) := by decide +kernel
theorem dX12_addHandler_83 : decode cX12_addHandler 83 = .ok (.aload_n 0, 1) := by decide +kernel
theorem dX12_addHandler_84 : decode cX12_addHandler 84 = .ok (.dup, 1) := by decide +kernel
theorem dX12_addHandler_85 : decode cX12_addHandler 85 = .ok (.getfield 168, 3) := by decide +kernel
theorem dX12_addHandler_88 : decode cX12_addHandler 88 = .ok (.iconst 1, 1) := by decide +kernel
theorem dX12_addHandler_89 : decode cX12_addHandler 89 = .ok (.iadd, 1) := by decide +kernel
theorem dX12_addHandler_90 : decode cX12_addHandler 90 = .ok (.putfield 168, 3) := by decide +kernel
theorem dX12_addHandler_93 : decode cX12_addHandler 93 = .ok (.aload_n 0, 1) := by decide +kernel
theorem dX12_addHandler_94 : decode cX12_addHandler 94 = .ok (.invokevirtual 171, 3) := by decide +kernel
theorem dX12_addHandler_97 : decode cX12_addHandler 97 = .ok (.aload_n 0, 1) := by decide +kernel
theorem dX12_addHandler_98 : decode cX12_addHandler 98 = .ok (.getfield 168, 3) := by decide +kernel
theorem dX12_addHandler_101 : decode cX12_addHandler 101 = .ok (.iconst 1, 1) := by decide +kernel
theorem dX12_addHandler_102 : decode cX12_addHandler 102 = .ok (.isub, 1) := by decide +kernel
theorem dX12_addHandler_103 : decode cX12_addHandler 103 = .ok (.ireturn, 1) := by decide +kernel
theorem dX12_instructionCount_0 : decode cX12_instructionCount 0 = .ok (.aload_n 0, 1) := by decide +kernel
theorem dX12_instructionCount_1 : decode cX12_instructionCount 1 = .ok (.iconst 0, 1) := by decide +kernel
theorem dX12_instructionCount_2 : decode cX12_instructionCount 2 = .ok (.putfield 90, 3) := by decide +kernel
theorem dX12_instructionCount_5 : decode cX12_instructionCount 5 = .ok (.aload_n 0, 1) := by decide +kernel
theorem dX12_instructionCount_6 : decode cX12_instructionCount 6 = .ok (.getfield 165, 3) := by decide +kernel
theorem dX12_instructionCount_9 : decode cX12_instructionCount 9 = .ok (.ireturn, 1) := by decide +kernel
theorem dX12_pushLocal_0 : decode cX12_pushLocal 0 = .ok (.aload_n 0, 1) := by decide +kernel
theorem dX12_pushLocal_1 : decode cX12_pushLocal 1 = .ok (.iconst 0, 1) := by decide +kernel
theorem dX12_pushLocal_2 : decode cX12_pushLocal 2 = .ok (.putfield 90, 3) := by decide +kernel
theorem dX12_pushLocal_5 : decode cX12_pushLocal 5 = .ok (.aload_n 0, 1) := by decide +kernel
theorem dX12_pushLocal_6 : decode cX12_pushLocal 6 = .ok (.iload_n 1, 1) := by decide +kernel
theorem dX12_pushLocal_7 : decode cX12_pushLocal 7 = .ok (.invokevirtual 123, 3) := by decide +kernel
theorem dX12_pushLocal_10 : decode cX12_pushLocal 10 = .ok (.ifCond .ne 9, 3) := by decide +kernel
theorem dX12_pushLocal_13 : decode cX12_pushLocal 13 = .ok (.aload_n 0, 1) := by decide +kernel
theorem dX12_pushLocal_14 : decode cX12_pushLocal 14 = .ok (.iconst 1, 1) := by decide +kernel
theorem dX12_pushLocal_15 : decode cX12_pushLocal 15 = .ok (.invokevirtual 126, 3) := by decide +kernel
theorem dX12_pushLocal_18 : decode cX12_pushLocal 18 = .ok (.ireturn, 1) := by decide +kernel
theorem dX12_pushLocal_19 : decode cX12_pushLocal 19 = .ok (.aload_n 0, 1) := by decide +kernel
theorem dX12_pushLocal_20 : decode cX12_pushLocal 20 = .ok (.getfield 180, 3) := by decide +kernel
theorem dX12_pushLocal_23 : decode cX12_pushLocal 23 = .ok (.bipush 12, 2) := by decide +kernel
theorem dX12_pushLocal_25 : decode cX12_pushLocal 25 = .ok (.if_icmp .ne 9, 3) := by decide +kernel
theorem dX12_pushLocal_28 : decode cX12_pushLocal 28 = .ok (.aload_n 0, 1) := by decide +kernel
theorem dX12_pushLocal_29 : decode cX12_pushLocal 29 = .ok (.iconst 2, 1) := by decide +kernel
theorem dX12_pushLocal_30 : decode cX12_pushLocal 30 = .ok (.invokevirtual 126, 3) := by decide +kernel
theorem dX12_pushLocal_33 : decode cX12_pushLocal 33 = .ok (.ireturn, 1) := by decide +kernel
theorem dX12_pushLocal_34 : decode cX12_pushLocal 34 = .ok (.aload_n 0, 1) := by decide +kernel
theorem dX12_pushLocal_35 : decode cX12_pushLocal 35 = .ok (.getfield 75, 3) := by decide +kernel
theorem dX12_pushLocal_38 : decode cX12_pushLocal 38 = .ok (.aload_n 0, 1) := by decide +kernel
theorem dX12_pushLocal_39 : decode cX12_pushLocal 39 = .ok (.getfield 180, 3) := by decide +kernel
theorem dX12_pushLocal_42 : decode cX12_pushLocal 42 = .ok (.iload_n 1, 1) := by decide +kernel
theorem dX12_pushLocal_43 : decode cX12_pushLocal 43 = .ok (.iastore, 1) := by decide +kernel
theorem dX12_pushLocal_44 : decode cX12_pushLocal 44 = .ok (.aload_n 0, 1) := by decide +kernel
theorem dX12_pushLocal_45 : decode cX12_pushLocal 45 = .ok (.dup, 1) := by decide +kernel
theorem dX12_pushLocal_46 : decode cX12_pushLocal 46 = .ok (.getfield 180, 3) := by decide +kernel
theorem dX12_pushLocal_49 : decode cX12_pushLocal 49 = .ok (.iconst 1, 1) := by decide +kernel
theorem dX12_pushLocal_50 : decode cX12_pushLocal 50 = .ok (.iadd, 1) := by decide +kernel
theorem dX12_pushLocal_51 : decode cX12_pushLocal 51 = .ok (.putfield 180, 3) := by decide +kernel
theorem dX12_pushLocal_54 : decode cX12_pushLocal 54 = .ok (.aload_n 0, 1) := by decide +kernel
theorem dX12_pushLocal_55 : decode cX12_pushLocal 55 = .ok (.getfield 180, 3) := by decide +kernel
theorem dX12_pushLocal_58 : decode cX12_pushLocal 58 = .ok (.ireturn, 1) := by decide +kernel
theorem dX12_pushStack_0 : decode cX12_pushStack 0 = .ok (.aload_n 0, 1) := by decide +kernel
theorem dX12_pushStack_1 : decode cX12_pushStack 1 = .ok (.iconst 0, 1) := by decide +kernel
theorem dX12_pushStack_2 : decode cX12_pushStack 2 = .ok (.putfield 90, 3) := by decide +kernel
theorem dX12_pushStack_5 : decode cX12_pushStack 5 = .ok (.aload_n 0, 1) := by decide +kernel
theorem dX12_pushStack_6 : decode cX12_pushStack 6 = .ok (.iload_n 1, 1) := by decide +kernel
theorem dX12_pushStack_7 : decode cX12_pushStack 7 = .ok (.invokevirtual 123, 3) := by decide +kernel
theorem dX12_pushStack_10 : decode cX12_pushStack 10 = .ok (.ifCond .ne 9, 3) := by decide +kernel
theorem dX12_pushStack_13 : decode cX12_pushStack 13 = .ok (.aload_n 0, 1) := by decide +kernel
theorem dX12_pushStack_14 : decode cX12_pushStack 14 = .ok (.iconst 1, 1) := by decide +kernel
theorem dX12_pushStack_15 : decode cX12_pushStack 15 = .ok (.invokevirtual 126, 3) := by decide +kernel
theorem dX12_pushStack_18 : decode cX12_pushStack 18 = .ok (.ireturn, 1) := by decide +kernel
theorem dX12_pushStack_19 : decode cX12_pushStack 19 = .ok (.aload_n 0, 1) := by decide +kernel
theorem dX12_pushStack_20 : decode cX12_pushStack 20 = .ok (.getfield 183, 3) := by decide +kernel
theorem dX12_pushStack_23 : decode cX12_pushStack 23 = .ok (.bipush 12, 2) := by decide +kernel
theorem dX12_pushStack_25 : decode cX12_pushStack 25 = .ok (.if_icmp .ne 9, 3) := by decide +kernel
theorem dX12_pushStack_28 : decode cX12_pushStack 28 = .ok (.aload_n 0, 1) := by decide +kernel
theorem dX12_pushStack_29 : decode cX12_pushStack 29 = .ok (.iconst 2, 1) := by decide +kernel
theorem dX12_pushStack_30 : decode cX12_pushStack 30 = .ok (.invokevirtual 126, 3) := by decide +kernel
theorem dX12_pushStack_33 : decode cX12_pushStack 33 = .ok (.ireturn, 1) := by decide +kernel
theorem dX12_pushStack_34 : decode cX12_pushStack 34 = .ok (.aload_n 0, 1) := by decide +kernel
theorem dX12_pushStack_35 : decode cX12_pushStack 35 = .ok (.getfield 75, 3) := by decide +kernel
theorem dX12_pushStack_38 : decode cX12_pushStack 38 = .ok (.bipush 12, 2) := by decide +kernel
theorem dX12_pushStack_40 : decode cX12_pushStack 40 = .ok (.aload_n 0, 1) := by decide +kernel
theorem dX12_pushStack_41 : decode cX12_pushStack 41 = .ok (.getfield 183, 3) := by decide +kernel
theorem dX12_pushStack_44 : decode cX12_pushStack 44 = .ok (.iadd, 1) := by decide +kernel
theorem dX12_pushStack_45 : decode cX12_pushStack 45 = .ok (.iload_n 1, 1) := by decide +kernel
theorem dX12_pushStack_46 : decode cX12_pushStack 46 = .ok (.iastore, 1) := by decide +kernel
theorem dX12_pushStack_47 : decode cX12_pushStack 47 = .ok (.aload_n 0, 1) := by decide +kernel
theorem dX12_pushStack_48 : decode cX12_pushStack 48 = .ok (.dup, 1) := by decide +kernel
theorem dX12_pushStack_49 : decode cX12_pushStack 49 = .ok (.getfield 183, 3) := by decide +kernel
theorem dX12_pushStack_52 : decode cX12_pushStack 52 = .ok (.iconst 1, 1) := by decide +kernel
theorem dX12_pushStack_53 : decode cX12_pushStack 53 = .ok (.iadd, 1) := by decide +kernel
theorem dX12_pushStack_54 : decode cX12_pushStack 54 = .ok (.putfield 183, 3) := by decide +kernel
theorem dX12_pushStack_57 : decode cX12_pushStack 57 = .ok (.aload_n 0, 1) := by decide +kernel
theorem dX12_pushStack_58 : decode cX12_pushStack 58 = .ok (.getfield 183, 3) := by decide +kernel
theorem dX12_pushStack_61 : decode cX12_pushStack 61 = .ok (.ireturn, 1) := by decide +kernel
theorem dX12_declaredCount_0 : decode cX12_declaredCount 0 = .ok (.iconst 0, 1) := by decide +kernel
theorem dX12_declaredCount_1 : decode cX12_declaredCount 1 = .ok (.istore_n 1, 1) := by decide +kernel
theorem dX12_declaredCount_2 : decode cX12_declaredCount 2 = .ok (.iconst 0, 1) := by decide +kernel
theorem dX12_declaredCount_3 : decode cX12_declaredCount 3 = .ok (.istore_n 2, 1) := by decide +kernel
theorem dX12_declaredCount_4 : decode cX12_declaredCount 4 = .ok (.iload_n 2, 1) := by decide +kernel
theorem dX12_declaredCount_5 : decode cX12_declaredCount 5 = .ok (.aload_n 0, 1) := by decide +kernel
theorem dX12_declaredCount_6 : decode cX12_declaredCount 6 = .ok (.getfield 165, 3) := by decide +kernel
theorem dX12_declaredCount_9 : decode cX12_declaredCount 9 = .ok (.if_icmp .ge 26, 3) := by decide +kernel
theorem dX12_declaredCount_12 : decode cX12_declaredCount 12 = .ok (.iload_n 1, 1) := by decide +kernel
theorem dX12_declaredCount_13 : decode cX12_declaredCount 13 = .ok (.aload_n 0, 1) := by decide +kernel
theorem dX12_declaredCount_14 : decode cX12_declaredCount 14 = .ok (.getfield 69, 3) := by decide +kernel
theorem dX12_declaredCount_17 : decode cX12_declaredCount 17 = .ok (.iload_n 2, 1) := by decide +kernel
theorem dX12_declaredCount_18 : decode cX12_declaredCount 18 = .ok (.baload, 1) := by decide +kernel
theorem dX12_declaredCount_19 : decode cX12_declaredCount 19 = .ok (.ifCond .eq 7, 3) := by decide +kernel
theorem dX12_declaredCount_22 : decode cX12_declaredCount 22 = .ok (.iconst 1, 1) := by decide +kernel
theorem dX12_declaredCount_23 : decode cX12_declaredCount 23 = .ok (.goto 4, 3) := by decide +kernel
theorem dX12_declaredCount_26 : decode cX12_declaredCount 26 = .ok (.iconst 0, 1) := by decide +kernel
theorem dX12_declaredCount_27 : decode cX12_declaredCount 27 = .ok (.iadd, 1) := by decide +kernel
theorem dX12_declaredCount_28 : decode cX12_declaredCount 28 = .ok (.istore_n 1, 1) := by decide +kernel
theorem dX12_declaredCount_29 : decode cX12_declaredCount 29 = .ok (.iinc 2 1, 3) := by decide +kernel
theorem dX12_declaredCount_32 : decode cX12_declaredCount 32 = .ok (.goto (-28), 3) := by decide +kernel
theorem dX12_declaredCount_35 : decode cX12_declaredCount 35 = .ok (.iload_n 1, 1) := by decide +kernel
theorem dX12_declaredCount_36 : decode cX12_declaredCount 36 = .ok (.ireturn, 1) := by decide +kernel
theorem dX12_isPaired_0 : decode cX12_isPaired 0 = .ok (.iconst 1, 1) := by decide +kernel
theorem dX12_isPaired_1 : decode cX12_isPaired 1 = .ok (.istore_n 3, 1) := by decide +kernel
theorem dX12_isPaired_2 : decode cX12_isPaired 2 = .ok (.iconst 0, 1) := by decide +kernel
theorem dX12_isPaired_3 : decode cX12_isPaired 3 = .ok (.istore 4, 2) := by decide +kernel
theorem dX12_isPaired_5 : decode cX12_isPaired 5 = .ok (.iload 4, 2) := by decide +kernel
theorem dX12_isPaired_7 : decode cX12_isPaired 7 = .ok (.iload_n 2, 1) := by decide +kernel
theorem dX12_isPaired_8 : decode cX12_isPaired 8 = .ok (.if_icmp .ge 92, 3) := by decide +kernel
theorem dX12_isPaired_11 : decode cX12_isPaired 11 = .ok (.aload_n 0, 1) := by decide +kernel
theorem dX12_isPaired_12 : decode cX12_isPaired 12 = .ok (.getfield 75, 3) := by decide +kernel
theorem dX12_isPaired_15 : decode cX12_isPaired 15 = .ok (.iload_n 1, 1) := by decide +kernel
theorem dX12_isPaired_16 : decode cX12_isPaired 16 = .ok (.iload 4, 2) := by decide +kernel
theorem dX12_isPaired_18 : decode cX12_isPaired 18 = .ok (.iadd, 1) := by decide +kernel
theorem dX12_isPaired_19 : decode cX12_isPaired 19 = .ok (.iaload, 1) := by decide +kernel
theorem dX12_isPaired_20 : decode cX12_isPaired 20 = .ok (.bipush 8, 2) := by decide +kernel
theorem dX12_isPaired_22 : decode cX12_isPaired 22 = .ok (.if_icmp .ne 7, 3) := by decide +kernel
theorem dX12_isPaired_25 : decode cX12_isPaired 25 = .ok (.iconst 1, 1) := by decide +kernel
theorem dX12_isPaired_26 : decode cX12_isPaired 26 = .ok (.goto 4, 3) := by decide +kernel
theorem dX12_isPaired_29 : decode cX12_isPaired 29 = .ok (.iconst 0, 1) := by decide +kernel
theorem dX12_isPaired_30 : decode cX12_isPaired 30 = .ok (.istore 5, 2) := by decide +kernel
theorem dX12_isPaired_32 : decode cX12_isPaired 32 = .ok (.iload 4, 2) := by decide +kernel
theorem dX12_isPaired_34 : decode cX12_isPaired 34 = .ok (.iconst 1, 1) := by decide +kernel
theorem dX12_isPaired_35 : decode cX12_isPaired 35 = .ok (.iadd, 1) := by decide +kernel
theorem dX12_isPaired_36 : decode cX12_isPaired 36 = .ok (.iload_n 2, 1) := by decide +kernel
theorem dX12_isPaired_37 : decode cX12_isPaired 37 = .ok (.if_icmp .ge 23, 3) := by decide +kernel
theorem dX12_isPaired_40 : decode cX12_isPaired 40 = .ok (.aload_n 0, 1) := by decide +kernel
theorem dX12_isPaired_41 : decode cX12_isPaired 41 = .ok (.getfield 75, 3) := by decide +kernel
theorem dX12_isPaired_44 : decode cX12_isPaired 44 = .ok (.iload_n 1, 1) := by decide +kernel
theorem dX12_isPaired_45 : decode cX12_isPaired 45 = .ok (.iload 4, 2) := by decide +kernel
theorem dX12_isPaired_47 : decode cX12_isPaired 47 = .ok (.iadd, 1) := by decide +kernel
theorem dX12_isPaired_48 : decode cX12_isPaired 48 = .ok (.iconst 1, 1) := by decide +kernel
theorem dX12_isPaired_49 : decode cX12_isPaired 49 = .ok (.iadd, 1) := by decide +kernel
theorem dX12_isPaired_50 : decode cX12_isPaired 50 = .ok (.iaload, 1) := by decide +kernel
theorem dX12_isPaired_51 : decode cX12_isPaired 51 = .ok (.bipush (-3), 2) := by decide +kernel
theorem dX12_isPaired_53 : decode cX12_isPaired 53 = .ok (.if_icmp .ne 7, 3) := by decide +kernel
theorem dX12_isPaired_56 : decode cX12_isPaired 56 = .ok (.iconst 1, 1) := by decide +kernel
theorem dX12_isPaired_57 : decode cX12_isPaired 57 = .ok (.goto 4, 3) := by decide +kernel
theorem dX12_isPaired_60 : decode cX12_isPaired 60 = .ok (.iconst 0, 1) := by decide +kernel
theorem dX12_isPaired_61 : decode cX12_isPaired 61 = .ok (.istore 6, 2) := by decide +kernel
theorem dX12_isPaired_63 : decode cX12_isPaired 63 = .ok (.iload_n 3, 1) := by decide +kernel
theorem dX12_isPaired_64 : decode cX12_isPaired 64 = .ok (.iload 5, 2) := by decide +kernel
theorem dX12_isPaired_66 : decode cX12_isPaired 66 = .ok (.iload 6, 2) := by decide +kernel
theorem dX12_isPaired_68 : decode cX12_isPaired 68 = .ok (.if_icmp .ne 23, 3) := by decide +kernel
theorem dX12_isPaired_71 : decode cX12_isPaired 71 = .ok (.iload 4, 2) := by decide +kernel
theorem dX12_isPaired_73 : decode cX12_isPaired 73 = .ok (.ifCond .gt 14, 3) := by decide +kernel
theorem dX12_isPaired_76 : decode cX12_isPaired 76 = .ok (.aload_n 0, 1) := by decide +kernel
theorem dX12_isPaired_77 : decode cX12_isPaired 77 = .ok (.getfield 75, 3) := by decide +kernel
theorem dX12_isPaired_80 : decode cX12_isPaired 80 = .ok (.iload_n 1, 1) := by decide +kernel
theorem dX12_isPaired_81 : decode cX12_isPaired 81 = .ok (.iaload, 1) := by decide +kernel
theorem dX12_isPaired_82 : decode cX12_isPaired 82 = .ok (.bipush (-3), 2) := by decide +kernel
theorem dX12_isPaired_84 : decode cX12_isPaired 84 = .ok (.if_icmp .eq 7, 3) := by decide +kernel
theorem dX12_isPaired_87 : decode cX12_isPaired 87 = .ok (.iconst 1, 1) := by decide +kernel
theorem dX12_isPaired_88 : decode cX12_isPaired 88 = .ok (.goto 4, 3) := by decide +kernel
theorem dX12_isPaired_91 : decode cX12_isPaired 91 = .ok (.iconst 0, 1) := by decide +kernel
theorem dX12_isPaired_92 : decode cX12_isPaired 92 = .ok (.iand, 1) := by decide +kernel
theorem dX12_isPaired_93 : decode cX12_isPaired 93 = .ok (.istore_n 3, 1) := by decide +kernel
theorem dX12_isPaired_94 : decode cX12_isPaired 94 = .ok (.iinc 4 1, 3) := by decide +kernel
theorem dX12_isPaired_97 : decode cX12_isPaired 97 = .ok (.goto (-92), 3) := by decide +kernel
theorem dX12_isPaired_100 : decode cX12_isPaired 100 = .ok (.iload_n 3, 1) := by decide +kernel
theorem dX12_isPaired_101 : decode cX12_isPaired 101 = .ok (.ireturn, 1) := by decide +kernel
theorem dX12_declareFrame_0 : decode cX12_declareFrame 0 = .ok (.aload_n 0, 1) := by decide +kernel
theorem dX12_declareFrame_1 : decode cX12_declareFrame 1 = .ok (.iconst 0, 1) := by decide +kernel
theorem dX12_declareFrame_2 : decode cX12_declareFrame 2 = .ok (.putfield 90, 3) := by decide +kernel
theorem dX12_declareFrame_5 : decode cX12_declareFrame 5 = .ok (.aload_n 0, 1) := by decide +kernel
theorem dX12_declareFrame_6 : decode cX12_declareFrame 6 = .ok (.getfield 180, 3) := by decide +kernel
theorem dX12_declareFrame_9 : decode cX12_declareFrame 9 = .ok (.istore_n 3, 1) := by decide +kernel
theorem dX12_declareFrame_10 : decode cX12_declareFrame 10 = .ok (.aload_n 0, 1) := by decide +kernel
theorem dX12_declareFrame_11 : decode cX12_declareFrame 11 = .ok (.getfield 183, 3) := by decide +kernel
theorem dX12_declareFrame_14 : decode cX12_declareFrame 14 = .ok (.istore 4, 2) := by decide +kernel
theorem dX12_declareFrame_16 : decode cX12_declareFrame 16 = .ok (.aload_n 0, 1) := by decide +kernel
theorem dX12_declareFrame_17 : decode cX12_declareFrame 17 = .ok (.iconst 0, 1) := by decide +kernel
theorem dX12_declareFrame_18 : decode cX12_declareFrame 18 = .ok (.putfield 180, 3) := by decide +kernel
theorem dX12_declareFrame_21 : decode cX12_declareFrame 21 = .ok (.aload_n 0, 1) := by decide +kernel
theorem dX12_declareFrame_22 : decode cX12_declareFrame 22 = .ok (.iconst 0, 1) := by decide +kernel
theorem dX12_declareFrame_23 : decode cX12_declareFrame 23 = .ok (.putfield 183, 3) := by decide +kernel
theorem dX12_declareFrame_26 : decode cX12_declareFrame 26 = .ok (.iload_n 1, 1) := by decide +kernel
theorem dX12_declareFrame_27 : decode cX12_declareFrame 27 = .ok (.ifCond .lt 11, 3) := by decide +kernel
theorem dX12_declareFrame_30 : decode cX12_declareFrame 30 = .ok (.iload_n 1, 1) := by decide +kernel
theorem dX12_declareFrame_31 : decode cX12_declareFrame 31 = .ok (.aload_n 0, 1) := by decide +kernel
theorem dX12_declareFrame_32 : decode cX12_declareFrame 32 = .ok (.getfield 165, 3) := by decide +kernel
theorem dX12_declareFrame_35 : decode cX12_declareFrame 35 = .ok (.if_icmp .lt 9, 3) := by decide +kernel
theorem dX12_declareFrame_38 : decode cX12_declareFrame 38 = .ok (.aload_n 0, 1) := by decide +kernel
theorem dX12_declareFrame_39 : decode cX12_declareFrame 39 = .ok (.iconst 1, 1) := by decide +kernel
theorem dX12_declareFrame_40 : decode cX12_declareFrame 40 = .ok (.invokevirtual 126, 3) := by decide +kernel
theorem dX12_declareFrame_43 : decode cX12_declareFrame 43 = .ok (.ireturn, 1) := by decide +kernel
theorem dX12_declareFrame_44 : decode cX12_declareFrame 44 = .ok (.iload_n 3, 1) := by decide +kernel
theorem dX12_declareFrame_45 : decode cX12_declareFrame 45 = .ok (.aload_n 0, 1) := by decide +kernel
theorem dX12_declareFrame_46 : decode cX12_declareFrame 46 = .ok (.getfield 162, 3) := by decide +kernel
theorem dX12_declareFrame_49 : decode cX12_declareFrame 49 = .ok (.if_icmp .gt 32, 3) := by decide +kernel
theorem dX12_declareFrame_52 : decode cX12_declareFrame 52 = .ok (.iload 4, 2) := by decide +kernel
theorem dX12_declareFrame_54 : decode cX12_declareFrame 54 = .ok (.aload_n 0, 1) := by decide +kernel
theorem dX12_declareFrame_55 : decode cX12_declareFrame 55 = .ok (.getfield 159, 3) := by decide +kernel
theorem dX12_declareFrame_58 : decode cX12_declareFrame 58 = .ok (.if_icmp .gt 23, 3) := by decide +kernel
theorem dX12_declareFrame_61 : decode cX12_declareFrame 61 = .ok (.aload_n 0, 1) := by decide +kernel
theorem dX12_declareFrame_62 : decode cX12_declareFrame 62 = .ok (.iconst 0, 1) := by decide +kernel
theorem dX12_declareFrame_63 : decode cX12_declareFrame 63 = .ok (.iload_n 3, 1) := by decide +kernel
theorem dX12_declareFrame_64 : decode cX12_declareFrame 64 = .ok (.invokevirtual 186, 3) := by decide +kernel
theorem dX12_declareFrame_67 : decode cX12_declareFrame 67 = .ok (.ifCond .eq 14, 3) := by decide +kernel
theorem dX12_declareFrame_70 : decode cX12_declareFrame 70 = .ok (.aload_n 0, 1) := by decide +kernel
theorem dX12_declareFrame_71 : decode cX12_declareFrame 71 = .ok (.bipush 12, 2) := by decide +kernel
theorem dX12_declareFrame_73 : decode cX12_declareFrame 73 = .ok (.iload 4, 2) := by decide +kernel
theorem dX12_declareFrame_75 : decode cX12_declareFrame 75 = .ok (.invokevirtual 186, 3) := by decide +kernel
theorem dX12_declareFrame_78 : decode cX12_declareFrame 78 = .ok (.ifCond .ne 9, 3) := by decide +kernel
theorem dX12_declareFrame_81 : decode cX12_declareFrame 81 = .ok (.aload_n 0, 1) := by decide +kernel
theorem dX12_declareFrame_82 : decode cX12_declareFrame 82 = .ok (.iconst 2, 1) := by decide +kernel
theorem dX12_declareFrame_83 : decode cX12_declareFrame 83 = .ok (.invokevirtual 126, 3) := by decide +kernel
theorem dX12_declareFrame_86 : decode cX12_declareFrame 86 = .ok (.ireturn, 1) := by decide +kernel
theorem dX12_declareFrame_87 : decode cX12_declareFrame 87 = .ok (.iconst 0, 1) := by decide +kernel
theorem dX12_declareFrame_88 : decode cX12_declareFrame 88 = .ok (.istore 5, 2) := by decide +kernel
theorem dX12_declareFrame_90 : decode cX12_declareFrame 90 = .ok (.iload 5, 2) := by decide +kernel
theorem dX12_declareFrame_92 : decode cX12_declareFrame 92 = .ok (.bipush 12, 2) := by decide +kernel
theorem dX12_declareFrame_94 : decode cX12_declareFrame 94 = .ok (.if_icmp .ge 76, 3) := by decide +kernel
theorem dX12_declareFrame_97 : decode cX12_declareFrame 97 = .ok (.aload_n 0, 1) := by decide +kernel
theorem dX12_declareFrame_98 : decode cX12_declareFrame 98 = .ok (.getfield 72, 3) := by decide +kernel
theorem dX12_declareFrame_101 : decode cX12_declareFrame 101 = .ok (.bipush 26, 2) := by decide +kernel
theorem dX12_declareFrame_103 : decode cX12_declareFrame 103 = .ok (.iload_n 1, 1) := by decide +kernel
theorem dX12_declareFrame_104 : decode cX12_declareFrame 104 = .ok (.imul, 1) := by decide +kernel
theorem dX12_declareFrame_105 : decode cX12_declareFrame 105 = .ok (.iload 5, 2) := by decide +kernel
theorem dX12_declareFrame_107 : decode cX12_declareFrame 107 = .ok (.iadd, 1) := by decide +kernel
theorem dX12_declareFrame_108 : decode cX12_declareFrame 108 = .ok (.iload 5, 2) := by decide +kernel
theorem dX12_declareFrame_110 : decode cX12_declareFrame 110 = .ok (.iload_n 3, 1) := by decide +kernel
theorem dX12_declareFrame_111 : decode cX12_declareFrame 111 = .ok (.if_icmp .ge 13, 3) := by decide +kernel
theorem dX12_declareFrame_114 : decode cX12_declareFrame 114 = .ok (.aload_n 0, 1) := by decide +kernel
theorem dX12_declareFrame_115 : decode cX12_declareFrame 115 = .ok (.getfield 75, 3) := by decide +kernel
theorem dX12_declareFrame_118 : decode cX12_declareFrame 118 = .ok (.iload 5, 2) := by decide +kernel
theorem dX12_declareFrame_120 : decode cX12_declareFrame 120 = .ok (.iaload, 1) := by decide +kernel
theorem dX12_declareFrame_121 : decode cX12_declareFrame 121 = .ok (.goto 5, 3) := by decide +kernel
theorem dX12_declareFrame_124 : decode cX12_declareFrame 124 = .ok (.bipush (-2), 2) := by decide +kernel
theorem dX12_declareFrame_126 : decode cX12_declareFrame 126 = .ok (.iastore, 1) := by decide +kernel
theorem dX12_declareFrame_127 : decode cX12_declareFrame 127 = .ok (.aload_n 0, 1) := by decide +kernel
theorem dX12_declareFrame_128 : decode cX12_declareFrame 128 = .ok (.getfield 72, 3) := by decide +kernel
theorem dX12_declareFrame_131 : decode cX12_declareFrame 131 = .ok (.bipush 26, 2) := by decide +kernel
theorem dX12_declareFrame_133 : decode cX12_declareFrame 133 = .ok (.iload_n 1, 1) := by decide +kernel
theorem dX12_declareFrame_134 : decode cX12_declareFrame 134 = .ok (.imul, 1) := by decide +kernel
