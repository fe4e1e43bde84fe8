/-! words and decode rows of the helpers of the law -/
theorem win_RL : Cond.initialized RL ∈ BIG := bm 0 (by decide +kernel) (by decide +kernel)
theorem wcl_RL_13 : Cond.classLink RL 13 (zEx 1) ∈ BIG := bm 697 (by decide +kernel) (by decide +kernel)
theorem wcl_RL_15 : Cond.classLink RL 15 (zEx 2) ∈ BIG := bm 698 (by decide +kernel) (by decide +kernel)
theorem wcl_RL_24 : Cond.classLink RL 24 (zEx 3) ∈ BIG := bm 954 (by decide +kernel) (by decide +kernel)
theorem wcl_RL_26 : Cond.classLink RL 26 (zEx 4) ∈ BIG := bm 955 (by decide +kernel) (by decide +kernel)
theorem wcl_RL_42 : Cond.classLink RL 42 (zEx 5) ∈ BIG := bm 1035 (by decide +kernel) (by decide +kernel)
theorem wcw_cluster : Cond.codeWith yL_cluster cL_cluster 3 (some .int) [(0, 8, 11, 13), (0, 8, 14, 15)] ∈ BIG := bm 696 (by decide +kernel) (by decide +kernel)
theorem wstL_cluster : Cond.static yL_cluster ∈ BIG := bm 695 (by decide +kernel) (by decide +kernel)
theorem wmL_cluster : Cond.methodLink RL 132 yL_cluster ∈ BIG := bm 694 (by decide +kernel) (by decide +kernel)
theorem wm_RL_7 : Cond.methodLink RL 7 yX11_cluster ∈ BIG := bm 699 (by decide +kernel) (by decide +kernel)
theorem wi_X11_cluster : Cond.instanceMethod yX11_cluster ∈ BIG := bm 700 (by decide +kernel) (by decide +kernel)
theorem wse_X11_cluster : Cond.selects RX11 yX11_cluster yX11_cluster ∈ BIG := bm 701 (by decide +kernel) (by decide +kernel)
theorem wc_X11_cluster : Cond.code yX11_cluster cX11_cluster 1 (some .int) ∈ BIG := bm 702 (by decide +kernel) (by decide +kernel)
theorem wcw_law : Cond.codeWith yL_law cL_law 3 (some .int) [(0, 8, 11, 13)] ∈ BIG := bm 898 (by decide +kernel) (by decide +kernel)
theorem wstL_law : Cond.static yL_law ∈ BIG := bm 897 (by decide +kernel) (by decide +kernel)
theorem wmL_law : Cond.methodLink RL 141 yL_law ∈ BIG := bm 896 (by decide +kernel) (by decide +kernel)
theorem wm_RL_17 : Cond.methodLink RL 17 yX11_law ∈ BIG := bm 899 (by decide +kernel) (by decide +kernel)
theorem wi_X11_law : Cond.instanceMethod yX11_law ∈ BIG := bm 900 (by decide +kernel) (by decide +kernel)
theorem wse_X11_law : Cond.selects RX11 yX11_law yX11_law ∈ BIG := bm 901 (by decide +kernel) (by decide +kernel)
theorem wc_X11_law : Cond.code yX11_law cX11_law 1 (some .int) ∈ BIG := bm 902 (by decide +kernel) (by decide +kernel)
theorem wcw_node : Cond.codeWith yL_node cL_node 5 (some .int) [(0, 10, 13, 24), (0, 10, 17, 26)] ∈ BIG := bm 953 (by decide +kernel) (by decide +kernel)
theorem wstL_node : Cond.static yL_node ∈ BIG := bm 952 (by decide +kernel) (by decide +kernel)
theorem wmL_node : Cond.methodLink RL 148 yL_node ∈ BIG := bm 951 (by decide +kernel) (by decide +kernel)
theorem wm_RL_20 : Cond.methodLink RL 20 yX11_node ∈ BIG := bm 956 (by decide +kernel) (by decide +kernel)
theorem wi_X11_node : Cond.instanceMethod yX11_node ∈ BIG := bm 957 (by decide +kernel) (by decide +kernel)
theorem wse_X11_node : Cond.selects RX11 yX11_node yX11_node ∈ BIG := bm 958 (by decide +kernel) (by decide +kernel)
theorem wc_X11_node : Cond.code yX11_node cX11_node 3 (some .int) ∈ BIG := bm 959 (by decide +kernel) (by decide +kernel)
theorem wcw_shift : Cond.codeWith yL_shift cL_shift 5 (some .int) [(0, 10, 13, 24), (0, 10, 17, 13)] ∈ BIG := bm 1008 (by decide +kernel) (by decide +kernel)
theorem wstL_shift : Cond.static yL_shift ∈ BIG := bm 1007 (by decide +kernel) (by decide +kernel)
theorem wmL_shift : Cond.methodLink RL 152 yL_shift ∈ BIG := bm 1006 (by decide +kernel) (by decide +kernel)
theorem wm_RL_28 : Cond.methodLink RL 28 yX11_shift ∈ BIG := bm 1009 (by decide +kernel) (by decide +kernel)
theorem wi_X11_shift : Cond.instanceMethod yX11_shift ∈ BIG := bm 1010 (by decide +kernel) (by decide +kernel)
theorem wse_X11_shift : Cond.selects RX11 yX11_shift yX11_shift ∈ BIG := bm 1011 (by decide +kernel) (by decide +kernel)
theorem wc_X11_shift : Cond.code yX11_shift cX11_shift 3 (some .int) ∈ BIG := bm 1012 (by decide +kernel) (by decide +kernel)
theorem wcw_hears : Cond.codeWith yL_hears cL_hears 5 (some .int) [(0, 17, 20, 24), (0, 17, 24, 13)] ∈ BIG := bm 1015 (by decide +kernel) (by decide +kernel)
theorem wstL_hears : Cond.static yL_hears ∈ BIG := bm 1014 (by decide +kernel) (by decide +kernel)
theorem wmL_hears : Cond.methodLink RL 155 yL_hears ∈ BIG := bm 1013 (by decide +kernel) (by decide +kernel)
theorem wm_RL_31 : Cond.methodLink RL 31 yX11_hears ∈ BIG := bm 1016 (by decide +kernel) (by decide +kernel)
theorem wi_X11_hears : Cond.instanceMethod yX11_hears ∈ BIG := bm 1017 (by decide +kernel) (by decide +kernel)
theorem wse_X11_hears : Cond.selects RX11 yX11_hears yX11_hears ∈ BIG := bm 1018 (by decide +kernel) (by decide +kernel)
theorem wc_X11_hears : Cond.code yX11_hears cX11_hears 3 (some .boolean) ∈ BIG := bm 1019 (by decide +kernel) (by decide +kernel)
theorem wcw_rounds : Cond.codeWith yL_rounds cL_rounds 4 (some .int) [(0, 9, 12, 13)] ∈ BIG := bm 1022 (by decide +kernel) (by decide +kernel)
theorem wstL_rounds : Cond.static yL_rounds ∈ BIG := bm 1021 (by decide +kernel) (by decide +kernel)
theorem wmL_rounds : Cond.methodLink RL 158 yL_rounds ∈ BIG := bm 1020 (by decide +kernel) (by decide +kernel)
theorem wm_RL_35 : Cond.methodLink RL 35 yX11_rounds ∈ BIG := bm 1023 (by decide +kernel) (by decide +kernel)
theorem wi_X11_rounds : Cond.instanceMethod yX11_rounds ∈ BIG := bm 1024 (by decide +kernel) (by decide +kernel)
theorem wse_X11_rounds : Cond.selects RX11 yX11_rounds yX11_rounds ∈ BIG := bm 1025 (by decide +kernel) (by decide +kernel)
theorem wc_X11_rounds : Cond.code yX11_rounds cX11_rounds 4 (some .int) ∈ BIG := bm 1026 (by decide +kernel) (by decide +kernel)
theorem wcw_add : Cond.codeWith yL_add cL_add 4 (some .int) [(0, 9, 12, 13), (0, 9, 15, 42)] ∈ BIG := bm 1034 (by decide +kernel) (by decide +kernel)
theorem wstL_add : Cond.static yL_add ∈ BIG := bm 1033 (by decide +kernel) (by decide +kernel)
theorem wmL_add : Cond.methodLink RL 162 yL_add ∈ BIG := bm 1032 (by decide +kernel) (by decide +kernel)
theorem wm_RL_39 : Cond.methodLink RL 39 yX11_add ∈ BIG := bm 1036 (by decide +kernel) (by decide +kernel)
theorem wi_X11_add : Cond.instanceMethod yX11_add ∈ BIG := bm 1037 (by decide +kernel) (by decide +kernel)
theorem wse_X11_add : Cond.selects RX11 yX11_add yX11_add ∈ BIG := bm 1038 (by decide +kernel) (by decide +kernel)
theorem wc_X11_add : Cond.code yX11_add cX11_add 2 (some .int) ∈ BIG := bm 1039 (by decide +kernel) (by decide +kernel)
theorem wcw_power : Cond.codeWith yL_power cL_power 5 (some .int) [(0, 10, 13, 24), (0, 10, 17, 42)] ∈ BIG := bm 1058 (by decide +kernel) (by decide +kernel)
theorem wstL_power : Cond.static yL_power ∈ BIG := bm 1057 (by decide +kernel) (by decide +kernel)
theorem wmL_power : Cond.methodLink RL 165 yL_power ∈ BIG := bm 1056 (by decide +kernel) (by decide +kernel)
theorem wm_RL_44 : Cond.methodLink RL 44 yX11_power ∈ BIG := bm 1059 (by decide +kernel) (by decide +kernel)
theorem wi_X11_power : Cond.instanceMethod yX11_power ∈ BIG := bm 1060 (by decide +kernel) (by decide +kernel)
theorem wse_X11_power : Cond.selects RX11 yX11_power yX11_power ∈ BIG := bm 1061 (by decide +kernel) (by decide +kernel)
theorem wc_X11_power : Cond.code yX11_power cX11_power 6 (some .int) ∈ BIG := bm 1062 (by decide +kernel) (by decide +kernel)
theorem wcw_spoil : Cond.codeWith yL_spoil cL_spoil 6 (some .int) [(0, 12, 15, 24), (0, 12, 19, 13)] ∈ BIG := bm 1065 (by decide +kernel) (by decide +kernel)
theorem wstL_spoil : Cond.static yL_spoil ∈ BIG := bm 1064 (by decide +kernel) (by decide +kernel)
theorem wmL_spoil : Cond.methodLink RL 169 yL_spoil ∈ BIG := bm 1063 (by decide +kernel) (by decide +kernel)
theorem wm_RL_48 : Cond.methodLink RL 48 yX11_spoil ∈ BIG := bm 1066 (by decide +kernel) (by decide +kernel)
theorem wi_X11_spoil : Cond.instanceMethod yX11_spoil ∈ BIG := bm 1067 (by decide +kernel) (by decide +kernel)
theorem wse_X11_spoil : Cond.selects RX11 yX11_spoil yX11_spoil ∈ BIG := bm 1068 (by decide +kernel) (by decide +kernel)
theorem wc_X11_spoil : Cond.code yX11_spoil cX11_spoil 6 (some .int) ∈ BIG := bm 1069 (by decide +kernel) (by decide +kernel)
theorem wcw_set : Cond.codeWith yL_set cL_set 5 (some .int) [(0, 10, 13, 24), (0, 10, 17, 13)] ∈ BIG := bm 1072 (by decide +kernel) (by decide +kernel)
theorem wstL_set : Cond.static yL_set ∈ BIG := bm 1071 (by decide +kernel) (by decide +kernel)
theorem wmL_set : Cond.methodLink RL 173 yL_set ∈ BIG := bm 1070 (by decide +kernel) (by decide +kernel)
theorem wm_RL_52 : Cond.methodLink RL 52 yX11_set ∈ BIG := bm 1073 (by decide +kernel) (by decide +kernel)
theorem wi_X11_set : Cond.instanceMethod yX11_set ∈ BIG := bm 1074 (by decide +kernel) (by decide +kernel)
theorem wse_X11_set : Cond.selects RX11 yX11_set yX11_set ∈ BIG := bm 1075 (by decide +kernel) (by decide +kernel)
theorem wc_X11_set : Cond.code yX11_set cX11_set 4 (some .int) ∈ BIG := bm 1076 (by decide +kernel) (by decide +kernel)
theorem wcw_tune : Cond.codeWith yL_tune cL_tune 5 (some .int) [(0, 10, 13, 13)] ∈ BIG := bm 1079 (by decide +kernel) (by decide +kernel)
theorem wstL_tune : Cond.static yL_tune ∈ BIG := bm 1078 (by decide +kernel) (by decide +kernel)
theorem wmL_tune : Cond.methodLink RL 176 yL_tune ∈ BIG := bm 1077 (by decide +kernel) (by decide +kernel)
theorem wm_RL_55 : Cond.methodLink RL 55 yX11_tune ∈ BIG := bm 1080 (by decide +kernel) (by decide +kernel)
theorem wi_X11_tune : Cond.instanceMethod yX11_tune ∈ BIG := bm 1081 (by decide +kernel) (by decide +kernel)
theorem wse_X11_tune : Cond.selects RX11 yX11_tune yX11_tune ∈ BIG := bm 1082 (by decide +kernel) (by decide +kernel)
theorem wc_X11_tune : Cond.code yX11_tune cX11_tune 4 (some .int) ∈ BIG := bm 1083 (by decide +kernel) (by decide +kernel)
theorem wcw_mid : Cond.codeWith yL_mid cL_mid 3 (some .int) [(0, 8, 11, 13)] ∈ BIG := bm 1086 (by decide +kernel) (by decide +kernel)
theorem wstL_mid : Cond.static yL_mid ∈ BIG := bm 1085 (by decide +kernel) (by decide +kernel)
theorem wmL_mid : Cond.methodLink RL 180 yL_mid ∈ BIG := bm 1084 (by decide +kernel) (by decide +kernel)
theorem wm_RL_59 : Cond.methodLink RL 59 yX11_mid ∈ BIG := bm 1087 (by decide +kernel) (by decide +kernel)
theorem wi_X11_mid : Cond.instanceMethod yX11_mid ∈ BIG := bm 1088 (by decide +kernel) (by decide +kernel)
theorem wse_X11_mid : Cond.selects RX11 yX11_mid yX11_mid ∈ BIG := bm 1089 (by decide +kernel) (by decide +kernel)
theorem wc_X11_mid : Cond.code yX11_mid cX11_mid 3 (some .int) ∈ BIG := bm 1090 (by decide +kernel) (by decide +kernel)
theorem wcw_settles : Cond.codeWith yL_settles cL_settles 4 (some .int) [(0, 9, 12, 13)] ∈ BIG := bm 1094 (by decide +kernel) (by decide +kernel)
theorem wstL_settles : Cond.static yL_settles ∈ BIG := bm 1093 (by decide +kernel) (by decide +kernel)
theorem wmL_settles : Cond.methodLink RL 196 yL_settles ∈ BIG := bm 1092 (by decide +kernel) (by decide +kernel)
theorem wm_RL_62 : Cond.methodLink RL 62 yX11_settles ∈ BIG := bm 1095 (by decide +kernel) (by decide +kernel)
theorem wi_X11_settles : Cond.instanceMethod yX11_settles ∈ BIG := bm 1096 (by decide +kernel) (by decide +kernel)
theorem wse_X11_settles : Cond.selects RX11 yX11_settles yX11_settles ∈ BIG := bm 1097 (by decide +kernel) (by decide +kernel)
theorem wc_X11_settles : Cond.code yX11_settles cX11_settles 3 (some .int) ∈ BIG := bm 1098 (by decide +kernel) (by decide +kernel)
theorem wcw_widest : Cond.codeWith yL_widest cL_widest 4 (some .int) [(0, 9, 12, 13)] ∈ BIG := bm 1101 (by decide +kernel) (by decide +kernel)
theorem wstL_widest : Cond.static yL_widest ∈ BIG := bm 1100 (by decide +kernel) (by decide +kernel)
theorem wmL_widest : Cond.methodLink RL 199 yL_widest ∈ BIG := bm 1099 (by decide +kernel) (by decide +kernel)
theorem wm_RL_65 : Cond.methodLink RL 65 yX11_widest ∈ BIG := bm 1102 (by decide +kernel) (by decide +kernel)
theorem wi_X11_widest : Cond.instanceMethod yX11_widest ∈ BIG := bm 1103 (by decide +kernel) (by decide +kernel)
theorem wse_X11_widest : Cond.selects RX11 yX11_widest yX11_widest ∈ BIG := bm 1104 (by decide +kernel) (by decide +kernel)
theorem wc_X11_widest : Cond.code yX11_widest cX11_widest 4 (some .int) ∈ BIG := bm 1105 (by decide +kernel) (by decide +kernel)
theorem wcw_read : Cond.codeWith yL_read cL_read 4 (some .int) [(0, 9, 12, 13)] ∈ BIG := bm 1111 (by decide +kernel) (by decide +kernel)
theorem wstL_read : Cond.static yL_read ∈ BIG := bm 1110 (by decide +kernel) (by decide +kernel)
theorem wmL_read : Cond.methodLink RL 222 yL_read ∈ BIG := bm 1109 (by decide +kernel) (by decide +kernel)
theorem wm_RL_68 : Cond.methodLink RL 68 yX11_read ∈ BIG := bm 1112 (by decide +kernel) (by decide +kernel)
theorem wi_X11_read : Cond.instanceMethod yX11_read ∈ BIG := bm 1113 (by decide +kernel) (by decide +kernel)
theorem wse_X11_read : Cond.selects RX11 yX11_read yX11_read ∈ BIG := bm 1114 (by decide +kernel) (by decide +kernel)
theorem wc_X11_read : Cond.code yX11_read cX11_read 3 (some .int) ∈ BIG := bm 1115 (by decide +kernel) (by decide +kernel)
theorem wcw_when : Cond.codeWith yL_when cL_when 3 (some .int) [(0, 8, 11, 13)] ∈ BIG := bm 1137 (by decide +kernel) (by decide +kernel)
theorem wstL_when : Cond.static yL_when ∈ BIG := bm 1136 (by decide +kernel) (by decide +kernel)
theorem wmL_when : Cond.methodLink RL 226 yL_when ∈ BIG := bm 1135 (by decide +kernel) (by decide +kernel)
theorem wm_RL_72 : Cond.methodLink RL 72 yX11_when ∈ BIG := bm 1138 (by decide +kernel) (by decide +kernel)
theorem wi_X11_when : Cond.instanceMethod yX11_when ∈ BIG := bm 1139 (by decide +kernel) (by decide +kernel)
theorem wse_X11_when : Cond.selects RX11 yX11_when yX11_when ∈ BIG := bm 1140 (by decide +kernel) (by decide +kernel)
theorem wc_X11_when : Cond.code yX11_when cX11_when 2 (some .int) ∈ BIG := bm 1141 (by decide +kernel) (by decide +kernel)
theorem wcw_blame : Cond.codeWith yL_blame cL_blame 3 (some .int) [(0, 8, 11, 13)] ∈ BIG := bm 1154 (by decide +kernel) (by decide +kernel)
theorem wstL_blame : Cond.static yL_blame ∈ BIG := bm 1153 (by decide +kernel) (by decide +kernel)
theorem wmL_blame : Cond.methodLink RL 229 yL_blame ∈ BIG := bm 1152 (by decide +kernel) (by decide +kernel)
theorem wm_RL_75 : Cond.methodLink RL 75 yX11_blame ∈ BIG := bm 1155 (by decide +kernel) (by decide +kernel)
theorem wi_X11_blame : Cond.instanceMethod yX11_blame ∈ BIG := bm 1156 (by decide +kernel) (by decide +kernel)
theorem wse_X11_blame : Cond.selects RX11 yX11_blame yX11_blame ∈ BIG := bm 1157 (by decide +kernel) (by decide +kernel)
theorem wc_X11_blame : Cond.code yX11_blame cX11_blame 2 (some .int) ∈ BIG := bm 1158 (by decide +kernel) (by decide +kernel)
theorem wcw_guilty : Cond.codeWith yL_guilty cL_guilty 3 (some .int) [(0, 8, 11, 13)] ∈ BIG := bm 1172 (by decide +kernel) (by decide +kernel)
theorem wstL_guilty : Cond.static yL_guilty ∈ BIG := bm 1171 (by decide +kernel) (by decide +kernel)
theorem wmL_guilty : Cond.methodLink RL 232 yL_guilty ∈ BIG := bm 1170 (by decide +kernel) (by decide +kernel)
theorem wm_RL_78 : Cond.methodLink RL 78 yX11_guilty ∈ BIG := bm 1173 (by decide +kernel) (by decide +kernel)
theorem wi_X11_guilty : Cond.instanceMethod yX11_guilty ∈ BIG := bm 1174 (by decide +kernel) (by decide +kernel)
theorem wse_X11_guilty : Cond.selects RX11 yX11_guilty yX11_guilty ∈ BIG := bm 1175 (by decide +kernel) (by decide +kernel)
theorem wc_X11_guilty : Cond.code yX11_guilty cX11_guilty 2 (some .int) ∈ BIG := bm 1176 (by decide +kernel) (by decide +kernel)
theorem wcw_probe : Cond.codeWith yL_probe cL_probe 3 (some .int) [(0, 8, 11, 13)] ∈ BIG := bm 1179 (by decide +kernel) (by decide +kernel)
theorem wstL_probe : Cond.static yL_probe ∈ BIG := bm 1178 (by decide +kernel) (by decide +kernel)
theorem wmL_probe : Cond.methodLink RL 235 yL_probe ∈ BIG := bm 1177 (by decide +kernel) (by decide +kernel)
theorem wm_RL_81 : Cond.methodLink RL 81 yX11_probe ∈ BIG := bm 1180 (by decide +kernel) (by decide +kernel)
theorem wi_X11_probe : Cond.instanceMethod yX11_probe ∈ BIG := bm 1181 (by decide +kernel) (by decide +kernel)
theorem wse_X11_probe : Cond.selects RX11 yX11_probe yX11_probe ∈ BIG := bm 1182 (by decide +kernel) (by decide +kernel)
theorem wc_X11_probe : Cond.code yX11_probe cX11_probe 2 (some .int) ∈ BIG := bm 1183 (by decide +kernel) (by decide +kernel)
theorem wcw_pairs : Cond.codeWith yL_pairs cL_pairs 4 (some .int) [(0, 9, 12, 24)] ∈ BIG := bm 1194 (by decide +kernel) (by decide +kernel)
theorem wstL_pairs : Cond.static yL_pairs ∈ BIG := bm 1193 (by decide +kernel) (by decide +kernel)
theorem wmL_pairs : Cond.methodLink RL 238 yL_pairs ∈ BIG := bm 1192 (by decide +kernel) (by decide +kernel)
theorem wm_RL_84 : Cond.methodLink RL 84 yX11_pairs ∈ BIG := bm 1195 (by decide +kernel) (by decide +kernel)
theorem wi_X11_pairs : Cond.instanceMethod yX11_pairs ∈ BIG := bm 1196 (by decide +kernel) (by decide +kernel)
theorem wse_X11_pairs : Cond.selects RX11 yX11_pairs yX11_pairs ∈ BIG := bm 1197 (by decide +kernel) (by decide +kernel)
theorem wc_X11_pairs : Cond.code yX11_pairs cX11_pairs 2 (some .int) ∈ BIG := bm 1198 (by decide +kernel) (by decide +kernel)
theorem wcw_share : Cond.codeWith yL_share cL_share 5 (some .int) [(0, 10, 13, 24), (0, 10, 17, 13)] ∈ BIG := bm 1220 (by decide +kernel) (by decide +kernel)
theorem wstL_share : Cond.static yL_share ∈ BIG := bm 1219 (by decide +kernel) (by decide +kernel)
theorem wmL_share : Cond.methodLink RL 241 yL_share ∈ BIG := bm 1218 (by decide +kernel) (by decide +kernel)
theorem wm_RL_87 : Cond.methodLink RL 87 yX11_share ∈ BIG := bm 1221 (by decide +kernel) (by decide +kernel)
theorem wi_X11_share : Cond.instanceMethod yX11_share ∈ BIG := bm 1222 (by decide +kernel) (by decide +kernel)
theorem wse_X11_share : Cond.selects RX11 yX11_share yX11_share ∈ BIG := bm 1223 (by decide +kernel) (by decide +kernel)
theorem wc_X11_share : Cond.code yX11_share cX11_share 4 (some .int) ∈ BIG := bm 1224 (by decide +kernel) (by decide +kernel)
theorem wcw_rests : Cond.codeWith yL_rests cL_rests 4 (some .int) [(0, 9, 12, 24)] ∈ BIG := bm 1231 (by decide +kernel) (by decide +kernel)
theorem wstL_rests : Cond.static yL_rests ∈ BIG := bm 1230 (by decide +kernel) (by decide +kernel)
theorem wmL_rests : Cond.methodLink RL 244 yL_rests ∈ BIG := bm 1229 (by decide +kernel) (by decide +kernel)
theorem wm_RL_90 : Cond.methodLink RL 90 yX11_rests ∈ BIG := bm 1232 (by decide +kernel) (by decide +kernel)
theorem wi_X11_rests : Cond.instanceMethod yX11_rests ∈ BIG := bm 1233 (by decide +kernel) (by decide +kernel)
theorem wse_X11_rests : Cond.selects RX11 yX11_rests yX11_rests ∈ BIG := bm 1234 (by decide +kernel) (by decide +kernel)
theorem wc_X11_rests : Cond.code yX11_rests cX11_rests 6 (some .int) ∈ BIG := bm 1235 (by decide +kernel) (by decide +kernel)
theorem wcw_odds : Cond.codeWith yL_odds cL_odds 6 (some .int) [(0, 12, 15, 24), (0, 12, 19, 13)] ∈ BIG := bm 1246 (by decide +kernel) (by decide +kernel)
theorem wstL_odds : Cond.static yL_odds ∈ BIG := bm 1245 (by decide +kernel) (by decide +kernel)
theorem wmL_odds : Cond.methodLink RL 247 yL_odds ∈ BIG := bm 1244 (by decide +kernel) (by decide +kernel)
theorem wm_RL_93 : Cond.methodLink RL 93 yX11_odds ∈ BIG := bm 1247 (by decide +kernel) (by decide +kernel)
theorem wi_X11_odds : Cond.instanceMethod yX11_odds ∈ BIG := bm 1248 (by decide +kernel) (by decide +kernel)
theorem wse_X11_odds : Cond.selects RX11 yX11_odds yX11_odds ∈ BIG := bm 1249 (by decide +kernel) (by decide +kernel)
theorem wc_X11_odds : Cond.code yX11_odds cX11_odds 14 (some .int) ∈ BIG := bm 1250 (by decide +kernel) (by decide +kernel)
theorem wcw_most : Cond.codeWith yL_most cL_most 4 (some .int) [(0, 9, 12, 26)] ∈ BIG := bm 1261 (by decide +kernel) (by decide +kernel)
theorem wstL_most : Cond.static yL_most ∈ BIG := bm 1260 (by decide +kernel) (by decide +kernel)
theorem wmL_most : Cond.methodLink RL 250 yL_most ∈ BIG := bm 1259 (by decide +kernel) (by decide +kernel)
theorem wm_RL_96 : Cond.methodLink RL 96 yX11_most ∈ BIG := bm 1262 (by decide +kernel) (by decide +kernel)
theorem wi_X11_most : Cond.instanceMethod yX11_most ∈ BIG := bm 1263 (by decide +kernel) (by decide +kernel)
theorem wse_X11_most : Cond.selects RX11 yX11_most yX11_most ∈ BIG := bm 1264 (by decide +kernel) (by decide +kernel)
theorem wc_X11_most : Cond.code yX11_most cX11_most 8 (some .int) ∈ BIG := bm 1265 (by decide +kernel) (by decide +kernel)
theorem wcw_byState : Cond.codeWith yL_byState cL_byState 4 (some .int) [(0, 9, 12, 26)] ∈ BIG := bm 1268 (by decide +kernel) (by decide +kernel)
theorem wstL_byState : Cond.static yL_byState ∈ BIG := bm 1267 (by decide +kernel) (by decide +kernel)
theorem wmL_byState : Cond.methodLink RL 253 yL_byState ∈ BIG := bm 1266 (by decide +kernel) (by decide +kernel)
theorem wm_RL_99 : Cond.methodLink RL 99 yX11_byState ∈ BIG := bm 1269 (by decide +kernel) (by decide +kernel)
theorem wi_X11_byState : Cond.instanceMethod yX11_byState ∈ BIG := bm 1270 (by decide +kernel) (by decide +kernel)
theorem wse_X11_byState : Cond.selects RX11 yX11_byState yX11_byState ∈ BIG := bm 1271 (by decide +kernel) (by decide +kernel)
theorem wc_X11_byState : Cond.code yX11_byState cX11_byState 2 (some .int) ∈ BIG := bm 1272 (by decide +kernel) (by decide +kernel)
theorem wcw_ahead : Cond.codeWith yL_ahead cL_ahead 6 (some .int) [(0, 12, 15, 24), (0, 12, 19, 13)] ∈ BIG := bm 1275 (by decide +kernel) (by decide +kernel)
theorem wstL_ahead : Cond.static yL_ahead ∈ BIG := bm 1274 (by decide +kernel) (by decide +kernel)
theorem wmL_ahead : Cond.methodLink RL 260 yL_ahead ∈ BIG := bm 1273 (by decide +kernel) (by decide +kernel)
theorem wm_RL_102 : Cond.methodLink RL 102 yX11_ahead ∈ BIG := bm 1276 (by decide +kernel) (by decide +kernel)
theorem wi_X11_ahead : Cond.instanceMethod yX11_ahead ∈ BIG := bm 1277 (by decide +kernel) (by decide +kernel)
theorem wse_X11_ahead : Cond.selects RX11 yX11_ahead yX11_ahead ∈ BIG := bm 1278 (by decide +kernel) (by decide +kernel)
theorem wc_X11_ahead : Cond.code yX11_ahead cX11_ahead 4 (some .int) ∈ BIG := bm 1279 (by decide +kernel) (by decide +kernel)
theorem wcw_trial : Cond.codeWith yL_trial cL_trial 5 (some .int) [(0, 10, 13, 13)] ∈ BIG := bm 1286 (by decide +kernel) (by decide +kernel)
theorem wstL_trial : Cond.static yL_trial ∈ BIG := bm 1285 (by decide +kernel) (by decide +kernel)
theorem wmL_trial : Cond.methodLink RL 264 yL_trial ∈ BIG := bm 1284 (by decide +kernel) (by decide +kernel)
theorem wm_RL_106 : Cond.methodLink RL 106 yX11_trial ∈ BIG := bm 1287 (by decide +kernel) (by decide +kernel)
theorem wi_X11_trial : Cond.instanceMethod yX11_trial ∈ BIG := bm 1288 (by decide +kernel) (by decide +kernel)
theorem wse_X11_trial : Cond.selects RX11 yX11_trial yX11_trial ∈ BIG := bm 1289 (by decide +kernel) (by decide +kernel)
theorem wc_X11_trial : Cond.code yX11_trial cX11_trial 3 (some .int) ∈ BIG := bm 1290 (by decide +kernel) (by decide +kernel)
theorem wcw_span : Cond.codeWith yL_span cL_span 5 (some .int) [(0, 10, 13, 13)] ∈ BIG := bm 1293 (by decide +kernel) (by decide +kernel)
theorem wstL_span : Cond.static yL_span ∈ BIG := bm 1292 (by decide +kernel) (by decide +kernel)
theorem wmL_span : Cond.methodLink RL 267 yL_span ∈ BIG := bm 1291 (by decide +kernel) (by decide +kernel)
theorem wm_RL_109 : Cond.methodLink RL 109 yX11_span ∈ BIG := bm 1294 (by decide +kernel) (by decide +kernel)
theorem wi_X11_span : Cond.instanceMethod yX11_span ∈ BIG := bm 1295 (by decide +kernel) (by decide +kernel)
theorem wse_X11_span : Cond.selects RX11 yX11_span yX11_span ∈ BIG := bm 1296 (by decide +kernel) (by decide +kernel)
theorem wc_X11_span : Cond.code yX11_span cX11_span 6 (some .int) ∈ BIG := bm 1297 (by decide +kernel) (by decide +kernel)
theorem wcw_led : Cond.codeWith yL_led cL_led 5 (some .int) [(0, 10, 13, 24)] ∈ BIG := bm 1300 (by decide +kernel) (by decide +kernel)
theorem wstL_led : Cond.static yL_led ∈ BIG := bm 1299 (by decide +kernel) (by decide +kernel)
theorem wmL_led : Cond.methodLink RL 270 yL_led ∈ BIG := bm 1298 (by decide +kernel) (by decide +kernel)
theorem wm_RL_112 : Cond.methodLink RL 112 yX11_led ∈ BIG := bm 1301 (by decide +kernel) (by decide +kernel)
theorem wi_X11_led : Cond.instanceMethod yX11_led ∈ BIG := bm 1302 (by decide +kernel) (by decide +kernel)
theorem wse_X11_led : Cond.selects RX11 yX11_led yX11_led ∈ BIG := bm 1303 (by decide +kernel) (by decide +kernel)
theorem wc_X11_led : Cond.code yX11_led cX11_led 6 (some .int) ∈ BIG := bm 1304 (by decide +kernel) (by decide +kernel)
theorem wcw_log : Cond.codeWith yL_log cL_log 5 (some .int) [(0, 10, 13, 26)] ∈ BIG := bm 1311 (by decide +kernel) (by decide +kernel)
theorem wstL_log : Cond.static yL_log ∈ BIG := bm 1310 (by decide +kernel) (by decide +kernel)
theorem wmL_log : Cond.methodLink RL 273 yL_log ∈ BIG := bm 1309 (by decide +kernel) (by decide +kernel)
theorem wm_RL_115 : Cond.methodLink RL 115 yX11_log ∈ BIG := bm 1312 (by decide +kernel) (by decide +kernel)
theorem wi_X11_log : Cond.instanceMethod yX11_log ∈ BIG := bm 1313 (by decide +kernel) (by decide +kernel)
theorem wse_X11_log : Cond.selects RX11 yX11_log yX11_log ∈ BIG := bm 1314 (by decide +kernel) (by decide +kernel)
theorem wc_X11_log : Cond.code yX11_log cX11_log 3 (some .int) ∈ BIG := bm 1315 (by decide +kernel) (by decide +kernel)
theorem dL_cluster_0 : decode cL_cluster 0 = .ok (.aload_n 1, 1) := by decide +kernel
theorem dL_cluster_1 : decode cL_cluster 1 = .ok (.iconst 0, 1) := by decide +kernel
theorem dL_cluster_2 : decode cL_cluster 2 = .ok (.aload_n 0, 1) := by decide +kernel
theorem dL_cluster_3 : decode cL_cluster 3 = .ok (.invokevirtual 7, 3) := by decide +kernel
theorem dL_cluster_6 : decode cL_cluster 6 = .ok (.i2l, 1) := by decide +kernel
theorem dL_cluster_7 : decode cL_cluster 7 = .ok (.lastore, 1) := by decide +kernel
theorem dL_cluster_8 : decode cL_cluster 8 = .ok (.goto 9, 3) := by decide +kernel
theorem dL_cluster_11 : decode cL_cluster 11 = .ok (.astore_n 2, 1) := by decide +kernel
theorem dL_cluster_12 : decode cL_cluster 12 = .ok (.iconst 1, 1) := by decide +kernel
theorem dL_cluster_13 : decode cL_cluster 13 = .ok (.ireturn, 1) := by decide +kernel
theorem dL_cluster_14 : decode cL_cluster 14 = .ok (.astore_n 2, 1) := by decide +kernel
theorem dL_cluster_15 : decode cL_cluster 15 = .ok (.iconst 2, 1) := by decide +kernel
theorem dL_cluster_16 : decode cL_cluster 16 = .ok (.ireturn, 1) := by decide +kernel
theorem dL_cluster_17 : decode cL_cluster 17 = .ok (.iconst 0, 1) := by decide +kernel
theorem dL_cluster_18 : decode cL_cluster 18 = .ok (.ireturn, 1) := by decide +kernel
theorem dL_law_0 : decode cL_law 0 = .ok (.aload_n 1, 1) := by decide +kernel
theorem dL_law_1 : decode cL_law 1 = .ok (.iconst 0, 1) := by decide +kernel
theorem dL_law_2 : decode cL_law 2 = .ok (.aload_n 0, 1) := by decide +kernel
theorem dL_law_3 : decode cL_law 3 = .ok (.invokevirtual 17, 3) := by decide +kernel
theorem dL_law_6 : decode cL_law 6 = .ok (.i2l, 1) := by decide +kernel
theorem dL_law_7 : decode cL_law 7 = .ok (.lastore, 1) := by decide +kernel
theorem dL_law_8 : decode cL_law 8 = .ok (.goto 6, 3) := by decide +kernel
theorem dL_law_11 : decode cL_law 11 = .ok (.astore_n 2, 1) := by decide +kernel
theorem dL_law_12 : decode cL_law 12 = .ok (.iconst 1, 1) := by decide +kernel
theorem dL_law_13 : decode cL_law 13 = .ok (.ireturn, 1) := by decide +kernel
theorem dL_law_14 : decode cL_law 14 = .ok (.iconst 0, 1) := by decide +kernel
theorem dL_law_15 : decode cL_law 15 = .ok (.ireturn, 1) := by decide +kernel
theorem dL_node_0 : decode cL_node 0 = .ok (.aload_n 3, 1) := by decide +kernel
theorem dL_node_1 : decode cL_node 1 = .ok (.iconst 0, 1) := by decide +kernel
theorem dL_node_2 : decode cL_node 2 = .ok (.aload_n 0, 1) := by decide +kernel
theorem dL_node_3 : decode cL_node 3 = .ok (.iload_n 1, 1) := by decide +kernel
theorem dL_node_4 : decode cL_node 4 = .ok (.iload_n 2, 1) := by decide +kernel
theorem dL_node_5 : decode cL_node 5 = .ok (.invokevirtual 20, 3) := by decide +kernel
theorem dL_node_8 : decode cL_node 8 = .ok (.i2l, 1) := by decide +kernel
theorem dL_node_9 : decode cL_node 9 = .ok (.lastore, 1) := by decide +kernel
theorem dL_node_10 : decode cL_node 10 = .ok (.goto 11, 3) := by decide +kernel
theorem dL_node_13 : decode cL_node 13 = .ok (.astore 4, 2) := by decide +kernel
theorem dL_node_15 : decode cL_node 15 = .ok (.iconst 1, 1) := by decide +kernel
theorem dL_node_16 : decode cL_node 16 = .ok (.ireturn, 1) := by decide +kernel
theorem dL_node_17 : decode cL_node 17 = .ok (.astore 4, 2) := by decide +kernel
theorem dL_node_19 : decode cL_node 19 = .ok (.iconst 2, 1) := by decide +kernel
theorem dL_node_20 : decode cL_node 20 = .ok (.ireturn, 1) := by decide +kernel
theorem dL_node_21 : decode cL_node 21 = .ok (.iconst 0, 1) := by decide +kernel
theorem dL_node_22 : decode cL_node 22 = .ok (.ireturn, 1) := by decide +kernel
theorem dL_shift_0 : decode cL_shift 0 = .ok (.aload_n 3, 1) := by decide +kernel
theorem dL_shift_1 : decode cL_shift 1 = .ok (.iconst 0, 1) := by decide +kernel
theorem dL_shift_2 : decode cL_shift 2 = .ok (.aload_n 0, 1) := by decide +kernel
theorem dL_shift_3 : decode cL_shift 3 = .ok (.iload_n 1, 1) := by decide +kernel
theorem dL_shift_4 : decode cL_shift 4 = .ok (.iload_n 2, 1) := by decide +kernel
theorem dL_shift_5 : decode cL_shift 5 = .ok (.invokevirtual 28, 3) := by decide +kernel
theorem dL_shift_8 : decode cL_shift 8 = .ok (.i2l, 1) := by decide +kernel
theorem dL_shift_9 : decode cL_shift 9 = .ok (.lastore, 1) := by decide +kernel
theorem dL_shift_10 : decode cL_shift 10 = .ok (.goto 11, 3) := by decide +kernel
theorem dL_shift_13 : decode cL_shift 13 = .ok (.astore 4, 2) := by decide +kernel
theorem dL_shift_15 : decode cL_shift 15 = .ok (.iconst 1, 1) := by decide +kernel
theorem dL_shift_16 : decode cL_shift 16 = .ok (.ireturn, 1) := by decide +kernel
theorem dL_shift_17 : decode cL_shift 17 = .ok (.astore 4, 2) := by decide +kernel
theorem dL_shift_19 : decode cL_shift 19 = .ok (.iconst 2, 1) := by decide +kernel
theorem dL_shift_20 : decode cL_shift 20 = .ok (.ireturn, 1) := by decide +kernel
theorem dL_shift_21 : decode cL_shift 21 = .ok (.iconst 0, 1) := by decide +kernel
theorem dL_shift_22 : decode cL_shift 22 = .ok (.ireturn, 1) := by decide +kernel
theorem dL_hears_0 : decode cL_hears 0 = .ok (.aload_n 3, 1) := by decide +kernel
theorem dL_hears_1 : decode cL_hears 1 = .ok (.iconst 0, 1) := by decide +kernel
theorem dL_hears_2 : decode cL_hears 2 = .ok (.aload_n 0, 1) := by decide +kernel
theorem dL_hears_3 : decode cL_hears 3 = .ok (.iload_n 1, 1) := by decide +kernel
theorem dL_hears_4 : decode cL_hears 4 = .ok (.iload_n 2, 1) := by decide +kernel
theorem dL_hears_5 : decode cL_hears 5 = .ok (.invokevirtual 31, 3) := by decide +kernel
theorem dL_hears_8 : decode cL_hears 8 = .ok (.ifCond .eq 7, 3) := by decide +kernel
theorem dL_hears_11 : decode cL_hears 11 = .ok (.lconst 1, 1) := by decide +kernel
theorem dL_hears_12 : decode cL_hears 12 = .ok (.goto 4, 3) := by decide +kernel
theorem dL_hears_15 : decode cL_hears 15 = .ok (.lconst 0, 1) := by decide +kernel
theorem dL_hears_16 : decode cL_hears 16 = .ok (.lastore, 1) := by decide +kernel
theorem dL_hears_17 : decode cL_hears 17 = .ok (.goto 11, 3) := by decide +kernel
theorem dL_hears_20 : decode cL_hears 20 = .ok (.astore 4, 2) := by decide +kernel
theorem dL_hears_22 : decode cL_hears 22 = .ok (.iconst 1, 1) := by decide +kernel
theorem dL_hears_23 : decode cL_hears 23 = .ok (.ireturn, 1) := by decide +kernel
theorem dL_hears_24 : decode cL_hears 24 = .ok (.astore 4, 2) := by decide +kernel
theorem dL_hears_26 : decode cL_hears 26 = .ok (.iconst 2, 1) := by decide +kernel
theorem dL_hears_27 : decode cL_hears 27 = .ok (.ireturn, 1) := by decide +kernel
theorem dL_hears_28 : decode cL_hears 28 = .ok (.iconst 0, 1) := by decide +kernel
theorem dL_hears_29 : decode cL_hears 29 = .ok (.ireturn, 1) := by decide +kernel
theorem dL_rounds_0 : decode cL_rounds 0 = .ok (.aload_n 2, 1) := by decide +kernel
theorem dL_rounds_1 : decode cL_rounds 1 = .ok (.iconst 0, 1) := by decide +kernel
theorem dL_rounds_2 : decode cL_rounds 2 = .ok (.aload_n 0, 1) := by decide +kernel
theorem dL_rounds_3 : decode cL_rounds 3 = .ok (.iload_n 1, 1) := by decide +kernel
theorem dL_rounds_4 : decode cL_rounds 4 = .ok (.invokevirtual 35, 3) := by decide +kernel
theorem dL_rounds_7 : decode cL_rounds 7 = .ok (.i2l, 1) := by decide +kernel
theorem dL_rounds_8 : decode cL_rounds 8 = .ok (.lastore, 1) := by decide +kernel
theorem dL_rounds_9 : decode cL_rounds 9 = .ok (.goto 6, 3) := by decide +kernel
theorem dL_rounds_12 : decode cL_rounds 12 = .ok (.astore_n 3, 1) := by decide +kernel
theorem dL_rounds_13 : decode cL_rounds 13 = .ok (.iconst 1, 1) := by decide +kernel
theorem dL_rounds_14 : decode cL_rounds 14 = .ok (.ireturn, 1) := by decide +kernel
theorem dL_rounds_15 : decode cL_rounds 15 = .ok (.iconst 0, 1) := by decide +kernel
theorem dL_rounds_16 : decode cL_rounds 16 = .ok (.ireturn, 1) := by decide +kernel
theorem dL_add_0 : decode cL_add 0 = .ok (.aload_n 2, 1) := by decide +kernel
theorem dL_add_1 : decode cL_add 1 = .ok (.iconst 0, 1) := by decide +kernel
theorem dL_add_2 : decode cL_add 2 = .ok (.aload_n 0, 1) := by decide +kernel
theorem dL_add_3 : decode cL_add 3 = .ok (.iload_n 1, 1) := by decide +kernel
theorem dL_add_4 : decode cL_add 4 = .ok (.invokevirtual 39, 3) := by decide +kernel
theorem dL_add_7 : decode cL_add 7 = .ok (.i2l, 1) := by decide +kernel
theorem dL_add_8 : decode cL_add 8 = .ok (.lastore, 1) := by decide +kernel
theorem dL_add_9 : decode cL_add 9 = .ok (.goto 9, 3) := by decide +kernel
theorem dL_add_12 : decode cL_add 12 = .ok (.astore_n 3, 1) := by decide +kernel
theorem dL_add_13 : decode cL_add 13 = .ok (.iconst 1, 1) := by decide +kernel
theorem dL_add_14 : decode cL_add 14 = .ok (.ireturn, 1) := by decide +kernel
theorem dL_add_15 : decode cL_add 15 = .ok (.astore_n 3, 1) := by decide +kernel
theorem dL_add_16 : decode cL_add 16 = .ok (.iconst 2, 1) := by decide +kernel
theorem dL_add_17 : decode cL_add 17 = .ok (.ireturn, 1) := by decide +kernel
theorem dL_add_18 : decode cL_add 18 = .ok (.iconst 0, 1) := by decide +kernel
theorem dL_add_19 : decode cL_add 19 = .ok (.ireturn, 1) := by decide +kernel
theorem dL_power_0 : decode cL_power 0 = .ok (.aload_n 3, 1) := by decide +kernel
theorem dL_power_1 : decode cL_power 1 = .ok (.iconst 0, 1) := by decide +kernel
theorem dL_power_2 : decode cL_power 2 = .ok (.aload_n 0, 1) := by decide +kernel
theorem dL_power_3 : decode cL_power 3 = .ok (.iload_n 1, 1) := by decide +kernel
theorem dL_power_4 : decode cL_power 4 = .ok (.iload_n 2, 1) := by decide +kernel
theorem dL_power_5 : decode cL_power 5 = .ok (.invokevirtual 44, 3) := by decide +kernel
theorem dL_power_8 : decode cL_power 8 = .ok (.i2l, 1) := by decide +kernel
theorem dL_power_9 : decode cL_power 9 = .ok (.lastore, 1) := by decide +kernel
theorem dL_power_10 : decode cL_power 10 = .ok (.goto 11, 3) := by decide +kernel
theorem dL_power_13 : decode cL_power 13 = .ok (.astore 4, 2) := by decide +kernel
theorem dL_power_15 : decode cL_power 15 = .ok (.iconst 1, 1) := by decide +kernel
theorem dL_power_16 : decode cL_power 16 = .ok (.ireturn, 1) := by decide +kernel
theorem dL_power_17 : decode cL_power 17 = .ok (.astore 4, 2) := by decide +kernel
theorem dL_power_19 : decode cL_power 19 = .ok (.iconst 2, 1) := by decide +kernel
theorem dL_power_20 : decode cL_power 20 = .ok (.ireturn, 1) := by decide +kernel
theorem dL_power_21 : decode cL_power 21 = .ok (.iconst 0, 1) := by decide +kernel
theorem dL_power_22 : decode cL_power 22 = .ok (.ireturn, 1) := by decide +kernel
theorem dL_spoil_0 : decode cL_spoil 0 = .ok (.aload 4, 2) := by decide +kernel
theorem dL_spoil_2 : decode cL_spoil 2 = .ok (.iconst 0, 1) := by decide +kernel
theorem dL_spoil_3 : decode cL_spoil 3 = .ok (.aload_n 0, 1) := by decide +kernel
theorem dL_spoil_4 : decode cL_spoil 4 = .ok (.iload_n 1, 1) := by decide +kernel
theorem dL_spoil_5 : decode cL_spoil 5 = .ok (.iload_n 2, 1) := by decide +kernel
theorem dL_spoil_6 : decode cL_spoil 6 = .ok (.iload_n 3, 1) := by decide +kernel
theorem dL_spoil_7 : decode cL_spoil 7 = .ok (.invokevirtual 48, 3) := by decide +kernel
theorem dL_spoil_10 : decode cL_spoil 10 = .ok (.i2l, 1) := by decide +kernel
theorem dL_spoil_11 : decode cL_spoil 11 = .ok (.lastore, 1) := by decide +kernel
theorem dL_spoil_12 : decode cL_spoil 12 = .ok (.goto 11, 3) := by decide +kernel
theorem dL_spoil_15 : decode cL_spoil 15 = .ok (.astore 5, 2) := by decide +kernel
theorem dL_spoil_17 : decode cL_spoil 17 = .ok (.iconst 1, 1) := by decide +kernel
theorem dL_spoil_18 : decode cL_spoil 18 = .ok (.ireturn, 1) := by decide +kernel
theorem dL_spoil_19 : decode cL_spoil 19 = .ok (.astore 5, 2) := by decide +kernel
theorem dL_spoil_21 : decode cL_spoil 21 = .ok (.iconst 2, 1) := by decide +kernel
theorem dL_spoil_22 : decode cL_spoil 22 = .ok (.ireturn, 1) := by decide +kernel
theorem dL_spoil_23 : decode cL_spoil 23 = .ok (.iconst 0, 1) := by decide +kernel
theorem dL_spoil_24 : decode cL_spoil 24 = .ok (.ireturn, 1) := by decide +kernel
theorem dL_set_0 : decode cL_set 0 = .ok (.aload_n 3, 1) := by decide +kernel
theorem dL_set_1 : decode cL_set 1 = .ok (.iconst 0, 1) := by decide +kernel
theorem dL_set_2 : decode cL_set 2 = .ok (.aload_n 0, 1) := by decide +kernel
theorem dL_set_3 : decode cL_set 3 = .ok (.iload_n 1, 1) := by decide +kernel
theorem dL_set_4 : decode cL_set 4 = .ok (.iload_n 2, 1) := by decide +kernel
theorem dL_set_5 : decode cL_set 5 = .ok (.invokevirtual 52, 3) := by decide +kernel
theorem dL_set_8 : decode cL_set 8 = .ok (.i2l, 1) := by decide +kernel
theorem dL_set_9 : decode cL_set 9 = .ok (.lastore, 1) := by decide +kernel
theorem dL_set_10 : decode cL_set 10 = .ok (.goto 11, 3) := by decide +kernel
theorem dL_set_13 : decode cL_set 13 = .ok (.astore 4, 2) := by decide +kernel
theorem dL_set_15 : decode cL_set 15 = .ok (.iconst 1, 1) := by decide +kernel
theorem dL_set_16 : decode cL_set 16 = .ok (.ireturn, 1) := by decide +kernel
theorem dL_set_17 : decode cL_set 17 = .ok (.astore 4, 2) := by decide +kernel
theorem dL_set_19 : decode cL_set 19 = .ok (.iconst 2, 1) := by decide +kernel
theorem dL_set_20 : decode cL_set 20 = .ok (.ireturn, 1) := by decide +kernel
theorem dL_set_21 : decode cL_set 21 = .ok (.iconst 0, 1) := by decide +kernel
theorem dL_set_22 : decode cL_set 22 = .ok (.ireturn, 1) := by decide +kernel
theorem dL_tune_0 : decode cL_tune 0 = .ok (.aload_n 3, 1) := by decide +kernel
theorem dL_tune_1 : decode cL_tune 1 = .ok (.iconst 0, 1) := by decide +kernel
theorem dL_tune_2 : decode cL_tune 2 = .ok (.aload_n 0, 1) := by decide +kernel
theorem dL_tune_3 : decode cL_tune 3 = .ok (.iload_n 1, 1) := by decide +kernel
theorem dL_tune_4 : decode cL_tune 4 = .ok (.iload_n 2, 1) := by decide +kernel
theorem dL_tune_5 : decode cL_tune 5 = .ok (.invokevirtual 55, 3) := by decide +kernel
theorem dL_tune_8 : decode cL_tune 8 = .ok (.i2l, 1) := by decide +kernel
theorem dL_tune_9 : decode cL_tune 9 = .ok (.lastore, 1) := by decide +kernel
theorem dL_tune_10 : decode cL_tune 10 = .ok (.goto 7, 3) := by decide +kernel
theorem dL_tune_13 : decode cL_tune 13 = .ok (.astore 4, 2) := by decide +kernel
theorem dL_tune_15 : decode cL_tune 15 = .ok (.iconst 1, 1) := by decide +kernel
theorem dL_tune_16 : decode cL_tune 16 = .ok (.ireturn, 1) := by decide +kernel
theorem dL_tune_17 : decode cL_tune 17 = .ok (.iconst 0, 1) := by decide +kernel
theorem dL_tune_18 : decode cL_tune 18 = .ok (.ireturn, 1) := by decide +kernel
theorem dL_mid_0 : decode cL_mid 0 = .ok (.aload_n 1, 1) := by decide +kernel
theorem dL_mid_1 : decode cL_mid 1 = .ok (.iconst 0, 1) := by decide +kernel
theorem dL_mid_2 : decode cL_mid 2 = .ok (.aload_n 0, 1) := by decide +kernel
theorem dL_mid_3 : decode cL_mid 3 = .ok (.invokevirtual 59, 3) := by decide +kernel
theorem dL_mid_6 : decode cL_mid 6 = .ok (.i2l, 1) := by decide +kernel
theorem dL_mid_7 : decode cL_mid 7 = .ok (.lastore, 1) := by decide +kernel
theorem dL_mid_8 : decode cL_mid 8 = .ok (.goto 6, 3) := by decide +kernel
theorem dL_mid_11 : decode cL_mid 11 = .ok (.astore_n 2, 1) := by decide +kernel
theorem dL_mid_12 : decode cL_mid 12 = .ok (.iconst 1, 1) := by decide +kernel
theorem dL_mid_13 : decode cL_mid 13 = .ok (.ireturn, 1) := by decide +kernel
theorem dL_mid_14 : decode cL_mid 14 = .ok (.iconst 0, 1) := by decide +kernel
theorem dL_mid_15 : decode cL_mid 15 = .ok (.ireturn, 1) := by decide +kernel
theorem dL_settles_0 : decode cL_settles 0 = .ok (.aload_n 2, 1) := by decide +kernel
theorem dL_settles_1 : decode cL_settles 1 = .ok (.iconst 0, 1) := by decide +kernel
theorem dL_settles_2 : decode cL_settles 2 = .ok (.aload_n 0, 1) := by decide +kernel
theorem dL_settles_3 : decode cL_settles 3 = .ok (.iload_n 1, 1) := by decide +kernel
theorem dL_settles_4 : decode cL_settles 4 = .ok (.invokevirtual 62, 3) := by decide +kernel
theorem dL_settles_7 : decode cL_settles 7 = .ok (.i2l, 1) := by decide +kernel
theorem dL_settles_8 : decode cL_settles 8 = .ok (.lastore, 1) := by decide +kernel
theorem dL_settles_9 : decode cL_settles 9 = .ok (.goto 6, 3) := by decide +kernel
theorem dL_settles_12 : decode cL_settles 12 = .ok (.astore_n 3, 1) := by decide +kernel
theorem dL_settles_13 : decode cL_settles 13 = .ok (.iconst 1, 1) := by decide +kernel
theorem dL_settles_14 : decode cL_settles 14 = .ok (.ireturn, 1) := by decide +kernel
theorem dL_settles_15 : decode cL_settles 15 = .ok (.iconst 0, 1) := by decide +kernel
theorem dL_settles_16 : decode cL_settles 16 = .ok (.ireturn, 1) := by decide +kernel
theorem dL_widest_0 : decode cL_widest 0 = .ok (.aload_n 2, 1) := by decide +kernel
theorem dL_widest_1 : decode cL_widest 1 = .ok (.iconst 0, 1) := by decide +kernel
theorem dL_widest_2 : decode cL_widest 2 = .ok (.aload_n 0, 1) := by decide +kernel
theorem dL_widest_3 : decode cL_widest 3 = .ok (.iload_n 1, 1) := by decide +kernel
theorem dL_widest_4 : decode cL_widest 4 = .ok (.invokevirtual 65, 3) := by decide +kernel
theorem dL_widest_7 : decode cL_widest 7 = .ok (.i2l, 1) := by decide +kernel
theorem dL_widest_8 : decode cL_widest 8 = .ok (.lastore, 1) := by decide +kernel
theorem dL_widest_9 : decode cL_widest 9 = .ok (.goto 6, 3) := by decide +kernel
theorem dL_widest_12 : decode cL_widest 12 = .ok (.astore_n 3, 1) := by decide +kernel
theorem dL_widest_13 : decode cL_widest 13 = .ok (.iconst 1, 1) := by decide +kernel
theorem dL_widest_14 : decode cL_widest 14 = .ok (.ireturn, 1) := by decide +kernel
theorem dL_widest_15 : decode cL_widest 15 = .ok (.iconst 0, 1) := by decide +kernel
theorem dL_widest_16 : decode cL_widest 16 = .ok (.ireturn, 1) := by decide +kernel
theorem dL_read_0 : decode cL_read 0 = .ok (.aload_n 2, 1) := by decide +kernel
theorem dL_read_1 : decode cL_read 1 = .ok (.iconst 0, 1) := by decide +kernel
theorem dL_read_2 : decode cL_read 2 = .ok (.aload_n 0, 1) := by decide +kernel
theorem dL_read_3 : decode cL_read 3 = .ok (.iload_n 1, 1) := by decide +kernel
theorem dL_read_4 : decode cL_read 4 = .ok (.invokevirtual 68, 3) := by decide +kernel
theorem dL_read_7 : decode cL_read 7 = .ok (.i2l, 1) := by decide +kernel
theorem dL_read_8 : decode cL_read 8 = .ok (.lastore, 1) := by decide +kernel
theorem dL_read_9 : decode cL_read 9 = .ok (.goto 6, 3) := by decide +kernel
theorem dL_read_12 : decode cL_read 12 = .ok (.astore_n 3, 1) := by decide +kernel
theorem dL_read_13 : decode cL_read 13 = .ok (.iconst 1, 1) := by decide +kernel
theorem dL_read_14 : decode cL_read 14 = .ok (.ireturn, 1) := by decide +kernel
theorem dL_read_15 : decode cL_read 15 = .ok (.iconst 0, 1) := by decide +kernel
theorem dL_read_16 : decode cL_read 16 = .ok (.ireturn, 1) := by decide +kernel
theorem dL_when_0 : decode cL_when 0 = .ok (.aload_n 1, 1) := by decide +kernel
theorem dL_when_1 : decode cL_when 1 = .ok (.iconst 0, 1) := by decide +kernel
theorem dL_when_2 : decode cL_when 2 = .ok (.aload_n 0, 1) := by decide +kernel
theorem dL_when_3 : decode cL_when 3 = .ok (.invokevirtual 72, 3) := by decide +kernel
theorem dL_when_6 : decode cL_when 6 = .ok (.i2l, 1) := by decide +kernel
theorem dL_when_7 : decode cL_when 7 = .ok (.lastore, 1) := by decide +kernel
theorem dL_when_8 : decode cL_when 8 = .ok (.goto 6, 3) := by decide +kernel
theorem dL_when_11 : decode cL_when 11 = .ok (.astore_n 2, 1) := by decide +kernel
theorem dL_when_12 : decode cL_when 12 = .ok (.iconst 1, 1) := by decide +kernel
theorem dL_when_13 : decode cL_when 13 = .ok (.ireturn, 1) := by decide +kernel
theorem dL_when_14 : decode cL_when 14 = .ok (.iconst 0, 1) := by decide +kernel
theorem dL_when_15 : decode cL_when 15 = .ok (.ireturn, 1) := by decide +kernel
theorem dL_blame_0 : decode cL_blame 0 = .ok (.aload_n 1, 1) := by decide +kernel
theorem dL_blame_1 : decode cL_blame 1 = .ok (.iconst 0, 1) := by decide +kernel
theorem dL_blame_2 : decode cL_blame 2 = .ok (.aload_n 0, 1) := by decide +kernel
theorem dL_blame_3 : decode cL_blame 3 = .ok (.invokevirtual 75, 3) := by decide +kernel
theorem dL_blame_6 : decode cL_blame 6 = .ok (.i2l, 1) := by decide +kernel
theorem dL_blame_7 : decode cL_blame 7 = .ok (.lastore, 1) := by decide +kernel
theorem dL_blame_8 : decode cL_blame 8 = .ok (.goto 6, 3) := by decide +kernel
theorem dL_blame_11 : decode cL_blame 11 = .ok (.astore_n 2, 1) := by decide +kernel
theorem dL_blame_12 : decode cL_blame 12 = .ok (.iconst 1, 1) := by decide +kernel
theorem dL_blame_13 : decode cL_blame 13 = .ok (.ireturn, 1) := by decide +kernel
theorem dL_blame_14 : decode cL_blame 14 = .ok (.iconst 0, 1) := by decide +kernel
theorem dL_blame_15 : decode cL_blame 15 = .ok (.ireturn, 1) := by decide +kernel
theorem dL_guilty_0 : decode cL_guilty 0 = .ok (.aload_n 1, 1) := by decide +kernel
theorem dL_guilty_1 : decode cL_guilty 1 = .ok (.iconst 0, 1) := by decide +kernel
theorem dL_guilty_2 : decode cL_guilty 2 = .ok (.aload_n 0, 1) := by decide +kernel
theorem dL_guilty_3 : decode cL_guilty 3 = .ok (.invokevirtual 78, 3) := by decide +kernel
theorem dL_guilty_6 : decode cL_guilty 6 = .ok (.i2l, 1) := by decide +kernel
theorem dL_guilty_7 : decode cL_guilty 7 = .ok (.lastore, 1) := by decide +kernel
theorem dL_guilty_8 : decode cL_guilty 8 = .ok (.goto 6, 3) := by decide +kernel
theorem dL_guilty_11 : decode cL_guilty 11 = .ok (.astore_n 2, 1) := by decide +kernel
theorem dL_guilty_12 : decode cL_guilty 12 = .ok (.iconst 1, 1) := by decide +kernel
theorem dL_guilty_13 : decode cL_guilty 13 = .ok (.ireturn, 1) := by decide +kernel
theorem dL_guilty_14 : decode cL_guilty 14 = .ok (.iconst 0, 1) := by decide +kernel
theorem dL_guilty_15 : decode cL_guilty 15 = .ok (.ireturn, 1) := by decide +kernel
theorem dL_probe_0 : decode cL_probe 0 = .ok (.aload_n 1, 1) := by decide +kernel
theorem dL_probe_1 : decode cL_probe 1 = .ok (.iconst 0, 1) := by decide +kernel
theorem dL_probe_2 : decode cL_probe 2 = .ok (.aload_n 0, 1) := by decide +kernel
theorem dL_probe_3 : decode cL_probe 3 = .ok (.invokevirtual 81, 3) := by decide +kernel
theorem dL_probe_6 : decode cL_probe 6 = .ok (.i2l, 1) := by decide +kernel
theorem dL_probe_7 : decode cL_probe 7 = .ok (.lastore, 1) := by decide +kernel
theorem dL_probe_8 : decode cL_probe 8 = .ok (.goto 6, 3) := by decide +kernel
theorem dL_probe_11 : decode cL_probe 11 = .ok (.astore_n 2, 1) := by decide +kernel
theorem dL_probe_12 : decode cL_probe 12 = .ok (.iconst 1, 1) := by decide +kernel
theorem dL_probe_13 : decode cL_probe 13 = .ok (.ireturn, 1) := by decide +kernel
theorem dL_probe_14 : decode cL_probe 14 = .ok (.iconst 0, 1) := by decide +kernel
theorem dL_probe_15 : decode cL_probe 15 = .ok (.ireturn, 1) := by decide +kernel
theorem dL_pairs_0 : decode cL_pairs 0 = .ok (.aload_n 2, 1) := by decide +kernel
theorem dL_pairs_1 : decode cL_pairs 1 = .ok (.iconst 0, 1) := by decide +kernel
theorem dL_pairs_2 : decode cL_pairs 2 = .ok (.aload_n 0, 1) := by decide +kernel
theorem dL_pairs_3 : decode cL_pairs 3 = .ok (.iload_n 1, 1) := by decide +kernel
theorem dL_pairs_4 : decode cL_pairs 4 = .ok (.invokevirtual 84, 3) := by decide +kernel
theorem dL_pairs_7 : decode cL_pairs 7 = .ok (.i2l, 1) := by decide +kernel
theorem dL_pairs_8 : decode cL_pairs 8 = .ok (.lastore, 1) := by decide +kernel
theorem dL_pairs_9 : decode cL_pairs 9 = .ok (.goto 6, 3) := by decide +kernel
theorem dL_pairs_12 : decode cL_pairs 12 = .ok (.astore_n 3, 1) := by decide +kernel
theorem dL_pairs_13 : decode cL_pairs 13 = .ok (.iconst 1, 1) := by decide +kernel
theorem dL_pairs_14 : decode cL_pairs 14 = .ok (.ireturn, 1) := by decide +kernel
theorem dL_pairs_15 : decode cL_pairs 15 = .ok (.iconst 0, 1) := by decide +kernel
theorem dL_pairs_16 : decode cL_pairs 16 = .ok (.ireturn, 1) := by decide +kernel
theorem dL_share_0 : decode cL_share 0 = .ok (.aload_n 3, 1) := by decide +kernel
theorem dL_share_1 : decode cL_share 1 = .ok (.iconst 0, 1) := by decide +kernel
theorem dL_share_2 : decode cL_share 2 = .ok (.aload_n 0, 1) := by decide +kernel
theorem dL_share_3 : decode cL_share 3 = .ok (.iload_n 1, 1) := by decide +kernel
theorem dL_share_4 : decode cL_share 4 = .ok (.iload_n 2, 1) := by decide +kernel
theorem dL_share_5 : decode cL_share 5 = .ok (.invokevirtual 87, 3) := by decide +kernel
theorem dL_share_8 : decode cL_share 8 = .ok (.i2l, 1) := by decide +kernel
theorem dL_share_9 : decode cL_share 9 = .ok (.lastore, 1) := by decide +kernel
theorem dL_share_10 : decode cL_share 10 = .ok (.goto 11, 3) := by decide +kernel
theorem dL_share_13 : decode cL_share 13 = .ok (.astore 4, 2) := by decide +kernel
theorem dL_share_15 : decode cL_share 15 = .ok (.iconst 1, 1) := by decide +kernel
theorem dL_share_16 : decode cL_share 16 = .ok (.ireturn, 1) := by decide +kernel
theorem dL_share_17 : decode cL_share 17 = .ok (.astore 4, 2) := by decide +kernel
theorem dL_share_19 : decode cL_share 19 = .ok (.iconst 2, 1) := by decide +kernel
theorem dL_share_20 : decode cL_share 20 = .ok (.ireturn, 1) := by decide +kernel
theorem dL_share_21 : decode cL_share 21 = .ok (.iconst 0, 1) := by decide +kernel
theorem dL_share_22 : decode cL_share 22 = .ok (.ireturn, 1) := by decide +kernel
theorem dL_rests_0 : decode cL_rests 0 = .ok (.aload_n 2, 1) := by decide +kernel
theorem dL_rests_1 : decode cL_rests 1 = .ok (.iconst 0, 1) := by decide +kernel
theorem dL_rests_2 : decode cL_rests 2 = .ok (.aload_n 0, 1) := by decide +kernel
theorem dL_rests_3 : decode cL_rests 3 = .ok (.iload_n 1, 1) := by decide +kernel
theorem dL_rests_4 : decode cL_rests 4 = .ok (.invokevirtual 90, 3) := by decide +kernel
theorem dL_rests_7 : decode cL_rests 7 = .ok (.i2l, 1) := by decide +kernel
theorem dL_rests_8 : decode cL_rests 8 = .ok (.lastore, 1) := by decide +kernel
theorem dL_rests_9 : decode cL_rests 9 = .ok (.goto 6, 3) := by decide +kernel
theorem dL_rests_12 : decode cL_rests 12 = .ok (.astore_n 3, 1) := by decide +kernel
theorem dL_rests_13 : decode cL_rests 13 = .ok (.iconst 1, 1) := by decide +kernel
theorem dL_rests_14 : decode cL_rests 14 = .ok (.ireturn, 1) := by decide +kernel
theorem dL_rests_15 : decode cL_rests 15 = .ok (.iconst 0, 1) := by decide +kernel
theorem dL_rests_16 : decode cL_rests 16 = .ok (.ireturn, 1) := by decide +kernel
theorem dL_odds_0 : decode cL_odds 0 = .ok (.aload 4, 2) := by decide +kernel
theorem dL_odds_2 : decode cL_odds 2 = .ok (.iconst 0, 1) := by decide +kernel
theorem dL_odds_3 : decode cL_odds 3 = .ok (.aload_n 0, 1) := by decide +kernel
theorem dL_odds_4 : decode cL_odds 4 = .ok (.iload_n 1, 1) := by decide +kernel
theorem dL_odds_5 : decode cL_odds 5 = .ok (.iload_n 2, 1) := by decide +kernel
theorem dL_odds_6 : decode cL_odds 6 = .ok (.iload_n 3, 1) := by decide +kernel
theorem dL_odds_7 : decode cL_odds 7 = .ok (.invokevirtual 93, 3) := by decide +kernel
theorem dL_odds_10 : decode cL_odds 10 = .ok (.i2l, 1) := by decide +kernel
theorem dL_odds_11 : decode cL_odds 11 = .ok (.lastore, 1) := by decide +kernel
theorem dL_odds_12 : decode cL_odds 12 = .ok (.goto 11, 3) := by decide +kernel
theorem dL_odds_15 : decode cL_odds 15 = .ok (.astore 5, 2) := by decide +kernel
theorem dL_odds_17 : decode cL_odds 17 = .ok (.iconst 1, 1) := by decide +kernel
theorem dL_odds_18 : decode cL_odds 18 = .ok (.ireturn, 1) := by decide +kernel
theorem dL_odds_19 : decode cL_odds 19 = .ok (.astore 5, 2) := by decide +kernel
theorem dL_odds_21 : decode cL_odds 21 = .ok (.iconst 2, 1) := by decide +kernel
theorem dL_odds_22 : decode cL_odds 22 = .ok (.ireturn, 1) := by decide +kernel
theorem dL_odds_23 : decode cL_odds 23 = .ok (.iconst 0, 1) := by decide +kernel
theorem dL_odds_24 : decode cL_odds 24 = .ok (.ireturn, 1) := by decide +kernel
theorem dL_most_0 : decode cL_most 0 = .ok (.aload_n 2, 1) := by decide +kernel
theorem dL_most_1 : decode cL_most 1 = .ok (.iconst 0, 1) := by decide +kernel
theorem dL_most_2 : decode cL_most 2 = .ok (.aload_n 0, 1) := by decide +kernel
theorem dL_most_3 : decode cL_most 3 = .ok (.iload_n 1, 1) := by decide +kernel
theorem dL_most_4 : decode cL_most 4 = .ok (.invokevirtual 96, 3) := by decide +kernel
theorem dL_most_7 : decode cL_most 7 = .ok (.i2l, 1) := by decide +kernel
theorem dL_most_8 : decode cL_most 8 = .ok (.lastore, 1) := by decide +kernel
theorem dL_most_9 : decode cL_most 9 = .ok (.goto 6, 3) := by decide +kernel
theorem dL_most_12 : decode cL_most 12 = .ok (.astore_n 3, 1) := by decide +kernel
theorem dL_most_13 : decode cL_most 13 = .ok (.iconst 1, 1) := by decide +kernel
theorem dL_most_14 : decode cL_most 14 = .ok (.ireturn, 1) := by decide +kernel
theorem dL_most_15 : decode cL_most 15 = .ok (.iconst 0, 1) := by decide +kernel
theorem dL_most_16 : decode cL_most 16 = .ok (.ireturn, 1) := by decide +kernel
theorem dL_byState_0 : decode cL_byState 0 = .ok (.aload_n 2, 1) := by decide +kernel
theorem dL_byState_1 : decode cL_byState 1 = .ok (.iconst 0, 1) := by decide +kernel
theorem dL_byState_2 : decode cL_byState 2 = .ok (.aload_n 0, 1) := by decide +kernel
theorem dL_byState_3 : decode cL_byState 3 = .ok (.iload_n 1, 1) := by decide +kernel
theorem dL_byState_4 : decode cL_byState 4 = .ok (.invokevirtual 99, 3) := by decide +kernel
theorem dL_byState_7 : decode cL_byState 7 = .ok (.i2l, 1) := by decide +kernel
theorem dL_byState_8 : decode cL_byState 8 = .ok (.lastore, 1) := by decide +kernel
theorem dL_byState_9 : decode cL_byState 9 = .ok (.goto 6, 3) := by decide +kernel
theorem dL_byState_12 : decode cL_byState 12 = .ok (.astore_n 3, 1) := by decide +kernel
theorem dL_byState_13 : decode cL_byState 13 = .ok (.iconst 1, 1) := by decide +kernel
theorem dL_byState_14 : decode cL_byState 14 = .ok (.ireturn, 1) := by decide +kernel
theorem dL_byState_15 : decode cL_byState 15 = .ok (.iconst 0, 1) := by decide +kernel
theorem dL_byState_16 : decode cL_byState 16 = .ok (.ireturn, 1) := by decide +kernel
theorem dL_ahead_0 : decode cL_ahead 0 = .ok (.aload 4, 2) := by decide +kernel
theorem dL_ahead_2 : decode cL_ahead 2 = .ok (.iconst 0, 1) := by decide +kernel
theorem dL_ahead_3 : decode cL_ahead 3 = .ok (.aload_n 0, 1) := by decide +kernel
theorem dL_ahead_4 : decode cL_ahead 4 = .ok (.iload_n 1, 1) := by decide +kernel
theorem dL_ahead_5 : decode cL_ahead 5 = .ok (.iload_n 2, 1) := by decide +kernel
theorem dL_ahead_6 : decode cL_ahead 6 = .ok (.iload_n 3, 1) := by decide +kernel
theorem dL_ahead_7 : decode cL_ahead 7 = .ok (.invokevirtual 102, 3) := by decide +kernel
theorem dL_ahead_10 : decode cL_ahead 10 = .ok (.i2l, 1) := by decide +kernel
theorem dL_ahead_11 : decode cL_ahead 11 = .ok (.lastore, 1) := by decide +kernel
theorem dL_ahead_12 : decode cL_ahead 12 = .ok (.goto 11, 3) := by decide +kernel
theorem dL_ahead_15 : decode cL_ahead 15 = .ok (.astore 5, 2) := by decide +kernel
theorem dL_ahead_17 : decode cL_ahead 17 = .ok (.iconst 1, 1) := by decide +kernel
theorem dL_ahead_18 : decode cL_ahead 18 = .ok (.ireturn, 1) := by decide +kernel
theorem dL_ahead_19 : decode cL_ahead 19 = .ok (.astore 5, 2) := by decide +kernel
theorem dL_ahead_21 : decode cL_ahead 21 = .ok (.iconst 2, 1) := by decide +kernel
theorem dL_ahead_22 : decode cL_ahead 22 = .ok (.ireturn, 1) := by decide +kernel
theorem dL_ahead_23 : decode cL_ahead 23 = .ok (.iconst 0, 1) := by decide +kernel
theorem dL_ahead_24 : decode cL_ahead 24 = .ok (.ireturn, 1) := by decide +kernel
theorem dL_trial_0 : decode cL_trial 0 = .ok (.aload_n 3, 1) := by decide +kernel
theorem dL_trial_1 : decode cL_trial 1 = .ok (.iconst 0, 1) := by decide +kernel
theorem dL_trial_2 : decode cL_trial 2 = .ok (.aload_n 0, 1) := by decide +kernel
theorem dL_trial_3 : decode cL_trial 3 = .ok (.iload_n 1, 1) := by decide +kernel
theorem dL_trial_4 : decode cL_trial 4 = .ok (.iload_n 2, 1) := by decide +kernel
theorem dL_trial_5 : decode cL_trial 5 = .ok (.invokevirtual 106, 3) := by decide +kernel
theorem dL_trial_8 : decode cL_trial 8 = .ok (.i2l, 1) := by decide +kernel
theorem dL_trial_9 : decode cL_trial 9 = .ok (.lastore, 1) := by decide +kernel
theorem dL_trial_10 : decode cL_trial 10 = .ok (.goto 7, 3) := by decide +kernel
theorem dL_trial_13 : decode cL_trial 13 = .ok (.astore 4, 2) := by decide +kernel
theorem dL_trial_15 : decode cL_trial 15 = .ok (.iconst 1, 1) := by decide +kernel
theorem dL_trial_16 : decode cL_trial 16 = .ok (.ireturn, 1) := by decide +kernel
theorem dL_trial_17 : decode cL_trial 17 = .ok (.iconst 0, 1) := by decide +kernel
theorem dL_trial_18 : decode cL_trial 18 = .ok (.ireturn, 1) := by decide +kernel
theorem dL_span_0 : decode cL_span 0 = .ok (.aload_n 3, 1) := by decide +kernel
theorem dL_span_1 : decode cL_span 1 = .ok (.iconst 0, 1) := by decide +kernel
theorem dL_span_2 : decode cL_span 2 = .ok (.aload_n 0, 1) := by decide +kernel
theorem dL_span_3 : decode cL_span 3 = .ok (.iload_n 1, 1) := by decide +kernel
theorem dL_span_4 : decode cL_span 4 = .ok (.iload_n 2, 1) := by decide +kernel
theorem dL_span_5 : decode cL_span 5 = .ok (.invokevirtual 109, 3) := by decide +kernel
theorem dL_span_8 : decode cL_span 8 = .ok (.i2l, 1) := by decide +kernel
theorem dL_span_9 : decode cL_span 9 = .ok (.lastore, 1) := by decide +kernel
theorem dL_span_10 : decode cL_span 10 = .ok (.goto 7, 3) := by decide +kernel
theorem dL_span_13 : decode cL_span 13 = .ok (.astore 4, 2) := by decide +kernel
theorem dL_span_15 : decode cL_span 15 = .ok (.iconst 1, 1) := by decide +kernel
theorem dL_span_16 : decode cL_span 16 = .ok (.ireturn, 1) := by decide +kernel
theorem dL_span_17 : decode cL_span 17 = .ok (.iconst 0, 1) := by decide +kernel
theorem dL_span_18 : decode cL_span 18 = .ok (.ireturn, 1) := by decide +kernel
theorem dL_led_0 : decode cL_led 0 = .ok (.aload_n 3, 1) := by decide +kernel
theorem dL_led_1 : decode cL_led 1 = .ok (.iconst 0, 1) := by decide +kernel
theorem dL_led_2 : decode cL_led 2 = .ok (.aload_n 0, 1) := by decide +kernel
theorem dL_led_3 : decode cL_led 3 = .ok (.iload_n 1, 1) := by decide +kernel
theorem dL_led_4 : decode cL_led 4 = .ok (.iload_n 2, 1) := by decide +kernel
theorem dL_led_5 : decode cL_led 5 = .ok (.invokevirtual 112, 3) := by decide +kernel
theorem dL_led_8 : decode cL_led 8 = .ok (.i2l, 1) := by decide +kernel
theorem dL_led_9 : decode cL_led 9 = .ok (.lastore, 1) := by decide +kernel
theorem dL_led_10 : decode cL_led 10 = .ok (.goto 7, 3) := by decide +kernel
theorem dL_led_13 : decode cL_led 13 = .ok (.astore 4, 2) := by decide +kernel
theorem dL_led_15 : decode cL_led 15 = .ok (.iconst 1, 1) := by decide +kernel
theorem dL_led_16 : decode cL_led 16 = .ok (.ireturn, 1) := by decide +kernel
theorem dL_led_17 : decode cL_led 17 = .ok (.iconst 0, 1) := by decide +kernel
theorem dL_led_18 : decode cL_led 18 = .ok (.ireturn, 1) := by decide +kernel
theorem dL_log_0 : decode cL_log 0 = .ok (.aload_n 3, 1) := by decide +kernel
theorem dL_log_1 : decode cL_log 1 = .ok (.iconst 0, 1) := by decide +kernel
theorem dL_log_2 : decode cL_log 2 = .ok (.aload_n 0, 1) := by decide +kernel
theorem dL_log_3 : decode cL_log 3 = .ok (.iload_n 1, 1) := by decide +kernel
theorem dL_log_4 : decode cL_log 4 = .ok (.iload_n 2, 1) := by decide +kernel
theorem dL_log_5 : decode cL_log 5 = .ok (.invokevirtual 115, 3) := by decide +kernel
theorem dL_log_8 : decode cL_log 8 = .ok (.i2l, 1) := by decide +kernel
theorem dL_log_9 : decode cL_log 9 = .ok (.lastore, 1) := by decide +kernel
theorem dL_log_10 : decode cL_log 10 = .ok (.goto 7, 3) := by decide +kernel
theorem dL_log_13 : decode cL_log 13 = .ok (.astore 4, 2) := by decide +kernel
theorem dL_log_15 : decode cL_log 15 = .ok (.iconst 1, 1) := by decide +kernel
theorem dL_log_16 : decode cL_log 16 = .ok (.ireturn, 1) := by decide +kernel
theorem dL_log_17 : decode cL_log 17 = .ok (.iconst 0, 1) := by decide +kernel
theorem dL_log_18 : decode cL_log 18 = .ok (.ireturn, 1) := by decide +kernel
def rh_cluster : Room := { frames := 9, cells := 1, slots := 6, locals := 274 }
def wh_cluster : List Cond := Cond.codeWith yL_cluster cL_cluster 3 (some .int) [(0, 8, 11, 13), (0, 8, 14, 15)] :: BIG
def rh_node : Room := { frames := 9, cells := 1, slots := 6, locals := 208 }
def wh_node : List Cond := Cond.codeWith yL_node cL_node 5 (some .int) [(0, 10, 13, 24), (0, 10, 17, 26)] :: BIG
def rh_shift : Room := { frames := 9, cells := 1, slots := 6, locals := 208 }
def wh_shift : List Cond := Cond.codeWith yL_shift cL_shift 5 (some .int) [(0, 10, 13, 24), (0, 10, 17, 13)] :: BIG
def rh_hears : Room := { frames := 9, cells := 1, slots := 6, locals := 208 }
def wh_hears : List Cond := Cond.codeWith yL_hears cL_hears 5 (some .int) [(0, 17, 20, 24), (0, 17, 24, 13)] :: BIG
def rh_rounds : Room := { frames := 9, cells := 1, slots := 6, locals := 234 }
def wh_rounds : List Cond := Cond.codeWith yL_rounds cL_rounds 4 (some .int) [(0, 9, 12, 13)] :: BIG
def rh_add : Room := { frames := 9, cells := 1, slots := 6, locals := 149 }
def wh_add : List Cond := Cond.codeWith yL_add cL_add 4 (some .int) [(0, 9, 12, 13), (0, 9, 15, 42)] :: BIG
def rh_power : Room := { frames := 9, cells := 1, slots := 6, locals := 186 }
def wh_power : List Cond := Cond.codeWith yL_power cL_power 5 (some .int) [(0, 10, 13, 24), (0, 10, 17, 42)] :: BIG
def rh_spoil : Room := { frames := 9, cells := 1, slots := 6, locals := 153 }
def wh_spoil : List Cond := Cond.codeWith yL_spoil cL_spoil 6 (some .int) [(0, 12, 15, 24), (0, 12, 19, 13)] :: BIG
def rh_set : Room := { frames := 9, cells := 1, slots := 6, locals := 151 }
def wh_set : List Cond := Cond.codeWith yL_set cL_set 5 (some .int) [(0, 10, 13, 24), (0, 10, 17, 13)] :: BIG
def rh_tune : Room := { frames := 9, cells := 1, slots := 6, locals := 151 }
def wh_tune : List Cond := Cond.codeWith yL_tune cL_tune 5 (some .int) [(0, 10, 13, 13)] :: BIG
def rh_mid : Room := { frames := 9, cells := 1, slots := 6, locals := 150 }
def wh_mid : List Cond := Cond.codeWith yL_mid cL_mid 3 (some .int) [(0, 8, 11, 13)] :: BIG
def rh_settles : Room := { frames := 9, cells := 1, slots := 6, locals := 233 }
def wh_settles : List Cond := Cond.codeWith yL_settles cL_settles 4 (some .int) [(0, 9, 12, 13)] :: BIG
def rh_widest : Room := { frames := 9, cells := 1, slots := 6, locals := 234 }
def wh_widest : List Cond := Cond.codeWith yL_widest cL_widest 4 (some .int) [(0, 9, 12, 13)] :: BIG
def rh_read : Room := { frames := 9, cells := 1, slots := 6, locals := 150 }
def wh_read : List Cond := Cond.codeWith yL_read cL_read 4 (some .int) [(0, 9, 12, 13)] :: BIG
def rh_when : Room := { frames := 9, cells := 1, slots := 6, locals := 154 }
def wh_when : List Cond := Cond.codeWith yL_when cL_when 3 (some .int) [(0, 8, 11, 13)] :: BIG
def rh_blame : Room := { frames := 9, cells := 1, slots := 6, locals := 149 }
def wh_blame : List Cond := Cond.codeWith yL_blame cL_blame 3 (some .int) [(0, 8, 11, 13)] :: BIG
def rh_guilty : Room := { frames := 9, cells := 1, slots := 6, locals := 149 }
def wh_guilty : List Cond := Cond.codeWith yL_guilty cL_guilty 3 (some .int) [(0, 8, 11, 13)] :: BIG
def rh_probe : Room := { frames := 9, cells := 1, slots := 6, locals := 159 }
def wh_probe : List Cond := Cond.codeWith yL_probe cL_probe 3 (some .int) [(0, 8, 11, 13)] :: BIG
def rh_pairs : Room := { frames := 9, cells := 1, slots := 6, locals := 207 }
def wh_pairs : List Cond := Cond.codeWith yL_pairs cL_pairs 4 (some .int) [(0, 9, 12, 24)] :: BIG
def rh_share : Room := { frames := 9, cells := 1, slots := 6, locals := 151 }
def wh_share : List Cond := Cond.codeWith yL_share cL_share 5 (some .int) [(0, 10, 13, 24), (0, 10, 17, 13)] :: BIG
def rh_rests : Room := { frames := 9, cells := 1, slots := 6, locals := 153 }
def wh_rests : List Cond := Cond.codeWith yL_rests cL_rests 4 (some .int) [(0, 9, 12, 24)] :: BIG
def rh_odds : Room := { frames := 9, cells := 1, slots := 6, locals := 219 }
def wh_odds : List Cond := Cond.codeWith yL_odds cL_odds 6 (some .int) [(0, 12, 15, 24), (0, 12, 19, 13)] :: BIG
def rh_most : Room := { frames := 9, cells := 1, slots := 6, locals := 155 }
def wh_most : List Cond := Cond.codeWith yL_most cL_most 4 (some .int) [(0, 9, 12, 26)] :: BIG
def rh_byState : Room := { frames := 9, cells := 1, slots := 6, locals := 149 }
def wh_byState : List Cond := Cond.codeWith yL_byState cL_byState 4 (some .int) [(0, 9, 12, 26)] :: BIG
def rh_ahead : Room := { frames := 9, cells := 1, slots := 6, locals := 257 }
def wh_ahead : List Cond := Cond.codeWith yL_ahead cL_ahead 6 (some .int) [(0, 12, 15, 24), (0, 12, 19, 13)] :: BIG
def rh_trial : Room := { frames := 9, cells := 1, slots := 6, locals := 256 }
def wh_trial : List Cond := Cond.codeWith yL_trial cL_trial 5 (some .int) [(0, 10, 13, 13)] :: BIG
def rh_span : Room := { frames := 9, cells := 1, slots := 6, locals := 259 }
def wh_span : List Cond := Cond.codeWith yL_span cL_span 5 (some .int) [(0, 10, 13, 13)] :: BIG
def rh_led : Room := { frames := 9, cells := 1, slots := 6, locals := 153 }
def wh_led : List Cond := Cond.codeWith yL_led cL_led 5 (some .int) [(0, 10, 13, 24)] :: BIG
def rh_log : Room := { frames := 9, cells := 1, slots := 6, locals := 150 }
def wh_log : List Cond := Cond.codeWith yL_log cL_log 5 (some .int) [(0, 10, 13, 26)] :: BIG
