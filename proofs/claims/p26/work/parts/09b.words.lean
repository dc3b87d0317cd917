/-! THE TABLES' WORDS, by their places (written by program) -/
set_option maxRecDepth 100000 in
theorem co_X10_rest : Cond.code yX10_rest cX10_rest 3 none ∈ xT := List.mem_filter.mpr ⟨List.mem_append_right _ (List.mem_of_getElem? (i := 1036) rfl), by rfl⟩
set_option maxRecDepth 100000 in
theorem im_X10_refill : Cond.instanceMethod yX10_refill ∈ xT := List.mem_filter.mpr ⟨List.mem_append_right _ (List.mem_of_getElem? (i := 1039) rfl), by rfl⟩
set_option maxRecDepth 100000 in
theorem co_X10_refill : Cond.code yX10_refill cX10_refill 6 none ∈ xT := List.mem_filter.mpr ⟨List.mem_append_right _ (List.mem_of_getElem? (i := 1040) rfl), by rfl⟩
set_option maxRecDepth 100000 in
theorem im_X10_noteLack : Cond.instanceMethod yX10_noteLack ∈ xT := List.mem_filter.mpr ⟨List.mem_append_right _ (List.mem_of_getElem? (i := 1043) rfl), by rfl⟩
set_option maxRecDepth 100000 in
theorem co_X10_noteLack : Cond.code yX10_noteLack cX10_noteLack 7 none ∈ xT := List.mem_filter.mpr ⟨List.mem_append_right _ (List.mem_of_getElem? (i := 1044) rfl), by rfl⟩
set_option maxRecDepth 100000 in
theorem im_X10_tick : Cond.instanceMethod yX10_tick ∈ xT := List.mem_filter.mpr ⟨List.mem_append_right _ (List.mem_of_getElem? (i := 1047) rfl), by rfl⟩
set_option maxRecDepth 100000 in
theorem co_X10_tick : Cond.code yX10_tick cX10_tick 4 none ∈ xT := List.mem_filter.mpr ⟨List.mem_append_right _ (List.mem_of_getElem? (i := 1048) rfl), by rfl⟩
set_option maxRecDepth 100000 in
theorem im_X0_removeEnding : Cond.instanceMethod yX0_removeEnding ∈ xT := List.mem_filter.mpr ⟨List.mem_append_right _ (List.mem_of_getElem? (i := 1050) rfl), by rfl⟩
set_option maxRecDepth 100000 in
theorem se_X0_removeEnding : Cond.selects yX0_removeEnding.cls yX0_removeEnding yX0_removeEnding ∈ xT := List.mem_filter.mpr ⟨List.mem_append_right _ (List.mem_of_getElem? (i := 1051) rfl), by rfl⟩
set_option maxRecDepth 100000 in
theorem co_X0_removeEnding : Cond.code yX0_removeEnding cX0_removeEnding 4 (some .int) ∈ xT := List.mem_filter.mpr ⟨List.mem_append_right _ (List.mem_of_getElem? (i := 1052) rfl), by rfl⟩
set_option maxRecDepth 100000 in
theorem im_X0_removeAt : Cond.instanceMethod yX0_removeAt ∈ xT := List.mem_filter.mpr ⟨List.mem_append_right _ (List.mem_of_getElem? (i := 1055) rfl), by rfl⟩
set_option maxRecDepth 100000 in
theorem co_X0_removeAt : Cond.code yX0_removeAt cX0_removeAt 3 none ∈ xT := List.mem_filter.mpr ⟨List.mem_append_right _ (List.mem_of_getElem? (i := 1056) rfl), by rfl⟩
set_option maxRecDepth 100000 in
theorem im_X10_arrive : Cond.instanceMethod yX10_arrive ∈ xT := List.mem_filter.mpr ⟨List.mem_append_right _ (List.mem_of_getElem? (i := 1059) rfl), by rfl⟩
set_option maxRecDepth 100000 in
theorem co_X10_arrive : Cond.code yX10_arrive cX10_arrive 5 none ∈ xT := List.mem_filter.mpr ⟨List.mem_append_right _ (List.mem_of_getElem? (i := 1060) rfl), by rfl⟩
set_option maxRecDepth 100000 in
theorem im_X4_join : Cond.instanceMethod yX4_join ∈ xT := List.mem_filter.mpr ⟨List.mem_append_right _ (List.mem_of_getElem? (i := 1063) rfl), by rfl⟩
set_option maxRecDepth 100000 in
theorem se_X4_join : Cond.selects yX4_join.cls yX4_join yX4_join ∈ xT := List.mem_filter.mpr ⟨List.mem_append_right _ (List.mem_of_getElem? (i := 1064) rfl), by rfl⟩
set_option maxRecDepth 100000 in
theorem co_X4_join : Cond.code yX4_join cX4_join 4 none ∈ xT := List.mem_filter.mpr ⟨List.mem_append_right _ (List.mem_of_getElem? (i := 1065) rfl), by rfl⟩
set_option maxRecDepth 100000 in
theorem im_X10_refund : Cond.instanceMethod yX10_refund ∈ xT := List.mem_filter.mpr ⟨List.mem_append_right _ (List.mem_of_getElem? (i := 1068) rfl), by rfl⟩
set_option maxRecDepth 100000 in
theorem co_X10_refund : Cond.code yX10_refund cX10_refund 4 none ∈ xT := List.mem_filter.mpr ⟨List.mem_append_right _ (List.mem_of_getElem? (i := 1069) rfl), by rfl⟩
set_option maxRecDepth 100000 in
theorem im_X10_openGate : Cond.instanceMethod yX10_openGate ∈ xT := List.mem_filter.mpr ⟨List.mem_append_right _ (List.mem_of_getElem? (i := 1073) rfl), by rfl⟩
set_option maxRecDepth 100000 in
theorem co_X10_openGate : Cond.code yX10_openGate cX10_openGate 8 none ∈ xT := List.mem_filter.mpr ⟨List.mem_append_right _ (List.mem_of_getElem? (i := 1074) rfl), by rfl⟩
set_option maxRecDepth 100000 in
theorem im_X4_leave : Cond.instanceMethod yX4_leave ∈ xT := List.mem_filter.mpr ⟨List.mem_append_right _ (List.mem_of_getElem? (i := 1076) rfl), by rfl⟩
set_option maxRecDepth 100000 in
theorem se_X4_leave : Cond.selects yX4_leave.cls yX4_leave yX4_leave ∈ xT := List.mem_filter.mpr ⟨List.mem_append_right _ (List.mem_of_getElem? (i := 1077) rfl), by rfl⟩
set_option maxRecDepth 100000 in
theorem co_X4_leave : Cond.code yX4_leave cX4_leave 3 none ∈ xT := List.mem_filter.mpr ⟨List.mem_append_right _ (List.mem_of_getElem? (i := 1078) rfl), by rfl⟩
set_option maxRecDepth 100000 in
theorem im_X10_passGate : Cond.instanceMethod yX10_passGate ∈ xT := List.mem_filter.mpr ⟨List.mem_append_right _ (List.mem_of_getElem? (i := 1082) rfl), by rfl⟩
set_option maxRecDepth 100000 in
theorem co_X10_passGate : Cond.code yX10_passGate cX10_passGate 6 none ∈ xT := List.mem_filter.mpr ⟨List.mem_append_right _ (List.mem_of_getElem? (i := 1083) rfl), by rfl⟩
set_option maxRecDepth 100000 in
theorem im_X0_spend : Cond.instanceMethod yX0_spend ∈ xT := List.mem_filter.mpr ⟨List.mem_append_right _ (List.mem_of_getElem? (i := 1085) rfl), by rfl⟩
set_option maxRecDepth 100000 in
theorem se_X0_spend : Cond.selects yX0_spend.cls yX0_spend yX0_spend ∈ xT := List.mem_filter.mpr ⟨List.mem_append_right _ (List.mem_of_getElem? (i := 1086) rfl), by rfl⟩
set_option maxRecDepth 100000 in
theorem co_X0_spend : Cond.code yX0_spend cX0_spend 6 none ∈ xT := List.mem_filter.mpr ⟨List.mem_append_right _ (List.mem_of_getElem? (i := 1087) rfl), by rfl⟩
set_option maxRecDepth 100000 in
theorem im_X0_firstToEnd : Cond.instanceMethod yX0_firstToEnd ∈ xT := List.mem_filter.mpr ⟨List.mem_append_right _ (List.mem_of_getElem? (i := 1090) rfl), by rfl⟩
set_option maxRecDepth 100000 in
theorem co_X0_firstToEnd : Cond.code yX0_firstToEnd cX0_firstToEnd 4 (some .int) ∈ xT := List.mem_filter.mpr ⟨List.mem_append_right _ (List.mem_of_getElem? (i := 1091) rfl), by rfl⟩
set_option maxRecDepth 100000 in
theorem im_X7_valueFor : Cond.instanceMethod yX7_valueFor ∈ xT := List.mem_filter.mpr ⟨List.mem_append_right _ (List.mem_of_getElem? (i := 1093) rfl), by rfl⟩
set_option maxRecDepth 100000 in
theorem se_X7_valueFor : Cond.selects yX7_valueFor.cls yX7_valueFor yX7_valueFor ∈ xT := List.mem_filter.mpr ⟨List.mem_append_right _ (List.mem_of_getElem? (i := 1094) rfl), by rfl⟩
set_option maxRecDepth 100000 in
theorem co_X7_valueFor : Cond.code yX7_valueFor cX7_valueFor 8 (some .int) ∈ xT := List.mem_filter.mpr ⟨List.mem_append_right _ (List.mem_of_getElem? (i := 1095) rfl), by rfl⟩
set_option maxRecDepth 100000 in
theorem sm_X7_combine : Cond.static yX7_combine ∈ xT := List.mem_filter.mpr ⟨List.mem_append_right _ (List.mem_of_getElem? (i := 1097) rfl), by rfl⟩
set_option maxRecDepth 100000 in
theorem co_X7_combine : Cond.code yX7_combine cX7_combine 7 (some .int) ∈ xT := List.mem_filter.mpr ⟨List.mem_append_right _ (List.mem_of_getElem? (i := 1098) rfl), by rfl⟩
set_option maxRecDepth 100000 in
theorem kc_X7_31 : Cond.constantLong RX7 31 (Int64.ofInt (-1000000)) ∈ xT := List.mem_filter.mpr ⟨List.mem_append_right _ (List.mem_of_getElem? (i := 1099) rfl), by rfl⟩
set_option maxRecDepth 100000 in
theorem kc_X7_33 : Cond.constantLong RX7 33 (Int64.ofInt (1000000)) ∈ xT := List.mem_filter.mpr ⟨List.mem_append_right _ (List.mem_of_getElem? (i := 1100) rfl), by rfl⟩
set_option maxRecDepth 100000 in
theorem im_X6_add : Cond.instanceMethod yX6_add ∈ xT := List.mem_filter.mpr ⟨List.mem_append_right _ (List.mem_of_getElem? (i := 1106) rfl), by rfl⟩
set_option maxRecDepth 100000 in
theorem se_X6_add : Cond.selects yX6_add.cls yX6_add yX6_add ∈ xT := List.mem_filter.mpr ⟨List.mem_append_right _ (List.mem_of_getElem? (i := 1107) rfl), by rfl⟩
set_option maxRecDepth 100000 in
theorem co_X6_add : Cond.code yX6_add cX6_add 7 none ∈ xT := List.mem_filter.mpr ⟨List.mem_append_right _ (List.mem_of_getElem? (i := 1108) rfl), by rfl⟩
set_option maxRecDepth 100000 in
theorem sm_L_help : Cond.static yL_help ∈ xT := List.mem_filter.mpr ⟨List.mem_append_right _ (List.mem_of_getElem? (i := 1110) rfl), by rfl⟩
set_option maxRecDepth 100000 in
theorem im_X11_help : Cond.instanceMethod yX11_help ∈ xT := List.mem_filter.mpr ⟨List.mem_append_right _ (List.mem_of_getElem? (i := 1113) rfl), by rfl⟩
set_option maxRecDepth 100000 in
theorem se_X11_help : Cond.selects yX11_help.cls yX11_help yX11_help ∈ xT := List.mem_filter.mpr ⟨List.mem_append_right _ (List.mem_of_getElem? (i := 1114) rfl), by rfl⟩
set_option maxRecDepth 100000 in
theorem co_X11_help : Cond.code yX11_help cX11_help 6 (some .int) ∈ xT := List.mem_filter.mpr ⟨List.mem_append_right _ (List.mem_of_getElem? (i := 1115) rfl), by rfl⟩
set_option maxRecDepth 100000 in
theorem sm_L_pass : Cond.static yL_pass ∈ xT := List.mem_filter.mpr ⟨List.mem_append_right _ (List.mem_of_getElem? (i := 1119) rfl), by rfl⟩
set_option maxRecDepth 100000 in
theorem im_X11_pass : Cond.instanceMethod yX11_pass ∈ xT := List.mem_filter.mpr ⟨List.mem_append_right _ (List.mem_of_getElem? (i := 1122) rfl), by rfl⟩
set_option maxRecDepth 100000 in
theorem se_X11_pass : Cond.selects yX11_pass.cls yX11_pass yX11_pass ∈ xT := List.mem_filter.mpr ⟨List.mem_append_right _ (List.mem_of_getElem? (i := 1123) rfl), by rfl⟩
set_option maxRecDepth 100000 in
theorem co_X11_pass : Cond.code yX11_pass cX11_pass 3 (some .int) ∈ xT := List.mem_filter.mpr ⟨List.mem_append_right _ (List.mem_of_getElem? (i := 1124) rfl), by rfl⟩
set_option maxRecDepth 100000 in
theorem im_X5_countIn : Cond.instanceMethod yX5_countIn ∈ xT := List.mem_filter.mpr ⟨List.mem_append_right _ (List.mem_of_getElem? (i := 1126) rfl), by rfl⟩
set_option maxRecDepth 100000 in
theorem se_X5_countIn : Cond.selects yX5_countIn.cls yX5_countIn yX5_countIn ∈ xT := List.mem_filter.mpr ⟨List.mem_append_right _ (List.mem_of_getElem? (i := 1127) rfl), by rfl⟩
set_option maxRecDepth 100000 in
theorem co_X5_countIn : Cond.code yX5_countIn cX5_countIn 4 (some .int) ∈ xT := List.mem_filter.mpr ⟨List.mem_append_right _ (List.mem_of_getElem? (i := 1128) rfl), by rfl⟩
set_option maxRecDepth 100000 in
theorem sm_L_forward : Cond.static yL_forward ∈ xT := List.mem_filter.mpr ⟨List.mem_append_right _ (List.mem_of_getElem? (i := 1130) rfl), by rfl⟩
set_option maxRecDepth 100000 in
theorem im_X11_forward : Cond.instanceMethod yX11_forward ∈ xT := List.mem_filter.mpr ⟨List.mem_append_right _ (List.mem_of_getElem? (i := 1133) rfl), by rfl⟩
set_option maxRecDepth 100000 in
theorem se_X11_forward : Cond.selects yX11_forward.cls yX11_forward yX11_forward ∈ xT := List.mem_filter.mpr ⟨List.mem_append_right _ (List.mem_of_getElem? (i := 1134) rfl), by rfl⟩
set_option maxRecDepth 100000 in
theorem co_X11_forward : Cond.code yX11_forward cX11_forward 5 (some .int) ∈ xT := List.mem_filter.mpr ⟨List.mem_append_right _ (List.mem_of_getElem? (i := 1135) rfl), by rfl⟩
set_option maxRecDepth 100000 in
theorem im_X11_checkCoupon : Cond.instanceMethod yX11_checkCoupon ∈ xT := List.mem_filter.mpr ⟨List.mem_append_right _ (List.mem_of_getElem? (i := 1138) rfl), by rfl⟩
set_option maxRecDepth 100000 in
theorem co_X11_checkCoupon : Cond.code yX11_checkCoupon cX11_checkCoupon 2 none ∈ xT := List.mem_filter.mpr ⟨List.mem_append_right _ (List.mem_of_getElem? (i := 1139) rfl), by rfl⟩
set_option maxRecDepth 100000 in
theorem sm_L_grant : Cond.static yL_grant ∈ xT := List.mem_filter.mpr ⟨List.mem_append_right _ (List.mem_of_getElem? (i := 1142) rfl), by rfl⟩
set_option maxRecDepth 100000 in
theorem kl_L_99 : Cond.classLink RL 99 "java/lang/IllegalStateException" ∈ xT := List.mem_filter.mpr ⟨List.mem_append_right _ (List.mem_of_getElem? (i := 1144) rfl), by rfl⟩
set_option maxRecDepth 100000 in
theorem im_X11_grant : Cond.instanceMethod yX11_grant ∈ xT := List.mem_filter.mpr ⟨List.mem_append_right _ (List.mem_of_getElem? (i := 1146) rfl), by rfl⟩
set_option maxRecDepth 100000 in
theorem se_X11_grant : Cond.selects yX11_grant.cls yX11_grant yX11_grant ∈ xT := List.mem_filter.mpr ⟨List.mem_append_right _ (List.mem_of_getElem? (i := 1147) rfl), by rfl⟩
set_option maxRecDepth 100000 in
theorem co_X11_grant : Cond.code yX11_grant cX11_grant 4 (some .int) ∈ xT := List.mem_filter.mpr ⟨List.mem_append_right _ (List.mem_of_getElem? (i := 1148) rfl), by rfl⟩
set_option maxRecDepth 100000 in
theorem kl_X11_250 : Cond.classLink RX11 250 "java/lang/IllegalStateException" ∈ xT := List.mem_filter.mpr ⟨List.mem_append_right _ (List.mem_of_getElem? (i := 1149) rfl), by rfl⟩
set_option maxRecDepth 100000 in
theorem kc_L_101 : Cond.constant RL 101 (Int32.ofInt (-2000000099)) ∈ xT := List.mem_filter.mpr ⟨List.mem_append_right _ (List.mem_of_getElem? (i := 1165) rfl), by rfl⟩
set_option maxRecDepth 100000 in
theorem sm_L_send : Cond.static yL_send ∈ xT := List.mem_filter.mpr ⟨List.mem_append_right _ (List.mem_of_getElem? (i := 1167) rfl), by rfl⟩
set_option maxRecDepth 100000 in
theorem im_X11_send : Cond.instanceMethod yX11_send ∈ xT := List.mem_filter.mpr ⟨List.mem_append_right _ (List.mem_of_getElem? (i := 1170) rfl), by rfl⟩
set_option maxRecDepth 100000 in
theorem se_X11_send : Cond.selects yX11_send.cls yX11_send yX11_send ∈ xT := List.mem_filter.mpr ⟨List.mem_append_right _ (List.mem_of_getElem? (i := 1171) rfl), by rfl⟩
set_option maxRecDepth 100000 in
theorem co_X11_send : Cond.code yX11_send cX11_send 3 (some .int) ∈ xT := List.mem_filter.mpr ⟨List.mem_append_right _ (List.mem_of_getElem? (i := 1172) rfl), by rfl⟩
set_option maxRecDepth 100000 in
theorem sm_L_setThrift : Cond.static yL_setThrift ∈ xT := List.mem_filter.mpr ⟨List.mem_append_right _ (List.mem_of_getElem? (i := 1176) rfl), by rfl⟩
set_option maxRecDepth 100000 in
theorem im_X11_setThrift : Cond.instanceMethod yX11_setThrift ∈ xT := List.mem_filter.mpr ⟨List.mem_append_right _ (List.mem_of_getElem? (i := 1179) rfl), by rfl⟩
set_option maxRecDepth 100000 in
theorem se_X11_setThrift : Cond.selects yX11_setThrift.cls yX11_setThrift yX11_setThrift ∈ xT := List.mem_filter.mpr ⟨List.mem_append_right _ (List.mem_of_getElem? (i := 1180) rfl), by rfl⟩
set_option maxRecDepth 100000 in
theorem co_X11_setThrift : Cond.code yX11_setThrift cX11_setThrift 4 (some .int) ∈ xT := List.mem_filter.mpr ⟨List.mem_append_right _ (List.mem_of_getElem? (i := 1181) rfl), by rfl⟩
set_option maxRecDepth 100000 in
theorem sm_L_randomRoad : Cond.static yL_randomRoad ∈ xT := List.mem_filter.mpr ⟨List.mem_append_right _ (List.mem_of_getElem? (i := 1184) rfl), by rfl⟩
set_option maxRecDepth 100000 in
theorem co_L_randomRoad : Cond.code yL_randomRoad cL_randomRoad 9 (some (.object "PacketTollLaw$Road")) ∈ xT := List.mem_filter.mpr ⟨List.mem_append_right _ (List.mem_of_getElem? (i := 1185) rfl), by rfl⟩
set_option maxRecDepth 100000 in
theorem sm_L_write : Cond.static yL_write ∈ xT := List.mem_filter.mpr ⟨List.mem_append_right _ (List.mem_of_getElem? (i := 1188) rfl), by rfl⟩
set_option maxRecDepth 100000 in
theorem co_L_write : Cond.code yL_write cL_write 4 none ∈ xT := List.mem_filter.mpr ⟨List.mem_append_right _ (List.mem_of_getElem? (i := 1189) rfl), by rfl⟩
set_option maxRecDepth 100000 in
theorem sm_L_put : Cond.static yL_put ∈ xT := List.mem_filter.mpr ⟨List.mem_append_right _ (List.mem_of_getElem? (i := 1193) rfl), by rfl⟩
set_option maxRecDepth 100000 in
theorem co_L_put : Cond.code yL_put cL_put 3 none ∈ xT := List.mem_filter.mpr ⟨List.mem_append_right _ (List.mem_of_getElem? (i := 1194) rfl), by rfl⟩
set_option maxRecDepth 100000 in
theorem sm_L_flush : Cond.static yL_flush ∈ xT := List.mem_filter.mpr ⟨List.mem_append_right _ (List.mem_of_getElem? (i := 1196) rfl), by rfl⟩
set_option maxRecDepth 100000 in
theorem co_L_flush : Cond.code yL_flush cL_flush 3 none ∈ xT := List.mem_filter.mpr ⟨List.mem_append_right _ (List.mem_of_getElem? (i := 1197) rfl), by rfl⟩
set_option maxRecDepth 100000 in
theorem im_X11_append : Cond.instanceMethod yX11_append ∈ xT := List.mem_filter.mpr ⟨List.mem_append_right _ (List.mem_of_getElem? (i := 1199) rfl), by rfl⟩
set_option maxRecDepth 100000 in
theorem se_X11_append : Cond.selects yX11_append.cls yX11_append yX11_append ∈ xT := List.mem_filter.mpr ⟨List.mem_append_right _ (List.mem_of_getElem? (i := 1200) rfl), by rfl⟩
set_option maxRecDepth 100000 in
theorem co_X11_append : Cond.code yX11_append cX11_append 7 (some .int) ∈ xT := List.mem_filter.mpr ⟨List.mem_append_right _ (List.mem_of_getElem? (i := 1201) rfl), by rfl⟩
set_option maxRecDepth 100000 in
theorem im_X9_put : Cond.instanceMethod yX9_put ∈ xT := List.mem_filter.mpr ⟨List.mem_append_right _ (List.mem_of_getElem? (i := 1203) rfl), by rfl⟩
set_option maxRecDepth 100000 in
theorem se_X9_put : Cond.selects yX9_put.cls yX9_put yX9_put ∈ xT := List.mem_filter.mpr ⟨List.mem_append_right _ (List.mem_of_getElem? (i := 1204) rfl), by rfl⟩
set_option maxRecDepth 100000 in
theorem co_X9_put : Cond.code yX9_put cX9_put 3 none ∈ xT := List.mem_filter.mpr ⟨List.mem_append_right _ (List.mem_of_getElem? (i := 1205) rfl), by rfl⟩
set_option maxRecDepth 100000 in
theorem sm_L_writeNumbers : Cond.static yL_writeNumbers ∈ xT := List.mem_filter.mpr ⟨List.mem_append_right _ (List.mem_of_getElem? (i := 1208) rfl), by rfl⟩
set_option maxRecDepth 100000 in
theorem co_L_writeNumbers : Cond.code yL_writeNumbers cL_writeNumbers 8 none ∈ xT := List.mem_filter.mpr ⟨List.mem_append_right _ (List.mem_of_getElem? (i := 1209) rfl), by rfl⟩
set_option maxRecDepth 100000 in
theorem sm_L_writeNumber : Cond.static yL_writeNumber ∈ xT := List.mem_filter.mpr ⟨List.mem_append_right _ (List.mem_of_getElem? (i := 1212) rfl), by rfl⟩
set_option maxRecDepth 100000 in
theorem co_L_writeNumber : Cond.code yL_writeNumber cL_writeNumber 4 none ∈ xT := List.mem_filter.mpr ⟨List.mem_append_right _ (List.mem_of_getElem? (i := 1213) rfl), by rfl⟩
set_option maxRecDepth 100000 in
theorem sm_X12_random : Cond.static yX12_random ∈ xT := List.mem_filter.mpr ⟨List.mem_append_right _ (List.mem_of_getElem? (i := 1222) rfl), by rfl⟩
set_option maxRecDepth 100000 in
theorem co_X12_random : Cond.code yX12_random cX12_random 3 (some (.object "PacketTollLaw$Node")) ∈ xT := List.mem_filter.mpr ⟨List.mem_append_right _ (List.mem_of_getElem? (i := 1223) rfl), by rfl⟩
set_option maxRecDepth 100000 in
theorem kl_X12_7 : Cond.classLink RX12 7 RX12 ∈ xT := List.mem_filter.mpr ⟨List.mem_append_right _ (List.mem_of_getElem? (i := 1224) rfl), by rfl⟩
set_option maxRecDepth 100000 in
theorem is_X12 : Cond.instantiable RX12 4 ∈ xT := List.mem_filter.mpr ⟨List.mem_append_right _ (List.mem_of_getElem? (i := 1225) rfl), by rfl⟩
set_option maxRecDepth 100000 in
theorem im_X12_init : Cond.instanceMethod yX12_init ∈ xT := List.mem_filter.mpr ⟨List.mem_append_right _ (List.mem_of_getElem? (i := 1227) rfl), by rfl⟩
set_option maxRecDepth 100000 in
theorem co_X12_init : Cond.code yX12_init cX12_init 1 none ∈ xT := List.mem_filter.mpr ⟨List.mem_append_right _ (List.mem_of_getElem? (i := 1228) rfl), by rfl⟩
set_option maxRecDepth 100000 in
theorem im_X12_text : Cond.instanceMethod yX12_text ∈ xT := List.mem_filter.mpr ⟨List.mem_append_right _ (List.mem_of_getElem? (i := 1247) rfl), by rfl⟩
set_option maxRecDepth 100000 in
theorem se_X12_text : Cond.selects yX12_text.cls yX12_text yX12_text ∈ xT := List.mem_filter.mpr ⟨List.mem_append_right _ (List.mem_of_getElem? (i := 1248) rfl), by rfl⟩
set_option maxRecDepth 100000 in
theorem co_X12_text : Cond.code yX12_text cX12_text 4 (some (.object "java/lang/String")) ∈ xT := List.mem_filter.mpr ⟨List.mem_append_right _ (List.mem_of_getElem? (i := 1249) rfl), by rfl⟩
set_option maxRecDepth 100000 in
theorem kl_X12_34 : Cond.classLink RX12 34 RJ4 ∈ xT := List.mem_filter.mpr ⟨List.mem_append_right _ (List.mem_of_getElem? (i := 1250) rfl), by rfl⟩
set_option maxRecDepth 100000 in
theorem is_J4 : Cond.instantiable RJ4 4 ∈ xT := List.mem_filter.mpr ⟨List.mem_append_right _ (List.mem_of_getElem? (i := 1251) rfl), by rfl⟩
set_option maxRecDepth 100000 in
theorem im_J4_init_da8c8 : Cond.instanceMethod yJ4_init_da8c8 ∈ xT := List.mem_filter.mpr ⟨List.mem_append_right _ (List.mem_of_getElem? (i := 1253) rfl), by rfl⟩
set_option maxRecDepth 100000 in
theorem co_J4_init_da8c8 : Cond.code yJ4_init_da8c8 cJ4_init_da8c8 1 none ∈ xT := List.mem_filter.mpr ⟨List.mem_append_right _ (List.mem_of_getElem? (i := 1254) rfl), by rfl⟩
set_option maxRecDepth 100000 in
theorem im_J5_init_d00df : Cond.instanceMethod yJ5_init_d00df ∈ xT := List.mem_filter.mpr ⟨List.mem_append_right _ (List.mem_of_getElem? (i := 1256) rfl), by rfl⟩
set_option maxRecDepth 100000 in
theorem co_J5_init_d00df : Cond.code yJ5_init_d00df cJ5_init_d00df 2 none ∈ xT := List.mem_filter.mpr ⟨List.mem_append_right _ (List.mem_of_getElem? (i := 1257) rfl), by rfl⟩
set_option maxRecDepth 100000 in
theorem sm_J2_newBytesFor_77867 : Cond.static yJ2_newBytesFor_77867 ∈ xT := List.mem_filter.mpr ⟨List.mem_append_right _ (List.mem_of_getElem? (i := 1261) rfl), by rfl⟩
set_option maxRecDepth 100000 in
theorem co_J2_newBytesFor_77867 : Cond.code yJ2_newBytesFor_77867 cJ2_newBytesFor_77867 1 (some (.array .byte)) ∈ xT := List.mem_filter.mpr ⟨List.mem_append_right _ (List.mem_of_getElem? (i := 1262) rfl), by rfl⟩
set_option maxRecDepth 100000 in
theorem sm_J2_newBytesLength_0f7a4 : Cond.static yJ2_newBytesLength_0f7a4 ∈ xT := List.mem_filter.mpr ⟨List.mem_append_right _ (List.mem_of_getElem? (i := 1264) rfl), by rfl⟩
set_option maxRecDepth 100000 in
theorem co_J2_newBytesLength_0f7a4 : Cond.code yJ2_newBytesLength_0f7a4 cJ2_newBytesLength_0f7a4 1 (some .int) ∈ xT := List.mem_filter.mpr ⟨List.mem_append_right _ (List.mem_of_getElem? (i := 1265) rfl), by rfl⟩
set_option maxRecDepth 100000 in
theorem kc_J2_20 : Cond.constant RJ2 20 (Int32.ofInt (1073741823)) ∈ xT := List.mem_filter.mpr ⟨List.mem_append_right _ (List.mem_of_getElem? (i := 1266) rfl), by rfl⟩
set_option maxRecDepth 100000 in
theorem im_J4_append_15ec4 : Cond.instanceMethod yJ4_append_15ec4 ∈ xT := List.mem_filter.mpr ⟨List.mem_append_right _ (List.mem_of_getElem? (i := 1282) rfl), by rfl⟩
set_option maxRecDepth 100000 in
theorem se_J4_append_15ec4 : Cond.selects yJ4_append_15ec4.cls yJ4_append_15ec4 yJ4_append_15ec4 ∈ xT := List.mem_filter.mpr ⟨List.mem_append_right _ (List.mem_of_getElem? (i := 1283) rfl), by rfl⟩
set_option maxRecDepth 100000 in
theorem co_J4_append_15ec4 : Cond.code yJ4_append_15ec4 cJ4_append_15ec4 2 (some (.object "java/lang/StringBuilder")) ∈ xT := List.mem_filter.mpr ⟨List.mem_append_right _ (List.mem_of_getElem? (i := 1284) rfl), by rfl⟩
set_option maxRecDepth 100000 in
theorem im_J5_append_cf1ce : Cond.instanceMethod yJ5_append_cf1ce ∈ xT := List.mem_filter.mpr ⟨List.mem_append_right _ (List.mem_of_getElem? (i := 1286) rfl), by rfl⟩
set_option maxRecDepth 100000 in
theorem co_J5_append_cf1ce : Cond.code yJ5_append_cf1ce cJ5_append_cf1ce 3 (some (.object "java/lang/AbstractStringBuilder")) ∈ xT := List.mem_filter.mpr ⟨List.mem_append_right _ (List.mem_of_getElem? (i := 1287) rfl), by rfl⟩
set_option maxRecDepth 100000 in
theorem im_J5_appendNull_278bc : Cond.instanceMethod yJ5_appendNull_278bc ∈ xT := List.mem_filter.mpr ⟨List.mem_append_right _ (List.mem_of_getElem? (i := 1290) rfl), by rfl⟩
set_option maxRecDepth 100000 in
theorem co_J5_appendNull_278bc : Cond.code yJ5_appendNull_278bc cJ5_appendNull_278bc 3 (some (.object "java/lang/AbstractStringBuilder")) ∈ xT := List.mem_filter.mpr ⟨List.mem_append_right _ (List.mem_of_getElem? (i := 1291) rfl), by rfl⟩
set_option maxRecDepth 100000 in
theorem im_J5_ensureCapacityInternal_d00df : Cond.instanceMethod yJ5_ensureCapacityInternal_d00df ∈ xT := List.mem_filter.mpr ⟨List.mem_append_right _ (List.mem_of_getElem? (i := 1294) rfl), by rfl⟩
set_option maxRecDepth 100000 in
theorem co_J5_ensureCapacityInternal_d00df : Cond.code yJ5_ensureCapacityInternal_d00df cJ5_ensureCapacityInternal_d00df 3 none ∈ xT := List.mem_filter.mpr ⟨List.mem_append_right _ (List.mem_of_getElem? (i := 1295) rfl), by rfl⟩
set_option maxRecDepth 100000 in
theorem im_J5_newCapacity_0f7a4 : Cond.instanceMethod yJ5_newCapacity_0f7a4 ∈ xT := List.mem_filter.mpr ⟨List.mem_append_right _ (List.mem_of_getElem? (i := 1298) rfl), by rfl⟩
set_option maxRecDepth 100000 in
theorem co_J5_newCapacity_0f7a4 : Cond.code yJ5_newCapacity_0f7a4 cJ5_newCapacity_0f7a4 6 (some .int) ∈ xT := List.mem_filter.mpr ⟨List.mem_append_right _ (List.mem_of_getElem? (i := 1299) rfl), by rfl⟩
set_option maxRecDepth 100000 in
theorem sm_J8_newLength_cabcc : Cond.static yJ8_newLength_cabcc ∈ xT := List.mem_filter.mpr ⟨List.mem_append_right _ (List.mem_of_getElem? (i := 1301) rfl), by rfl⟩
set_option maxRecDepth 100000 in
theorem co_J8_newLength_cabcc : Cond.code yJ8_newLength_cabcc cJ8_newLength_cabcc 4 (some .int) ∈ xT := List.mem_filter.mpr ⟨List.mem_append_right _ (List.mem_of_getElem? (i := 1302) rfl), by rfl⟩
set_option maxRecDepth 100000 in
theorem kc_J8_200 : Cond.constant RJ8 200 (Int32.ofInt (2147483639)) ∈ xT := List.mem_filter.mpr ⟨List.mem_append_right _ (List.mem_of_getElem? (i := 1304) rfl), by rfl⟩
set_option maxRecDepth 100000 in
theorem sm_J8_hugeLength_7cf53 : Cond.static yJ8_hugeLength_7cf53 ∈ xT := List.mem_filter.mpr ⟨List.mem_append_right _ (List.mem_of_getElem? (i := 1306) rfl), by rfl⟩
set_option maxRecDepth 100000 in
theorem co_J8_hugeLength_7cf53 : Cond.code yJ8_hugeLength_7cf53 cJ8_hugeLength_7cf53 3 (some .int) ∈ xT := List.mem_filter.mpr ⟨List.mem_append_right _ (List.mem_of_getElem? (i := 1307) rfl), by rfl⟩
set_option maxRecDepth 100000 in
theorem kc_J5_39 : Cond.constant RJ5 39 (Int32.ofInt (2147483647)) ∈ xT := List.mem_filter.mpr ⟨List.mem_append_right _ (List.mem_of_getElem? (i := 1308) rfl), by rfl⟩
set_option maxRecDepth 100000 in
theorem sm_J7_copyOf_9075b : Cond.static yJ7_copyOf_9075b ∈ xT := List.mem_filter.mpr ⟨List.mem_append_right _ (List.mem_of_getElem? (i := 1310) rfl), by rfl⟩
set_option maxRecDepth 100000 in
theorem co_J7_copyOf_9075b : Cond.code yJ7_copyOf_9075b cJ7_copyOf_9075b 3 (some (.array .byte)) ∈ xT := List.mem_filter.mpr ⟨List.mem_append_right _ (List.mem_of_getElem? (i := 1311) rfl), by rfl⟩
set_option maxRecDepth 100000 in
theorem kl_J7_311 : Cond.classLink RJ7 311 "[B" ∈ xT := List.mem_filter.mpr ⟨List.mem_append_right _ (List.mem_of_getElem? (i := 1316) rfl), by rfl⟩
set_option maxRecDepth 100000 in
theorem im_J5_isLatin1_aae02 : Cond.instanceMethod yJ5_isLatin1_aae02 ∈ xT := List.mem_filter.mpr ⟨List.mem_append_right _ (List.mem_of_getElem? (i := 1318) rfl), by rfl⟩
set_option maxRecDepth 100000 in
theorem co_J5_isLatin1_aae02 : Cond.code yJ5_isLatin1_aae02 cJ5_isLatin1_aae02 1 (some .boolean) ∈ xT := List.mem_filter.mpr ⟨List.mem_append_right _ (List.mem_of_getElem? (i := 1321) rfl), by rfl⟩
set_option maxRecDepth 100000 in
theorem sm_J2_putCharsAt_cd4e5 : Cond.static yJ2_putCharsAt_cd4e5 ∈ xT := List.mem_filter.mpr ⟨List.mem_append_right _ (List.mem_of_getElem? (i := 1323) rfl), by rfl⟩
set_option maxRecDepth 100000 in
theorem co_J2_putCharsAt_cd4e5 : Cond.code yJ2_putCharsAt_cd4e5 cJ2_putCharsAt_cd4e5 7 (some .int) ∈ xT := List.mem_filter.mpr ⟨List.mem_append_right _ (List.mem_of_getElem? (i := 1324) rfl), by rfl⟩
set_option maxRecDepth 100000 in
theorem sm_J2_checkBoundsBeginEnd_d044e : Cond.static yJ2_checkBoundsBeginEnd_d044e ∈ xT := List.mem_filter.mpr ⟨List.mem_append_right _ (List.mem_of_getElem? (i := 1326) rfl), by rfl⟩
set_option maxRecDepth 100000 in
theorem co_J2_checkBoundsBeginEnd_d044e : Cond.code yJ2_checkBoundsBeginEnd_d044e cJ2_checkBoundsBeginEnd_d044e 3 none ∈ xT := List.mem_filter.mpr ⟨List.mem_append_right _ (List.mem_of_getElem? (i := 1327) rfl), by rfl⟩
set_option maxRecDepth 100000 in
theorem sm_J0_checkBoundsBeginEnd_23922 : Cond.static yJ0_checkBoundsBeginEnd_23922 ∈ xT := List.mem_filter.mpr ⟨List.mem_append_right _ (List.mem_of_getElem? (i := 1329) rfl), by rfl⟩
set_option maxRecDepth 100000 in
theorem co_J0_checkBoundsBeginEnd_23922 : Cond.code yJ0_checkBoundsBeginEnd_23922 cJ0_checkBoundsBeginEnd_23922 3 none ∈ xT := List.mem_filter.mpr ⟨List.mem_append_right _ (List.mem_of_getElem? (i := 1330) rfl), by rfl⟩
set_option maxRecDepth 100000 in
theorem sm_J3_checkFromToIndex_8c36e : Cond.static yJ3_checkFromToIndex_8c36e ∈ xT := List.mem_filter.mpr ⟨List.mem_append_right _ (List.mem_of_getElem? (i := 1332) rfl), by rfl⟩
set_option maxRecDepth 100000 in
theorem co_J3_checkFromToIndex_8c36e : Cond.code yJ3_checkFromToIndex_8c36e cJ3_checkFromToIndex_8c36e 4 (some .int) ∈ xT := List.mem_filter.mpr ⟨List.mem_append_right _ (List.mem_of_getElem? (i := 1333) rfl), by rfl⟩
set_option maxRecDepth 100000 in
theorem sm_J2_putChar_b72d1 : Cond.static yJ2_putChar_b72d1 ∈ xT := List.mem_filter.mpr ⟨List.mem_append_right _ (List.mem_of_getElem? (i := 1335) rfl), by rfl⟩
set_option maxRecDepth 100000 in
theorem co_J2_putChar_b72d1 : Cond.code yJ2_putChar_b72d1 cJ2_putChar_b72d1 3 none ∈ xT := List.mem_filter.mpr ⟨List.mem_append_right _ (List.mem_of_getElem? (i := 1336) rfl), by rfl⟩
set_option maxRecDepth 100000 in
theorem im_J5_putStringAt_47b60 : Cond.instanceMethod yJ5_putStringAt_47b60 ∈ xT := List.mem_filter.mpr ⟨List.mem_append_right _ (List.mem_of_getElem? (i := 1340) rfl), by rfl⟩
set_option maxRecDepth 100000 in
theorem co_J5_putStringAt_47b60 : Cond.code yJ5_putStringAt_47b60 cJ5_putStringAt_47b60 3 none ∈ xT := List.mem_filter.mpr ⟨List.mem_append_right _ (List.mem_of_getElem? (i := 1341) rfl), by rfl⟩
set_option maxRecDepth 100000 in
theorem im_J5_inflateIfNeededFor_a7421 : Cond.instanceMethod yJ5_inflateIfNeededFor_a7421 ∈ xT := List.mem_filter.mpr ⟨List.mem_append_right _ (List.mem_of_getElem? (i := 1344) rfl), by rfl⟩
set_option maxRecDepth 100000 in
theorem co_J5_inflateIfNeededFor_a7421 : Cond.code yJ5_inflateIfNeededFor_a7421 cJ5_inflateIfNeededFor_a7421 2 none ∈ xT := List.mem_filter.mpr ⟨List.mem_append_right _ (List.mem_of_getElem? (i := 1345) rfl), by rfl⟩
set_option maxRecDepth 100000 in
theorem im_J5_inflate_da8c8 : Cond.instanceMethod yJ5_inflate_da8c8 ∈ xT := List.mem_filter.mpr ⟨List.mem_append_right _ (List.mem_of_getElem? (i := 1349) rfl), by rfl⟩
set_option maxRecDepth 100000 in
theorem co_J5_inflate_da8c8 : Cond.code yJ5_inflate_da8c8 cJ5_inflate_da8c8 2 none ∈ xT := List.mem_filter.mpr ⟨List.mem_append_right _ (List.mem_of_getElem? (i := 1350) rfl), by rfl⟩
set_option maxRecDepth 100000 in
theorem sm_J1_inflate_0e8fd : Cond.static yJ1_inflate_0e8fd ∈ xT := List.mem_filter.mpr ⟨List.mem_append_right _ (List.mem_of_getElem? (i := 1352) rfl), by rfl⟩
set_option maxRecDepth 100000 in
theorem co_J1_inflate_0e8fd : Cond.code yJ1_inflate_0e8fd cJ1_inflate_0e8fd 5 none ∈ xT := List.mem_filter.mpr ⟨List.mem_append_right _ (List.mem_of_getElem? (i := 1353) rfl), by rfl⟩
set_option maxRecDepth 100000 in
theorem sm_J2_inflate_0e8fd : Cond.static yJ2_inflate_0e8fd ∈ xT := List.mem_filter.mpr ⟨List.mem_append_right _ (List.mem_of_getElem? (i := 1355) rfl), by rfl⟩
set_option maxRecDepth 100000 in
theorem co_J2_inflate_0e8fd : Cond.code yJ2_inflate_0e8fd cJ2_inflate_0e8fd 6 none ∈ xT := List.mem_filter.mpr ⟨List.mem_append_right _ (List.mem_of_getElem? (i := 1356) rfl), by rfl⟩
set_option maxRecDepth 100000 in
theorem sm_J2_checkBoundsOffCount_d044e : Cond.static yJ2_checkBoundsOffCount_d044e ∈ xT := List.mem_filter.mpr ⟨List.mem_append_right _ (List.mem_of_getElem? (i := 1358) rfl), by rfl⟩
set_option maxRecDepth 100000 in
theorem co_J2_checkBoundsOffCount_d044e : Cond.code yJ2_checkBoundsOffCount_d044e cJ2_checkBoundsOffCount_d044e 3 none ∈ xT := List.mem_filter.mpr ⟨List.mem_append_right _ (List.mem_of_getElem? (i := 1359) rfl), by rfl⟩
set_option maxRecDepth 100000 in
theorem sm_J0_checkBoundsOffCount_cabcc : Cond.static yJ0_checkBoundsOffCount_cabcc ∈ xT := List.mem_filter.mpr ⟨List.mem_append_right _ (List.mem_of_getElem? (i := 1361) rfl), by rfl⟩
set_option maxRecDepth 100000 in
theorem co_J0_checkBoundsOffCount_cabcc : Cond.code yJ0_checkBoundsOffCount_cabcc cJ0_checkBoundsOffCount_cabcc 3 (some .int) ∈ xT := List.mem_filter.mpr ⟨List.mem_append_right _ (List.mem_of_getElem? (i := 1362) rfl), by rfl⟩
set_option maxRecDepth 100000 in
theorem sm_J3_checkFromIndexSize_8c36e : Cond.static yJ3_checkFromIndexSize_8c36e ∈ xT := List.mem_filter.mpr ⟨List.mem_append_right _ (List.mem_of_getElem? (i := 1364) rfl), by rfl⟩
set_option maxRecDepth 100000 in
theorem co_J3_checkFromIndexSize_8c36e : Cond.code yJ3_checkFromIndexSize_8c36e cJ3_checkFromIndexSize_8c36e 4 (some .int) ∈ xT := List.mem_filter.mpr ⟨List.mem_append_right _ (List.mem_of_getElem? (i := 1365) rfl), by rfl⟩
set_option maxRecDepth 100000 in
theorem im_J0_getBytes_840e7 : Cond.instanceMethod yJ0_getBytes_840e7 ∈ xT := List.mem_filter.mpr ⟨List.mem_append_right _ (List.mem_of_getElem? (i := 1367) rfl), by rfl⟩
set_option maxRecDepth 100000 in
theorem se_J0_getBytes_840e7 : Cond.selects yJ0_getBytes_840e7.cls yJ0_getBytes_840e7 yJ0_getBytes_840e7 ∈ xT := List.mem_filter.mpr ⟨List.mem_append_right _ (List.mem_of_getElem? (i := 1368) rfl), by rfl⟩
set_option maxRecDepth 100000 in
theorem co_J0_getBytes_840e7 : Cond.code yJ0_getBytes_840e7 cJ0_getBytes_840e7 4 none ∈ xT := List.mem_filter.mpr ⟨List.mem_append_right _ (List.mem_of_getElem? (i := 1369) rfl), by rfl⟩
set_option maxRecDepth 100000 in
theorem im_J4_append_bf812 : Cond.instanceMethod yJ4_append_bf812 ∈ xT := List.mem_filter.mpr ⟨List.mem_append_right _ (List.mem_of_getElem? (i := 1373) rfl), by rfl⟩
set_option maxRecDepth 100000 in
theorem se_J4_append_bf812 : Cond.selects yJ4_append_bf812.cls yJ4_append_bf812 yJ4_append_bf812 ∈ xT := List.mem_filter.mpr ⟨List.mem_append_right _ (List.mem_of_getElem? (i := 1374) rfl), by rfl⟩
set_option maxRecDepth 100000 in
theorem co_J4_append_bf812 : Cond.code yJ4_append_bf812 cJ4_append_bf812 2 (some (.object "java/lang/StringBuilder")) ∈ xT := List.mem_filter.mpr ⟨List.mem_append_right _ (List.mem_of_getElem? (i := 1375) rfl), by rfl⟩
set_option maxRecDepth 100000 in
theorem im_J5_append_c97b9 : Cond.instanceMethod yJ5_append_c97b9 ∈ xT := List.mem_filter.mpr ⟨List.mem_append_right _ (List.mem_of_getElem? (i := 1377) rfl), by rfl⟩
set_option maxRecDepth 100000 in
theorem co_J5_append_c97b9 : Cond.code yJ5_append_c97b9 cJ5_append_c97b9 4 (some (.object "java/lang/AbstractStringBuilder")) ∈ xT := List.mem_filter.mpr ⟨List.mem_append_right _ (List.mem_of_getElem? (i := 1378) rfl), by rfl⟩
set_option maxRecDepth 100000 in
theorem sm_J6_stringSize_0f7a4 : Cond.static yJ6_stringSize_0f7a4 ∈ xT := List.mem_filter.mpr ⟨List.mem_append_right _ (List.mem_of_getElem? (i := 1380) rfl), by rfl⟩
set_option maxRecDepth 100000 in
theorem co_J6_stringSize_0f7a4 : Cond.code yJ6_stringSize_0f7a4 cJ6_stringSize_0f7a4 4 (some .int) ∈ xT := List.mem_filter.mpr ⟨List.mem_append_right _ (List.mem_of_getElem? (i := 1381) rfl), by rfl⟩
set_option maxRecDepth 100000 in
theorem sm_J6_getChars_ba4f3 : Cond.static yJ6_getChars_ba4f3 ∈ xT := List.mem_filter.mpr ⟨List.mem_append_right _ (List.mem_of_getElem? (i := 1383) rfl), by rfl⟩
set_option maxRecDepth 100000 in
theorem co_J6_getChars_ba4f3 : Cond.code yJ6_getChars_ba4f3 cJ6_getChars_ba4f3 7 (some .int) ∈ xT := List.mem_filter.mpr ⟨List.mem_append_right _ (List.mem_of_getElem? (i := 1384) rfl), by rfl⟩
set_option maxRecDepth 100000 in
theorem sm_J2_getChars_46870 : Cond.static yJ2_getChars_46870 ∈ xT := List.mem_filter.mpr ⟨List.mem_append_right _ (List.mem_of_getElem? (i := 1390) rfl), by rfl⟩
set_option maxRecDepth 100000 in
theorem co_J2_getChars_46870 : Cond.code yJ2_getChars_46870 cJ2_getChars_46870 5 (some .int) ∈ xT := List.mem_filter.mpr ⟨List.mem_append_right _ (List.mem_of_getElem? (i := 1391) rfl), by rfl⟩
set_option maxRecDepth 100000 in
theorem sm_J2_getChars_ba4f3 : Cond.static yJ2_getChars_ba4f3 ∈ xT := List.mem_filter.mpr ⟨List.mem_append_right _ (List.mem_of_getElem? (i := 1393) rfl), by rfl⟩
set_option maxRecDepth 100000 in
theorem co_J2_getChars_ba4f3 : Cond.code yJ2_getChars_ba4f3 cJ2_getChars_ba4f3 7 (some .int) ∈ xT := List.mem_filter.mpr ⟨List.mem_append_right _ (List.mem_of_getElem? (i := 1394) rfl), by rfl⟩
set_option maxRecDepth 100000 in
theorem im_J4_toString_0e30d : Cond.instanceMethod yJ4_toString_0e30d ∈ xT := List.mem_filter.mpr ⟨List.mem_append_right _ (List.mem_of_getElem? (i := 1398) rfl), by rfl⟩
set_option maxRecDepth 100000 in
theorem se_J4_toString_0e30d : Cond.selects yJ4_toString_0e30d.cls yJ4_toString_0e30d yJ4_toString_0e30d ∈ xT := List.mem_filter.mpr ⟨List.mem_append_right _ (List.mem_of_getElem? (i := 1399) rfl), by rfl⟩
set_option maxRecDepth 100000 in
theorem co_J4_toString_0e30d : Cond.code yJ4_toString_0e30d cJ4_toString_0e30d 1 (some (.object "java/lang/String")) ∈ xT := List.mem_filter.mpr ⟨List.mem_append_right _ (List.mem_of_getElem? (i := 1400) rfl), by rfl⟩
set_option maxRecDepth 100000 in
theorem kl_J4_18 : Cond.classLink RJ4 18 RJ0 ∈ xT := List.mem_filter.mpr ⟨List.mem_append_right _ (List.mem_of_getElem? (i := 1401) rfl), by rfl⟩
set_option maxRecDepth 100000 in
theorem is_J0 : Cond.instantiable RJ0 4 ∈ xT := List.mem_filter.mpr ⟨List.mem_append_right _ (List.mem_of_getElem? (i := 1402) rfl), by rfl⟩
set_option maxRecDepth 100000 in
theorem im_J0_init_81219 : Cond.instanceMethod yJ0_init_81219 ∈ xT := List.mem_filter.mpr ⟨List.mem_append_right _ (List.mem_of_getElem? (i := 1404) rfl), by rfl⟩
set_option maxRecDepth 100000 in
theorem co_J0_init_81219 : Cond.code yJ0_init_81219 cJ0_init_81219 2 none ∈ xT := List.mem_filter.mpr ⟨List.mem_append_right _ (List.mem_of_getElem? (i := 1405) rfl), by rfl⟩
set_option maxRecDepth 100000 in
theorem im_J0_init_db425 : Cond.instanceMethod yJ0_init_db425 ∈ xT := List.mem_filter.mpr ⟨List.mem_append_right _ (List.mem_of_getElem? (i := 1407) rfl), by rfl⟩
set_option maxRecDepth 100000 in
theorem co_J0_init_db425 : Cond.code yJ0_init_db425 cJ0_init_db425 5 none ∈ xT := List.mem_filter.mpr ⟨List.mem_append_right _ (List.mem_of_getElem? (i := 1408) rfl), by rfl⟩
set_option maxRecDepth 100000 in
theorem im_J5_getValue_6d5f1 : Cond.instanceMethod yJ5_getValue_6d5f1 ∈ xT := List.mem_filter.mpr ⟨List.mem_append_right _ (List.mem_of_getElem? (i := 1411) rfl), by rfl⟩
set_option maxRecDepth 100000 in
theorem co_J5_getValue_6d5f1 : Cond.code yJ5_getValue_6d5f1 cJ5_getValue_6d5f1 1 (some (.array .byte)) ∈ xT := List.mem_filter.mpr ⟨List.mem_append_right _ (List.mem_of_getElem? (i := 1414) rfl), by rfl⟩
set_option maxRecDepth 100000 in
theorem im_J5_length_8abf5 : Cond.instanceMethod yJ5_length_8abf5 ∈ xT := List.mem_filter.mpr ⟨List.mem_append_right _ (List.mem_of_getElem? (i := 1416) rfl), by rfl⟩
set_option maxRecDepth 100000 in
theorem im_J4_length_8abf5 : Cond.instanceMethod yJ4_length_8abf5 ∈ xT := List.mem_filter.mpr ⟨List.mem_append_right _ (List.mem_of_getElem? (i := 1419) rfl), by rfl⟩
set_option maxRecDepth 100000 in
theorem co_J4_length_8abf5 : Cond.code yJ4_length_8abf5 cJ4_length_8abf5 1 (some .int) ∈ xT := List.mem_filter.mpr ⟨List.mem_append_right _ (List.mem_of_getElem? (i := 1420) rfl), by rfl⟩
set_option maxRecDepth 100000 in
theorem co_J5_length_8abf5 : Cond.code yJ5_length_8abf5 cJ5_length_8abf5 1 (some .int) ∈ xT := List.mem_filter.mpr ⟨List.mem_append_right _ (List.mem_of_getElem? (i := 1422) rfl), by rfl⟩
set_option maxRecDepth 100000 in
theorem sm_J7_copyOfRange_39247 : Cond.static yJ7_copyOfRange_39247 ∈ xT := List.mem_filter.mpr ⟨List.mem_append_right _ (List.mem_of_getElem? (i := 1425) rfl), by rfl⟩
set_option maxRecDepth 100000 in
theorem co_J7_copyOfRange_39247 : Cond.code yJ7_copyOfRange_39247 cJ7_copyOfRange_39247 3 (some (.array .byte)) ∈ xT := List.mem_filter.mpr ⟨List.mem_append_right _ (List.mem_of_getElem? (i := 1426) rfl), by rfl⟩
set_option maxRecDepth 100000 in
theorem sm_J7_copyOfRangeByte_39247 : Cond.static yJ7_copyOfRangeByte_39247 ∈ xT := List.mem_filter.mpr ⟨List.mem_append_right _ (List.mem_of_getElem? (i := 1428) rfl), by rfl⟩
set_option maxRecDepth 100000 in
theorem co_J7_copyOfRangeByte_39247 : Cond.code yJ7_copyOfRangeByte_39247 cJ7_copyOfRangeByte_39247 5 (some (.array .byte)) ∈ xT := List.mem_filter.mpr ⟨List.mem_append_right _ (List.mem_of_getElem? (i := 1429) rfl), by rfl⟩
set_option maxRecDepth 100000 in
theorem sm_J7_checkLength_df160 : Cond.static yJ7_checkLength_df160 ∈ xT := List.mem_filter.mpr ⟨List.mem_append_right _ (List.mem_of_getElem? (i := 1431) rfl), by rfl⟩
set_option maxRecDepth 100000 in
theorem co_J7_checkLength_df160 : Cond.code yJ7_checkLength_df160 cJ7_checkLength_df160 2 none ∈ xT := List.mem_filter.mpr ⟨List.mem_append_right _ (List.mem_of_getElem? (i := 1432) rfl), by rfl⟩
set_option maxRecDepth 100000 in
theorem kl_J7_43 : Cond.classLink RJ7 43 "java/lang/IllegalArgumentException" ∈ xT := List.mem_filter.mpr ⟨List.mem_append_right _ (List.mem_of_getElem? (i := 1433) rfl), by rfl⟩
set_option maxRecDepth 100000 in
theorem kl_J7_45 : Cond.classLink RJ7 45 RJ4 ∈ xT := List.mem_filter.mpr ⟨List.mem_append_right _ (List.mem_of_getElem? (i := 1434) rfl), by rfl⟩
set_option maxRecDepth 100000 in
theorem sm_J2_compress_39247 : Cond.static yJ2_compress_39247 ∈ xT := List.mem_filter.mpr ⟨List.mem_append_right _ (List.mem_of_getElem? (i := 1442) rfl), by rfl⟩
set_option maxRecDepth 100000 in
theorem co_J2_compress_39247 : Cond.code yJ2_compress_39247 cJ2_compress_39247 6 (some (.array .byte)) ∈ xT := List.mem_filter.mpr ⟨List.mem_append_right _ (List.mem_of_getElem? (i := 1443) rfl), by rfl⟩
set_option maxRecDepth 100000 in
theorem sm_J2_compress_5af95 : Cond.static yJ2_compress_5af95 ∈ xT := List.mem_filter.mpr ⟨List.mem_append_right _ (List.mem_of_getElem? (i := 1445) rfl), by rfl⟩
set_option maxRecDepth 100000 in
theorem co_J2_compress_5af95 : Cond.code yJ2_compress_5af95 cJ2_compress_5af95 7 (some .int) ∈ xT := List.mem_filter.mpr ⟨List.mem_append_right _ (List.mem_of_getElem? (i := 1446) rfl), by rfl⟩
set_option maxRecDepth 100000 in
theorem sm_J2_coderFromArrayLen_85cad : Cond.static yJ2_coderFromArrayLen_85cad ∈ xT := List.mem_filter.mpr ⟨List.mem_append_right _ (List.mem_of_getElem? (i := 1449) rfl), by rfl⟩
set_option maxRecDepth 100000 in
theorem co_J2_coderFromArrayLen_85cad : Cond.code yJ2_coderFromArrayLen_85cad cJ2_coderFromArrayLen_85cad 2 (some .byte) ∈ xT := List.mem_filter.mpr ⟨List.mem_append_right _ (List.mem_of_getElem? (i := 1450) rfl), by rfl⟩
set_option maxRecDepth 100000 in
theorem sm_L_loadText : Cond.static yL_loadText ∈ xT := List.mem_filter.mpr ⟨List.mem_append_right _ (List.mem_of_getElem? (i := 1473) rfl), by rfl⟩
set_option maxRecDepth 100000 in
theorem co_L_loadText : Cond.code yL_loadText cL_loadText 3 (some .int) ∈ xT := List.mem_filter.mpr ⟨List.mem_append_right _ (List.mem_of_getElem? (i := 1474) rfl), by rfl⟩
set_option maxRecDepth 100000 in
theorem sm_L_agrees : Cond.static yL_agrees ∈ xT := List.mem_filter.mpr ⟨List.mem_append_right _ (List.mem_of_getElem? (i := 1476) rfl), by rfl⟩
set_option maxRecDepth 100000 in
theorem co_L_agrees : Cond.code yL_agrees cL_agrees 5 (some .boolean) ∈ xT := List.mem_filter.mpr ⟨List.mem_append_right _ (List.mem_of_getElem? (i := 1477) rfl), by rfl⟩
set_option maxRecDepth 100000 in
theorem im_X11_checksum : Cond.instanceMethod yX11_checksum ∈ xT := List.mem_filter.mpr ⟨List.mem_append_right _ (List.mem_of_getElem? (i := 1479) rfl), by rfl⟩
set_option maxRecDepth 100000 in
theorem se_X11_checksum : Cond.selects yX11_checksum.cls yX11_checksum yX11_checksum ∈ xT := List.mem_filter.mpr ⟨List.mem_append_right _ (List.mem_of_getElem? (i := 1480) rfl), by rfl⟩
set_option maxRecDepth 100000 in
theorem co_X11_checksum : Cond.code yX11_checksum cX11_checksum 5 (some .long) ∈ xT := List.mem_filter.mpr ⟨List.mem_append_right _ (List.mem_of_getElem? (i := 1481) rfl), by rfl⟩
set_option maxRecDepth 100000 in
theorem kc_X11_260 : Cond.constantLong RX11 260 (Int64.ofInt (31)) ∈ xT := List.mem_filter.mpr ⟨List.mem_append_right _ (List.mem_of_getElem? (i := 1482) rfl), by rfl⟩
set_option maxRecDepth 100000 in
theorem im_X11_state : Cond.instanceMethod yX11_state ∈ xT := List.mem_filter.mpr ⟨List.mem_append_right _ (List.mem_of_getElem? (i := 1484) rfl), by rfl⟩
set_option maxRecDepth 100000 in
theorem se_X11_state : Cond.selects yX11_state.cls yX11_state yX11_state ∈ xT := List.mem_filter.mpr ⟨List.mem_append_right _ (List.mem_of_getElem? (i := 1485) rfl), by rfl⟩
set_option maxRecDepth 100000 in
theorem co_X11_state : Cond.code yX11_state cX11_state 2 (some .int) ∈ xT := List.mem_filter.mpr ⟨List.mem_append_right _ (List.mem_of_getElem? (i := 1486) rfl), by rfl⟩
set_option maxRecDepth 100000 in
theorem im_X11_flow : Cond.instanceMethod yX11_flow ∈ xT := List.mem_filter.mpr ⟨List.mem_append_right _ (List.mem_of_getElem? (i := 1489) rfl), by rfl⟩
set_option maxRecDepth 100000 in
theorem se_X11_flow : Cond.selects yX11_flow.cls yX11_flow yX11_flow ∈ xT := List.mem_filter.mpr ⟨List.mem_append_right _ (List.mem_of_getElem? (i := 1490) rfl), by rfl⟩
set_option maxRecDepth 100000 in
theorem co_X11_flow : Cond.code yX11_flow cX11_flow 3 (some .int) ∈ xT := List.mem_filter.mpr ⟨List.mem_append_right _ (List.mem_of_getElem? (i := 1491) rfl), by rfl⟩
set_option maxRecDepth 100000 in
theorem im_X0_countOf : Cond.instanceMethod yX0_countOf ∈ xT := List.mem_filter.mpr ⟨List.mem_append_right _ (List.mem_of_getElem? (i := 1493) rfl), by rfl⟩
set_option maxRecDepth 100000 in
theorem se_X0_countOf : Cond.selects yX0_countOf.cls yX0_countOf yX0_countOf ∈ xT := List.mem_filter.mpr ⟨List.mem_append_right _ (List.mem_of_getElem? (i := 1494) rfl), by rfl⟩
set_option maxRecDepth 100000 in
theorem co_X0_countOf : Cond.code yX0_countOf cX0_countOf 4 (some .int) ∈ xT := List.mem_filter.mpr ⟨List.mem_append_right _ (List.mem_of_getElem? (i := 1495) rfl), by rfl⟩
set_option maxRecDepth 100000 in
theorem im_X5_deliveredSizeOf : Cond.instanceMethod yX5_deliveredSizeOf ∈ xT := List.mem_filter.mpr ⟨List.mem_append_right _ (List.mem_of_getElem? (i := 1498) rfl), by rfl⟩
set_option maxRecDepth 100000 in
theorem se_X5_deliveredSizeOf : Cond.selects yX5_deliveredSizeOf.cls yX5_deliveredSizeOf yX5_deliveredSizeOf ∈ xT := List.mem_filter.mpr ⟨List.mem_append_right _ (List.mem_of_getElem? (i := 1499) rfl), by rfl⟩
set_option maxRecDepth 100000 in
theorem co_X5_deliveredSizeOf : Cond.code yX5_deliveredSizeOf cX5_deliveredSizeOf 4 (some .int) ∈ xT := List.mem_filter.mpr ⟨List.mem_append_right _ (List.mem_of_getElem? (i := 1500) rfl), by rfl⟩
set_option maxRecDepth 100000 in
theorem im_X11_packet : Cond.instanceMethod yX11_packet ∈ xT := List.mem_filter.mpr ⟨List.mem_append_right _ (List.mem_of_getElem? (i := 1502) rfl), by rfl⟩
set_option maxRecDepth 100000 in
theorem se_X11_packet : Cond.selects yX11_packet.cls yX11_packet yX11_packet ∈ xT := List.mem_filter.mpr ⟨List.mem_append_right _ (List.mem_of_getElem? (i := 1503) rfl), by rfl⟩
set_option maxRecDepth 100000 in
theorem co_X11_packet : Cond.code yX11_packet cX11_packet 3 (some .int) ∈ xT := List.mem_filter.mpr ⟨List.mem_append_right _ (List.mem_of_getElem? (i := 1504) rfl), by rfl⟩
set_option maxRecDepth 100000 in
theorem im_X10_gateOf : Cond.instanceMethod yX10_gateOf ∈ xT := List.mem_filter.mpr ⟨List.mem_append_right _ (List.mem_of_getElem? (i := 1506) rfl), by rfl⟩
set_option maxRecDepth 100000 in
theorem se_X10_gateOf : Cond.selects yX10_gateOf.cls yX10_gateOf yX10_gateOf ∈ xT := List.mem_filter.mpr ⟨List.mem_append_right _ (List.mem_of_getElem? (i := 1507) rfl), by rfl⟩
set_option maxRecDepth 100000 in
theorem co_X10_gateOf : Cond.code yX10_gateOf cX10_gateOf 4 (some .int) ∈ xT := List.mem_filter.mpr ⟨List.mem_append_right _ (List.mem_of_getElem? (i := 1508) rfl), by rfl⟩
set_option maxRecDepth 100000 in
theorem im_X11_coupon : Cond.instanceMethod yX11_coupon ∈ xT := List.mem_filter.mpr ⟨List.mem_append_right _ (List.mem_of_getElem? (i := 1510) rfl), by rfl⟩
set_option maxRecDepth 100000 in
theorem se_X11_coupon : Cond.selects yX11_coupon.cls yX11_coupon yX11_coupon ∈ xT := List.mem_filter.mpr ⟨List.mem_append_right _ (List.mem_of_getElem? (i := 1511) rfl), by rfl⟩
set_option maxRecDepth 100000 in
theorem co_X11_coupon : Cond.code yX11_coupon cX11_coupon 3 (some .int) ∈ xT := List.mem_filter.mpr ⟨List.mem_append_right _ (List.mem_of_getElem? (i := 1512) rfl), by rfl⟩
set_option maxRecDepth 100000 in
theorem im_X11_tokens : Cond.instanceMethod yX11_tokens ∈ xT := List.mem_filter.mpr ⟨List.mem_append_right _ (List.mem_of_getElem? (i := 1514) rfl), by rfl⟩
set_option maxRecDepth 100000 in
theorem se_X11_tokens : Cond.selects yX11_tokens.cls yX11_tokens yX11_tokens ∈ xT := List.mem_filter.mpr ⟨List.mem_append_right _ (List.mem_of_getElem? (i := 1515) rfl), by rfl⟩
set_option maxRecDepth 100000 in
theorem co_X11_tokens : Cond.code yX11_tokens cX11_tokens 3 (some .int) ∈ xT := List.mem_filter.mpr ⟨List.mem_append_right _ (List.mem_of_getElem? (i := 1516) rfl), by rfl⟩
set_option maxRecDepth 100000 in
theorem im_X11_queue : Cond.instanceMethod yX11_queue ∈ xT := List.mem_filter.mpr ⟨List.mem_append_right _ (List.mem_of_getElem? (i := 1518) rfl), by rfl⟩
set_option maxRecDepth 100000 in
theorem se_X11_queue : Cond.selects yX11_queue.cls yX11_queue yX11_queue ∈ xT := List.mem_filter.mpr ⟨List.mem_append_right _ (List.mem_of_getElem? (i := 1519) rfl), by rfl⟩
set_option maxRecDepth 100000 in
theorem co_X11_queue : Cond.code yX11_queue cX11_queue 3 (some .int) ∈ xT := List.mem_filter.mpr ⟨List.mem_append_right _ (List.mem_of_getElem? (i := 1520) rfl), by rfl⟩
set_option maxRecDepth 100000 in
theorem im_X14_checksum : Cond.instanceMethod yX14_checksum ∈ xT := List.mem_filter.mpr ⟨List.mem_append_right _ (List.mem_of_getElem? (i := 1522) rfl), by rfl⟩
set_option maxRecDepth 100000 in
theorem se_X14_checksum : Cond.selects yX14_checksum.cls yX14_checksum yX14_checksum ∈ xT := List.mem_filter.mpr ⟨List.mem_append_right _ (List.mem_of_getElem? (i := 1523) rfl), by rfl⟩
set_option maxRecDepth 100000 in
theorem co_X14_checksum : Cond.code yX14_checksum cX14_checksum 11 (some .long) ∈ xT := List.mem_filter.mpr ⟨List.mem_append_right _ (List.mem_of_getElem? (i := 1524) rfl), by rfl⟩
set_option maxRecDepth 100000 in
theorem kc_X14_127 : Cond.constantLong RX14 127 (Int64.ofInt (31)) ∈ xT := List.mem_filter.mpr ⟨List.mem_append_right _ (List.mem_of_getElem? (i := 1525) rfl), by rfl⟩
set_option maxRecDepth 100000 in
theorem im_X14_told : Cond.instanceMethod yX14_told ∈ xT := List.mem_filter.mpr ⟨List.mem_append_right _ (List.mem_of_getElem? (i := 1527) rfl), by rfl⟩
set_option maxRecDepth 100000 in
theorem se_X14_told : Cond.selects yX14_told.cls yX14_told yX14_told ∈ xT := List.mem_filter.mpr ⟨List.mem_append_right _ (List.mem_of_getElem? (i := 1528) rfl), by rfl⟩
set_option maxRecDepth 100000 in
theorem co_X14_told : Cond.code yX14_told cX14_told 2 (some .int) ∈ xT := List.mem_filter.mpr ⟨List.mem_append_right _ (List.mem_of_getElem? (i := 1529) rfl), by rfl⟩
set_option maxRecDepth 100000 in
theorem im_X14_flow : Cond.instanceMethod yX14_flow ∈ xT := List.mem_filter.mpr ⟨List.mem_append_right _ (List.mem_of_getElem? (i := 1532) rfl), by rfl⟩
set_option maxRecDepth 100000 in
theorem se_X14_flow : Cond.selects yX14_flow.cls yX14_flow yX14_flow ∈ xT := List.mem_filter.mpr ⟨List.mem_append_right _ (List.mem_of_getElem? (i := 1533) rfl), by rfl⟩
set_option maxRecDepth 100000 in
theorem co_X14_flow : Cond.code yX14_flow cX14_flow 8 (some .int) ∈ xT := List.mem_filter.mpr ⟨List.mem_append_right _ (List.mem_of_getElem? (i := 1534) rfl), by rfl⟩
set_option maxRecDepth 100000 in
theorem im_X14_packet : Cond.instanceMethod yX14_packet ∈ xT := List.mem_filter.mpr ⟨List.mem_append_right _ (List.mem_of_getElem? (i := 1536) rfl), by rfl⟩
set_option maxRecDepth 100000 in
theorem se_X14_packet : Cond.selects yX14_packet.cls yX14_packet yX14_packet ∈ xT := List.mem_filter.mpr ⟨List.mem_append_right _ (List.mem_of_getElem? (i := 1537) rfl), by rfl⟩
set_option maxRecDepth 100000 in
theorem co_X14_packet : Cond.code yX14_packet cX14_packet 4 (some .int) ∈ xT := List.mem_filter.mpr ⟨List.mem_append_right _ (List.mem_of_getElem? (i := 1538) rfl), by rfl⟩
set_option maxRecDepth 100000 in
theorem sm_L_state : Cond.static yL_state ∈ xT := List.mem_filter.mpr ⟨List.mem_append_right _ (List.mem_of_getElem? (i := 1540) rfl), by rfl⟩
set_option maxRecDepth 100000 in
theorem sm_L_flow : Cond.static yL_flow ∈ xT := List.mem_filter.mpr ⟨List.mem_append_right _ (List.mem_of_getElem? (i := 1545) rfl), by rfl⟩
set_option maxRecDepth 100000 in
theorem sm_L_packet : Cond.static yL_packet ∈ xT := List.mem_filter.mpr ⟨List.mem_append_right _ (List.mem_of_getElem? (i := 1550) rfl), by rfl⟩
set_option maxRecDepth 100000 in
theorem sm_L_coupon : Cond.static yL_coupon ∈ xT := List.mem_filter.mpr ⟨List.mem_append_right _ (List.mem_of_getElem? (i := 1555) rfl), by rfl⟩
set_option maxRecDepth 100000 in
theorem sm_L_tokens : Cond.static yL_tokens ∈ xT := List.mem_filter.mpr ⟨List.mem_append_right _ (List.mem_of_getElem? (i := 1559) rfl), by rfl⟩
set_option maxRecDepth 100000 in
theorem sm_L_queue : Cond.static yL_queue ∈ xT := List.mem_filter.mpr ⟨List.mem_append_right _ (List.mem_of_getElem? (i := 1563) rfl), by rfl⟩
set_option maxRecDepth 100000 in
theorem sm_L_gate : Cond.static yL_gate ∈ xT := List.mem_filter.mpr ⟨List.mem_append_right _ (List.mem_of_getElem? (i := 1568) rfl), by rfl⟩
set_option maxRecDepth 100000 in
theorem im_X11_gate : Cond.instanceMethod yX11_gate ∈ xT := List.mem_filter.mpr ⟨List.mem_append_right _ (List.mem_of_getElem? (i := 1571) rfl), by rfl⟩
set_option maxRecDepth 100000 in
theorem se_X11_gate : Cond.selects yX11_gate.cls yX11_gate yX11_gate ∈ xT := List.mem_filter.mpr ⟨List.mem_append_right _ (List.mem_of_getElem? (i := 1572) rfl), by rfl⟩
set_option maxRecDepth 100000 in
theorem co_X11_gate : Cond.code yX11_gate cX11_gate 3 (some .int) ∈ xT := List.mem_filter.mpr ⟨List.mem_append_right _ (List.mem_of_getElem? (i := 1573) rfl), by rfl⟩
set_option maxRecDepth 100000 in
theorem se_X3_at : Cond.selects yX3_at.cls yX3_at yX3_at ∈ xT := List.mem_filter.mpr ⟨List.mem_append_left _ (List.mem_of_getElem? (i := 0) (by decide +kernel)), by decide +kernel⟩
set_option maxRecDepth 100000 in
theorem se_X8_takeSign : Cond.selects yX8_takeSign.cls yX8_takeSign yX8_takeSign ∈ xT := List.mem_filter.mpr ⟨List.mem_append_left _ (List.mem_of_getElem? (i := 2) (by decide +kernel)), by decide +kernel⟩
set_option maxRecDepth 100000 in
theorem se_X8_fail : Cond.selects yX8_fail.cls yX8_fail yX8_fail ∈ xT := List.mem_filter.mpr ⟨List.mem_append_left _ (List.mem_of_getElem? (i := 3) (by decide +kernel)), by decide +kernel⟩
set_option maxRecDepth 100000 in
theorem se_X8_readStatement : Cond.selects yX8_readStatement.cls yX8_readStatement yX8_readStatement ∈ xT := List.mem_filter.mpr ⟨List.mem_append_left _ (List.mem_of_getElem? (i := 4) (by decide +kernel)), by decide +kernel⟩
set_option maxRecDepth 100000 in
theorem se_X8_readGate : Cond.selects yX8_readGate.cls yX8_readGate yX8_readGate ∈ xT := List.mem_filter.mpr ⟨List.mem_append_left _ (List.mem_of_getElem? (i := 5) (by decide +kernel)), by decide +kernel⟩
set_option maxRecDepth 100000 in
theorem se_X8_takeCounted : Cond.selects yX8_takeCounted.cls yX8_takeCounted yX8_takeCounted ∈ xT := List.mem_filter.mpr ⟨List.mem_append_left _ (List.mem_of_getElem? (i := 6) (by decide +kernel)), by decide +kernel⟩
set_option maxRecDepth 100000 in
theorem se_X8_takeNumber : Cond.selects yX8_takeNumber.cls yX8_takeNumber yX8_takeNumber ∈ xT := List.mem_filter.mpr ⟨List.mem_append_left _ (List.mem_of_getElem? (i := 7) (by decide +kernel)), by decide +kernel⟩
set_option maxRecDepth 100000 in
theorem se_X8_numberStands : Cond.selects yX8_numberStands.cls yX8_numberStands yX8_numberStands ∈ xT := List.mem_filter.mpr ⟨List.mem_append_left _ (List.mem_of_getElem? (i := 8) (by decide +kernel)), by decide +kernel⟩
set_option maxRecDepth 100000 in
theorem se_X8_readFlow : Cond.selects yX8_readFlow.cls yX8_readFlow yX8_readFlow ∈ xT := List.mem_filter.mpr ⟨List.mem_append_left _ (List.mem_of_getElem? (i := 9) (by decide +kernel)), by decide +kernel⟩
set_option maxRecDepth 100000 in
theorem se_X8_readPlace : Cond.selects yX8_readPlace.cls yX8_readPlace yX8_readPlace ∈ xT := List.mem_filter.mpr ⟨List.mem_append_left _ (List.mem_of_getElem? (i := 10) (by decide +kernel)), by decide +kernel⟩
set_option maxRecDepth 100000 in
theorem se_X8_readPacket : Cond.selects yX8_readPacket.cls yX8_readPacket yX8_readPacket ∈ xT := List.mem_filter.mpr ⟨List.mem_append_left _ (List.mem_of_getElem? (i := 11) (by decide +kernel)), by decide +kernel⟩
set_option maxRecDepth 100000 in
theorem se_X8_readCoupon : Cond.selects yX8_readCoupon.cls yX8_readCoupon yX8_readCoupon ∈ xT := List.mem_filter.mpr ⟨List.mem_append_left _ (List.mem_of_getElem? (i := 12) (by decide +kernel)), by decide +kernel⟩
set_option maxRecDepth 100000 in
theorem se_X8_readSum : Cond.selects yX8_readSum.cls yX8_readSum yX8_readSum ∈ xT := List.mem_filter.mpr ⟨List.mem_append_left _ (List.mem_of_getElem? (i := 13) (by decide +kernel)), by decide +kernel⟩
set_option maxRecDepth 100000 in
theorem se_X8_readTerm : Cond.selects yX8_readTerm.cls yX8_readTerm yX8_readTerm ∈ xT := List.mem_filter.mpr ⟨List.mem_append_left _ (List.mem_of_getElem? (i := 14) (by decide +kernel)), by decide +kernel⟩
set_option maxRecDepth 100000 in
theorem se_X8_readFactor : Cond.selects yX8_readFactor.cls yX8_readFactor yX8_readFactor ∈ xT := List.mem_filter.mpr ⟨List.mem_append_left _ (List.mem_of_getElem? (i := 15) (by decide +kernel)), by decide +kernel⟩
set_option maxRecDepth 100000 in
theorem se_X8_emit : Cond.selects yX8_emit.cls yX8_emit yX8_emit ∈ xT := List.mem_filter.mpr ⟨List.mem_append_left _ (List.mem_of_getElem? (i := 16) (by decide +kernel)), by decide +kernel⟩
set_option maxRecDepth 100000 in
theorem se_X8_isEither : Cond.selects yX8_isEither.cls yX8_isEither yX8_isEither ∈ xT := List.mem_filter.mpr ⟨List.mem_append_left _ (List.mem_of_getElem? (i := 17) (by decide +kernel)), by decide +kernel⟩
set_option maxRecDepth 100000 in
theorem se_X11_checkFlow : Cond.selects yX11_checkFlow.cls yX11_checkFlow yX11_checkFlow ∈ xT := List.mem_filter.mpr ⟨List.mem_append_left _ (List.mem_of_getElem? (i := 18) (by decide +kernel)), by decide +kernel⟩
set_option maxRecDepth 100000 in
theorem se_X11_checkGate : Cond.selects yX11_checkGate.cls yX11_checkGate yX11_checkGate ∈ xT := List.mem_filter.mpr ⟨List.mem_append_left _ (List.mem_of_getElem? (i := 19) (by decide +kernel)), by decide +kernel⟩
set_option maxRecDepth 100000 in
theorem se_X11_checkRange : Cond.selects yX11_checkRange.cls yX11_checkRange yX11_checkRange ∈ xT := List.mem_filter.mpr ⟨List.mem_append_left _ (List.mem_of_getElem? (i := 20) (by decide +kernel)), by decide +kernel⟩
set_option maxRecDepth 100000 in
theorem se_X11_checkPacket : Cond.selects yX11_checkPacket.cls yX11_checkPacket yX11_checkPacket ∈ xT := List.mem_filter.mpr ⟨List.mem_append_left _ (List.mem_of_getElem? (i := 21) (by decide +kernel)), by decide +kernel⟩
set_option maxRecDepth 100000 in
theorem se_X10_quietTicks : Cond.selects yX10_quietTicks.cls yX10_quietTicks yX10_quietTicks ∈ xT := List.mem_filter.mpr ⟨List.mem_append_left _ (List.mem_of_getElem? (i := 22) (by decide +kernel)), by decide +kernel⟩
set_option maxRecDepth 100000 in
theorem se_X10_ticksBeforePassage : Cond.selects yX10_ticksBeforePassage.cls yX10_ticksBeforePassage yX10_ticksBeforePassage ∈ xT := List.mem_filter.mpr ⟨List.mem_append_left _ (List.mem_of_getElem? (i := 23) (by decide +kernel)), by decide +kernel⟩
set_option maxRecDepth 100000 in
theorem se_X10_rest : Cond.selects yX10_rest.cls yX10_rest yX10_rest ∈ xT := List.mem_filter.mpr ⟨List.mem_append_left _ (List.mem_of_getElem? (i := 24) (by decide +kernel)), by decide +kernel⟩
set_option maxRecDepth 100000 in
theorem se_X10_refill : Cond.selects yX10_refill.cls yX10_refill yX10_refill ∈ xT := List.mem_filter.mpr ⟨List.mem_append_left _ (List.mem_of_getElem? (i := 25) (by decide +kernel)), by decide +kernel⟩
set_option maxRecDepth 100000 in
theorem se_X10_noteLack : Cond.selects yX10_noteLack.cls yX10_noteLack yX10_noteLack ∈ xT := List.mem_filter.mpr ⟨List.mem_append_left _ (List.mem_of_getElem? (i := 26) (by decide +kernel)), by decide +kernel⟩
set_option maxRecDepth 100000 in
theorem se_X10_tick : Cond.selects yX10_tick.cls yX10_tick yX10_tick ∈ xT := List.mem_filter.mpr ⟨List.mem_append_left _ (List.mem_of_getElem? (i := 27) (by decide +kernel)), by decide +kernel⟩
set_option maxRecDepth 100000 in
theorem se_X0_removeAt : Cond.selects yX0_removeAt.cls yX0_removeAt yX0_removeAt ∈ xT := List.mem_filter.mpr ⟨List.mem_append_left _ (List.mem_of_getElem? (i := 28) (by decide +kernel)), by decide +kernel⟩
set_option maxRecDepth 100000 in
theorem se_X10_arrive : Cond.selects yX10_arrive.cls yX10_arrive yX10_arrive ∈ xT := List.mem_filter.mpr ⟨List.mem_append_left _ (List.mem_of_getElem? (i := 29) (by decide +kernel)), by decide +kernel⟩
set_option maxRecDepth 100000 in
theorem se_X10_refund : Cond.selects yX10_refund.cls yX10_refund yX10_refund ∈ xT := List.mem_filter.mpr ⟨List.mem_append_left _ (List.mem_of_getElem? (i := 30) (by decide +kernel)), by decide +kernel⟩
set_option maxRecDepth 100000 in
theorem se_X10_openGate : Cond.selects yX10_openGate.cls yX10_openGate yX10_openGate ∈ xT := List.mem_filter.mpr ⟨List.mem_append_left _ (List.mem_of_getElem? (i := 31) (by decide +kernel)), by decide +kernel⟩
set_option maxRecDepth 100000 in
theorem se_X10_passGate : Cond.selects yX10_passGate.cls yX10_passGate yX10_passGate ∈ xT := List.mem_filter.mpr ⟨List.mem_append_left _ (List.mem_of_getElem? (i := 32) (by decide +kernel)), by decide +kernel⟩
set_option maxRecDepth 100000 in
theorem se_X0_firstToEnd : Cond.selects yX0_firstToEnd.cls yX0_firstToEnd yX0_firstToEnd ∈ xT := List.mem_filter.mpr ⟨List.mem_append_left _ (List.mem_of_getElem? (i := 33) (by decide +kernel)), by decide +kernel⟩
set_option maxRecDepth 100000 in
theorem se_X11_checkCoupon : Cond.selects yX11_checkCoupon.cls yX11_checkCoupon yX11_checkCoupon ∈ xT := List.mem_filter.mpr ⟨List.mem_append_left _ (List.mem_of_getElem? (i := 34) (by decide +kernel)), by decide +kernel⟩
set_option maxRecDepth 100000 in
theorem lk_L_227 : xLk RL 227 yX11_init cX11_init 1 none 0 := ⟨List.mem_filter.mpr ⟨List.mem_append_right _ (List.mem_of_getElem? (i := 37) rfl), by rfl⟩, in_X11, co_X11_init, ⟨by decide +kernel, by decide +kernel⟩, by decide +kernel, by decide⟩
set_option maxRecDepth 100000 in
theorem lj_X11_1 : Cond.methodLink RX11 1 objectInit ∈ xT := List.mem_filter.mpr ⟨List.mem_append_right _ (List.mem_of_getElem? (i := 40) rfl), by rfl⟩
set_option maxRecDepth 100000 in
theorem ln_X11_9 : xLn RX11 9 yX8_init "PacketToll" cX8_init 1 none 0 := ⟨by decide +kernel, in_X8, co_X8_init, ⟨by decide +kernel, by decide +kernel⟩, by decide +kernel, by decide⟩
set_option maxRecDepth 100000 in
theorem lj_X8_3 : Cond.methodLink RX8 3 objectInit ∈ xT := List.mem_filter.mpr ⟨List.mem_append_right _ (List.mem_of_getElem? (i := 48) rfl), by rfl⟩
set_option maxRecDepth 100000 in
theorem ln_X8_11 : xLn RX8 11 yX9_init "PacketToll" cX9_init 1 none 0 := ⟨by decide +kernel, in_X9, co_X9_init, ⟨by decide +kernel, by decide +kernel⟩, by decide +kernel, by decide⟩
set_option maxRecDepth 100000 in
theorem lj_X9_3 : Cond.methodLink RX9 3 objectInit ∈ xT := List.mem_filter.mpr ⟨List.mem_append_right _ (List.mem_of_getElem? (i := 54) rfl), by rfl⟩
set_option maxRecDepth 100000 in
theorem fd_X9_9 : xFd RX9 9 9 0 RX9 TX9 7 := ⟨rfl, by decide, by decide, List.mem_filter.mpr ⟨List.mem_append_right _ (List.mem_of_getElem? (i := 55) rfl), by rfl⟩, rfl, rfl, uw_X9⟩
set_option maxRecDepth 100000 in
theorem fd_X9_15 : xFd RX9 15 9 1 RX9 TX9 7 := ⟨rfl, by decide, by decide, List.mem_filter.mpr ⟨List.mem_append_right _ (List.mem_of_getElem? (i := 56) rfl), by rfl⟩, rfl, rfl, uw_X9⟩
set_option maxRecDepth 100000 in
theorem fd_X11_41 : xFd RX11 41 9 1 RX9 TX9 7 := ⟨rfl, by decide, by decide, List.mem_filter.mpr ⟨List.mem_append_right _ (List.mem_of_getElem? (i := 57) rfl), by rfl⟩, rfl, rfl, uw_X9⟩
set_option maxRecDepth 100000 in
theorem fd_X9_25 : xFd RX9 25 9 2 RX9 TX9 7 := ⟨rfl, by decide, by decide, List.mem_filter.mpr ⟨List.mem_append_right _ (List.mem_of_getElem? (i := 58) rfl), by rfl⟩, rfl, rfl, uw_X9⟩
set_option maxRecDepth 100000 in
theorem fd_X9_28 : xFd RX9 28 9 3 RX9 TX9 7 := ⟨rfl, by decide, by decide, List.mem_filter.mpr ⟨List.mem_append_right _ (List.mem_of_getElem? (i := 59) rfl), by rfl⟩, rfl, rfl, uw_X9⟩
set_option maxRecDepth 100000 in
theorem fd_X8_68 : xFd RX8 68 9 4 RX9 TX9 7 := ⟨rfl, by decide, by decide, List.mem_filter.mpr ⟨List.mem_append_right _ (List.mem_of_getElem? (i := 60) rfl), by rfl⟩, rfl, rfl, uw_X9⟩
set_option maxRecDepth 100000 in
theorem fd_X9_37 : xFd RX9 37 9 4 RX9 TX9 7 := ⟨rfl, by decide, by decide, List.mem_filter.mpr ⟨List.mem_append_right _ (List.mem_of_getElem? (i := 61) rfl), by rfl⟩, rfl, rfl, uw_X9⟩
set_option maxRecDepth 100000 in
theorem fd_X8_95 : xFd RX8 95 9 5 RX9 TX9 7 := ⟨rfl, by decide, by decide, List.mem_filter.mpr ⟨List.mem_append_right _ (List.mem_of_getElem? (i := 62) rfl), by rfl⟩, rfl, rfl, uw_X9⟩
set_option maxRecDepth 100000 in
theorem fd_X9_34 : xFd RX9 34 9 5 RX9 TX9 7 := ⟨rfl, by decide, by decide, List.mem_filter.mpr ⟨List.mem_append_right _ (List.mem_of_getElem? (i := 63) rfl), by rfl⟩, rfl, rfl, uw_X9⟩
set_option maxRecDepth 100000 in
theorem fd_X9_40 : xFd RX9 40 9 6 RX9 TX9 7 := ⟨rfl, by decide, by decide, List.mem_filter.mpr ⟨List.mem_append_right _ (List.mem_of_getElem? (i := 64) rfl), by rfl⟩, rfl, rfl, uw_X9⟩
set_option maxRecDepth 100000 in
theorem fd_X8_98 : xFd RX8 98 9 6 RX9 TX9 7 := ⟨rfl, by decide, by decide, List.mem_filter.mpr ⟨List.mem_append_right _ (List.mem_of_getElem? (i := 65) rfl), by rfl⟩, rfl, rfl, uw_X9⟩
set_option maxRecDepth 100000 in
theorem ln_X8_20 : xLn RX8 20 yX10_init "PacketToll" cX10_init 1 none 0 := ⟨by decide +kernel, in_X10, co_X10_init, ⟨by decide +kernel, by decide +kernel⟩, by decide +kernel, by decide⟩
set_option maxRecDepth 100000 in
theorem lj_X10_3 : Cond.methodLink RX10 3 objectInit ∈ xT := List.mem_filter.mpr ⟨List.mem_append_right _ (List.mem_of_getElem? (i := 87) rfl), by rfl⟩
set_option maxRecDepth 100000 in
theorem ln_X10_11 : xLn RX10 11 yX2_init "PacketToll" cX2_init 1 none 0 := ⟨by decide +kernel, in_X2, co_X2_init, ⟨by decide +kernel, by decide +kernel⟩, by decide +kernel, by decide⟩
set_option maxRecDepth 100000 in
theorem lj_X2_3 : Cond.methodLink RX2 3 objectInit ∈ xT := List.mem_filter.mpr ⟨List.mem_append_right _ (List.mem_of_getElem? (i := 93) rfl), by rfl⟩
set_option maxRecDepth 100000 in
theorem fd_X2_9 : xFd RX2 9 2 0 RX2 TX2 4 := ⟨rfl, by decide, by decide, List.mem_filter.mpr ⟨List.mem_append_right _ (List.mem_of_getElem? (i := 94) rfl), by rfl⟩, rfl, rfl, uw_X2⟩
set_option maxRecDepth 100000 in
theorem fd_X11_125 : xFd RX11 125 2 0 RX2 TX2 4 := ⟨rfl, by decide, by decide, List.mem_filter.mpr ⟨List.mem_append_right _ (List.mem_of_getElem? (i := 95) rfl), by rfl⟩, rfl, rfl, uw_X2⟩
set_option maxRecDepth 100000 in
theorem fd_X10_206 : xFd RX10 206 2 0 RX2 TX2 4 := ⟨rfl, by decide, by decide, List.mem_filter.mpr ⟨List.mem_append_right _ (List.mem_of_getElem? (i := 96) rfl), by rfl⟩, rfl, rfl, uw_X2⟩
set_option maxRecDepth 100000 in
theorem fd_X2_15 : xFd RX2 15 2 1 RX2 TX2 4 := ⟨rfl, by decide, by decide, List.mem_filter.mpr ⟨List.mem_append_right _ (List.mem_of_getElem? (i := 97) rfl), by rfl⟩, rfl, rfl, uw_X2⟩
set_option maxRecDepth 100000 in
theorem fd_X10_116 : xFd RX10 116 2 1 RX2 TX2 4 := ⟨rfl, by decide, by decide, List.mem_filter.mpr ⟨List.mem_append_right _ (List.mem_of_getElem? (i := 98) rfl), by rfl⟩, rfl, rfl, uw_X2⟩
set_option maxRecDepth 100000 in
theorem fd_X11_129 : xFd RX11 129 2 1 RX2 TX2 4 := ⟨rfl, by decide, by decide, List.mem_filter.mpr ⟨List.mem_append_right _ (List.mem_of_getElem? (i := 99) rfl), by rfl⟩, rfl, rfl, uw_X2⟩
set_option maxRecDepth 100000 in
theorem fd_X2_18 : xFd RX2 18 2 2 RX2 TX2 4 := ⟨rfl, by decide, by decide, List.mem_filter.mpr ⟨List.mem_append_right _ (List.mem_of_getElem? (i := 100) rfl), by rfl⟩, rfl, rfl, uw_X2⟩
set_option maxRecDepth 100000 in
theorem fd_X11_132 : xFd RX11 132 2 2 RX2 TX2 4 := ⟨rfl, by decide, by decide, List.mem_filter.mpr ⟨List.mem_append_right _ (List.mem_of_getElem? (i := 101) rfl), by rfl⟩, rfl, rfl, uw_X2⟩
set_option maxRecDepth 100000 in
theorem fd_X10_212 : xFd RX10 212 2 2 RX2 TX2 4 := ⟨rfl, by decide, by decide, List.mem_filter.mpr ⟨List.mem_append_right _ (List.mem_of_getElem? (i := 102) rfl), by rfl⟩, rfl, rfl, uw_X2⟩
set_option maxRecDepth 100000 in
theorem fd_X2_21 : xFd RX2 21 2 3 RX2 TX2 4 := ⟨rfl, by decide, by decide, List.mem_filter.mpr ⟨List.mem_append_right _ (List.mem_of_getElem? (i := 103) rfl), by rfl⟩, rfl, rfl, uw_X2⟩
set_option maxRecDepth 100000 in
theorem fd_X10_107 : xFd RX10 107 2 3 RX2 TX2 4 := ⟨rfl, by decide, by decide, List.mem_filter.mpr ⟨List.mem_append_right _ (List.mem_of_getElem? (i := 104) rfl), by rfl⟩, rfl, rfl, uw_X2⟩
set_option maxRecDepth 100000 in
theorem fd_X11_90 : xFd RX11 90 2 3 RX2 TX2 4 := ⟨rfl, by decide, by decide, List.mem_filter.mpr ⟨List.mem_append_right _ (List.mem_of_getElem? (i := 105) rfl), by rfl⟩, rfl, rfl, uw_X2⟩
set_option maxRecDepth 100000 in
theorem fd_X8_149 : xFd RX8 149 2 3 RX2 TX2 4 := ⟨rfl, by decide, by decide, List.mem_filter.mpr ⟨List.mem_append_right _ (List.mem_of_getElem? (i := 106) rfl), by rfl⟩, rfl, rfl, uw_X2⟩
set_option maxRecDepth 100000 in
theorem ln_X10_20 : xLn RX10 20 yX1_init "PacketToll" cX1_init 1 none 0 := ⟨by decide +kernel, in_X1, co_X1_init, ⟨by decide +kernel, by decide +kernel⟩, by decide +kernel, by decide⟩
set_option maxRecDepth 100000 in
theorem lj_X1_3 : Cond.methodLink RX1 3 objectInit ∈ xT := List.mem_filter.mpr ⟨List.mem_append_right _ (List.mem_of_getElem? (i := 122) rfl), by rfl⟩
set_option maxRecDepth 100000 in
theorem fd_X1_9 : xFd RX1 9 1 0 RX1 TX1 5 := ⟨rfl, by decide, by decide, List.mem_filter.mpr ⟨List.mem_append_right _ (List.mem_of_getElem? (i := 123) rfl), by rfl⟩, rfl, rfl, uw_X1⟩
set_option maxRecDepth 100000 in
theorem fd_X1_15 : xFd RX1 15 1 1 RX1 TX1 5 := ⟨rfl, by decide, by decide, List.mem_filter.mpr ⟨List.mem_append_right _ (List.mem_of_getElem? (i := 124) rfl), by rfl⟩, rfl, rfl, uw_X1⟩
set_option maxRecDepth 100000 in
theorem fd_X11_138 : xFd RX11 138 1 1 RX1 TX1 5 := ⟨rfl, by decide, by decide, List.mem_filter.mpr ⟨List.mem_append_right _ (List.mem_of_getElem? (i := 125) rfl), by rfl⟩, rfl, rfl, uw_X1⟩
set_option maxRecDepth 100000 in
theorem fd_X10_250 : xFd RX10 250 1 1 RX1 TX1 5 := ⟨rfl, by decide, by decide, List.mem_filter.mpr ⟨List.mem_append_right _ (List.mem_of_getElem? (i := 126) rfl), by rfl⟩, rfl, rfl, uw_X1⟩
set_option maxRecDepth 100000 in
theorem fd_X1_18 : xFd RX1 18 1 2 RX1 TX1 5 := ⟨rfl, by decide, by decide, List.mem_filter.mpr ⟨List.mem_append_right _ (List.mem_of_getElem? (i := 127) rfl), by rfl⟩, rfl, rfl, uw_X1⟩
set_option maxRecDepth 100000 in
theorem fd_X11_141 : xFd RX11 141 1 2 RX1 TX1 5 := ⟨rfl, by decide, by decide, List.mem_filter.mpr ⟨List.mem_append_right _ (List.mem_of_getElem? (i := 128) rfl), by rfl⟩, rfl, rfl, uw_X1⟩
set_option maxRecDepth 100000 in
theorem fd_X10_187 : xFd RX10 187 1 2 RX1 TX1 5 := ⟨rfl, by decide, by decide, List.mem_filter.mpr ⟨List.mem_append_right _ (List.mem_of_getElem? (i := 129) rfl), by rfl⟩, rfl, rfl, uw_X1⟩
set_option maxRecDepth 100000 in
theorem fd_X1_21 : xFd RX1 21 1 3 RX1 TX1 5 := ⟨rfl, by decide, by decide, List.mem_filter.mpr ⟨List.mem_append_right _ (List.mem_of_getElem? (i := 130) rfl), by rfl⟩, rfl, rfl, uw_X1⟩
set_option maxRecDepth 100000 in
theorem fd_X11_144 : xFd RX11 144 1 3 RX1 TX1 5 := ⟨rfl, by decide, by decide, List.mem_filter.mpr ⟨List.mem_append_right _ (List.mem_of_getElem? (i := 131) rfl), by rfl⟩, rfl, rfl, uw_X1⟩
set_option maxRecDepth 100000 in
theorem fd_X10_240 : xFd RX10 240 1 3 RX1 TX1 5 := ⟨rfl, by decide, by decide, List.mem_filter.mpr ⟨List.mem_append_right _ (List.mem_of_getElem? (i := 132) rfl), by rfl⟩, rfl, rfl, uw_X1⟩
set_option maxRecDepth 100000 in
theorem fd_X1_24 : xFd RX1 24 1 4 RX1 TX1 5 := ⟨rfl, by decide, by decide, List.mem_filter.mpr ⟨List.mem_append_right _ (List.mem_of_getElem? (i := 133) rfl), by rfl⟩, rfl, rfl, uw_X1⟩
set_option maxRecDepth 100000 in
theorem fd_X10_110 : xFd RX10 110 1 4 RX1 TX1 5 := ⟨rfl, by decide, by decide, List.mem_filter.mpr ⟨List.mem_append_right _ (List.mem_of_getElem? (i := 134) rfl), by rfl⟩, rfl, rfl, uw_X1⟩
set_option maxRecDepth 100000 in
theorem fd_X11_97 : xFd RX11 97 1 4 RX1 TX1 5 := ⟨rfl, by decide, by decide, List.mem_filter.mpr ⟨List.mem_append_right _ (List.mem_of_getElem? (i := 135) rfl), by rfl⟩, rfl, rfl, uw_X1⟩
set_option maxRecDepth 100000 in
theorem fd_X8_166 : xFd RX8 166 1 4 RX1 TX1 5 := ⟨rfl, by decide, by decide, List.mem_filter.mpr ⟨List.mem_append_right _ (List.mem_of_getElem? (i := 136) rfl), by rfl⟩, rfl, rfl, uw_X1⟩
set_option maxRecDepth 100000 in
theorem ln_X10_27 : xLn RX10 27 yX4_init "PacketToll" cX4_init 1 none 0 := ⟨by decide +kernel, in_X4, co_X4_init, ⟨by decide +kernel, by decide +kernel⟩, by decide +kernel, by decide⟩
set_option maxRecDepth 100000 in
theorem lj_X4_3 : Cond.methodLink RX4 3 objectInit ∈ xT := List.mem_filter.mpr ⟨List.mem_append_right _ (List.mem_of_getElem? (i := 153) rfl), by rfl⟩
set_option maxRecDepth 100000 in
theorem fd_X4_11 : xFd RX4 11 4 0 RX4 TX4 5 := ⟨rfl, by decide, by decide, List.mem_filter.mpr ⟨List.mem_append_right _ (List.mem_of_getElem? (i := 154) rfl), by rfl⟩, rfl, rfl, uw_X4⟩
set_option maxRecDepth 100000 in
theorem fd_X10_174 : xFd RX10 174 4 0 RX4 TX4 5 := ⟨rfl, by decide, by decide, List.mem_filter.mpr ⟨List.mem_append_right _ (List.mem_of_getElem? (i := 155) rfl), by rfl⟩, rfl, rfl, uw_X4⟩
set_option maxRecDepth 100000 in
theorem fd_X11_169 : xFd RX11 169 4 0 RX4 TX4 5 := ⟨rfl, by decide, by decide, List.mem_filter.mpr ⟨List.mem_append_right _ (List.mem_of_getElem? (i := 156) rfl), by rfl⟩, rfl, rfl, uw_X4⟩
set_option maxRecDepth 100000 in
theorem fd_X4_15 : xFd RX4 15 4 1 RX4 TX4 5 := ⟨rfl, by decide, by decide, List.mem_filter.mpr ⟨List.mem_append_right _ (List.mem_of_getElem? (i := 157) rfl), by rfl⟩, rfl, rfl, uw_X4⟩
set_option maxRecDepth 100000 in
theorem fd_X11_174 : xFd RX11 174 4 1 RX4 TX4 5 := ⟨rfl, by decide, by decide, List.mem_filter.mpr ⟨List.mem_append_right _ (List.mem_of_getElem? (i := 158) rfl), by rfl⟩, rfl, rfl, uw_X4⟩
set_option maxRecDepth 100000 in
theorem fd_X10_209 : xFd RX10 209 4 1 RX4 TX4 5 := ⟨rfl, by decide, by decide, List.mem_filter.mpr ⟨List.mem_append_right _ (List.mem_of_getElem? (i := 159) rfl), by rfl⟩, rfl, rfl, uw_X4⟩
set_option maxRecDepth 100000 in
theorem fd_X4_18 : xFd RX4 18 4 2 RX4 TX4 5 := ⟨rfl, by decide, by decide, List.mem_filter.mpr ⟨List.mem_append_right _ (List.mem_of_getElem? (i := 160) rfl), by rfl⟩, rfl, rfl, uw_X4⟩
set_option maxRecDepth 100000 in
theorem fd_X4_21 : xFd RX4 21 4 3 RX4 TX4 5 := ⟨rfl, by decide, by decide, List.mem_filter.mpr ⟨List.mem_append_right _ (List.mem_of_getElem? (i := 161) rfl), by rfl⟩, rfl, rfl, uw_X4⟩
set_option maxRecDepth 100000 in
theorem fd_X4_24 : xFd RX4 24 4 4 RX4 TX4 5 := ⟨rfl, by decide, by decide, List.mem_filter.mpr ⟨List.mem_append_right _ (List.mem_of_getElem? (i := 162) rfl), by rfl⟩, rfl, rfl, uw_X4⟩
set_option maxRecDepth 100000 in
theorem ln_X10_34 : xLn RX10 34 yX5_init "PacketToll" cX5_init 1 none 0 := ⟨by decide +kernel, in_X5, co_X5_init, ⟨by decide +kernel, by decide +kernel⟩, by decide +kernel, by decide⟩
set_option maxRecDepth 100000 in
theorem lj_X5_3 : Cond.methodLink RX5 3 objectInit ∈ xT := List.mem_filter.mpr ⟨List.mem_append_right _ (List.mem_of_getElem? (i := 179) rfl), by rfl⟩
set_option maxRecDepth 100000 in
theorem fd_X5_9 : xFd RX5 9 5 0 RX5 TX5 9 := ⟨rfl, by decide, by decide, List.mem_filter.mpr ⟨List.mem_append_right _ (List.mem_of_getElem? (i := 180) rfl), by rfl⟩, rfl, rfl, uw_X5⟩
set_option maxRecDepth 100000 in
theorem fd_X10_126 : xFd RX10 126 5 0 RX5 TX5 9 := ⟨rfl, by decide, by decide, List.mem_filter.mpr ⟨List.mem_append_right _ (List.mem_of_getElem? (i := 181) rfl), by rfl⟩, rfl, rfl, uw_X5⟩
set_option maxRecDepth 100000 in
theorem fd_X11_180 : xFd RX11 180 5 0 RX5 TX5 9 := ⟨rfl, by decide, by decide, List.mem_filter.mpr ⟨List.mem_append_right _ (List.mem_of_getElem? (i := 182) rfl), by rfl⟩, rfl, rfl, uw_X5⟩
set_option maxRecDepth 100000 in
theorem fd_X5_15 : xFd RX5 15 5 1 RX5 TX5 9 := ⟨rfl, by decide, by decide, List.mem_filter.mpr ⟨List.mem_append_right _ (List.mem_of_getElem? (i := 183) rfl), by rfl⟩, rfl, rfl, uw_X5⟩
set_option maxRecDepth 100000 in
theorem fd_X10_151 : xFd RX10 151 5 1 RX5 TX5 9 := ⟨rfl, by decide, by decide, List.mem_filter.mpr ⟨List.mem_append_right _ (List.mem_of_getElem? (i := 184) rfl), by rfl⟩, rfl, rfl, uw_X5⟩
set_option maxRecDepth 100000 in
theorem fd_X11_183 : xFd RX11 183 5 1 RX5 TX5 9 := ⟨rfl, by decide, by decide, List.mem_filter.mpr ⟨List.mem_append_right _ (List.mem_of_getElem? (i := 185) rfl), by rfl⟩, rfl, rfl, uw_X5⟩
set_option maxRecDepth 100000 in
theorem fd_X5_18 : xFd RX5 18 5 2 RX5 TX5 9 := ⟨rfl, by decide, by decide, List.mem_filter.mpr ⟨List.mem_append_right _ (List.mem_of_getElem? (i := 186) rfl), by rfl⟩, rfl, rfl, uw_X5⟩
set_option maxRecDepth 100000 in
theorem fd_X10_171 : xFd RX10 171 5 2 RX5 TX5 9 := ⟨rfl, by decide, by decide, List.mem_filter.mpr ⟨List.mem_append_right _ (List.mem_of_getElem? (i := 187) rfl), by rfl⟩, rfl, rfl, uw_X5⟩
set_option maxRecDepth 100000 in
theorem fd_X11_186 : xFd RX11 186 5 2 RX5 TX5 9 := ⟨rfl, by decide, by decide, List.mem_filter.mpr ⟨List.mem_append_right _ (List.mem_of_getElem? (i := 188) rfl), by rfl⟩, rfl, rfl, uw_X5⟩
set_option maxRecDepth 100000 in
theorem fd_X5_21 : xFd RX5 21 5 3 RX5 TX5 9 := ⟨rfl, by decide, by decide, List.mem_filter.mpr ⟨List.mem_append_right _ (List.mem_of_getElem? (i := 189) rfl), by rfl⟩, rfl, rfl, uw_X5⟩
set_option maxRecDepth 100000 in
theorem fd_X10_123 : xFd RX10 123 5 3 RX5 TX5 9 := ⟨rfl, by decide, by decide, List.mem_filter.mpr ⟨List.mem_append_right _ (List.mem_of_getElem? (i := 190) rfl), by rfl⟩, rfl, rfl, uw_X5⟩
set_option maxRecDepth 100000 in
theorem fd_X11_189 : xFd RX11 189 5 3 RX5 TX5 9 := ⟨rfl, by decide, by decide, List.mem_filter.mpr ⟨List.mem_append_right _ (List.mem_of_getElem? (i := 191) rfl), by rfl⟩, rfl, rfl, uw_X5⟩
set_option maxRecDepth 100000 in
theorem fd_X5_24 : xFd RX5 24 5 4 RX5 TX5 9 := ⟨rfl, by decide, by decide, List.mem_filter.mpr ⟨List.mem_append_right _ (List.mem_of_getElem? (i := 192) rfl), by rfl⟩, rfl, rfl, uw_X5⟩
set_option maxRecDepth 100000 in
theorem fd_X10_129 : xFd RX10 129 5 4 RX5 TX5 9 := ⟨rfl, by decide, by decide, List.mem_filter.mpr ⟨List.mem_append_right _ (List.mem_of_getElem? (i := 193) rfl), by rfl⟩, rfl, rfl, uw_X5⟩
set_option maxRecDepth 100000 in
theorem fd_X5_27 : xFd RX5 27 5 5 RX5 TX5 9 := ⟨rfl, by decide, by decide, List.mem_filter.mpr ⟨List.mem_append_right _ (List.mem_of_getElem? (i := 194) rfl), by rfl⟩, rfl, rfl, uw_X5⟩
set_option maxRecDepth 100000 in
theorem fd_X10_184 : xFd RX10 184 5 5 RX5 TX5 9 := ⟨rfl, by decide, by decide, List.mem_filter.mpr ⟨List.mem_append_right _ (List.mem_of_getElem? (i := 195) rfl), by rfl⟩, rfl, rfl, uw_X5⟩
set_option maxRecDepth 100000 in
theorem fd_X5_30 : xFd RX5 30 5 6 RX5 TX5 9 := ⟨rfl, by decide, by decide, List.mem_filter.mpr ⟨List.mem_append_right _ (List.mem_of_getElem? (i := 196) rfl), by rfl⟩, rfl, rfl, uw_X5⟩
set_option maxRecDepth 100000 in
theorem fd_X11_195 : xFd RX11 195 5 6 RX5 TX5 9 := ⟨rfl, by decide, by decide, List.mem_filter.mpr ⟨List.mem_append_right _ (List.mem_of_getElem? (i := 197) rfl), by rfl⟩, rfl, rfl, uw_X5⟩
set_option maxRecDepth 100000 in
theorem fd_X10_221 : xFd RX10 221 5 6 RX5 TX5 9 := ⟨rfl, by decide, by decide, List.mem_filter.mpr ⟨List.mem_append_right _ (List.mem_of_getElem? (i := 198) rfl), by rfl⟩, rfl, rfl, uw_X5⟩
set_option maxRecDepth 100000 in
theorem fd_X5_33 : xFd RX5 33 5 7 RX5 TX5 9 := ⟨rfl, by decide, by decide, List.mem_filter.mpr ⟨List.mem_append_right _ (List.mem_of_getElem? (i := 199) rfl), by rfl⟩, rfl, rfl, uw_X5⟩
set_option maxRecDepth 100000 in
theorem fd_X11_198 : xFd RX11 198 5 7 RX5 TX5 9 := ⟨rfl, by decide, by decide, List.mem_filter.mpr ⟨List.mem_append_right _ (List.mem_of_getElem? (i := 200) rfl), by rfl⟩, rfl, rfl, uw_X5⟩
set_option maxRecDepth 100000 in
theorem fd_X10_218 : xFd RX10 218 5 7 RX5 TX5 9 := ⟨rfl, by decide, by decide, List.mem_filter.mpr ⟨List.mem_append_right _ (List.mem_of_getElem? (i := 201) rfl), by rfl⟩, rfl, rfl, uw_X5⟩
set_option maxRecDepth 100000 in
theorem fd_X5_36 : xFd RX5 36 5 8 RX5 TX5 9 := ⟨rfl, by decide, by decide, List.mem_filter.mpr ⟨List.mem_append_right _ (List.mem_of_getElem? (i := 202) rfl), by rfl⟩, rfl, rfl, uw_X5⟩
set_option maxRecDepth 100000 in
theorem fd_X10_111 : xFd RX10 111 5 8 RX5 TX5 9 := ⟨rfl, by decide, by decide, List.mem_filter.mpr ⟨List.mem_append_right _ (List.mem_of_getElem? (i := 203) rfl), by rfl⟩, rfl, rfl, uw_X5⟩
set_option maxRecDepth 100000 in
theorem fd_X11_78 : xFd RX11 78 5 8 RX5 TX5 9 := ⟨rfl, by decide, by decide, List.mem_filter.mpr ⟨List.mem_append_right _ (List.mem_of_getElem? (i := 204) rfl), by rfl⟩, rfl, rfl, uw_X5⟩
set_option maxRecDepth 100000 in
theorem fd_X8_190 : xFd RX8 190 5 8 RX5 TX5 9 := ⟨rfl, by decide, by decide, List.mem_filter.mpr ⟨List.mem_append_right _ (List.mem_of_getElem? (i := 205) rfl), by rfl⟩, rfl, rfl, uw_X5⟩
set_option maxRecDepth 100000 in
theorem ln_X10_41 : xLn RX10 41 yX0_init "PacketToll" cX0_init 1 none 0 := ⟨by decide +kernel, in_X0, co_X0_init, ⟨by decide +kernel, by decide +kernel⟩, by decide +kernel, by decide⟩
set_option maxRecDepth 100000 in
theorem lj_X0_3 : Cond.methodLink RX0 3 objectInit ∈ xT := List.mem_filter.mpr ⟨List.mem_append_right _ (List.mem_of_getElem? (i := 230) rfl), by rfl⟩
set_option maxRecDepth 100000 in
theorem fd_X0_9 : xFd RX0 9 0 0 RX0 TX0 5 := ⟨rfl, by decide, by decide, List.mem_filter.mpr ⟨List.mem_append_right _ (List.mem_of_getElem? (i := 231) rfl), by rfl⟩, rfl, rfl, uw_X0⟩
