def zw__Bu_init : List (List Nat) := [[], [1086, 1021], [], [], [1080], [1139, 0], [], [], [1080], [1140, 0], [], [], [1138], [1141, 0], [], [], [1138], [1142, 0], [], [], [1138], [1143, 0], [], [1087, 1088, 1006], [], [1089, 1090, 1], [1145, 0], []]
set_option maxRecDepth 100000 in
theorem zk_Bu_init : zc_Bu_init.length = zw__Bu_init.length ∧ (zc_Bu_init.zip zw__Bu_init).all (fun q => zck RX0 true cX0_init q.1 q.2) = true := by decide +kernel
def zw__Bu_begin : List (List Nat) := [[], [], [1145, 0], [], [1145, 0], [2140, 2141, 2142, 0], [], [], [1144, 0], []]
set_option maxRecDepth 100000 in
theorem zk_Bu_begin : zc_Bu_begin.length = zw__Bu_begin.length ∧ (zc_Bu_begin.zip zw__Bu_begin).all (fun q => zck RX0 false cX0_begin q.1 q.2) = true := by decide +kernel
def zw__Bu_condition : List (List Nat) := [[], [1145, 0], [], [2199, 2200, 2201, 0], [], [], [1144, 0], [], [], [], [1139, 0], [], [1144, 0], [], [], [], [1140, 0], [], [1144, 0], [], [], [], [1141, 0], [], [1144, 0], [], [1145, 0], [1105, 1], [], [], [1142, 0], [], [1144, 0], [], [], [], [1143, 0], [], [1144, 0], [], [], [], [], [1144, 0], [], [], [1144, 0], []]
set_option maxRecDepth 100000 in
theorem zk_Bu_condition : zc_Bu_condition.length = zw__Bu_condition.length ∧ (zc_Bu_condition.zip zw__Bu_condition).all (fun q => zck RX0 false cX0_condition q.1 q.2) = true := by decide +kernel
def zw__Bu_chainTwo : List (List Nat) := [[], [1144, 0], [], [], [], [], [], [1144, 0], [], [], [1144, 0], [], [1144, 0], [], [], [], [], [1145, 0], [], [1140, 0], [], [], [], [1139, 0], [], [1144, 0], [], [2231, 2232, 2233, 0], [], [1142, 0], [], [], [], [], [1139, 0], [], [], [], [], [1139, 0], [], [1144, 0], [], [], [], [], [1140, 0], [], [], [1142, 0], [], [1144, 0], [], [], [], [1140, 0], [], [], [], [1140, 0], [], [1144, 0], [], [], [], [], [1140, 0], [], [1144, 0], [], [], [], [1142, 0], [], [], [], [1142, 0], [], [], [], [1142, 0], [], [1144, 0], [], [], [2235, 2236, 1012], [], [], [1143, 0], [], [], [], [1143, 0], [], [], [], [1143, 0], [], [1144, 0], [], [], [2235, 2236, 1012], [], []]
set_option maxRecDepth 100000 in
theorem zk_Bu_chainTwo : zc_Bu_chainTwo.length = zw__Bu_chainTwo.length ∧ (zc_Bu_chainTwo.zip zw__Bu_chainTwo).all (fun q => zck RX0 false cX0_chainTwo q.1 q.2) = true := by decide +kernel
def zw__Bu_chooseOfTwo : List (List Nat) := [[], [1144, 0], [], [], [], [], [], [1144, 0], [], [], [1144, 0], [], [1144, 0], [], [], [], [], [1139, 0], [], [], [], [], [1139, 0], [], [1144, 0], [], [], [], [], [1140, 0], [], [], [], [], [1140, 0], [], [1144, 0], [], [], [], [], [1142, 0], [], [], [1142, 0], [], [], [], [1142, 0], [], [1144, 0], [], [2235, 2236, 1012], [], [], [1143, 0], [], [], [1143, 0], [], [], [], [1143, 0], [], [1144, 0], [], [2230, 2216, 1012], [], []]
set_option maxRecDepth 100000 in
theorem zk_Bu_chooseOfTwo : zc_Bu_chooseOfTwo.length = zw__Bu_chooseOfTwo.length ∧ (zc_Bu_chooseOfTwo.zip zw__Bu_chooseOfTwo).all (fun q => zck RX0 false cX0_chooseOfTwo q.1 q.2) = true := by decide +kernel
def zw__Bu_repeat : List (List Nat) := [[], [1144, 0], [], [], [], [], [1144, 0], [], [], [], [], [1145, 0], [1105, 1], [], [1141, 0], [], [], [], [], [], [], [], [1145, 0], [1114, 1], [], [], [1145, 0], [], [1141, 0], [], [], [], [2222, 2223, 2224, 0], [], [1145, 0], [1114, 1], [], [], [], [], [], [], [2226, 2228, 11, 0], [], [1142, 0], [], [], [], [1142, 0], [], [], [], [], [2235, 2236, 1012], [], [], [1143, 0], [], [], [], [1143, 0], [], [], [], [], [2235, 2236, 1012], [], []]
set_option maxRecDepth 100000 in
theorem zk_Bu_repeat : zc_Bu_repeat.length = zw__Bu_repeat.length ∧ (zc_Bu_repeat.zip zw__Bu_repeat).all (fun q => zck RX0 false cX0_repeat q.1 q.2) = true := by decide +kernel
def zw__Bu_chainCopies : List (List Nat) := [[], [1139, 0], [], [], [], [], [1140, 0], [], [], [], [], [1142, 0], [], [], [], [], [], [], [], [2230, 2216, 1012], [], [], [1140, 0], [], [], [], [], [], [], [], [], [], [], [], [], [], [], [], [1145, 0], [], [], [], [], [], [], [], [], [2231, 2232, 2233, 0], [], [], [], [], [], [], [1140, 0], [], [], [], [], [], [], [], [], [], [], []]
set_option maxRecDepth 100000 in
theorem zk_Bu_chainCopies : zc_Bu_chainCopies.length = zw__Bu_chainCopies.length ∧ (zc_Bu_chainCopies.zip zw__Bu_chainCopies).all (fun q => zck RX0 false cX0_chainCopies q.1 q.2) = true := by decide +kernel
def zw__Bu_finish : List (List Nat) := [[], [1144, 0], [], [], [], [], [1145, 0], [1094, 1], [], [], [1139, 0], [], [], [], [], [1145, 0], [], [1140, 0], [], [], [1099, 1], [], [1145, 0], [], [1142, 0], [], [], [1109, 1], [], [1145, 0], [], [1143, 0], [], [], [1111, 1], [], [1145, 0], [1114, 1], [], [], [1145, 0], [3010, 3011, 3012, 0], []]
set_option maxRecDepth 100000 in
theorem zk_Bu_finish : zc_Bu_finish.length = zw__Bu_finish.length ∧ (zc_Bu_finish.zip zw__Bu_finish).all (fun q => zck RX0 false cX0_finish q.1 q.2) = true := by decide +kernel
def zw__Pl_init : List (List Nat) := [[], [1201, 1021], [], [1202, 1088, 1006], [], [1203, 1090, 1], [1204, 0], [], [1202, 1088, 1006], [], [1203, 1090, 1], [1208, 0], [], [], [1080], [1212, 0], []]
set_option maxRecDepth 100000 in
theorem zk_Pl_init : zc_Pl_init.length = zw__Pl_init.length ∧ (zc_Pl_init.zip zw__Pl_init).all (fun q => zck RX1 true cX1_init q.1 q.2) = true := by decide +kernel
def zw__Pl_sideOf : List (List Nat) := [[], [], [], [1204, 0], [], [], [1208, 0], []]
set_option maxRecDepth 100000 in
theorem zk_Pl_sideOf : zc_Pl_sideOf.length = zw__Pl_sideOf.length ∧ (zc_Pl_sideOf.zip zw__Pl_sideOf).all (fun q => zck RX1 false cX1_sideOf q.1 q.2) = true := by decide +kernel
def zw__Pl_isPutOffBy : List (List Nat) := [[], [1215, 0], [], [], [1212, 0], [], [], [3095, 3061, 1], [], [], [], [], []]
set_option maxRecDepth 100000 in
theorem zk_Pl_isPutOffBy : zc_Pl_isPutOffBy.length = zw__Pl_isPutOffBy.length ∧ (zc_Pl_isPutOffBy.zip zw__Pl_isPutOffBy).all (fun q => zck RX1 false cX1_isPutOffBy q.1 q.2) = true := by decide +kernel
def zw__Re_init : List (List Nat) := [[], [1028, 1021], [], [1029, 1030, 1003], [], [1031, 1032, 1], [1161, 0], [], [1067, 1068, 1004], [], [1069, 1070, 1], [1163, 0], [], [1081, 1082, 1005], [], [1083, 1084, 1], [1164, 0], []]
set_option maxRecDepth 100000 in
theorem zk_Re_init : zc_Re_init.length = zw__Re_init.length ∧ (zc_Re_init.zip zw__Re_init).all (fun q => zck RX2 true cX2_init q.1 q.2) = true := by decide +kernel
def zw__Re_readAll : List (List Nat) := [[], [1161, 0], [2101, 2102, 2103, 0], [], [1163, 0], [2123, 2124, 2125, 0], [], [], [], [], [], [], [1161, 0], [1040, 1], [], [], [], [], [1161, 0], [2127, 2128, 2129, 0], [], [], [1161, 0], [], [2131, 2117, 2118, 0], [], [], [], [], [], [], [], [], [1161, 0], [], [2131, 2117, 2118, 0], [], [], [], [], [], [], [], [2132, 2134, 1, 0], [], [], [], [], [], [], []]
set_option maxRecDepth 100000 in
theorem zk_Re_readAll : zc_Re_readAll.length = zw__Re_readAll.length ∧ (zc_Re_readAll.zip zw__Re_readAll).all (fun q => zck RX2 false cX2_readAll q.1 q.2) = true := by decide +kernel
def zw__Re_readPromise : List (List Nat) := [[], [1164, 0], [], [1205, 1], [2136, 2137, 2138, 0], [], [], [2144, 2146, 2, 0], [], [], [], [], [1164, 0], [3006, 3007, 3008, 0], [], [1161, 0], [1040, 1], [], [], [], [1161, 0], [1040, 1], [], [], [], [1161, 0], [], [2131, 2117, 2118, 0], [], [], [], [1161, 0], [1040, 1], [], [], [], [], [], [1218, 1], [], [1161, 0], [2164, 2106, 2107, 0], [], [1164, 0], [], [1209, 1], [2136, 2137, 2138, 0], [], [], [2144, 2146, 2, 0], [], [], [], [], [1164, 0], [3006, 3007, 3008, 0], [], [], [3023, 3025, 12, 0], [], [], [], [], [1161, 0], [1040, 1], [], [], [], [1161, 0], [], [2131, 2117, 2118, 0], [], [], [1205, 1], [1107, 1], [], [], [1209, 1], [1107, 1], [], [], [1161, 0], [], [2131, 2117, 2118, 0], [], [], [1205, 1], [1113, 1], [], [], [1209, 1], [1113, 1], [], [], [1161, 0], [], [2131, 2117, 2118, 0], [], [], [1161, 0], [2164, 2106, 2107, 0], [], []]
set_option maxRecDepth 100000 in
theorem zk_Re_readPromise : zc_Re_readPromise.length = zw__Re_readPromise.length ∧ (zc_Re_readPromise.zip zw__Re_readPromise).all (fun q => zck RX2 false cX2_readPromise q.1 q.2) = true := by decide +kernel
def zw__Re_readOff : List (List Nat) := [[], [], [1161, 0], [1040, 1], [], [], [], [], [], [1216, 1], [], [1216, 1], [], [], [], [], [1161, 0], [2164, 2106, 2107, 0], [], [], [2179, 2181, 8, 0], [], [], [], [], [1163, 0], [], [1213, 1], [], [3027, 2208, 2209, 0], [], []]
set_option maxRecDepth 100000 in
theorem zk_Re_readOff : zc_Re_readOff.length = zw__Re_readOff.length ∧ (zc_Re_readOff.zip zw__Re_readOff).all (fun q => zck RX2 false cX2_readOff q.1 q.2) = true := by decide +kernel
def zw__Re_readChoice : List (List Nat) := [[], [], [2148, 2150, 3, 0], [], [], [], [], [], [], [], [], [], [1161, 0], [1040, 1], [], [], [], [1161, 0], [2164, 2106, 2107, 0], [], [], [2148, 2150, 3, 0], [], [], [], [], [1164, 0], [3002, 3003, 3004, 0], [], [], [], []]
set_option maxRecDepth 100000 in
theorem zk_Re_readChoice : zc_Re_readChoice.length = zw__Re_readChoice.length ∧ (zc_Re_readChoice.zip zw__Re_readChoice).all (fun q => zck RX2 false cX2_readChoice q.1 q.2) = true := by decide +kernel
def zw__Re_readChain : List (List Nat) := [[], [], [2152, 2154, 4, 0], [], [], [], [], [], [], [], [], [], [1161, 0], [1040, 1], [], [], [], [1161, 0], [2164, 2106, 2107, 0], [], [], [2152, 2154, 4, 0], [], [], [], [], [1164, 0], [2238, 2239, 3000, 0], [], [], [], []]
set_option maxRecDepth 100000 in
theorem zk_Re_readChain : zc_Re_readChain.length = zw__Re_readChain.length ∧ (zc_Re_readChain.zip zw__Re_readChain).all (fun q => zck RX2 false cX2_readChain q.1 q.2) = true := by decide +kernel
def zw__Re_readRepeated : List (List Nat) := [[], [], [2156, 2158, 5, 0], [], [], [], [], [1161, 0], [1040, 1], [], [], [], [], [], [1161, 0], [2164, 2106, 2107, 0], [], [1161, 0], [1043, 1], [], [], [], [2211, 2213, 10, 0], [], [], [], [], [1161, 0], [1043, 1], [], [], [], [], [2215, 2216, 1012], [2211, 2213, 10, 0], [], [], [], [], [1164, 0], [], [], [2218, 2219, 2220, 0], [], []]
set_option maxRecDepth 100000 in
theorem zk_Re_readRepeated : zc_Re_readRepeated.length = zw__Re_readRepeated.length ∧ (zc_Re_readRepeated.zip zw__Re_readRepeated).all (fun q => zck RX2 false cX2_readRepeated q.1 q.2) = true := by decide +kernel
def zw__Re_readNumber : List (List Nat) := [[], [1161, 0], [1040, 1], [], [], [], [1161, 0], [], [2131, 2117, 2118, 0], [], [], [1161, 0], [1043, 1], [], [], [], [1161, 0], [1043, 1], [], [], [], [1161, 0], [], [2131, 2117, 2118, 0], [], [], [1161, 0], [2164, 2106, 2107, 0], [], []]
set_option maxRecDepth 100000 in
theorem zk_Re_readNumber : zc_Re_readNumber.length = zw__Re_readNumber.length ∧ (zc_Re_readNumber.zip zw__Re_readNumber).all (fun q => zck RX2 false cX2_readNumber q.1 q.2) = true := by decide +kernel
def zw__Re_readPart : List (List Nat) := [[], [1161, 0], [1040, 1], [], [], [], [], [2160, 2162, 6, 0], [], [], [], [], [1164, 0], [], [1163, 0], [2195, 2196, 2197, 0], [], [], [], [], [], [], [1161, 0], [], [2131, 2117, 2118, 0], [], [], [1161, 0], [2164, 2106, 2107, 0], [], [], [], [], [2144, 2146, 2, 0], [], [], [], [], [1161, 0], [1040, 1], [], [], [], [1161, 0], [], [2131, 2117, 2118, 0], [], [], [1161, 0], [2164, 2106, 2107, 0], [], []]
set_option maxRecDepth 100000 in
theorem zk_Re_readPart : zc_Re_readPart.length = zw__Re_readPart.length ∧ (zc_Re_readPart.zip zw__Re_readPart).all (fun q => zck RX2 false cX2_readPart q.1 q.2) = true := by decide +kernel
def zw__Re_readCondition : List (List Nat) := [[], [], [], [], [], [], [], [], [1161, 0], [1040, 1], [], [], [], [], [], [], [], [], [], [1161, 0], [2164, 2106, 2107, 0], [], [], [], [], [2165, 2167, 7, 0], [], [], [], [], [], [], [1163, 0], [2191, 2192, 2193, 0], [], []]
set_option maxRecDepth 100000 in
theorem zk_Re_readCondition : zc_Re_readCondition.length = zw__Re_readCondition.length ∧ (zc_Re_readCondition.zip zw__Re_readCondition).all (fun q => zck RX2 false cX2_readCondition q.1 q.2) = true := by decide +kernel
def zw__Re_readPlain : List (List Nat) := [[], [1161, 0], [1040, 1], [], [], [], [1163, 0], [], [1161, 0], [1043, 1], [2169, 2170, 2171, 0], [], [1161, 0], [2164, 2106, 2107, 0], [], [], [], [1161, 0], [1040, 1], [], [], [], [1161, 0], [], [2131, 2117, 2118, 0], [], [], [], [], [], [1161, 0], [], [2131, 2117, 2118, 0], [], [], [1161, 0], [2164, 2106, 2107, 0], [], [], [], [], [2179, 2181, 8, 0], [], [], [], [], [1161, 0], [1040, 1], [], [], [], [1161, 0], [], [2131, 2117, 2118, 0], [], [], [1161, 0], [2164, 2106, 2107, 0], [], []]
set_option maxRecDepth 100000 in
theorem zk_Re_readPlain : zc_Re_readPlain.length = zw__Re_readPlain.length ∧ (zc_Re_readPlain.zip zw__Re_readPlain).all (fun q => zck RX2 false cX2_readPlain q.1 q.2) = true := by decide +kernel
def zw__Re_readAnyOf : List (List Nat) := [[], [], [2183, 2185, 9, 0], [], [], [], [], [], [], [], [], [], [1161, 0], [1040, 1], [], [], [], [1161, 0], [2164, 2106, 2107, 0], [], [], [2183, 2185, 9, 0], [], [], [], [], [1163, 0], [], [2187, 2188, 2189, 0], [], [], [], []]
set_option maxRecDepth 100000 in
theorem zk_Re_readAnyOf : zc_Re_readAnyOf.length = zw__Re_readAnyOf.length ∧ (zc_Re_readAnyOf.zip zw__Re_readAnyOf).all (fun q => zck RX2 false cX2_readAnyOf q.1 q.2) = true := by decide +kernel
def zw__Re_readAllOf : List (List Nat) := [[], [], [2160, 2162, 6, 0], [], [], [], [], [], [], [], [], [], [1161, 0], [1040, 1], [], [], [], [1161, 0], [2164, 2106, 2107, 0], [], [], [2160, 2162, 6, 0], [], [], [], [], [1163, 0], [], [2187, 2188, 2189, 0], [], [], [], []]
set_option maxRecDepth 100000 in
theorem zk_Re_readAllOf : zc_Re_readAllOf.length = zw__Re_readAllOf.length ∧ (zc_Re_readAllOf.zip zw__Re_readAllOf).all (fun q => zck RX2 false cX2_readAllOf q.1 q.2) = true := by decide +kernel
def zw__Se_init : List (List Nat) := [[], [1092, 1021], [], [], [1080], [1093, 0], [], [], [1080], [1095, 0], [], [], [1080], [1096, 0], []]
set_option maxRecDepth 100000 in
theorem zk_Se_init : zc_Se_init.length = zw__Se_init.length ∧ (zc_Se_init.zip zw__Se_init).all (fun q => zck RX3 true cX3_init q.1 q.2) = true := by decide +kernel
def zw__Se_clear : List (List Nat) := [[], [], [1102, 0], [], [], [1104, 0], [], [], [1112, 0], []]
set_option maxRecDepth 100000 in
theorem zk_Se_clear : zc_Se_clear.length = zw__Se_clear.length ∧ (zc_Se_clear.zip zw__Se_clear).all (fun q => zck RX3 false cX3_clear q.1 q.2) = true := by decide +kernel
def zw__Se_addCondition : List (List Nat) := [[], [1104, 0], [], [], [], [1102, 0], [], [], [], [], [1112, 0], [], [1112, 0], [], [], [2203, 2204, 2205, 0], [], [], [], [], [1096, 0], [], [1102, 0], [2207, 2208, 2209, 0], [], [], [1104, 0], [], [], [1104, 0], [], [1093, 0], [], [1104, 0], [], [], [], [1095, 0], [], [1102, 0], [], [], [1104, 0], [], [], [], [], [1102, 0], [], [], [1102, 0], [], [], [1104, 0], [], []]
set_option maxRecDepth 100000 in
theorem zk_Se_addCondition : zc_Se_addCondition.length = zw__Se_addCondition.length ∧ (zc_Se_addCondition.zip zw__Se_addCondition).all (fun q => zck RX3 false cX3_addCondition q.1 q.2) = true := by decide +kernel
def zw__Se_link : List (List Nat) := [[], [], [], [], [], [], [1104, 0], [], [], [], [], [], [], [], [], [], [], [], [], [1093, 0], [], [], [], [], [], [], [], [], [], [], [], [], []]
set_option maxRecDepth 100000 in
theorem zk_Se_link : zc_Se_link.length = zw__Se_link.length ∧ (zc_Se_link.zip zw__Se_link).all (fun q => zck RX3 false cX3_link q.1 q.2) = true := by decide +kernel
def zw__Se_copyBlock : List (List Nat) := [[], [1104, 0], [], [], [], [], [], [], [], [], [], [], [], [], [], [], [], [], [], [], [1112, 0], [], [], [], [], [], [], [], [], [], [], [], [], [], [], [], [], [], [], [], [], [], [], [], [], [1093, 0], [], [], [], [], [1093, 0], [], [], [], [], [], [], [], [], [], [], [], [], [], [1102, 0], [], [], [1095, 0], [], [], [], [], [], [], [], [], [], [], [], [1095, 0], [], [], [], [], [], [], [], [], [], [], [], [], [], [], [], [], [], [], [], [], [], [], [1104, 0], []]
set_option maxRecDepth 100000 in
theorem zk_Se_copyBlock : zc_Se_copyBlock.length = zw__Se_copyBlock.length ∧ (zc_Se_copyBlock.zip zw__Se_copyBlock).all (fun q => zck RX3 false cX3_copyBlock q.1 q.2) = true := by decide +kernel
def zw__Se_findUseful : List (List Nat) := [[], [], [1100, 0], [], [], [1101, 0], [], [], [], [], [], [], [1102, 0], [], [], [1096, 0], [], [3014, 3015, 1], [], [], [], [1095, 0], [], [], [], [], [], [], [], [1104, 0], [], [], [], [], [], [], [], [], [1093, 0], [], [], [], [1100, 0], [], [], [], [], [], [], [], [], [], [], [], [], [1101, 0], [], [], [1101, 0], [], [], [], [], [], [], [], [], [], [1098, 0], [], [], [], [], [], [], [], [1100, 0], [], [], [1100, 0], [], [], []]
set_option maxRecDepth 100000 in
theorem zk_Se_findUseful : zc_Se_findUseful.length = zw__Se_findUseful.length ∧ (zc_Se_findUseful.zip zw__Se_findUseful).all (fun q => zck RX3 false cX3_findUseful q.1 q.2) = true := by decide +kernel
def zw__Se_openTo : List (List Nat) := [[], [], [], [], [], [], [1102, 0], [], [], [1096, 0], [], [], [3060, 3061, 1], [], [], [], [1095, 0], [], [], [], [], [], [], [], [], [1100, 0], [], []]
set_option maxRecDepth 100000 in
theorem zk_Se_openTo : zc_Se_openTo.length = zw__Se_openTo.length ∧ (zc_Se_openTo.zip zw__Se_openTo).all (fun q => zck RX3 false cX3_openTo q.1 q.2) = true := by decide +kernel
def zw__Se_after : List (List Nat) := [[], [], [], [], [], [], [], [], [1104, 0], [], [], [], [], [], [], [], [], [], [], [], [], [], [1093, 0], [], [], [], [], [], [], [], [], [], [], [], [], [], []]
set_option maxRecDepth 100000 in
theorem zk_Se_after : zc_Se_after.length = zw__Se_after.length ∧ (zc_Se_after.zip zw__Se_after).all (fun q => zck RX3 false cX3_after q.1 q.2) = true := by decide +kernel
def zw__Se_walk : List (List Nat) := [[], [], [], [], [], [], [], [], [], [], [], [], [], [], [], [1182, 1], [], [], [3154, 3057, 3058, 0], [3155, 3068, 3069, 0], [], [], [], [], []]
set_option maxRecDepth 100000 in
theorem zk_Se_walk : zc_Se_walk.length = zw__Se_walk.length ∧ (zc_Se_walk.zip zw__Se_walk).all (fun q => zck RX3 false cX3_walk q.1 q.2) = true := by decide +kernel
def zw__Se_hasEnded : List (List Nat) := [[], [], [1098, 0], [], [], [], [], [], [], [], []]
set_option maxRecDepth 100000 in
theorem zk_Se_hasEnded : zc_Se_hasEnded.length = zw__Se_hasEnded.length ∧ (zc_Se_hasEnded.zip zw__Se_hasEnded).all (fun q => zck RX3 false cX3_hasEnded q.1 q.2) = true := by decide +kernel
def zw__Se_goesOn : List (List Nat) := [[], [], [1101, 0], [], [], [], [], [], [], [], []]
set_option maxRecDepth 100000 in
theorem zk_Se_goesOn : zc_Se_goesOn.length = zw__Se_goesOn.length ∧ (zc_Se_goesOn.zip zw__Se_goesOn).all (fun q => zck RX3 false cX3_goesOn q.1 q.2) = true := by decide +kernel
def zw__Sh_init : List (List Nat) := [[], [2034, 1021], [], [], [1138], [2035, 0], [], [], [2039, 0], []]
set_option maxRecDepth 100000 in
theorem zk_Sh_init : zc_Sh_init.length = zw__Sh_init.length ∧ (zc_Sh_init.zip zw__Sh_init).all (fun q => zck RX4 true cX4_init q.1 q.2) = true := by decide +kernel
def zw__Sh_renew : List (List Nat) := [[], [], [2037, 0], [], [], [2039, 0], [], [], [], [], [], [], [2035, 0], [], [], [], [], [], []]
set_option maxRecDepth 100000 in
theorem zk_Sh_renew : zc_Sh_renew.length = zw__Sh_renew.length ∧ (zc_Sh_renew.zip zw__Sh_renew).all (fun q => zck RX4 false cX4_renew q.1 q.2) = true := by decide +kernel
def zw__Sh_tearAt : List (List Nat) := [[], [2039, 0], [], [], [], [], [], [2037, 0], [], [], [], [], [], [], [], [2039, 0], [], [], [], [], []]
set_option maxRecDepth 100000 in
theorem zk_Sh_tearAt : zc_Sh_tearAt.length = zw__Sh_tearAt.length ∧ (zc_Sh_tearAt.zip zw__Sh_tearAt).all (fun q => zck RX4 false cX4_tearAt q.1 q.2) = true := by decide +kernel
def zw__Sh_setCell : List (List Nat) := [[], [2037, 0], [], [], [2035, 0], [], [], [], [], [], [], [2035, 0], [], [], [], [], [], [], [2035, 0], [], [], [], []]
set_option maxRecDepth 100000 in
theorem zk_Sh_setCell : zc_Sh_setCell.length = zw__Sh_setCell.length ∧ (zc_Sh_setCell.zip zw__Sh_setCell).all (fun q => zck RX4 false cX4_setCell q.1 q.2) = true := by decide +kernel
def zw__Ta_init : List (List Nat) := [[], [1034, 1021], [], [], [1066], [1035, 0], []]
set_option maxRecDepth 100000 in
theorem zk_Ta_init : zc_Ta_init.length = zw__Ta_init.length ∧ (zc_Ta_init.zip zw__Ta_init).all (fun q => zck RX5 true cX5_init q.1 q.2) = true := by decide +kernel
def zw__Ta_begin : List (List Nat) := [[], [], [1039, 0], [], [], [1045, 0], [], [], [1047, 0], [], [2105, 2106, 2107, 0], []]
set_option maxRecDepth 100000 in
theorem zk_Ta_begin : zc_Ta_begin.length = zw__Ta_begin.length ∧ (zc_Ta_begin.zip zw__Ta_begin).all (fun q => zck RX5 false cX5_begin q.1 q.2) = true := by decide +kernel
def zw__Ta_refuse : List (List Nat) := [[], [1045, 0], [], [], [], [1045, 0], [], [], [1044, 0], [1047, 0], [], []]
set_option maxRecDepth 100000 in
theorem zk_Ta_refuse : zc_Ta_refuse.length = zw__Ta_refuse.length ∧ (zc_Ta_refuse.zip zw__Ta_refuse).all (fun q => zck RX5 false cX5_refuse q.1 q.2) = true := by decide +kernel
def zw__Ta_advance : List (List Nat) := [[], [1039, 0], [], [1038, 0], [], [], [1035, 0], [], [1039, 0], [], [], [], [], [], [1039, 0], [], [], [1039, 0], [], [], [], [1039, 0], [1044, 0], [], [1039, 0], [], [1038, 0], [], [], [], [1041, 0], [], [], [1035, 0], [], [1039, 0], [], [], [], [], [1039, 0], [], [], [1039, 0], [], [], [], [], [], [], [], [], [1041, 0], [], [], [], [], [1042, 0], [], [], [2109, 2110, 0], [], [], [], [2112, 2114, 0, 0], [], [], [2120, 2121, 0], [], [], [], [1041, 0], [], [], [], [1041, 0], [], [], [2116, 2117, 2118, 0], [], []]
set_option maxRecDepth 100000 in
theorem zk_Ta_advance : zc_Ta_advance.length = zw__Ta_advance.length ∧ (zc_Ta_advance.zip zw__Ta_advance).all (fun q => zck RX5 false cX5_advance q.1 q.2) = true := by decide +kernel
def zw__Ta_advanceNumber : List (List Nat) := [[], [], [1041, 0], [], [], [], [], [1042, 0], [], [], [], [1039, 0], [], [1038, 0], [], [], [1035, 0], [], [1039, 0], [], [2109, 2110, 0], [], [], [], [], [], [], [1042, 0], [], [], [], [1035, 0], [], [1039, 0], [], [], [], [], [1042, 0], [], [], [], [1039, 0], [], [], [1039, 0], [], [], [], [], [], [], [1041, 0], [], [], [2116, 2117, 2118, 0], [], []]
set_option maxRecDepth 100000 in
theorem zk_Ta_advanceNumber : zc_Ta_advanceNumber.length = zw__Ta_advanceNumber.length ∧ (zc_Ta_advanceNumber.zip zw__Ta_advanceNumber).all (fun q => zck RX5 false cX5_advanceNumber q.1 q.2) = true := by decide +kernel
def zw__Ta_isFigure : List (List Nat) := [[], [], [], [], [], [], [], [], [], []]
set_option maxRecDepth 100000 in
theorem zk_Ta_isFigure : zc_Ta_isFigure.length = zw__Ta_isFigure.length ∧ (zc_Ta_isFigure.zip zw__Ta_isFigure).all (fun q => zck RX5 false cX5_isFigure q.1 q.2) = true := by decide +kernel
def zw__Ta_isSign : List (List Nat) := [[], [], [], [], [], []]
set_option maxRecDepth 100000 in
theorem zk_Ta_isSign : zc_Ta_isSign.length = zw__Ta_isSign.length ∧ (zc_Ta_isSign.zip zw__Ta_isSign).all (fun q => zck RX5 false cX5_isSign q.1 q.2) = true := by decide +kernel
def zw__Ta_beginsSequence : List (List Nat) := [[], [1041, 0], [], [], [], [1041, 0], [], [], [], [1041, 0], [], [], [], [1041, 0], [], [], [], [], [], []]
set_option maxRecDepth 100000 in
theorem zk_Ta_beginsSequence : zc_Ta_beginsSequence.length = zw__Ta_beginsSequence.length ∧ (zc_Ta_beginsSequence.zip zw__Ta_beginsSequence).all (fun q => zck RX5 false cX5_beginsSequence q.1 q.2) = true := by decide +kernel
def zw__Tr_init : List (List Nat) := [[], [1179, 1021], [], [], [1138], [1180, 0], []]
set_option maxRecDepth 100000 in
theorem zk_Tr_init : zc_Tr_init.length = zw__Tr_init.length ∧ (zc_Tr_init.zip zw__Tr_init).all (fun q => zck RX6 true cX6_init q.1 q.2) = true := by decide +kernel
def zw__Tr_add : List (List Nat) := [[], [1184, 0], [], [], [], [1180, 0], [], [1184, 0], [], [], [], [], [1184, 0], [], [], [1184, 0], []]
set_option maxRecDepth 100000 in
theorem zk_Tr_add : zc_Tr_add.length = zw__Tr_add.length ∧ (zc_Tr_add.zip zw__Tr_add).all (fun q => zck RX6 false cX6_add q.1 q.2) = true := by decide +kernel
def zw__Tr_become : List (List Nat) := [[], [1180, 0], [], [], [1180, 0], [], [], [1184, 0], [4015, 4017, 4016, 1014], [], [], [1184, 0], [1184, 0], []]
set_option maxRecDepth 100000 in
theorem zk_Tr_become : zc_Tr_become.length = zw__Tr_become.length ∧ (zc_Tr_become.zip zw__Tr_become).all (fun q => zck RX6 false cX6_become q.1 q.2) = true := by decide +kernel
def zw__TS_init : List (List Nat) := [[], [1072, 1021], [], [], [1080], [1073, 0], []]
set_option maxRecDepth 100000 in
theorem zk_TS_init : zc_TS_init.length = zw__TS_init.length ∧ (zc_TS_init.zip zw__TS_init).all (fun q => zck RX7 true cX7_init q.1 q.2) = true := by decide +kernel
def zw__TS_clear : List (List Nat) := [[], [], [1074, 0], []]
set_option maxRecDepth 100000 in
theorem zk_TS_clear : zc_TS_clear.length = zw__TS_clear.length ∧ (zc_TS_clear.zip zw__TS_clear).all (fun q => zck RX7 false cX7_clear q.1 q.2) = true := by decide +kernel
def zw__TS_pushWire : List (List Nat) := [[], [1074, 0], [], [], [], [], [], [], [], [], [], [], [], [1073, 0], [], [1074, 0], [], [], [], [], [], [], [2173, 2174, 0], [], [], [], [], [], [1074, 0], [], [], [1074, 0], []]
set_option maxRecDepth 100000 in
theorem zk_TS_pushWire : zc_TS_pushWire.length = zw__TS_pushWire.length ∧ (zc_TS_pushWire.zip zw__TS_pushWire).all (fun q => zck RX7 false cX7_pushWire q.1 q.2) = true := by decide +kernel
def zw__TS_wordOfWire : List (List Nat) := [[], [2176], [], [], [2176], [], [], [], [], [], [2176], [], [], [], [], [], [], [2178], [], [], []]
set_option maxRecDepth 100000 in
theorem zk_TS_wordOfWire : zc_TS_wordOfWire.length = zw__TS_wordOfWire.length ∧ (zc_TS_wordOfWire.zip zw__TS_wordOfWire).all (fun q => zck RX7 false cX7_wordOfWire q.1 q.2) = true := by decide +kernel
def zw__TS_negate : List (List Nat) := [[], [1074, 0], [], [], [], [], [], [], [], [], [], [1073, 0], [], [1074, 0], [], [], [], [], [], [], [], [1073, 0], [], [1074, 0], [], [], [], [], [], [], [], [2178], [], [], [], [], []]
set_option maxRecDepth 100000 in
theorem zk_TS_negate : zc_TS_negate.length = zw__TS_negate.length ∧ (zc_TS_negate.zip zw__TS_negate).all (fun q => zck RX7 false cX7_negate q.1 q.2) = true := by decide +kernel
def zw__TS_joinTwo : List (List Nat) := [[], [1074, 0], [], [], [], [], [], [1074, 0], [], [], [1074, 0], [], [], [], [], [], [], [1074, 0], [], [], [], [], [], [], [], [], [1073, 0], [], [1074, 0], [], [], [], [], [], [], [], [1073, 0], [], [], [], [], [1073, 0], [], [], [], [], [], [], [1073, 0], [], [], [], [], [], [], [], []]
set_option maxRecDepth 100000 in
theorem zk_TS_joinTwo : zc_TS_joinTwo.length = zw__TS_joinTwo.length ∧ (zc_TS_joinTwo.zip zw__TS_joinTwo).all (fun q => zck RX7 false cX7_joinTwo q.1 q.2) = true := by decide +kernel
def zw__TS_drop : List (List Nat) := [[], [1074, 0], [], [], [], [1074, 0], [], [], [1074, 0], []]
set_option maxRecDepth 100000 in
theorem zk_TS_drop : zc_TS_drop.length = zw__TS_drop.length ∧ (zc_TS_drop.zip zw__TS_drop).all (fun q => zck RX7 false cX7_drop q.1 q.2) = true := by decide +kernel
def zw__TS_moveTop : List (List Nat) := [[], [1074, 0], [], [], [], [], [], [1074, 0], [], [], [1074, 0], [], [], [], [], [], [], [], [], [], [], [], [], [1073, 0], [], [1074, 0], [], [], [], [], [], [], [], [], []]
set_option maxRecDepth 100000 in
theorem zk_TS_moveTop : zc_TS_moveTop.length = zw__TS_moveTop.length ∧ (zc_TS_moveTop.zip zw__TS_moveTop).all (fun q => zck RX7 false cX7_moveTop q.1 q.2) = true := by decide +kernel
def zw__Wa_init : List (List Nat) := [[], [1237, 1021], [], [], [1080], [1238, 0], [], [], [1080], [1239, 0], [], [], [1138], [2000, 0], [], [], [1080], [2002, 0], [], [], [1138], [2004, 0], [], [], [1138], [2006, 0], []]
set_option maxRecDepth 100000 in
theorem zk_Wa_init : zc_Wa_init.length = zw__Wa_init.length ∧ (zc_Wa_init.zip zw__Wa_init).all (fun q => zck RX8 true cX8_init q.1 q.2) = true := by decide +kernel
def zw__Wa_restart : List (List Nat) := [[], [], [2008, 0], [], [], [2009, 0], [], [], [2010, 0], []]
set_option maxRecDepth 100000 in
theorem zk_Wa_restart : zc_Wa_restart.length = zw__Wa_restart.length ∧ (zc_Wa_restart.zip zw__Wa_restart).all (fun q => zck RX8 false cX8_restart q.1 q.2) = true := by decide +kernel
def zw__Wa_catchUp : List (List Nat) := [[], [2010, 0], [], [1185, 1], [], [], [], [], [1181, 1], [], [2010, 0], [], [3052, 3054, 15, 0], [], [], [2010, 0], [], [], [2010, 0], [], []]
set_option maxRecDepth 100000 in
theorem zk_Wa_catchUp : zc_Wa_catchUp.length = zw__Wa_catchUp.length ∧ (zc_Wa_catchUp.zip zw__Wa_catchUp).all (fun q => zck RX8 false cX8_catchUp q.1 q.2) = true := by decide +kernel
def zw__Wa_takeIn : List (List Nat) := [[], [1238, 0], [], [2010, 0], [], [], [], [1239, 0], [], [2010, 0], [], [], [], [2002, 0], [], [2010, 0], [], [], [], [2004, 0], [], [2010, 0], [], [], [], [1210, 1], [], [3056, 3057, 3058, 0], [], [], [], [1210, 1], [], [3063, 3065, 16, 0], [], [], [1206, 1], [], [1206, 1], [], [3056, 3057, 3058, 0], [3083, 3085, 18, 0], [], [], [], [], [3087, 3089, 19, 0], [], [], [], [], [3091, 3092, 3093, 0], [3096, 3098, 20, 0], []]
set_option maxRecDepth 100000 in
theorem zk_Wa_takeIn : zc_Wa_takeIn.length = zw__Wa_takeIn.length ∧ (zc_Wa_takeIn.zip zw__Wa_takeIn).all (fun q => zck RX8 false cX8_takeIn q.1 q.2) = true := by decide +kernel
def zw__Wa_moveDuties : List (List Nat) := [[], [], [], [], [2010, 0], [], [], [1239, 0], [], [], [], [], [], [], [1239, 0], [], [], [], [1239, 0], [], [], [], [3067, 3068, 3069, 0], [], [], [], [], [3071, 3073, 17, 0], [], [], []]
set_option maxRecDepth 100000 in
theorem zk_Wa_moveDuties : zc_Wa_moveDuties.length = zw__Wa_moveDuties.length ∧ (zc_Wa_moveDuties.zip zw__Wa_moveDuties).all (fun q => zck RX8 false cX8_moveDuties q.1 q.2) = true := by decide +kernel
def zw__Wa_moveTries : List (List Nat) := [[], [], [], [], [], [], [2010, 0], [], [], [1238, 0], [], [], [], [], [], [], [1238, 0], [], [], [], [1238, 0], [], [], [], [3067, 3068, 3069, 0], [], [], [], [1238, 0], [], [], [3075, 3076, 3077, 0], [], [], [2002, 0], [], [], [], [], [], [2010, 0], [], [], [], [], [], [], [], [], []]
set_option maxRecDepth 100000 in
theorem zk_Wa_moveTries : zc_Wa_moveTries.length = zw__Wa_moveTries.length ∧ (zc_Wa_moveTries.zip zw__Wa_moveTries).all (fun q => zck RX8 false cX8_moveTries q.1 q.2) = true := by decide +kernel
def zw__Wa_beginDuty : List (List Nat) := [[], [1210, 1], [], [], [1239, 0], [], [2010, 0], [], [1219, 1], [], [], [], [], [], [], [], [3067, 3068, 3069, 0], [], [], [], [], [2010, 0], [3071, 3073, 17, 0], []]
set_option maxRecDepth 100000 in
theorem zk_Wa_beginDuty : zc_Wa_beginDuty.length = zw__Wa_beginDuty.length ∧ (zc_Wa_beginDuty.zip zw__Wa_beginDuty).all (fun q => zck RX8 false cX8_beginDuty q.1 q.2) = true := by decide +kernel
def zw__Wa_settleDuty : List (List Nat) := [[], [1239, 0], [], [], [], [], [], [3075, 3076, 3077, 0], [], [], [], [2008, 0], [], [], [], [], [2008, 0], [], [], [], [3079, 3080, 3081, 0], [], [], [], [2009, 0], [], [], [], [], [2009, 0], [], [], [], [2000, 0], [], [], [2010, 0], [], [], [1239, 0], [], [], [], []]
set_option maxRecDepth 100000 in
theorem zk_Wa_settleDuty : zc_Wa_settleDuty.length = zw__Wa_settleDuty.length ∧ (zc_Wa_settleDuty.zip zw__Wa_settleDuty).all (fun q => zck RX8 false cX8_settleDuty q.1 q.2) = true := by decide +kernel
def zw__Wa_judgeTries : List (List Nat) := [[], [], [], [], [2010, 0], [], [], [2004, 0], [], [], [], [], [2004, 0], [], [], [], [], [], [], [], [1206, 1], [], [3100, 3102, 21, 0], [], [], [2006, 0], [], [], [2010, 0], [], [], [], []]
set_option maxRecDepth 100000 in
theorem zk_Wa_judgeTries : zc_Wa_judgeTries.length = zw__Wa_judgeTries.length ∧ (zc_Wa_judgeTries.zip zw__Wa_judgeTries).all (fun q => zck RX8 false cX8_judgeTries q.1 q.2) = true := by decide +kernel
def zw__Wa_judge : List (List Nat) := [[], [2002, 0], [], [], [], [2009, 0], [], [], [], [], [], [], [], [2002, 0], [], [], [], [2008, 0], [3104], [], [], [], [], [], [], [], [1238, 0], [], [], [3079, 3080, 3081, 0], [], [], [], [], [2002, 0], [], [], [], [], [], [], [], [], []]
set_option maxRecDepth 100000 in
theorem zk_Wa_judge : zc_Wa_judge.length = zw__Wa_judge.length ∧ (zc_Wa_judge.zip zw__Wa_judge).all (fun q => zck RX8 false cX8_judge q.1 q.2) = true := by decide +kernel
def zw__Wa_howMany : List (List Nat) := [[], [], [], [], [], [], [2010, 0], [], [], [2004, 0], [], [], [], [], [], [], [], [], []]
set_option maxRecDepth 100000 in
theorem zk_Wa_howMany : zc_Wa_howMany.length = zw__Wa_howMany.length ∧ (zc_Wa_howMany.zip zw__Wa_howMany).all (fun q => zck RX8 false cX8_howMany q.1 q.2) = true := by decide +kernel
def zw__Wa_earliest : List (List Nat) := [[], [], [], [], [2010, 0], [], [], [2004, 0], [], [], [], [], [], [], [], [], [], []]
set_option maxRecDepth 100000 in
theorem zk_Wa_earliest : zc_Wa_earliest.length = zw__Wa_earliest.length ∧ (zc_Wa_earliest.zip zw__Wa_earliest).all (fun q => zck RX8 false cX8_earliest q.1 q.2) = true := by decide +kernel
def zw__Wa_failedBy : List (List Nat) := [[], [], [], [], [], [], [2010, 0], [], [], [2004, 0], [], [], [], [], [], [2006, 0], [], [], [], [], [], [], [], [], []]
set_option maxRecDepth 100000 in
theorem zk_Wa_failedBy : zc_Wa_failedBy.length = zw__Wa_failedBy.length ∧ (zc_Wa_failedBy.zip zw__Wa_failedBy).all (fun q => zck RX8 false cX8_failedBy q.1 q.2) = true := by decide +kernel
def zw__Wa_allDuties : List (List Nat) := [[], [], [], [], [], [], [2010, 0], [], [], [], [2002, 0], [], [], [3109, 3018, 0], [], [], [], [], [], []]
set_option maxRecDepth 100000 in
theorem zk_Wa_allDuties : zc_Wa_allDuties.length = zw__Wa_allDuties.length ∧ (zc_Wa_allDuties.zip zw__Wa_allDuties).all (fun q => zck RX8 false cX8_allDuties q.1 q.2) = true := by decide +kernel
def zw__Wa_dutyTick : List (List Nat) := [[], [], [], [], [], [], [2010, 0], [], [], [2002, 0], [], [], [], [], [], [], [], [], [], [], [], [], [], [], [], [], [], [], []]
set_option maxRecDepth 100000 in
theorem zk_Wa_dutyTick : zc_Wa_dutyTick.length = zw__Wa_dutyTick.length ∧ (zc_Wa_dutyTick.zip zw__Wa_dutyTick).all (fun q => zck RX8 false cX8_dutyTick q.1 q.2) = true := by decide +kernel
def zw__Wa_dutyState : List (List Nat) := [[], [2008, 0], [], [], [], [], [], [], [], [], [], [], [2009, 0], [], [], [], [], [], [], [], [], [], [], []]
set_option maxRecDepth 100000 in
theorem zk_Wa_dutyState : zc_Wa_dutyState.length = zw__Wa_dutyState.length ∧ (zc_Wa_dutyState.zip zw__Wa_dutyState).all (fun q => zck RX8 false cX8_dutyState q.1 q.2) = true := by decide +kernel
def zw__PT_init : List (List Nat) := [[], [1020, 1021], [], [1023, 1024, 1002], [], [1025, 1026, 1], [2048, 0], [], [], [2048, 0], [1162, 1], [2049, 0], [], [], [1172, 1173], [2050, 0], [], [1174, 1175, 1007], [], [1176, 1177, 1], [2051, 0], [], [], [1174, 1192], [2052, 0], [], [], [1232], [2053, 0], [], [], [1193, 1194], [2054, 0], [], [], [1195, 1196], [2055, 0], [], [], [1195, 1196], [2056, 0], [], [], [], [], [], [], [2055, 0], [], [1195, 1197, 1008], [], [1198, 1199, 1], [], [], [2056, 0], [], [1195, 1197, 1008], [], [1198, 1199, 1], [], [], [2050, 0], [], [1172, 1233, 1009], [], [1234, 1235, 1], [], [], [], [], [], [], [], [], [], [2052, 0], [], [1174, 1175, 1007], [], [1176, 1177, 1], [], [], [], [], [], [], [], [], [], [2054, 0], [], [1193, 2030, 1010], [], [2031, 2032, 1], [], [], [], []]
set_option maxRecDepth 100000 in
theorem zk_PT_init : zc_PT_init.length = zw__PT_init.length ∧ (zc_PT_init.zip zw__PT_init).all (fun q => zck RX9 true cX9_init q.1 q.2) = true := by decide +kernel
def zw__PT_feed : List (List Nat) := [[], [], [], [], [], [], [], [], [2049, 0], [1037, 1], [], [], [], [], [], [2049, 0], [1036, 1], [], [2049, 0], [1037, 1], [], [], [], [], [2049, 0], [], [1037, 1], [], [], [1037, 1], [], [2049, 0], [1037, 1], []]
set_option maxRecDepth 100000 in
theorem zk_PT_feed : zc_PT_feed.length = zw__PT_feed.length ∧ (zc_PT_feed.zip zw__PT_feed).all (fun q => zck RX9 false cX9_feed q.1 q.2) = true := by decide +kernel
def zw__PT_end : List (List Nat) := [[], [2049, 0], [1037, 1], [], [], [], [], [], [], [], [], [], [2049, 0], [], [1037, 1], [], []]
set_option maxRecDepth 100000 in
theorem zk_PT_end : zc_PT_end.length = zw__PT_end.length ∧ (zc_PT_end.zip zw__PT_end).all (fun q => zck RX9 false cX9_end q.1 q.2) = true := by decide +kernel
def zw__PT_text : List (List Nat) := [[], [2048, 0], [], [2056, 0], [2097, 2098, 2099, 0], [], [], [2049, 0], [], [1037, 1], [], [], [2049, 0], [1046, 1], [2058, 0], [], [], [], [], [2049, 0], [1048, 1], [], [], [], [2055, 0], [], [], [], [2056, 0], [2055, 0], [], [], [2056, 0], [], [], [2057, 0], [], [], [], [], [], [], [2053, 0], [], [], [], [], [], [], [3028, 3030, 13, 0], [], []]
set_option maxRecDepth 100000 in
theorem zk_PT_text : zc_PT_text.length = zw__PT_text.length ∧ (zc_PT_text.zip zw__PT_text).all (fun q => zck RX9 false cX9_text q.1 q.2) = true := by decide +kernel
def zw__PT_fault : List (List Nat) := [[], [2058, 0], []]
set_option maxRecDepth 100000 in
theorem zk_PT_fault : zc_PT_fault.length = zw__PT_fault.length ∧ (zc_PT_fault.zip zw__PT_fault).all (fun q => zck RX9 false cX9_fault q.1 q.2) = true := by decide +kernel
def zw__PT_rule : List (List Nat) := [[], [], [], [], [], [], [], [], [], [], [2057, 0], [], [], [], [], [], [2051, 0], [1186, 1], [], [], [], [], [], [], [], [2057, 0], [], [], [], [3044, 3046, 14, 0], [], [], [], [], [], [], [3105, 3106, 3107, 0], [], [], [], [], [], [3110, 3111, 3112, 0], [], [], [], [], [], []]
set_option maxRecDepth 100000 in
theorem zk_PT_rule : zc_PT_rule.length = zw__PT_rule.length ∧ (zc_PT_rule.zip zw__PT_rule).all (fun q => zck RX9 false cX9_rule q.1 q.2) = true := by decide +kernel
def zw__PT_promise : List (List Nat) := [[], [], [3118, 3120, 22, 0], [], [], [], [], [2055, 0], [], [], [], [], [], [], [1220, 1], [], [], [1217, 1], [], [], [], [], [], [], [1207, 1], [1103, 1], [], [], [1211, 1], [1103, 1], [], [], [1207, 1], [1106, 1], [], [], [1211, 1], [1106, 1], [], [], [1207, 1], [1108, 1], [], [], [1211, 1], [1108, 1], [], [], [1207, 1], [1110, 1], [], [], [1211, 1], [1110, 1], [], [], []]
set_option maxRecDepth 100000 in
theorem zk_PT_promise : zc_PT_promise.length = zw__PT_promise.length ∧ (zc_PT_promise.zip zw__PT_promise).all (fun q => zck RX9 false cX9_promise q.1 q.2) = true := by decide +kernel
def zw__PT_fulfils : List (List Nat) := [[], [], [], [], [3126, 3128, 23, 0], [], [], [3137, 3138, 0], [], [], [], [], [], [], [], [2055, 0], [], [], [1214, 1], [], [], [3140, 3061, 0], [], [], [2055, 0], [], [], [], [3133, 3134, 3135, 0], [1097, 1], [], [], [3140, 3061, 0], [], [], [], [], [], [], []]
set_option maxRecDepth 100000 in
theorem zk_PT_fulfils : zc_PT_fulfils.length = zw__PT_fulfils.length ∧ (zc_PT_fulfils.zip zw__PT_fulfils).all (fun q => zck RX9 false cX9_fulfils q.1 q.2) = true := by decide +kernel
def zw__PT_fulfilled : List (List Nat) := [[], [], [], [], [3126, 3128, 23, 0], [], [], [], [], [], [], [], [2055, 0], [], [], [1214, 1], [], [3145, 3015, 0], [], [], [2055, 0], [], [], [], [3133, 3134, 3135, 0], [1097, 1], [], [3145, 3015, 0], []]
set_option maxRecDepth 100000 in
theorem zk_PT_fulfilled : zc_PT_fulfilled.length = zw__PT_fulfilled.length ∧ (zc_PT_fulfilled.zip zw__PT_fulfilled).all (fun q => zck RX9 false cX9_fulfilled q.1 q.2) = true := by decide +kernel
def zw__PT_matches : List (List Nat) := [[], [], [3118, 3120, 22, 0], [], [], [3130, 3131, 0], [], [], [], [], [], [2051, 0], [1186, 1], [], [], [], [], [], [], [], [], [2051, 0], [1186, 1], [], [], [], [], [2055, 0], [], [], [], [3133, 3134, 3135, 0], [], [], [], [], [2051, 0], [], [], [], [], [3150, 3151, 3152, 0], [3156, 3076, 3077, 0], [], [], [], [], []]
set_option maxRecDepth 100000 in
theorem zk_PT_matches : zc_PT_matches.length = zw__PT_matches.length ∧ (zc_PT_matches.zip zw__PT_matches).all (fun q => zck RX9 false cX9_matches q.1 q.2) = true := by decide +kernel
def zw__PT_might : List (List Nat) := [[], [], [3118, 3120, 22, 0], [], [], [3130, 3131, 0], [], [], [], [], [], [2051, 0], [1186, 1], [], [], [], [], [2055, 0], [], [], [], [3133, 3134, 3135, 0], [], [], [], [], [2051, 0], [], [], [2051, 0], [1186, 1], [3150, 3151, 3152, 0], [3161, 3080, 3081, 0], [], [], [], [], []]
set_option maxRecDepth 100000 in
theorem zk_PT_might : zc_PT_might.length = zw__PT_might.length ∧ (zc_PT_might.zip zw__PT_might).all (fun q => zck RX9 false cX9_might q.1 q.2) = true := by decide +kernel
def zw__PT_tick : List (List Nat) := [[], [3137, 3138, 0], [], [], [], [], [2051, 0], [1186, 1], [], [], [], [], [], [2051, 0], [], [3166, 3167, 3168, 0], [], [], [], [], [], [], [2057, 0], [], [], [], [], [3044, 3046, 14, 0], [], [2051, 0], [1186, 1], [], [], [3170, 3171, 3172, 0], [], [], [], [], [], []]
set_option maxRecDepth 100000 in
theorem zk_PT_tick : zc_PT_tick.length = zw__PT_tick.length ∧ (zc_PT_tick.zip zw__PT_tick).all (fun q => zck RX9 false cX9_tick q.1 q.2) = true := by decide +kernel
def zw__PT_bits : List (List Nat) := [[], [], [3178, 3180, 24, 0], [], [], [2051, 0], [1183, 1], [], [], [], [], []]
set_option maxRecDepth 100000 in
theorem zk_PT_bits : zc_PT_bits.length = zw__PT_bits.length ∧ (zc_PT_bits.zip zw__PT_bits).all (fun q => zck RX9 false cX9_bits q.1 q.2) = true := by decide +kernel
def zw__PT_put : List (List Nat) := [[], [], [3178, 3180, 24, 0], [], [], [3137, 3138, 0], [], [], [], [], [2051, 0], [1183, 1], [], [], [], [], [2051, 0], [1183, 1], [], [], [], [], [3028, 3030, 13, 0], [], []]
set_option maxRecDepth 100000 in
theorem zk_PT_put : zc_PT_put.length = zw__PT_put.length ∧ (zc_PT_put.zip zw__PT_put).all (fun q => zck RX9 false cX9_put q.1 q.2) = true := by decide +kernel
def zw__PT_keeps : List (List Nat) := [[], [2051, 0], [1186, 1], [], [], [], [], [], [], [], [], [], [2051, 0], [], [1186, 1], [], [3028, 3030, 13, 0], [], []]
set_option maxRecDepth 100000 in
theorem zk_PT_keeps : zc_PT_keeps.length = zw__PT_keeps.length ∧ (zc_PT_keeps.zip zw__PT_keeps).all (fun q => zck RX9 false cX9_keeps q.1 q.2) = true := by decide +kernel
def zw__PT_draw : List (List Nat) := [[], [], [], [], [], [], [], [], [], [2051, 0], [1186, 1], [], [], [], [], [], [], [], [], [], [], [], [], [], [], [3194, 3195, 0], [], [], [3198, 3199, 0], [], [], [3194, 3195, 0], [], [], [2051, 0], [], [], [3198, 3199, 0], [], [3166, 3167, 3168, 0], [], [], [], [2051, 0], [1186, 1], []]
set_option maxRecDepth 100000 in
theorem zk_PT_draw : zc_PT_draw.length = zw__PT_draw.length ∧ (zc_PT_draw.zip zw__PT_draw).all (fun q => zck RX9 false cX9_draw q.1 q.2) = true := by decide +kernel
def zw__PT_verdict : List (List Nat) := [[], [], [], [3205, 3207, 25, 0], [], [], [], [3044, 3046, 14, 0], [2005, 1], [], [], [], [], []]
set_option maxRecDepth 100000 in
theorem zk_PT_verdict : zc_PT_verdict.length = zw__PT_verdict.length ∧ (zc_PT_verdict.zip zw__PT_verdict).all (fun q => zck RX9 false cX9_verdict q.1 q.2) = true := by decide +kernel
def zw__PT_decided : List (List Nat) := [[], [], [], [3205, 3207, 25, 0], [], [], [], [], [], [3044, 3046, 14, 0], [], [], [2005, 1], [], [], [], [], [], [], [2007, 1], [], [], []]
set_option maxRecDepth 100000 in
theorem zk_PT_decided : zc_PT_decided.length = zw__PT_decided.length ∧ (zc_PT_decided.zip zw__PT_decided).all (fun q => zck RX9 false cX9_decided q.1 q.2) = true := by decide +kernel
def zw__PT_duties : List (List Nat) := [[], [], [], [3205, 3207, 25, 0], [], [], [], [3044, 3046, 14, 0], [2003, 1], [], [], [3017, 3018, 0], [], [], []]
set_option maxRecDepth 100000 in
theorem zk_PT_duties : zc_PT_duties.length = zw__PT_duties.length ∧ (zc_PT_duties.zip zw__PT_duties).all (fun q => zck RX9 false cX9_duties q.1 q.2) = true := by decide +kernel
def zw__PT_duty : List (List Nat) := [[], [], [], [3205, 3207, 25, 0], [], [], [], [], [], [], [], [], [], [], [], [], [3044, 3046, 14, 0], [], [], [], [], [3221, 3222, 3223, 0], [], [], [], [], [], [], [], [], [], [], [], [3225, 3226, 3227, 0], [], [], [], [], [], [], [], [], [], [], [], [2001, 1], [], [], []]
set_option maxRecDepth 100000 in
theorem zk_PT_duty : zc_PT_duty.length = zw__PT_duty.length ∧ (zc_PT_duty.zip zw__PT_duty).all (fun q => zck RX9 false cX9_duty q.1 q.2) = true := by decide +kernel
def zw__PT_tries : List (List Nat) := [[], [], [3118, 3120, 22, 0], [], [], [3233, 3234, 0], [], [], [], [3044, 3046, 14, 0], [], [3110, 3111, 3112, 0], [], [], []]
set_option maxRecDepth 100000 in
theorem zk_PT_tries : zc_PT_tries.length = zw__PT_tries.length ∧ (zc_PT_tries.zip zw__PT_tries).all (fun q => zck RX9 false cX9_tries q.1 q.2) = true := by decide +kernel
def zw__PT_first : List (List Nat) := [[], [], [3118, 3120, 22, 0], [], [], [3233, 3234, 0], [], [], [], [3044, 3046, 14, 0], [], [4000, 4001, 4002, 0], [], [], []]
set_option maxRecDepth 100000 in
theorem zk_PT_first : zc_PT_first.length = zw__PT_first.length ∧ (zc_PT_first.zip zw__PT_first).all (fun q => zck RX9 false cX9_first q.1 q.2) = true := by decide +kernel
def zw__PT_keep : List (List Nat) := [[], [4008, 4009, 0], [], [], [], [], [2053, 0], [], [], [], [], [], [], [], [], [2052, 0], [], [], [], [2051, 0], [4011, 4012, 4013, 0], [], [2053, 0], [], [], [], [], []]
set_option maxRecDepth 100000 in
theorem zk_PT_keep : zc_PT_keep.length = zw__PT_keep.length ∧ (zc_PT_keep.zip zw__PT_keep).all (fun q => zck RX9 false cX9_keep q.1 q.2) = true := by decide +kernel
def zw__PT_back : List (List Nat) := [[], [4008, 4009, 0], [], [], [], [], [2053, 0], [], [], [], [], [], [], [2051, 0], [], [2052, 0], [], [], [4011, 4012, 4013, 0], [], [3028, 3030, 13, 0], [], [2051, 0], [1186, 1], []]
set_option maxRecDepth 100000 in
theorem zk_PT_back : zc_PT_back.length = zw__PT_back.length ∧ (zc_PT_back.zip zw__PT_back).all (fun q => zck RX9 false cX9_back q.1 q.2) = true := by decide +kernel
def zw__PT_sheet : List (List Nat) := [[], [4026, 4027, 0], [], [], [4029, 4030, 0], [], [], [], [], [], [], [], [], [], [], [], [2054, 0], [], [], [], [], [4032, 4033, 4034, 0], [], []]
set_option maxRecDepth 100000 in
theorem zk_PT_sheet : zc_PT_sheet.length = zw__PT_sheet.length ∧ (zc_PT_sheet.zip zw__PT_sheet).all (fun q => zck RX9 false cX9_sheet q.1 q.2) = true := by decide +kernel
def zw__PT_lay : List (List Nat) := [[], [4026, 4027, 0], [], [], [], [], [2054, 0], [], [], [], [], [], [2038, 1], [], [4040, 4041, 4042, 0], [], [], [], [], [], [], [], [], [], [], [4044, 4045, 4046, 0], [], []]
set_option maxRecDepth 100000 in
theorem zk_PT_lay : zc_PT_lay.length = zw__PT_lay.length ∧ (zc_PT_lay.zip zw__PT_lay).all (fun q => zck RX9 false cX9_lay q.1 q.2) = true := by decide +kernel
def zw__PT_run : List (List Nat) := [[], [4026, 4027, 0], [], [], [4029, 4030, 0], [], [], [], [], [], [], [], [], [], [], [2059, 0], [], [2054, 0], [], [], [], [], [], [], [], [], [], [], [], [2051, 0], [1186, 1], [], [], [], [], [], [], [], [], [4040, 4041, 4042, 0], [2059, 0], [], [2059, 0], [], [], [], [], [2051, 0], [], [2036, 1], [], [], [], [], [3166, 3167, 3168, 0], [], [], [], [], []]
set_option maxRecDepth 100000 in
theorem zk_PT_run : zc_PT_run.length = zw__PT_run.length ∧ (zc_PT_run.zip zw__PT_run).all (fun q => zck RX9 false cX9_run q.1 q.2) = true := by decide +kernel
def zw__PT_torn : List (List Nat) := [[], [2059, 0], []]
set_option maxRecDepth 100000 in
theorem zk_PT_torn : zc_PT_torn.length = zw__PT_torn.length ∧ (zc_PT_torn.zip zw__PT_torn).all (fun q => zck RX9 false cX9_torn q.1 q.2) = true := by decide +kernel
def zw__PT_count : List (List Nat) := [[], [], [], [4060, 4062, 26, 0], [], [], [2049, 0], [1037, 1], [], [], [2054, 0], [], [], [2040, 1], [], [], [], [], [2054, 0], [], [], [2040, 1], [], [], []]
set_option maxRecDepth 100000 in
theorem zk_PT_count : zc_PT_count.length = zw__PT_count.length ∧ (zc_PT_count.zip zw__PT_count).all (fun q => zck RX9 false cX9_count q.1 q.2) = true := by decide +kernel
def zw__PT_isPromise : List (List Nat) := [[], [], [], [], [2057, 0], [], [], [], [], []]
set_option maxRecDepth 100000 in
theorem zk_PT_isPromise : zc_PT_isPromise.length = zw__PT_isPromise.length ∧ (zc_PT_isPromise.zip zw__PT_isPromise).all (fun q => zck RX9 false cX9_isPromise q.1 q.2) = true := by decide +kernel
def zw__PT_isTick : List (List Nat) := [[], [], [], [], [2051, 0], [1186, 1], [], [], [], [], []]
set_option maxRecDepth 100000 in
theorem zk_PT_isTick : zc_PT_isTick.length = zw__PT_isTick.length ∧ (zc_PT_isTick.zip zw__PT_isTick).all (fun q => zck RX9 false cX9_isTick q.1 q.2) = true := by decide +kernel
def zw__PT_isTry : List (List Nat) := [[], [], [3118, 3120, 22, 0], [], [], [], [3178, 3180, 24, 0], [], [], [], [], []]
set_option maxRecDepth 100000 in
theorem zk_PT_isTry : zc_PT_isTry.length = zw__PT_isTry.length ∧ (zc_PT_isTry.zip zw__PT_isTry).all (fun q => zck RX9 false cX9_isTry q.1 q.2) = true := by decide +kernel
def zw__PT_isCondition : List (List Nat) := [[], [], [3118, 3120, 22, 0], [], [], [], [], [], [], [], [2055, 0], [], [], [1217, 1], [], [], [3130, 3131, 0], [], [], [], [], [], [2055, 0], [], [], [], [3133, 3134, 3135, 0], [1103, 1], [], [], [], [], []]
set_option maxRecDepth 100000 in
theorem zk_PT_isCondition : zc_PT_isCondition.length = zw__PT_isCondition.length ∧ (zc_PT_isCondition.zip zw__PT_isCondition).all (fun q => zck RX9 false cX9_isCondition q.1 q.2) = true := by decide +kernel
def zw__PT_isBits : List (List Nat) := [[], [], [], [], [], [], [], [], []]
set_option maxRecDepth 100000 in
theorem zk_PT_isBits : zc_PT_isBits.length = zw__PT_isBits.length ∧ (zc_PT_isBits.zip zw__PT_isBits).all (fun q => zck RX9 false cX9_isBits q.1 q.2) = true := by decide +kernel
def zw__PT_isSide : List (List Nat) := [[], [], [], [], [], [], [], [], []]
set_option maxRecDepth 100000 in
theorem zk_PT_isSide : zc_PT_isSide.length = zw__PT_isSide.length ∧ (zc_PT_isSide.zip zw__PT_isSide).all (fun q => zck RX9 false cX9_isSide q.1 q.2) = true := by decide +kernel
def zw__PT_isVerdict : List (List Nat) := [[], [], [], [], [], [], [], [], []]
set_option maxRecDepth 100000 in
theorem zk_PT_isVerdict : zc_PT_isVerdict.length = zw__PT_isVerdict.length ∧ (zc_PT_isVerdict.zip zw__PT_isVerdict).all (fun q => zck RX9 false cX9_isVerdict q.1 q.2) = true := by decide +kernel
def zw__PT_isImage : List (List Nat) := [[], [], [], [], [], [], [], [], []]
set_option maxRecDepth 100000 in
theorem zk_PT_isImage : zc_PT_isImage.length = zw__PT_isImage.length ∧ (zc_PT_isImage.zip zw__PT_isImage).all (fun q => zck RX9 false cX9_isImage q.1 q.2) = true := by decide +kernel
def zw__PT_isSheet : List (List Nat) := [[], [], [], [], [], [], [], [], []]
set_option maxRecDepth 100000 in
theorem zk_PT_isSheet : zc_PT_isSheet.length = zw__PT_isSheet.length ∧ (zc_PT_isSheet.zip zw__PT_isSheet).all (fun q => zck RX9 false cX9_isSheet q.1 q.2) = true := by decide +kernel
def zw__PT_isLane : List (List Nat) := [[], [], [], [], [], [], [], [], []]
set_option maxRecDepth 100000 in
theorem zk_PT_isLane : zc_PT_isLane.length = zw__PT_isLane.length ∧ (zc_PT_isLane.zip zw__PT_isLane).all (fun q => zck RX9 false cX9_isLane q.1 q.2) = true := by decide +kernel
def zw__PT_nextSeed : List (List Nat) := [[], [3197], [], [], [], []]
set_option maxRecDepth 100000 in
theorem zk_PT_nextSeed : zc_PT_nextSeed.length = zw__PT_nextSeed.length ∧ (zc_PT_nextSeed.zip zw__PT_nextSeed).all (fun q => zck RX9 false cX9_nextSeed q.1 q.2) = true := by decide +kernel
def zw__PT_got : List (List Nat) := [[], [], [], [], [], []]
set_option maxRecDepth 100000 in
theorem zk_PT_got : zc_PT_got.length = zw__PT_got.length ∧ (zc_PT_got.zip zw__PT_got).all (fun q => zck RX9 false cX9_got q.1 q.2) = true := by decide +kernel
def zw__PT_howManyImages : List (List Nat) := [[], [], [], [], [], [], [], [], [2053, 0], [], [], [], [], [], [], [], []]
set_option maxRecDepth 100000 in
theorem zk_PT_howManyImages : zc_PT_howManyImages.length = zw__PT_howManyImages.length ∧ (zc_PT_howManyImages.zip zw__PT_howManyImages).all (fun q => zck RX9 false cX9_howManyImages q.1 q.2) = true := by decide +kernel
def zw__PT_watchOf : List (List Nat) := [[], [2050, 0], [], [], [], [], [], [2055, 0], [], [], [], [2051, 0], [3048, 3049, 3050, 0], [], []]
set_option maxRecDepth 100000 in
theorem zk_PT_watchOf : zc_PT_watchOf.length = zw__PT_watchOf.length ∧ (zc_PT_watchOf.zip zw__PT_watchOf).all (fun q => zck RX9 false cX9_watchOf q.1 q.2) = true := by decide +kernel
def zw__PT_watchAnew : List (List Nat) := [[], [], [], [], [], [], [2050, 0], [], [], [3032, 3033, 3034, 0], [], [], []]
set_option maxRecDepth 100000 in
theorem zk_PT_watchAnew : zc_PT_watchAnew.length = zw__PT_watchAnew.length ∧ (zc_PT_watchAnew.zip zw__PT_watchAnew).all (fun q => zck RX9 false cX9_watchAnew q.1 q.2) = true := by decide +kernel
def zw__PT_isFulfilled : List (List Nat) := [[], [], [], [], [], [], [], [], [], [], [], [], [], [], [], [], [], [], [], [], [], []]
set_option maxRecDepth 100000 in
theorem zk_PT_isFulfilled : zc_PT_isFulfilled.length = zw__PT_isFulfilled.length ∧ (zc_PT_isFulfilled.zip zw__PT_isFulfilled).all (fun q => zck RX9 false cX9_isFulfilled q.1 q.2) = true := by decide +kernel
def zw__PT_howManyFulfil : List (List Nat) := [[], [], [], [], [], [], [], [], [], [], [], [], [], [], [], [3017, 3018, 0], [], [], [], [], [], []]
set_option maxRecDepth 100000 in
theorem zk_PT_howManyFulfil : zc_PT_howManyFulfil.length = zw__PT_howManyFulfil.length ∧ (zc_PT_howManyFulfil.zip zw__PT_howManyFulfil).all (fun q => zck RX9 false cX9_howManyFulfil q.1 q.2) = true := by decide +kernel
def zw__Mo_init : List (List Nat) := [[], [4069, 1021], [], [], [1138], [4076, 0], [], [], [1138], [4077, 0], [], [], [1080], [4078, 0], [], [], [1080], [4079, 0], [], [], [1138], [4080, 0], [], [], [1138], [4081, 0], [], [], [1080], [4082, 0], [], [], [1080], [4083, 0], [], [], [1138], [4085, 0], [], [], [1138], [4086, 0], [], [], [1232], [4087, 0], [], [], [1138], [4088, 0], [], [], [1080], [4097, 0], [], [], [1080], [4098, 0], [], [], [1232], [4099, 0], [], [], [1232], [4100, 0], [], [], [1232], [4101, 0], [], [], [1080], [4102, 0], [], [], [1080], [], [], [4070], [], [], [], [4071], [], [], [], [4072], [], [], [], [4073], [], [], [], [4074], [], [], [], [4075], [], [4104, 0], [], [], [1138], [4105, 0], [], [], [1080], [4106, 0], [], [], [1080], [4107, 0], [], [], [1232], [4108, 0], [], [], [1138], [4109, 0], [], [], [1138], [4110, 0], [], [], [1138], [4111, 0], [], [], [1232], [4112, 0], [], [], [1080], [4116, 0], [], [], [1080], [4117, 0], [], [], [1138], [4118, 0], [], [], [1138], [4119, 0], [], [], [1232], [4120, 0], [], [], [1138], [4124, 0], [], [], [1138], [4125, 0], [], [], [1138], [4126, 0], [], [], [], [], [], [], [4124, 0], [], [], [], [], [], []]
set_option maxRecDepth 100000 in
theorem zk_Mo_init : zc_Mo_init.length = zw__Mo_init.length ∧ (zc_Mo_init.zip zw__Mo_init).all (fun q => zck RX10 true cX10_init q.1 q.2) = true := by decide +kernel
def zw__Mo_in : List (List Nat) := [[], [], [], [], [], [], [], [], [], [], [], []]
set_option maxRecDepth 100000 in
theorem zk_Mo_in : zc_Mo_in.length = zw__Mo_in.length ∧ (zc_Mo_in.zip zw__Mo_in).all (fun q => zck RX10 false cX10_in q.1 q.2) = true := by decide +kernel
def zw__Mo_flag : List (List Nat) := [[], [], [], [], [], []]
set_option maxRecDepth 100000 in
theorem zk_Mo_flag : zc_Mo_flag.length = zw__Mo_flag.length ∧ (zc_Mo_flag.zip zw__Mo_flag).all (fun q => zck RX10 false cX10_flag q.1 q.2) = true := by decide +kernel
def zw__Mo_least : List (List Nat) := [[], [], [], [], [], [], []]
set_option maxRecDepth 100000 in
theorem zk_Mo_least : zc_Mo_least.length = zw__Mo_least.length ∧ (zc_Mo_least.zip zw__Mo_least).all (fun q => zck RX10 false cX10_least q.1 q.2) = true := by decide +kernel
def zw__Mo_greatest : List (List Nat) := [[], [], [], [], [], [], []]
set_option maxRecDepth 100000 in
theorem zk_Mo_greatest : zc_Mo_greatest.length = zw__Mo_greatest.length ∧ (zc_Mo_greatest.zip zw__Mo_greatest).all (fun q => zck RX10 false cX10_greatest q.1 q.2) = true := by decide +kernel
def zw__Mo_feed : List (List Nat) := [[], [], [], [4237], [4238, 4239, 0], [], [], [], [], [4089, 0], [], [], [], [], [], [4088, 0], [], [4089, 0], [], [], [], [], [4089, 0], [], [], [4089, 0], [], [4089, 0], []]
set_option maxRecDepth 100000 in
theorem zk_Mo_feed : zc_Mo_feed.length = zw__Mo_feed.length ∧ (zc_Mo_feed.zip zw__Mo_feed).all (fun q => zck RX10 false cX10_feed q.1 q.2) = true := by decide +kernel
def zw__Mo_end : List (List Nat) := [[], [], [], [], [4089, 0], [], [4238, 4239, 0], [], [], [], [], [4089, 0], [], [], [], [4089, 0], [], []]
set_option maxRecDepth 100000 in
theorem zk_Mo_end : zc_Mo_end.length = zw__Mo_end.length ∧ (zc_Mo_end.zip zw__Mo_end).all (fun q => zck RX10 false cX10_end q.1 q.2) = true := by decide +kernel
def zw__Mo_requires : List (List Nat) := [[], [], [], [4094, 0], [], [], [], [4094, 0], [], [], [4091, 0], [4095, 0], []]
set_option maxRecDepth 100000 in
theorem zk_Mo_requires : zc_Mo_requires.length = zw__Mo_requires.length ∧ (zc_Mo_requires.zip zw__Mo_requires).all (fun q => zck RX10 false cX10_requires q.1 q.2) = true := by decide +kernel
def zw__Mo_byteAt : List (List Nat) := [[], [], [4089, 0], [], [], [4088, 0], [], [], [], [], []]
set_option maxRecDepth 100000 in
theorem zk_Mo_byteAt : zc_Mo_byteAt.length = zw__Mo_byteAt.length ∧ (zc_Mo_byteAt.zip zw__Mo_byteAt).all (fun q => zck RX10 false cX10_byteAt q.1 q.2) = true := by decide +kernel
def zw__Mo_isSignByte : List (List Nat) := [[], [], [], [], [], [], [], [], [], [], [], [], [], [], [], [], [], [], [], [], [], [], [], [], [], [], [], [], [], [], [], [], [], [], [], [], [], [], [], [], [], [], [], [], [], []]
set_option maxRecDepth 100000 in
theorem zk_Mo_isSignByte : zc_Mo_isSignByte.length = zw__Mo_isSignByte.length ∧ (zc_Mo_isSignByte.zip zw__Mo_isSignByte).all (fun q => zck RX10 false cX10_isSignByte q.1 q.2) = true := by decide +kernel
def zw__Mo_reads : List (List Nat) := [[], [4094, 0], [], [], [], [], [4090, 0], [5013, 5015, 28, 0], [], [], [], [], [4090, 0], [], [], [4090, 0], [], [], [], [4090, 0], [4091, 0], [], [], [4090, 0], [5013, 5015, 28, 0], [], [], [], [], [], [4092, 0], [], [], [], [5017], [5018], [4238, 4239, 0], [], [], [], [4092, 0], [], [], [4093, 0], [], [], [4090, 0], [5013, 5015, 28, 0], [], [5017], [5018], [4238, 4239, 0], [], [], [], [4090, 0], [], [4091, 0], [], [], [], [], [], [4093, 0], [], [], [], [4090, 0], [5013, 5015, 28, 0], [], [], [], [], [], [4093, 0], [4093, 0], [], [], [4090, 0], [], [], [4090, 0], [], [], [], [4090, 0], [], [4091, 0], [], [], [], [], [], [], [], [5019, 5021, 29, 0], [], [], [], [], [5023], [5024], [4238, 4239, 0], [], [], [], [], [4092, 0], [], [], [4092, 0], [], [], [], [5025, 5026, 0], [], [], [], [], [], [5019, 5021, 29, 0], [], [], [4090, 0], [], [], [4090, 0], []]
set_option maxRecDepth 100000 in
theorem zk_Mo_reads : zc_Mo_reads.length = zw__Mo_reads.length ∧ (zc_Mo_reads.zip zw__Mo_reads).all (fun q => zck RX10 false cX10_reads q.1 q.2) = true := by decide +kernel
def zw__Mo_isSign : List (List Nat) := [[], [4094, 0], [], [], [4092, 0], [], [], [], [], [4091, 0], [5013, 5015, 28, 0], [], [], [], [], [], []]
set_option maxRecDepth 100000 in
theorem zk_Mo_isSign : zc_Mo_isSign.length = zw__Mo_isSign.length ∧ (zc_Mo_isSign.zip zw__Mo_isSign).all (fun q => zck RX10 false cX10_isSign q.1 q.2) = true := by decide +kernel
def zw__Mo_readNumber : List (List Nat) := [[], [4094, 0], [], [], [], [4092, 0], [], [], [], [], [], [], [5019, 5021, 29, 0], [], [4094, 0], [], [], [], [4093, 0], [], [], [], [], [], [4238, 4239, 0], [], [5019, 5021, 29, 0], [], [4094, 0], [], [], [4093, 0], [], [], [], [], [5009, 5011, 27, 0], [], []]
set_option maxRecDepth 100000 in
theorem zk_Mo_readNumber : zc_Mo_readNumber.length = zw__Mo_readNumber.length ∧ (zc_Mo_readNumber.zip zw__Mo_readNumber).all (fun q => zck RX10 false cX10_readNumber q.1 q.2) = true := by decide +kernel
def zw__Mo_nests : List (List Nat) := [[], [], [4096, 0], [], [], [], [], [], [], [5019, 5021, 29, 0], [], [], [4096, 0], [], [], [4096, 0], [], [5009, 5011, 27, 0], []]
set_option maxRecDepth 100000 in
theorem zk_Mo_nests : zc_Mo_nests.length = zw__Mo_nests.length ∧ (zc_Mo_nests.zip zw__Mo_nests).all (fun q => zck RX10 false cX10_nests q.1 q.2) = true := by decide +kernel
def zw__Mo_wires : List (List Nat) := [[], [], [], [], [], [], [4102, 0], [], [], [], [], [], [4104, 0], [], [], [], [], [], [], [], [], [], [], [], [], [5075], [], [], [], [], [], []]
set_option maxRecDepth 100000 in
theorem zk_Mo_wires : zc_Mo_wires.length = zw__Mo_wires.length ∧ (zc_Mo_wires.zip zw__Mo_wires).all (fun q => zck RX10 false cX10_wires q.1 q.2) = true := by decide +kernel
def zw__Mo_opensDepth : List (List Nat) := [[], [4099, 0], [], [4103, 0], [], [], [], [4100, 0], [], [4103, 0], [], [], [], [4101, 0], [], [4103, 0], [], [], []]
set_option maxRecDepth 100000 in
theorem zk_Mo_opensDepth : zc_Mo_opensDepth.length = zw__Mo_opensDepth.length ∧ (zc_Mo_opensDepth.zip zw__Mo_opensDepth).all (fun q => zck RX10 false cX10_opensDepth q.1 q.2) = true := by decide +kernel
def zw__Mo_joinsAnds : List (List Nat) := [[], [], [], [], [], [], [4101, 0], [], [4103, 0], [], [], [], [4102, 0], [], [], [5075], [], [], [], [4102, 0], [], [], [], [], [4098, 0], [], [], [4103, 0], [], [], [], [], [4100, 0], [], [4103, 0], [], [], [], [4098, 0], [], [], [4103, 0], [], [], [], [], [], [], [], [], [], [], [], [], [4100, 0], [], [4103, 0], [], [], [], [4101, 0], [], [4103, 0], [], [], []]
set_option maxRecDepth 100000 in
theorem zk_Mo_joinsAnds : zc_Mo_joinsAnds.length = zw__Mo_joinsAnds.length ∧ (zc_Mo_joinsAnds.zip zw__Mo_joinsAnds).all (fun q => zck RX10 false cX10_joinsAnds q.1 q.2) = true := by decide +kernel
def zw__Mo_joinsOrs : List (List Nat) := [[], [], [], [], [], [], [4097, 0], [], [], [4103, 0], [], [], [], [], [4099, 0], [], [4103, 0], [], [], [], [4097, 0], [], [], [4103, 0], [], [], [], [], [], [4098, 0], [], [], [4103, 0], [], [], [], [], [], [], [], [4098, 0], [], [], [4103, 0], [], [], [], [], [], [], [], [], [4099, 0], [], [4103, 0], [], [], [], [4100, 0], [], [4103, 0], [], [], []]
set_option maxRecDepth 100000 in
theorem zk_Mo_joinsOrs : zc_Mo_joinsOrs.length = zw__Mo_joinsOrs.length ∧ (zc_Mo_joinsOrs.zip zw__Mo_joinsOrs).all (fun q => zck RX10 false cX10_joinsOrs q.1 q.2) = true := by decide +kernel
def zw__Mo_readOperand : List (List Nat) := [[], [], [], [], [], [], [5036, 5038, 32, 0], [], [], [4101, 0], [], [4103, 0], [], [4101, 0], [], [4103, 0], [], [], [], [], [], [], [], [5009, 5011, 27, 0], [], [], [], [5036, 5038, 32, 0], [], [], [5052, 5054, 36, 0], [], [], [4103, 0], [], [4094, 0], [], [], [], [], [5056, 5057, 0], [], [4103, 0], [], [4094, 0], [], [], [], [], [], [], [], [], [5063, 5065, 38, 0], [], [], [], [], [], [4094, 0], [], [], [], [4092, 0], [], [], [], [], [], [], [5019, 5021, 29, 0], [], [4094, 0], [], [], [], [], [4091, 0], [5013, 5015, 28, 0], [], [], [5071, 5073, 40, 0], [], [5076, 5078, 41, 0], [], [5009, 5011, 27, 0], []]
set_option maxRecDepth 100000 in
theorem zk_Mo_readOperand : zc_Mo_readOperand.length = zw__Mo_readOperand.length ∧ (zc_Mo_readOperand.zip zw__Mo_readOperand).all (fun q => zck RX10 false cX10_readOperand q.1 q.2) = true := by decide +kernel
def zw__Mo_readCondition : List (List Nat) := [[], [], [4103, 0], [], [5063, 5065, 38, 0], [], [4094, 0], [], [], [], [], [], [], [], [], [5067, 5069, 39, 0], [], [], [], [], [], [4094, 0], [], [], [4103, 0], [], [], [], [5036, 5038, 32, 0], [], [], [], [], [], [], [], [], [5080, 5082, 42, 0], [], [], [], [], [], [], [4102, 0], [], [], [4097, 0], [], [], [4103, 0], [], [], [], [], [], [], [], [], [], [4103, 0], [], [], [4103, 0], [], [], [4096, 0], [], [], [4096, 0], [], [5076, 5078, 41, 0], [], [5009, 5011, 27, 0], [], [], [4103, 0], [], [], [], [], [], [], [], [], [], [], [], [5036, 5038, 32, 0], [], [], [], [5036, 5038, 32, 0], [], [], [], [], [], [], [], [], [], [5036, 5038, 32, 0], [], [], [5080, 5082, 42, 0], [], [5009, 5011, 27, 0], [], [4094, 0], [], [], [], [], [], [], [], [4094, 0], [], [], [], [4103, 0], [], [], [], [], [], [5019, 5021, 29, 0], [], [4094, 0], [], [], [5080, 5082, 42, 0], [], [], [], [], [], [], [4102, 0], [], [], [4097, 0], [], [], [], [], [], []]
set_option maxRecDepth 100000 in
theorem zk_Mo_readCondition : zc_Mo_readCondition.length = zw__Mo_readCondition.length ∧ (zc_Mo_readCondition.zip zw__Mo_readCondition).all (fun q => zck RX10 false cX10_readCondition q.1 q.2) = true := by decide +kernel
def zw__Mo_placesNow : List (List Nat) := [[], [4077, 0], [], [], [4114, 0], [], [], [], [], []]
set_option maxRecDepth 100000 in
theorem zk_Mo_placesNow : zc_Mo_placesNow.length = zw__Mo_placesNow.length ∧ (zc_Mo_placesNow.zip zw__Mo_placesNow).all (fun q => zck RX10 false cX10_placesNow q.1 q.2) = true := by decide +kernel
def zw__Mo_takes : List (List Nat) := [[], [4105, 0], [], [], [4105, 0], [], [], [], [], [4106, 0], [], [], [4106, 0], [], [], [], [], [4107, 0], [], [], [4107, 0], [], [], [], [], [4108, 0], [], [], [4108, 0], [], [], [], [], [4109, 0], [], [], [4109, 0], [], [], [], [], [4110, 0], [], [], [4110, 0], [], [], [], [], [4111, 0], [], [], [4111, 0], [], [], [], [], [4112, 0], [], [], [], []]
set_option maxRecDepth 100000 in
theorem zk_Mo_takes : zc_Mo_takes.length = zw__Mo_takes.length ∧ (zc_Mo_takes.zip zw__Mo_takes).all (fun q => zck RX10 false cX10_takes q.1 q.2) = true := by decide +kernel
def zw__Mo_sum : List (List Nat) := [[], [], [], [5115], [5116, 5117, 0], []]
set_option maxRecDepth 100000 in
theorem zk_Mo_sum : zc_Mo_sum.length = zw__Mo_sum.length ∧ (zc_Mo_sum.zip zw__Mo_sum).all (fun q => zck RX10 false cX10_sum q.1 q.2) = true := by decide +kernel
def zw__Mo_follows : List (List Nat) := [[], [], [], [], [], [], [], [], [], [], [], [], [], [], [4079, 0], [], [], [4114, 0], [], [], [], [], [], [], [], [], [], [], [], [], []]
set_option maxRecDepth 100000 in
theorem zk_Mo_follows : zc_Mo_follows.length = zw__Mo_follows.length ∧ (zc_Mo_follows.zip zw__Mo_follows).all (fun q => zck RX10 false cX10_follows q.1 q.2) = true := by decide +kernel
def zw__Mo_chains : List (List Nat) := [[], [4112, 0], [], [], [], [], [], [], [5123, 5125, 51, 0], [], [], [], [4107, 0], [], [], [], [4106, 0], [], [], [5111, 5113, 49, 0], [], [4106, 0], [], [], [], [], [4108, 0], [], [], [], [], [4106, 0], [], [], [], [], [], [], [], [4107, 0], [], [], [4107, 0], [], [], [], [4108, 0], [], [], [], [], [4107, 0], [], [], [], [], [], [], [], [4108, 0], [], [], [4108, 0], [], [], [], [], [4108, 0], [], [], [], [], [], [], [], [], [4109, 0], [], [], [4109, 0], [], [], [], [4109, 0], [], [], [5127, 5128, 0], [], [], [4110, 0], [], [], [4110, 0], [], [], [], [4110, 0], [], [], [5127, 5128, 0], [], [], [4111, 0], [], [], [4111, 0], [], [], [], [4111, 0], [], [], [5127, 5128, 0], [], []]
set_option maxRecDepth 100000 in
theorem zk_Mo_chains : zc_Mo_chains.length = zw__Mo_chains.length ∧ (zc_Mo_chains.zip zw__Mo_chains).all (fun q => zck RX10 false cX10_chains q.1 q.2) = true := by decide +kernel
def zw__Mo_chooses : List (List Nat) := [[], [4112, 0], [], [], [], [], [], [], [5123, 5125, 51, 0], [], [], [4106, 0], [], [], [], [], [4106, 0], [], [], [], [], [], [4107, 0], [], [], [], [], [4107, 0], [], [], [], [], [], [4108, 0], [], [], [4108, 0], [], [], [], [], [4108, 0], [], [], [], [], [], [], [], [], [4109, 0], [], [], [4109, 0], [], [], [], [4109, 0], [], [], [5127, 5128, 0], [], [], [4110, 0], [], [], [4110, 0], [], [], [], [4110, 0], [], [], [5116, 5117, 0], [], [], [4111, 0], [], [], [4111, 0], [], [], [], [4111, 0], [], [], [5100, 5101, 0], [], []]
set_option maxRecDepth 100000 in
theorem zk_Mo_chooses : zc_Mo_chooses.length = zw__Mo_chooses.length ∧ (zc_Mo_chooses.zip zw__Mo_chooses).all (fun q => zck RX10 false cX10_chooses q.1 q.2) = true := by decide +kernel
def zw__Mo_onePlace : List (List Nat) := [[], [], [4114, 0], [], [], [], [4077, 0], [], [], [], [], [], [], [4077, 0], [], [], [], [], [], [], [4105, 0], [], [], [], [], [], [4115, 0], [], [], [], [], [], [], [], [], [], [], [4115, 0], [], [4106, 0], [], [], [4115, 0], [], [], [], [], [], [], [], [], [4107, 0], [], [], [4106, 0], [], [], [], [], [4108, 0], [], [], [], [], [4109, 0], [], [], [], [], [4110, 0], [], [], [], [], [4111, 0], [], [], [], [], [4115, 0], [], [], [4077, 0], [], [], [], [], [], [], [], [], [4077, 0], [], [], [], [], [], [], [], [], [], [], [], [], [], [], [4079, 0], [], [], [4114, 0], [], [], [], [], [], [], [], [], [], [], [4102, 0], [], [], [], [], [], [], [4077, 0], [], [], [], [], [], [], [4115, 0], [], [], [], [], [5056, 5057, 0], [], [], []]
set_option maxRecDepth 100000 in
theorem zk_Mo_onePlace : zc_Mo_onePlace.length = zw__Mo_onePlace.length ∧ (zc_Mo_onePlace.zip zw__Mo_onePlace).all (fun q => zck RX10 false cX10_onePlace q.1 q.2) = true := by decide +kernel
def zw__Mo_repeats : List (List Nat) := [[], [4105, 0], [], [], [], [], [5107, 5109, 48, 0], [], [], [], [], [4106, 0], [], [], [], [], [4107, 0], [], [], [], [], [4108, 0], [], [], [], [], [], [4115, 0], [], [], [], [], [], [], [], [], [], [], [], [4115, 0], [], [4115, 0], [], [], [], [], [], [], [], [], [], [], [4114, 0], [], [], [], [], [], [], [], [4079, 0], [], [], [], [], [4079, 0], [], [], [], [], [], [], [], [], [], [], [], [], [], [], [4077, 0], [], [], [4114, 0], [], [], [], [], [], [], [], [], [4077, 0], [], [], [4114, 0], [], [], [], [], [], [], [], [], [], [], [], [], [], [], [4077, 0], [], [], [4114, 0], [], [], [], [], [], [], [], [], [], [], [], [], [], [], [], [], [], [], [], [], [], [], [], [], [], [], [], [], [], [], [], [], [], [], [], [], [], [], [], [], [], [], [5111, 5113, 49, 0], [], [], [], [], [], [], [], [], [], [], [], [], [], [], [], [], [], [], [], [], [], [], [], [], [], [], [], [], [], [], [], [], [], [], [], [4106, 0], [], [], [], [], [4107, 0], [], [], [], [], [4108, 0], [], [], [], [], [], [], [], [], [], [], [4109, 0], [], [], [], [4109, 0], [], [], [], [5115], [5116, 5117, 0], [], [], [4110, 0], [], [], [], [4110, 0], [], [], [], [5115], [5116, 5117, 0], [], [], [4111, 0], [], [], [], [4111, 0], [], [], [], [5115], [5116, 5117, 0], [], []]
set_option maxRecDepth 100000 in
theorem zk_Mo_repeats : zc_Mo_repeats.length = zw__Mo_repeats.length ∧ (zc_Mo_repeats.zip zw__Mo_repeats).all (fun q => zck RX10 false cX10_repeats q.1 q.2) = true := by decide +kernel
def zw__Mo_opensSequence : List (List Nat) := [[], [4112, 0], [], [], [4113, 0], [], [], [], [], [4112, 0], [], [], [4113, 0], [], [], [], []]
set_option maxRecDepth 100000 in
theorem zk_Mo_opensSequence : zc_Mo_opensSequence.length = zw__Mo_opensSequence.length ∧ (zc_Mo_opensSequence.zip zw__Mo_opensSequence).all (fun q => zck RX10 false cX10_opensSequence q.1 q.2) = true := by decide +kernel
def zw__Mo_readBegin : List (List Nat) := [[], [], [5036, 5038, 32, 0], [], [], [5052, 5054, 36, 0], [], [], [4113, 0], [], [4094, 0], [], [], [], [], [5056, 5057, 0], [], [4113, 0], [], [5044, 5046, 34, 0], [], [], [], [5059, 5061, 37, 0], [], [4094, 0], [], [], [5084, 5086, 43, 0], []]
set_option maxRecDepth 100000 in
theorem zk_Mo_readBegin : zc_Mo_readBegin.length = zw__Mo_readBegin.length ∧ (zc_Mo_readBegin.zip zw__Mo_readBegin).all (fun q => zck RX10 false cX10_readBegin q.1 q.2) = true := by decide +kernel
def zw__Mo_readTimes : List (List Nat) := [[], [], [5036, 5038, 32, 0], [], [], [5009, 5011, 27, 0], [], [], [], [5096, 5098, 46, 0], [], [], [], [], [5100, 5101, 0], [], [5096, 5098, 46, 0], [], [], [4094, 0], [], [], [], [], [5103, 5105, 47, 0], []]
set_option maxRecDepth 100000 in
theorem zk_Mo_readTimes : zc_Mo_readTimes.length = zw__Mo_readTimes.length ∧ (zc_Mo_readTimes.zip zw__Mo_readTimes).all (fun q => zck RX10 false cX10_readTimes q.1 q.2) = true := by decide +kernel
def zw__Mo_readEnds : List (List Nat) := [[], [4094, 0], [], [], [], [], [], [], [], [], [5092, 5094, 45, 0], [], [4094, 0], [], [], [], [], [], [], [], [], [], [], [4113, 0], [], [], [5119, 5121, 50, 0], [], [4113, 0], [], [], [], [5036, 5038, 32, 0], [], [], [], [], [], [], [], [], [], [], [4113, 0], [], [], [], [4113, 0], [], [5130, 5132, 52, 0], [], [], [], [4113, 0], [], [], [5123, 5125, 51, 0], [], [], [4113, 0], [], [], [4113, 0], [], [], [4096, 0], [], [], [4096, 0], [], [5009, 5011, 27, 0], [], [4094, 0], [], [], [], [], [], [], []]
set_option maxRecDepth 100000 in
theorem zk_Mo_readEnds : zc_Mo_readEnds.length = zw__Mo_readEnds.length ∧ (zc_Mo_readEnds.zip zw__Mo_readEnds).all (fun q => zck RX10 false cX10_readEnds q.1 q.2) = true := by decide +kernel
def zw__Mo_readSequence : List (List Nat) := [[], [], [4114, 0], [], [], [4113, 0], [], [], [4115, 0], [], [], [], [], [], [], [4077, 0], [], [], [], [], [], [], [], [], [], [], [], [], [], [], [], [4079, 0], [], [], [], [], [], [], [], [], [], [], [5044, 5046, 34, 0], [], [4094, 0], [], [], [], [], [], [], [], [], [5048, 5050, 35, 0], [], [5088, 5090, 44, 0], [], [], [5036, 5038, 32, 0], [], [], [], [5036, 5038, 32, 0], [], [], [], [], [], [], [], [], [], [5036, 5038, 32, 0], [], [], [], [], [4113, 0], [], [], [], [4113, 0], [], [5130, 5132, 52, 0], [], [4112, 0], [], [], [4113, 0], [], [], [], [], [5009, 5011, 27, 0], [], [4094, 0], [], [], [], [], [], [], [], [4094, 0], [], [], [], [4113, 0], [], [], [], [], [], [5019, 5021, 29, 0], [], [4094, 0], [], [], [], [], [5130, 5132, 52, 0], [], [], [5134, 5136, 53, 0], []]
set_option maxRecDepth 100000 in
theorem zk_Mo_readSequence : zc_Mo_readSequence.length = zw__Mo_readSequence.length ∧ (zc_Mo_readSequence.zip zw__Mo_readSequence).all (fun q => zck RX10 false cX10_readSequence q.1 q.2) = true := by decide +kernel
def zw__Mo_isFulfillable : List (List Nat) := [[], [], [], [], [], [], [], [], [], [4077, 0], [], [], [], [], [], [], [], [], [], [], [], [], [], [], [], [], [], [], [], [4079, 0], [], [], [], [], [], [], [], [], [], [], [], [], [], [], []]
set_option maxRecDepth 100000 in
theorem zk_Mo_isFulfillable : zc_Mo_isFulfillable.length = zw__Mo_isFulfillable.length ∧ (zc_Mo_isFulfillable.zip zw__Mo_isFulfillable).all (fun q => zck RX10 false cX10_isFulfillable q.1 q.2) = true := by decide +kernel
def zw__Mo_ends : List (List Nat) := [[], [], [], [], [], [4079, 0], [], [], [], [], [4106, 0], [], [], [], [], [4079, 0], [], [], [], [], [4107, 0], [], [], [], [], [4077, 0], [], [], [], [], [], [], [4109, 0], [], [], [], [], [4077, 0], [], [], [], [], [], [], [4110, 0], [], [], [], [], [4077, 0], [], [], [], [], [], [], [4111, 0], [], [], [], [], [], [], [], [], [], [], [], [4115, 0], [], [], [], [], [], [5107, 5109, 48, 0], [], [], [], [], [5138, 5140, 54, 0], [], [], [4107, 0], [], [], [], [], [], [], [], [], [], [], [4079, 0], [], [], [], [], [], [], [], [], [], [], [], [], [], [], [], [], [], [], [], [], [], [], [], [], [], [], [], [], [], [], [4079, 0], [], [], [], [], [], []]
set_option maxRecDepth 100000 in
theorem zk_Mo_ends : zc_Mo_ends.length = zw__Mo_ends.length ∧ (zc_Mo_ends.zip zw__Mo_ends).all (fun q => zck RX10 false cX10_ends q.1 q.2) = true := by decide +kernel
def zw__Mo_isBegin : List (List Nat) := [[], [4094, 0], [], [], [4092, 0], [], [], [], [], [5036, 5038, 32, 0], [], [], [], [5036, 5038, 32, 0], [], [], [], [5036, 5038, 32, 0], [], [], [], [], []]
set_option maxRecDepth 100000 in
theorem zk_Mo_isBegin : zc_Mo_isBegin.length = zw__Mo_isBegin.length ∧ (zc_Mo_isBegin.zip zw__Mo_isBegin).all (fun q => zck RX10 false cX10_isBegin q.1 q.2) = true := by decide +kernel
def zw__Mo_readPromise : List (List Nat) := [[], [], [5032, 5034, 31, 0], [], [5019, 5021, 29, 0], [], [], [], [], [], [], [], [], [5019, 5021, 29, 0], [], [], [], [], [], [], [], [], [], [4096, 0], [], [4094, 0], [], [], [], [], [], [], [5040, 5042, 33, 0], [], [4108, 0], [], [], [], [], [4081, 0], [], [], [], [], [], [5036, 5038, 32, 0], [5056, 5057, 0], [], [], [4094, 0], [], [], [], [], [5036, 5038, 32, 0], [], [], [], [5036, 5038, 32, 0], [], [], [], [], [], [5019, 5021, 29, 0], [], [5009, 5011, 27, 0], [], [], [], [], [], [], [5040, 5042, 33, 0], [], [4108, 0], [], [], [], [], [4081, 0], [], [], [], [], [], [], [], [5036, 5038, 32, 0], [5056, 5057, 0], [], [], [], [5036, 5038, 32, 0], [], [], [5009, 5011, 27, 0], [], [], [5059, 5061, 37, 0], [], [], [], [], [], [], [4083, 0], [], [], [], [], [], [], [4102, 0], [], [], [], [], [], [], [4094, 0], [], [], [], [], [5036, 5038, 32, 0], [], [5019, 5021, 29, 0], [], [], [], [], [], [], [], [], [], [5019, 5021, 29, 0], [], [], [4077, 0], [], [], [], [], [], [], [], [], [], [4077, 0], [], [], [], [], [], [], [], [], [], [], [], [], [], [], [], [], [5019, 5021, 29, 0], [], [5009, 5011, 27, 0], []]
set_option maxRecDepth 100000 in
theorem zk_Mo_readPromise : zc_Mo_readPromise.length = zw__Mo_readPromise.length ∧ (zc_Mo_readPromise.zip zw__Mo_readPromise).all (fun q => zck RX10 false cX10_readPromise q.1 q.2) = true := by decide +kernel
def zw__Mo_text : List (List Nat) := [[], [], [4094, 0], [], [], [4090, 0], [], [], [], [5009, 5011, 27, 0], [], [4094, 0], [], [], [4092, 0], [], [], [], [5028, 5030, 30, 0], [], [], [], [], [4089, 0], [], [4094, 0], [], [], [], [4095, 0], [], [], [], [], [4084, 0], [], [], [], [], [], [], [4076, 0], [], [], [4077, 0], [], [], [], [], [], [], [], [], [], [], [], [4078, 0], [], [], [4079, 0], [], [], [], [], [], [], [], [], [], [], [], [4080, 0], [], [], [4081, 0], [], [], [], [], [], [], [], [], [], [], [], [4082, 0], [], [], [4083, 0], [], [], [], [], [], [], [4087, 0], [], [], [], [], [4087, 0], [], [], [], [], []]
set_option maxRecDepth 100000 in
theorem zk_Mo_text : zc_Mo_text.length = zw__Mo_text.length ∧ (zc_Mo_text.zip zw__Mo_text).all (fun q => zck RX10 false cX10_text q.1 q.2) = true := by decide +kernel
def zw__Mo_fault : List (List Nat) := [[], [4094, 0], []]
set_option maxRecDepth 100000 in
theorem zk_Mo_fault : zc_Mo_fault.length = zw__Mo_fault.length ∧ (zc_Mo_fault.zip zw__Mo_fault).all (fun q => zck RX10 false cX10_fault q.1 q.2) = true := by decide +kernel
def zw__Mo_isPromise : List (List Nat) := [[], [], [], [], [4084, 0], [], [], [], [4238, 4239, 0], []]
set_option maxRecDepth 100000 in
theorem zk_Mo_isPromise : zc_Mo_isPromise.length = zw__Mo_isPromise.length ∧ (zc_Mo_isPromise.zip zw__Mo_isPromise).all (fun q => zck RX10 false cX10_isPromise q.1 q.2) = true := by decide +kernel
def zw__Mo_isSide : List (List Nat) := [[], [], [], [], [4238, 4239, 0], []]
set_option maxRecDepth 100000 in
theorem zk_Mo_isSide : zc_Mo_isSide.length = zw__Mo_isSide.length ∧ (zc_Mo_isSide.zip zw__Mo_isSide).all (fun q => zck RX10 false cX10_isSide q.1 q.2) = true := by decide +kernel
def zw__Mo_areBits : List (List Nat) := [[], [], [], [5162], [4238, 4239, 0], []]
set_option maxRecDepth 100000 in
theorem zk_Mo_areBits : zc_Mo_areBits.length = zw__Mo_areBits.length ∧ (zc_Mo_areBits.zip zw__Mo_areBits).all (fun q => zck RX10 false cX10_areBits q.1 q.2) = true := by decide +kernel
def zw__Mo_fulfilsOne : List (List Nat) := [[], [4078, 0], [], [], [], [], [], [], [], [], [], [], [], [], [], [], [], [], [], [], [], [], [], [], [], [], [], [], []]
set_option maxRecDepth 100000 in
theorem zk_Mo_fulfilsOne : zc_Mo_fulfilsOne.length = zw__Mo_fulfilsOne.length ∧ (zc_Mo_fulfilsOne.zip zw__Mo_fulfilsOne).all (fun q => zck RX10 false cX10_fulfilsOne q.1 q.2) = true := by decide +kernel
def zw__Mo_fulfilsOff : List (List Nat) := [[], [4080, 0], [], [], [], [], [], [], [], [], [], [4082, 0], [], [], [], [], [], [], [], [], [], [], [], [], [], [], [], [], [], [], [], [], []]
set_option maxRecDepth 100000 in
theorem zk_Mo_fulfilsOff : zc_Mo_fulfilsOff.length = zw__Mo_fulfilsOff.length ∧ (zc_Mo_fulfilsOff.zip zw__Mo_fulfilsOff).all (fun q => zck RX10 false cX10_fulfilsOff q.1 q.2) = true := by decide +kernel
def zw__Mo_findsFulfilling : List (List Nat) := [[], [], [], [], [], [], [], [], [], [], [], [], [], [], [], [4085, 0], [], [], [], [], [], [], [], [], [], [4076, 0], [], [], [], [], [], [], [], [], [], [], [], [4076, 0], [], [], [], [], [], [], [], [], [], [4085, 0], [], [], [], [], [5167, 5169, 58, 0], [], [], [], [], [], [], [], [], [], [], [], [4116, 0], [], [], [], [], [], [], [], [], [], [], [], []]
set_option maxRecDepth 100000 in
theorem zk_Mo_findsFulfilling : zc_Mo_findsFulfilling.length = zw__Mo_findsFulfilling.length ∧ (zc_Mo_findsFulfilling.zip zw__Mo_findsFulfilling).all (fun q => zck RX10 false cX10_findsFulfilling q.1 q.2) = true := by decide +kernel
def zw__Mo_nextOf : List (List Nat) := [[], [], [], [], [], [], [4076, 0], [], [], [], [], [], [], [], [], [], [], [], [], [], [], [], [], [], [4078, 0], [], [], [], [], [], [], [], [], [], [], [], [], [], [], [], []]
set_option maxRecDepth 100000 in
theorem zk_Mo_nextOf : zc_Mo_nextOf.length = zw__Mo_nextOf.length ∧ (zc_Mo_nextOf.zip zw__Mo_nextOf).all (fun q => zck RX10 false cX10_nextOf q.1 q.2) = true := by decide +kernel
def zw__Mo_firstOf : List (List Nat) := [[], [4078, 0], [], [], [], [], [], [], []]
set_option maxRecDepth 100000 in
theorem zk_Mo_firstOf : zc_Mo_firstOf.length = zw__Mo_firstOf.length ∧ (zc_Mo_firstOf.zip zw__Mo_firstOf).all (fun q => zck RX10 false cX10_firstOf q.1 q.2) = true := by decide +kernel
def zw__Mo_isEnd : List (List Nat) := [[], [], [4078, 0], [], [], [], [], [], [], [], [], [], [], [], [], [], []]
set_option maxRecDepth 100000 in
theorem zk_Mo_isEnd : zc_Mo_isEnd.length = zw__Mo_isEnd.length ∧ (zc_Mo_isEnd.zip zw__Mo_isEnd).all (fun q => zck RX10 false cX10_isEnd q.1 q.2) = true := by decide +kernel
def zw__Mo_canEnd : List (List Nat) := [[], [], [4078, 0], [], [], [], [], [], [], [], [], [], [], [], [], [], []]
set_option maxRecDepth 100000 in
theorem zk_Mo_canEnd : zc_Mo_canEnd.length = zw__Mo_canEnd.length ∧ (zc_Mo_canEnd.zip zw__Mo_canEnd).all (fun q => zck RX10 false cX10_canEnd q.1 q.2) = true := by decide +kernel
def zw__Mo_isConditionAsked : List (List Nat) := [[], [], [5154, 5156, 56, 0], [], [], [], [], [5158], [4238, 4239, 0], [], [], [], [], [], [], [], [4080, 0], [], [], [], [], [], [], [], [], [], [], [], [], [], [], [], [], [4076, 0], [], [], [], [], [], [], [], [], [], [], [], [], [], [4238, 4239, 0], []]
set_option maxRecDepth 100000 in
theorem zk_Mo_isConditionAsked : zc_Mo_isConditionAsked.length = zw__Mo_isConditionAsked.length ∧ (zc_Mo_isConditionAsked.zip zw__Mo_isConditionAsked).all (fun q => zck RX10 false cX10_isConditionAsked q.1 q.2) = true := by decide +kernel
def zw__Mo_fulfils : List (List Nat) := [[], [], [], [], [5150, 5152, 55, 0], [], [], [5159, 5160, 0], [], [], [], [], [], [], [], [], [], [5163, 5165, 57, 0], [], [], [], [], [], [], [], [], [], [5167, 5169, 58, 0], [5056, 5057, 0], []]
set_option maxRecDepth 100000 in
theorem zk_Mo_fulfils : zc_Mo_fulfils.length = zw__Mo_fulfils.length ∧ (zc_Mo_fulfils.zip zw__Mo_fulfils).all (fun q => zck RX10 false cX10_fulfils q.1 q.2) = true := by decide +kernel
def zw__Mo_fulfilled : List (List Nat) := [[], [], [], [], [5150, 5152, 55, 0], [], [], [], [], [], [], [], [], [], [], [], [], [], [], [], [], [5175, 5147, 5148, 0], [], [], [], [], [], []]
set_option maxRecDepth 100000 in
theorem zk_Mo_fulfilled : zc_Mo_fulfilled.length = zw__Mo_fulfilled.length ∧ (zc_Mo_fulfilled.zip zw__Mo_fulfilled).all (fun q => zck RX10 false cX10_fulfilled q.1 q.2) = true := by decide +kernel
def zw__Mo_matches : List (List Nat) := [[], [], [5154, 5156, 56, 0], [], [], [5180, 5181, 0], [], [], [], [], [], [4085, 0], [], [], [], [4238, 4239, 0], [], [], [], [], [], [], [], [], [4085, 0], [], [], [], [], [], [], [], [5183, 5185, 59, 0], [], [], [], [], [], [], [], [], [], [], [], [], [], [], [], [], [5187, 5189, 60, 0], [], [], [], [], [], [], [], [], [5191, 5193, 61, 0], [], [4116, 0], [], [], [], [], [], [], [], [], [], [], [], [], [], [], [], [], [], [5195, 5197, 62, 0], [5056, 5057, 0], []]
set_option maxRecDepth 100000 in
theorem zk_Mo_matches : zc_Mo_matches.length = zw__Mo_matches.length ∧ (zc_Mo_matches.zip zw__Mo_matches).all (fun q => zck RX10 false cX10_matches q.1 q.2) = true := by decide +kernel
def zw__Mo_might : List (List Nat) := [[], [], [5154, 5156, 56, 0], [], [], [5180, 5181, 0], [], [], [], [], [], [4085, 0], [], [], [], [4238, 4239, 0], [], [], [], [], [], [5183, 5185, 59, 0], [], [], [], [], [], [], [5187, 5189, 60, 0], [], [], [], [], [], [4085, 0], [], [], [], [], [], [], [], [], [], [], [], [4116, 0], [], [], [], [], [], [], [], [5191, 5193, 61, 0], [], [], [], [], [], [], [], [], [], [], [5203, 5205, 63, 0], [5056, 5057, 0], []]
set_option maxRecDepth 100000 in
theorem zk_Mo_might : zc_Mo_might.length = zw__Mo_might.length ∧ (zc_Mo_might.zip zw__Mo_might).all (fun q => zck RX10 false cX10_might q.1 q.2) = true := by decide +kernel
def zw__Mo_promise : List (List Nat) := [[], [], [5154, 5156, 56, 0], [], [], [], [], [5211], [4238, 4239, 0], [], [], [], [], [], [], [], [4080, 0], [], [], [], [], [], [], [], [], [], [], [], [], [], [], [], [], [], [], [4076, 0], [], [], [], [], [], [], [], [], [], [], [], [], [], [], [], [], [], [], [], []]
set_option maxRecDepth 100000 in
theorem zk_Mo_promise : zc_Mo_promise.length = zw__Mo_promise.length ∧ (zc_Mo_promise.zip zw__Mo_promise).all (fun q => zck RX10 false cX10_promise q.1 q.2) = true := by decide +kernel
def zw__Mo_goesOn : List (List Nat) := [[], [], [], [], [], [], [], [4117, 0], [], [], [], [4116, 0], [], [], [], [], [], [], [], [4117, 0], [], [], [], [], [5191, 5193, 61, 0], [], [], [], [], [5195, 5197, 62, 0], [], [], [4118, 0], [], [], [], [], [4119, 0], [], [], [], [], [], [], [], [], [5232, 5234, 68, 0], []]
set_option maxRecDepth 100000 in
theorem zk_Mo_goesOn : zc_Mo_goesOn.length = zw__Mo_goesOn.length ∧ (zc_Mo_goesOn.zip zw__Mo_goesOn).all (fun q => zck RX10 false cX10_goesOn q.1 q.2) = true := by decide +kernel
def zw__Mo_dies : List (List Nat) := [[], [], [], [4117, 0], [], [], [5203, 5205, 63, 0], [], [], [4118, 0], [], [], [], [], [4119, 0], [], [], [], []]
set_option maxRecDepth 100000 in
theorem zk_Mo_dies : zc_Mo_dies.length = zw__Mo_dies.length ∧ (zc_Mo_dies.zip zw__Mo_dies).all (fun q => zck RX10 false cX10_dies q.1 q.2) = true := by decide +kernel
def zw__Mo_begins : List (List Nat) := [[], [4120, 0], [], [], [], [], [4118, 0], [], [], [], [], [4119, 0], [], [], [], [], [4117, 0], [], [], [], [], [], [], [], [5187, 5189, 60, 0], [], [], [4080, 0], [], [], [], [], [], [], [], [], [], [5228, 5230, 67, 0], [], [], [], [], [], [], [], [], [], [5232, 5234, 68, 0], []]
set_option maxRecDepth 100000 in
theorem zk_Mo_begins : zc_Mo_begins.length = zw__Mo_begins.length ∧ (zc_Mo_begins.zip zw__Mo_begins).all (fun q => zck RX10 false cX10_begins q.1 q.2) = true := by decide +kernel
def zw__Mo_isAny : List (List Nat) := [[], [], [], [], [], [], [], [], [], [], [4120, 0], [], [], [], [], [], [], [], [4118, 0], [], [], [], [], [], [], [], [], [], [], [], []]
set_option maxRecDepth 100000 in
theorem zk_Mo_isAny : zc_Mo_isAny.length = zw__Mo_isAny.length ∧ (zc_Mo_isAny.zip zw__Mo_isAny).all (fun q => zck RX10 false cX10_isAny q.1 q.2) = true := by decide +kernel
def zw__Mo_goesThrough : List (List Nat) := [[], [], [], [], [5187, 5189, 60, 0], [], [], [], [4121, 0], [], [], [4122, 0], [], [], [], [], [4085, 0], [], [], [], [], [], [4116, 0], [], [], [], [], [], [], [], [], [], [5191, 5193, 61, 0], [], [], [], [], [], [], [], [4120, 0], [], [], [], [], [4118, 0], [], [], [], [], [], [], [], [5228, 5230, 67, 0], [], [], [], [4120, 0], [], [], [], [], [], [], [], [], [5195, 5197, 62, 0], [], [], [], [], [5236, 5238, 69, 0], [], [4121, 0], [], [], [], [], [], [], [], [6000, 6002, 70, 0], [4121, 0], [], [], [4121, 0], [], [], [], [], [4122, 0], [], [], []]
set_option maxRecDepth 100000 in
theorem zk_Mo_goesThrough : zc_Mo_goesThrough.length = zw__Mo_goesThrough.length ∧ (zc_Mo_goesThrough.zip zw__Mo_goesThrough).all (fun q => zck RX10 false cX10_goesThrough q.1 q.2) = true := by decide +kernel
def zw__Mo_verdictBy : List (List Nat) := [[], [], [], [4085, 0], [], [], [], [], [5163, 5165, 57, 0], [], [], [], [], [], [], [], [6004, 6006, 71, 0], [], [], [], [], [], [], [], [6004, 6006, 71, 0], [], [], [], [], [], [], [5203, 5205, 63, 0], [], [], [], [], [], [], [], [6004, 6006, 71, 0], [], [], [], [], []]
set_option maxRecDepth 100000 in
theorem zk_Mo_verdictBy : zc_Mo_verdictBy.length = zw__Mo_verdictBy.length ∧ (zc_Mo_verdictBy.zip zw__Mo_verdictBy).all (fun q => zck RX10 false cX10_verdictBy q.1 q.2) = true := by decide +kernel
def zw__Mo_isTick : List (List Nat) := [[], [], [], [], [4085, 0], [], [], [], [], [], [4238, 4239, 0], []]
set_option maxRecDepth 100000 in
theorem zk_Mo_isTick : zc_Mo_isTick.length = zw__Mo_isTick.length ∧ (zc_Mo_isTick.zip zw__Mo_isTick).all (fun q => zck RX10 false cX10_isTick q.1 q.2) = true := by decide +kernel
def zw__Mo_isTry : List (List Nat) := [[], [], [5154, 5156, 56, 0], [], [], [], [5220, 5222, 65, 0], [], [], [], [], [], [5183, 5185, 59, 0], [], [], [], [5224, 5226, 66, 0], [], []]
set_option maxRecDepth 100000 in
theorem zk_Mo_isTry : zc_Mo_isTry.length = zw__Mo_isTry.length ∧ (zc_Mo_isTry.zip zw__Mo_isTry).all (fun q => zck RX10 false cX10_isTry q.1 q.2) = true := by decide +kernel
def zw__Mo_dutiesFrom : List (List Nat) := [[], [], [], [], [], [], [4085, 0], [], [], [], [], [], [4120, 0], [], [], [5056, 5057, 0], [], [], [], [], [], []]
set_option maxRecDepth 100000 in
theorem zk_Mo_dutiesFrom : zc_Mo_dutiesFrom.length = zw__Mo_dutiesFrom.length ∧ (zc_Mo_dutiesFrom.zip zw__Mo_dutiesFrom).all (fun q => zck RX10 false cX10_dutiesFrom q.1 q.2) = true := by decide +kernel
def zw__Mo_verdict : List (List Nat) := [[], [], [], [5216, 5218, 64, 0], [], [], [4121, 0], [], [], []]
set_option maxRecDepth 100000 in
theorem zk_Mo_verdict : zc_Mo_verdict.length = zw__Mo_verdict.length ∧ (zc_Mo_verdict.zip zw__Mo_verdict).all (fun q => zck RX10 false cX10_verdict q.1 q.2) = true := by decide +kernel
def zw__Mo_decided : List (List Nat) := [[], [], [], [5216, 5218, 64, 0], [], [], [4122, 0], [], [], []]
set_option maxRecDepth 100000 in
theorem zk_Mo_decided : zc_Mo_decided.length = zw__Mo_decided.length ∧ (zc_Mo_decided.zip zw__Mo_decided).all (fun q => zck RX10 false cX10_decided q.1 q.2) = true := by decide +kernel
def zw__Mo_duties : List (List Nat) := [[], [], [], [5216, 5218, 64, 0], [], [], [], [6016, 6018, 72, 0], [], [], []]
set_option maxRecDepth 100000 in
theorem zk_Mo_duties : zc_Mo_duties.length = zw__Mo_duties.length ∧ (zc_Mo_duties.zip zw__Mo_duties).all (fun q => zck RX10 false cX10_duties q.1 q.2) = true := by decide +kernel
def zw__Mo_duty : List (List Nat) := [[], [], [], [5216, 5218, 64, 0], [], [], [], [], [], [], [5158], [4238, 4239, 0], [], [], [], [], [], [], [], [], [], [4085, 0], [], [], [], [], [4120, 0], [], [], [], [], [], [], [], [], [], [], [], [], [], [4118, 0], [], [], [], [], [4119, 0], [], [], [], [], [], [], [], []]
set_option maxRecDepth 100000 in
theorem zk_Mo_duty : zc_Mo_duty.length = zw__Mo_duty.length ∧ (zc_Mo_duty.zip zw__Mo_duty).all (fun q => zck RX10 false cX10_duty q.1 q.2) = true := by decide +kernel
def zw__Mo_triesOf : List (List Nat) := [[], [], [], [], [5183, 5185, 59, 0], [], [], [], [], [4085, 0], [], [], [], [], [], [], [5224, 5226, 66, 0], [], [], [4121, 0], [], [], [], [], [], [5056, 5057, 0], [], [], [], [], [], []]
set_option maxRecDepth 100000 in
theorem zk_Mo_triesOf : zc_Mo_triesOf.length = zw__Mo_triesOf.length ∧ (zc_Mo_triesOf.zip zw__Mo_triesOf).all (fun q => zck RX10 false cX10_triesOf q.1 q.2) = true := by decide +kernel
def zw__Mo_tries : List (List Nat) := [[], [], [5154, 5156, 56, 0], [], [], [], [], [6028], [4238, 4239, 0], [], [], [], [], [6029, 6031, 73, 0], [], [], []]
set_option maxRecDepth 100000 in
theorem zk_Mo_tries : zc_Mo_tries.length = zw__Mo_tries.length ∧ (zc_Mo_tries.zip zw__Mo_tries).all (fun q => zck RX10 false cX10_tries q.1 q.2) = true := by decide +kernel
def zw__Mo_first : List (List Nat) := [[], [], [5154, 5156, 56, 0], [], [], [], [], [6028], [4238, 4239, 0], [], [], [], [], [], [5183, 5185, 59, 0], [], [], [], [], [4085, 0], [], [], [], [], [], [], [5224, 5226, 66, 0], [], [4121, 0], [], [], [], [], [], [], [], []]
set_option maxRecDepth 100000 in
theorem zk_Mo_first : zc_Mo_first.length = zw__Mo_first.length ∧ (zc_Mo_first.zip zw__Mo_first).all (fun q => zck RX10 false cX10_first q.1 q.2) = true := by decide +kernel
def zw__Mo_allDuties : List (List Nat) := [[], [], [], [], [], [], [4084, 0], [], [], [], [5183, 5185, 59, 0], [], [], [], [], [4085, 0], [], [], [], [], [], [], [5224, 5226, 66, 0], [], [], [], [6016, 6018, 72, 0], [], [], [], [], [], [], [], []]
set_option maxRecDepth 100000 in
theorem zk_Mo_allDuties : zc_Mo_allDuties.length = zw__Mo_allDuties.length ∧ (zc_Mo_allDuties.zip zw__Mo_allDuties).all (fun q => zck RX10 false cX10_allDuties q.1 q.2) = true := by decide +kernel
def zw__Mo_allTries : List (List Nat) := [[], [], [], [], [], [], [4084, 0], [], [], [], [], [], [6029, 6031, 73, 0], [], [], [], [], [], []]
set_option maxRecDepth 100000 in
theorem zk_Mo_allTries : zc_Mo_allTries.length = zw__Mo_allTries.length ∧ (zc_Mo_allTries.zip zw__Mo_allTries).all (fun q => zck RX10 false cX10_allTries q.1 q.2) = true := by decide +kernel
def zw__Mo_rule : List (List Nat) := [[], [], [], [6041], [4238, 4239, 0], [], [], [], [], [], [], [4084, 0], [], [], [], [], [], [4085, 0], [], [], [], [], [], [], [], [6042, 6044, 74, 0], [], [], [], [], [], [6046, 6048, 75, 0], []]
set_option maxRecDepth 100000 in
theorem zk_Mo_rule : zc_Mo_rule.length = zw__Mo_rule.length ∧ (zc_Mo_rule.zip zw__Mo_rule).all (fun q => zck RX10 false cX10_rule q.1 q.2) = true := by decide +kernel
def zw__Mo_failedBy : List (List Nat) := [[], [], [], [], [], [], [4084, 0], [], [], [], [5183, 5185, 59, 0], [], [], [], [], [], [], [], [], [5224, 5226, 66, 0], [], [], [4121, 0], [], [], [], [4122, 0], [], [], [], [], [], [5056, 5057, 0], [], [], [], [], [], [], [], []]
set_option maxRecDepth 100000 in
theorem zk_Mo_failedBy : zc_Mo_failedBy.length = zw__Mo_failedBy.length ∧ (zc_Mo_failedBy.zip zw__Mo_failedBy).all (fun q => zck RX10 false cX10_failedBy q.1 q.2) = true := by decide +kernel
def zw__Mo_tick : List (List Nat) := [[], [5159, 5160, 0], [], [], [], [], [4085, 0], [], [], [], [], [], [], [], [4085, 0], [], [], [4085, 0], [], [], [], [], [], [], [4085, 0], [], [], [], [], [], [], [], [], [4085, 0], [], [], [], [], [6054, 6056, 76, 0], []]
set_option maxRecDepth 100000 in
theorem zk_Mo_tick : zc_Mo_tick.length = zw__Mo_tick.length ∧ (zc_Mo_tick.zip zw__Mo_tick).all (fun q => zck RX10 false cX10_tick q.1 q.2) = true := by decide +kernel
def zw__Mo_bits : List (List Nat) := [[], [], [5220, 5222, 65, 0], [], [], [4085, 0], [], [], [], [], [], [], []]
set_option maxRecDepth 100000 in
theorem zk_Mo_bits : zc_Mo_bits.length = zw__Mo_bits.length ∧ (zc_Mo_bits.zip zw__Mo_bits).all (fun q => zck RX10 false cX10_bits q.1 q.2) = true := by decide +kernel
def zw__Mo_put : List (List Nat) := [[], [], [5220, 5222, 65, 0], [], [], [5159, 5160, 0], [], [], [], [], [4085, 0], [], [], [], [], [], [], [4085, 0], [], [], [], [], [], [], []]
set_option maxRecDepth 100000 in
theorem zk_Mo_put : zc_Mo_put.length = zw__Mo_put.length ∧ (zc_Mo_put.zip zw__Mo_put).all (fun q => zck RX10 false cX10_put q.1 q.2) = true := by decide +kernel
def zw__Mo_keeps : List (List Nat) := [[], [], [], [], [4085, 0], [], [], [], [4238, 4239, 0], [], [], [], [], [4085, 0], [], [], [], [], [4085, 0], [], [], [], [], []]
set_option maxRecDepth 100000 in
theorem zk_Mo_keeps : zc_Mo_keeps.length = zw__Mo_keeps.length ∧ (zc_Mo_keeps.zip zw__Mo_keeps).all (fun q => zck RX10 false cX10_keeps q.1 q.2) = true := by decide +kernel
def zw__Mo_gets : List (List Nat) := [[], [], [4123, 0], [6079], [], [], [], [4123, 0], [], [4123, 0], [], [], [], [], []]
set_option maxRecDepth 100000 in
theorem zk_Mo_gets : zc_Mo_gets.length = zw__Mo_gets.length ∧ (zc_Mo_gets.zip zw__Mo_gets).all (fun q => zck RX10 false cX10_gets q.1 q.2) = true := by decide +kernel
def zw__Mo_draw : List (List Nat) := [[], [], [], [6074], [4238, 4239, 0], [], [], [], [], [4085, 0], [], [], [], [], [], [], [], [], [], [], [4123, 0], [], [], [], [], [], [], [6075, 6077, 77, 0], [], [], [], [], [4085, 0], [], [], [4085, 0], [], [], [], [], [], [6075, 6077, 77, 0], [], [], [], [], [], [4085, 0], [], [], [], [], [], [], [], [], [], [4085, 0], [], [], []]
set_option maxRecDepth 100000 in
theorem zk_Mo_draw : zc_Mo_draw.length = zw__Mo_draw.length ∧ (zc_Mo_draw.zip zw__Mo_draw).all (fun q => zck RX10 false cX10_draw q.1 q.2) = true := by decide +kernel
def zw__Mo_keep : List (List Nat) := [[], [], [], [], [4238, 4239, 0], [], [], [], [], [4087, 0], [], [], [5056, 5057, 0], [], [], [4087, 0], [], [], [], [], [], [], [], [], [], [4086, 0], [], [], [], [], [], [], [4085, 0], [], [], [], [], [], [], []]
set_option maxRecDepth 100000 in
theorem zk_Mo_keep : zc_Mo_keep.length = zw__Mo_keep.length ∧ (zc_Mo_keep.zip zw__Mo_keep).all (fun q => zck RX10 false cX10_keep q.1 q.2) = true := by decide +kernel
def zw__Mo_back : List (List Nat) := [[], [], [], [], [4238, 4239, 0], [], [], [], [], [4087, 0], [], [], [], [], [], [], [], [], [], [], [], [4085, 0], [], [], [4086, 0], [], [], [], [], [], [], [], [], [], [], [4085, 0], [], [], []]
set_option maxRecDepth 100000 in
theorem zk_Mo_back : zc_Mo_back.length = zw__Mo_back.length ∧ (zc_Mo_back.zip zw__Mo_back).all (fun q => zck RX10 false cX10_back q.1 q.2) = true := by decide +kernel
def zw__Mo_isSheet : List (List Nat) := [[], [], [], [6095], [4238, 4239, 0], [], [], [], [], [5158], [4238, 4239, 0], [], [], [], [], []]
set_option maxRecDepth 100000 in
theorem zk_Mo_isSheet : zc_Mo_isSheet.length = zw__Mo_isSheet.length ∧ (zc_Mo_isSheet.zip zw__Mo_isSheet).all (fun q => zck RX10 false cX10_isSheet q.1 q.2) = true := by decide +kernel
def zw__Mo_sheet : List (List Nat) := [[], [], [6092, 6093, 0], [], [], [], [], [], [], [], [], [], [], [], [4124, 0], [], [], [], [], [4125, 0], [], [], [], [], [], [], [], [], [], [4126, 0], [], [], [], [], [], [], [], [], [], [], []]
set_option maxRecDepth 100000 in
theorem zk_Mo_sheet : zc_Mo_sheet.length = zw__Mo_sheet.length ∧ (zc_Mo_sheet.zip zw__Mo_sheet).all (fun q => zck RX10 false cX10_sheet q.1 q.2) = true := by decide +kernel
def zw__Mo_lay : List (List Nat) := [[], [], [6092, 6093, 0], [], [], [], [], [4124, 0], [], [], [], [], [], [], [], [], [], [], [4125, 0], [], [], [], [], [], [4238, 4239, 0], [], [], [], [], [4126, 0], [], [], [], [], [], [], [4124, 0], [], [], [], [], [], [], [], [4124, 0], [], [], [], [], [], [6100], [], [], [], [], [], []]
set_option maxRecDepth 100000 in
theorem zk_Mo_lay : zc_Mo_lay.length = zw__Mo_lay.length ∧ (zc_Mo_lay.zip zw__Mo_lay).all (fun q => zck RX10 false cX10_lay q.1 q.2) = true := by decide +kernel
def zw__Mo_run : List (List Nat) := [[], [], [6092, 6093, 0], [], [], [], [], [6074], [4238, 4239, 0], [], [], [], [], [], [], [], [4127, 0], [], [], [], [], [4127, 0], [], [], [4085, 0], [], [], [], [], [], [], [], [], [], [], [], [], [4124, 0], [], [], [], [], [], [], [], [4124, 0], [], [], [], [], [], [], [], [], [], [4125, 0], [], [], [], [], [], [4238, 4239, 0], [], [], [], [], [4127, 0], [], [4127, 0], [], [], [4085, 0], [], [], [4085, 0], [], [], [], [], [4126, 0], [], [], [], [], [], [], [], [], [], [], [], [4085, 0], [], [], [], [], [], [], [], [], [], []]
set_option maxRecDepth 100000 in
theorem zk_Mo_run : zc_Mo_run.length = zw__Mo_run.length ∧ (zc_Mo_run.zip zw__Mo_run).all (fun q => zck RX10 false cX10_run q.1 q.2) = true := by decide +kernel
def zw__Mo_torn : List (List Nat) := [[], [4127, 0], []]
set_option maxRecDepth 100000 in
theorem zk_Mo_torn : zc_Mo_torn.length = zw__Mo_torn.length ∧ (zc_Mo_torn.zip zw__Mo_torn).all (fun q => zck RX10 false cX10_torn q.1 q.2) = true := by decide +kernel
def zw__Mo_count : List (List Nat) := [[], [], [], [4087, 0], [], [], [5056, 5057, 0], [], [4087, 0], [], [], [5056, 5057, 0], [], [], [], [4089, 0], [], [], [4124, 0], [], [], [], [], [], [], [], [4125, 0], [], [], [], [], []]
set_option maxRecDepth 100000 in
theorem zk_Mo_count : zc_Mo_count.length = zw__Mo_count.length ∧ (zc_Mo_count.zip zw__Mo_count).all (fun q => zck RX10 false cX10_count q.1 q.2) = true := by decide +kernel
def zw__JL_bitCount : List (List Nat) := [[], [], [], [], [3020], [], [], [], [], [3021], [], [], [], [], [3021], [], [], [], [], [], [], [], [], [3022], [], [], [], [], [], [], [], [], [], [], [], [], [], [], [], [], [], [], [], [], [], [], [], [], []]
set_option maxRecDepth 100000 in
theorem zk_JL_bitCount : zc_JL_bitCount.length = zw__JL_bitCount.length ∧ (zc_JL_bitCount.zip zw__JL_bitCount).all (fun q => zck RJ13 false cJ13_bitCount_95d88 q.1 q.2) = true := by decide +kernel
